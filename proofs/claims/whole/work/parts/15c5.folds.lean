/-! ===== strips ===== -/
def svL : List Nat := [0, 0, 0, 1, 0, 2, 1, 0, 2, 1, 0, 2, 1, 3, 2, 1, 3, 2, 4, 3, 0, 4, 3, 0, 4, 3, 0, 4, 1, 2, 3, 1, 2, 4, 1, 2, 4, 1, 2, 4, 1, 5, 4, 1, 5, 4, 1, 5, 4, 1, 0, 2, 1, 0, 2, 1, 5, 2, 1, 3, 2]
def sv (j : Nat) : Nat := svL.getD j 0
theorem tb_sv : ∀ j, j < 61 → stripF j = nI (sv j) ∧ sv j < 8 := by decide +kernel
theorem tb_mex1 : ∀ m, m < 61 → ∀ v, v < 8 → v < sv m → ∃ y, y < 31 ∧ 1 ≤ y ∧ 2 * y < m ∧ sv y ^^^ sv (m - y) = v := by decide +kernel
theorem tb_mex2 : ∀ m, m < 61 → ∀ y, y < 31 → 1 ≤ y → 2 * y < m → sv y ^^^ sv (m - y) ≠ sv m := by decide +kernel
theorem xo_I (a b : Nat) : nI a ^^^ nI b = nI (a ^^^ b) := by
  apply Int32.toBitVec_inj.mp
  rw [Int32.toBitVec_xor]
  apply BitVec.eq_of_toNat_eq
  rw [BitVec.toNat_xor]
  show (BitVec.ofNat 32 a).toNat ^^^ (BitVec.ofNat 32 b).toNat = (BitVec.ofNat 32 (a ^^^ b)).toNat
  rw [BitVec.toNat_ofNat, BitVec.toNat_ofNat, BitVec.toNat_ofNat, Nat.xor_mod_two_pow]
abbrev FK := Int32 → Int32 → Int32 → (Nat → Int32) → (Nat → Int32) → Option (Int32 × (Nat → Int32) × (Nat → Int32))
section FOLD
variable {nf : Nat} {x1 x2 : Int32}
def MT (m x : Nat) (met : Nat → Int32) : Prop := ∀ v, v < 64 → (met v = 1 ↔ ∃ y, 1 ≤ y ∧ y < x ∧ sv y ^^^ sv (m - y) = v)
theorem fo_100 {m : Nat} {met : Nat → Int32} (hm : m < 61) (h1 : ∀ v, v < sv m → met v = 1) (h2 : ¬ met (sv m) = 1) : ∀ (d v n : Nat) (wo : Nat → Int32), v + d = sv m → d < n → (∀ j, j < m → wo j = nI (sv j)) → wo m = nI v → ∃ wo', (∀ j, j < m + 1 → wo' j = nI (sv j)) ∧ ∀ K : FK, g_X9_folds_l100 nf K n x1 x2 (nI m) wo met = K x1 x2 (nI (m + 1)) wo' met := by
  have h8 := (tb_sv m hm).2
  intro d
  induction d with
  | zero =>
    intro v n wo hv hn hj hw
    obtain ⟨n, rfl⟩ := pred_ex hn
    obtain rfl : v = sv m := by omega
    refine ⟨wo, fun j hj' => ?_, fun K => ?_⟩
    · by_cases e : j = m
      · subst e; exact hw
      · exact hj j (by omega)
    · rw [g_X9_folds_l100, ck_nI hm (by decide), nI_clamp (by omega), hw, ck_nI (show sv m < 64 by omega) (by decide), nI_clamp (by omega), if_neg h2, nI_1]
  | succ d ih =>
    intro v n wo hv hn hj hw
    obtain ⟨n, rfl⟩ := pred_ex hn
    obtain ⟨wo', k1, k2⟩ := ih (v + 1) n (upd wo m (nI (v + 1))) (by omega) (by omega) (fun j hj' => by rw [upd_ne (by omega), hj j hj']) upd_eq
    refine ⟨wo', k1, fun K => ?_⟩
    rw [← k2 K, g_X9_folds_l100, ck_nI hm (by decide), nI_clamp (by omega), hw, ck_nI (show v < 64 by omega) (by decide), nI_clamp (by omega), if_pos (h1 v (by omega)), ck_nI hm (by decide), ck_nI hm (by decide), nI_1]
theorem fo_56 {m : Nat} (hm : m < 61) (hnf : 100 ≤ nf) : ∀ (d x n : Nat) (wo met : Nat → Int32), x + d = 31 → d < n → 1 ≤ x → (1 < x → 2 * x < m + 2) → (∀ j, j < m → wo j = nI (sv j)) → MT m x met → ∃ wo' met', (∀ j, j < m + 1 → wo' j = nI (sv j)) ∧ ∀ K : FK, g_X9_folds_l56 nf K n x1 x2 (nI m) (nI x) wo met = K x1 x2 (nI (m + 1)) wo' met' := by
  have h8 := (tb_sv m hm).2
  intro d
  induction d with
  | zero =>
    intro x n wo met hx hn h1 h2 hj hM
    obtain ⟨n, rfl⟩ := pred_ex hn
    obtain rfl : x = 31 := by omega
    obtain ⟨wo', k1, k2⟩ := fo_100 (nf := nf) (x1 := x1) (x2 := x2) (m := m) (met := met) hm (fun v hv => (hM v (by omega)).mpr (by
      obtain ⟨y, y1, y2, y3, y4⟩ := tb_mex1 m hm v (by omega) hv
      exact ⟨y, y2, y1, y4⟩)) (fun h => by
      obtain ⟨y, y1, y2, y3⟩ := (hM (sv m) (by omega)).mp h
      exact tb_mex2 m hm y y2 y1 (by omega) y3) (sv m) 0 nf (upd wo m 0) (by omega) (by omega) (fun j hj' => by rw [upd_ne (by omega), hj j hj']) upd_eq
    refine ⟨wo', met, k1, fun K => ?_⟩
    rw [← k2 K, g_X9_folds_l56, show (2 : Int32) * nI 31 = nI 62 from rfl, if_pos (nI_le (show m ≤ 62 by omega) (by decide)), ck_nI hm (by decide), nI_clamp (by omega)]
  | succ d ih =>
    intro x n wo met hx hn h1 h2 hj hM
    obtain ⟨n, rfl⟩ := pred_ex hn
    by_cases c : m ≤ 2 * x
    · obtain ⟨wo', k1, k2⟩ := fo_100 (nf := nf) (x1 := x1) (x2 := x2) (m := m) (met := met) hm (fun v hv => (hM v (by omega)).mpr (by
        obtain ⟨y, y1, y2, y3, y4⟩ := tb_mex1 m hm v (by omega) hv
        exact ⟨y, y2, by omega, y4⟩)) (fun h => by
        obtain ⟨y, y1, y2, y3⟩ := (hM (sv m) (by omega)).mp h
        exact tb_mex2 m hm y (by omega) y1 (by omega) y3) (sv m) 0 nf (upd wo m 0) (by omega) (by omega) (fun j hj' => by rw [upd_ne (by omega), hj j hj']) upd_eq
      refine ⟨wo', met, k1, fun K => ?_⟩
      rw [← k2 K, g_X9_folds_l56, show (2 : Int32) * nI x = nI (2 * x) from pk_mul 2 x, if_pos (nI_le c (by omega)), ck_nI hm (by decide), nI_clamp (by omega)]
    · have a1 := (tb_sv x (by omega)).2
      have a2 := (tb_sv (m - x) (by omega)).2
      have a3 : sv x ^^^ sv (m - x) < 8 := Nat.xor_lt_two_pow (n := 3) a1 a2
      obtain ⟨wo', met', k1, k2⟩ := ih (x + 1) n wo (upd met (sv x ^^^ sv (m - x)) 1) (by omega) (by omega) (by omega) (by omega) hj (fun v hv => by
        by_cases e : v = sv x ^^^ sv (m - x)
        · subst e
          rw [upd_eq]
          exact ⟨fun _ => ⟨x, h1, by omega, rfl⟩, fun _ => rfl⟩
        · rw [upd_ne e, hM v hv]
          constructor
          · rintro ⟨y, y1, y2, y3⟩
            exact ⟨y, y1, by omega, y3⟩
          · rintro ⟨y, y1, y2, y3⟩
            refine ⟨y, y1, ?_, y3⟩
            have : y ≠ x := fun z => e (by rw [← y3, z])
            omega)
      refine ⟨wo', met', k1, fun K => ?_⟩
      rw [← k2 K, g_X9_folds_l56, show (2 : Int32) * nI x = nI (2 * x) from pk_mul 2 x, if_neg (nI_ge (show 2 * x < m by omega) (by omega)), ck_nI (show x < 61 by omega) (by decide), pk_sub (by omega), ck_nI (show m - x < 61 by omega) (by decide), nI_clamp (by omega), nI_clamp (by omega), hj x (by omega), hj (m - x) (by omega), xo_I, ck_nI (show sv x ^^^ sv (m - x) < 64 by omega) (by decide), nI_clamp (by omega), nI_1]
theorem fo_32 {m : Nat} (hm : m < 61) (hnf : 100 ≤ nf) : ∀ (d x n : Nat) (wo met : Nat → Int32), x + d = 64 → d < n → (∀ j, j < m → wo j = nI (sv j)) → (∀ k, k < x → met k = 0) → ∃ wo' met', (∀ j, j < m + 1 → wo' j = nI (sv j)) ∧ ∀ K : FK, g_X9_folds_l32 nf K n x1 x2 (nI m) (nI x) wo met = K x1 x2 (nI (m + 1)) wo' met' := by
  intro d
  induction d with
  | zero =>
    intro x n wo met hx hn hj hM
    obtain ⟨n, rfl⟩ := pred_ex hn
    obtain rfl : x = 64 := by omega
    obtain ⟨wo', met', k1, k2⟩ := fo_56 (nf := nf) (x1 := x1) (x2 := x2) hm hnf 30 1 nf wo met (by omega) (by omega) (by omega) (by omega) hj (fun v hv => by
      rw [hM v hv]
      constructor
      · intro h; exact absurd h (by decide)
      · rintro ⟨y, y1, y2, y3⟩; omega)
    exact ⟨wo', met', k1, fun K => by rw [g_X9_folds_l32, if_pos (by decide)]; exact k2 K⟩
  | succ d ih =>
    intro x n wo met hx hn hj hM
    obtain ⟨n, rfl⟩ := pred_ex hn
    obtain ⟨wo', met', k1, k2⟩ := ih (x + 1) n wo (upd met x 0) (by omega) (by omega) hj (fun k hk => by
      by_cases e : k = x
      · subst e; rw [upd_eq]
      · rw [upd_ne e, hM k (by omega)])
    refine ⟨wo', met', k1, fun K => ?_⟩
    rw [← k2 K, g_X9_folds_l32, if_neg (L_nge 64 (by omega) (by decide)), ck_nI (by omega) (by decide), nI_clamp (by omega), nI_1]
theorem wp_13 {N w : Nat} {wo met : Nat → Int32} (hN : N < 61) (hw : w < 2 ^ 31) (hj : ∀ j, j < N + 1 → wo j = nI (sv j)) : ∀ (d x n8 n9 : Nat), x + d = 31 → d < n8 → d < n9 → 1 ≤ x → 2 * x ≤ N + 2 → ∃ r, g_X8_winningPart_l13 nf n8 (nI N) (nI x) = some r ∧ g_X9_folds_l136 nf n9 (nI N) (nI w) (nI x) wo met = some (if w = 0 then (if r = -6 then 0 else 1) else r, wo, met) := by
  have fin : ∀ (x n8 n9 : Nat), N ≤ 2 * x → x < 100 → g_X8_winningPart_l13 nf (n8 + 1) (nI N) (nI x) = some (-6) ∧ g_X9_folds_l136 nf (n9 + 1) (nI N) (nI w) (nI x) wo met = some (if w = 0 then 0 else -6, wo, met) := by
    intro x n8 n9 h hx
    constructor
    · rw [g_X8_winningPart_l13, if_pos]
      rw [Int32.le_iff_toInt_le, pk_sub_toInt (by omega) (by omega), nI_toInt (by omega)]
      omega
    · rw [g_X9_folds_l136, show (2 : Int32) * nI x = nI (2 * x) from pk_mul 2 x, if_pos (nI_le h (by omega))]
      by_cases z : w = 0
      · rw [if_pos (L_eq 0 z), if_pos z]
      · rw [if_neg (L_ne 0 z hw (by decide)), if_neg z]
  intro d
  induction d with
  | zero =>
    intro x n8 n9 hx h8 h9 h1 h2
    obtain ⟨n8, rfl⟩ := pred_ex h8
    obtain ⟨n9, rfl⟩ := pred_ex h9
    obtain ⟨f1, f2⟩ := fin x n8 n9 (by omega) (by omega)
    exact ⟨-6, f1, by rw [f2, if_pos rfl]⟩
  | succ d ih =>
    intro x n8 n9 hx h8 h9 h1 h2
    obtain ⟨n8, rfl⟩ := pred_ex h8
    obtain ⟨n9, rfl⟩ := pred_ex h9
    by_cases c : N ≤ 2 * x
    · obtain ⟨f1, f2⟩ := fin x n8 n9 c (by omega)
      exact ⟨-6, f1, by rw [f2, if_pos rfl]⟩
    · rw [g_X8_winningPart_l13, g_X9_folds_l136, show (2 : Int32) * nI x = nI (2 * x) from pk_mul 2 x, pk_sub (by omega), if_neg (nI_ge (show x < N - x by omega) (by omega)), if_neg (nI_ge (show 2 * x < N by omega) (by omega)), ck_nI (show x < 61 by omega) (by decide), ck_nI (show x < 61 by omega) (by decide), ck_nI (show N - x < 61 by omega) (by decide), ck_nI (show N - x < 61 by omega) (by decide), nI_clamp (by omega), nI_clamp (by omega), hj x (by omega), hj (N - x) (by omega), (tb_sv x (by omega)).1, (tb_sv (N - x) (by omega)).1, nI_1]
      by_cases q : nI (sv x) = nI (sv (N - x))
      · refine ⟨nI x, by rw [if_pos q], ?_⟩
        rw [if_pos q, if_neg (nI_m6 (by omega))]
        by_cases z : w = 0
        · rw [if_pos (L_eq 0 z), if_pos z]
        · rw [if_neg (L_ne 0 z hw (by decide)), if_neg z]
      · rw [if_neg q, if_neg q]
        exact ih (x + 1) n8 n9 (by omega) (by omega) (by omega) (by omega) (by omega)
theorem fo_24 {N : Nat} (hN : N < 61) (hnf : 100 ≤ nf) : ∀ (d m n : Nat) (wo met : Nat → Int32), m + d = N + 1 → d < n → (∀ j, j < m → wo j = nI (sv j)) → ∃ wo' met', (∀ j, j < N + 1 → wo' j = nI (sv j)) ∧ g_X9_folds_l24 nf n (nI N) x2 (nI m) wo met = g_X9_folds_l136 nf nf (nI N) x2 1 wo' met' := by
  intro d
  induction d with
  | zero =>
    intro m n wo met hx hn hj
    obtain ⟨n, rfl⟩ := pred_ex hn
    obtain rfl : m = N + 1 := by omega
    exact ⟨wo, met, hj, by rw [g_X9_folds_l24, if_pos (nI_lt (Nat.lt_succ_self N) (by omega))]⟩
  | succ d ih =>
    intro m n wo met hx hn hj
    obtain ⟨n, rfl⟩ := pred_ex hn
    obtain ⟨wo', met', k1, k2⟩ := fo_32 (nf := nf) (x1 := nI N) (x2 := x2) (m := m) (by omega) hnf 64 0 nf wo met (by omega) (by omega) hj (fun k hk => absurd hk (Nat.not_lt_zero k))
    rw [g_X9_folds_l24, if_neg (nI_nlt (show m ≤ N by omega) (by omega)), show g_X9_folds_l32 nf (g_X9_folds_l24 nf n) nf (nI N) x2 (nI m) 0 wo met = _ from k2 _]
    exact ih (m + 1) n wo' met' (by omega) (by omega) k1
end FOLD
theorem st_folds : St_folds := by
  intro n_lands n_camphors n_there n_mothCells n_mothHeads n_threads n_sightNights n_sightCells n_sights n_night u_lands u_camphors u_there u_mothCells u_mothHeads u_threads u_sightNights u_sightCells u_sights u_night v_lands v_camphors v_there v_mothCells v_mothHeads v_threads v_sightNights v_sightCells v_sights v_night kept p_signs p_size t_next_ book sights sight signs pad image isKept worth met p1 p2 hR
  obtain ⟨⟨B, S, SS, hW, hDB, hMB, hWS, hDS, hMS⟩, hRP, hI0, hI1, hRT⟩ := hR
  suffices h : ∃ v q9, g_X8_folds 100 p1 p2 = some v ∧ g_X9_folds 100 p1 p2 worth met = some (v, q9) by
    obtain ⟨v, q9, h8, h9⟩ := h
    exact ⟨100, v, (v, q9), h8, h9, rfl, ⟨B, S, SS, hW, hDB, hMB, hWS, hDS, hMS⟩, hRP, hI0, hI1, hRT⟩
  unfold g_X8_folds g_X9_folds
  by_cases c1 : 0 ≤ p1 ∧ p1 ≤ 60
  · by_cases c2 : 0 ≤ p2 ∧ p2 ≤ 1
    · rw [w_t c1, n_t c1, w_t c2, n_t c2]
      simp only [Option.bind_some, i10, if_false]
      obtain ⟨N, hN, rfl⟩ := rngN (k := 60) (by decide) c1
      obtain ⟨w, hw, rfl⟩ := rngN (k := 1) (by decide) c2
      obtain ⟨wo', met', k1, k2⟩ := fo_24 (nf := 100) (x2 := nI w) (N := N) (by omega) (by omega) (N + 1) 0 100 worth met (by omega) (by omega) (fun j hj => absurd hj (Nat.not_lt_zero j))
      obtain ⟨r, k3, k4⟩ := wp_13 (nf := 100) (N := N) (w := w) (met := met') (by omega) (by omega) k1 30 1 100 100 (by omega) (by omega) (by omega) (by omega) (by omega)
      have k3' : g_X8_winningPart 100 (nI N) = some r := by
        unfold g_X8_winningPart
        rw [if_pos (L_lt 61 (by omega) (by decide))]
        exact k3
      rw [show g_X9_folds_l24 100 100 (nI N) (nI w) 0 worth met = _ from k2, show g_X9_folds_l136 100 100 (nI N) (nI w) 1 wo' met' = _ from k4, k3', Option.bind_some]
      refine ⟨_, _, ?_, rfl⟩
      by_cases z : w = 0
      · rw [if_pos (L_eq 0 z), if_pos z]
        split <;> rfl
      · rw [if_neg (L_ne 0 z (by omega) (by decide)), if_neg z]
    · rw [w_t c1, n_t c1, w_f c2, n_f c2]
      simp only [Option.bind_some, i10, i00, if_false, if_true]
      exact ⟨-2, _, rfl, rfl⟩
  · rw [w_f c1, n_f c1]
    simp only [Option.bind_some, i00, if_true]
    exact ⟨-2, _, rfl, rfl⟩
