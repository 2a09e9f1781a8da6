/-! ===== moth, told ===== -/
theorem or_bit : ∀ w, w < 16 → ∀ j, j < 4 → (w ||| 2 ^ j) < 16 ∧ ∀ k, k < 4 → (w ||| 2 ^ j) / 2 ^ k % 2 = if k = j then 1 else w / 2 ^ k % 2 := by decide +kernel
theorem cnt_16 : ∀ w, w < 16 → cnt (fun i => w.testBit i) 32 = cnt (fun k => decide (w / 2 ^ k % 2 = 1)) 4 := by decide +kernel
theorem mo_69 {nf w : Nat} {book : Nat → Int32} (h : book 61 = nI w) (hw : w < 16) : ∀ (m x n : Nat), x + m = 4 → m < n → g_X9_moth_l69 nf n (nI (cnt (fun k => decide (w / 2 ^ k % 2 = 1)) x)) (nI x) book = some (nI (cnt (fun k => decide (w / 2 ^ k % 2 = 1)) 4), book) := by
  intro m
  induction m with
  | zero =>
    intro x n hx hn
    obtain ⟨n, rfl⟩ := pred_ex hn
    obtain rfl : x = 4 := by omega
    rw [g_X9_moth_l69, if_pos (by decide)]
  | succ m ih =>
    intro x n hx hn
    obtain ⟨n, rfl⟩ := pred_ex hn
    have hi := ih (x + 1) n (by omega) (by omega)
    rw [g_X9_moth_l69, if_neg (show ¬ (4 : Int32) ≤ nI x from nI_ge (b := 4) (by omega) (by decide))]
    have e61 : (61 : Int32).toNatClampNeg = 61 := by decide
    have c61 : ∀ {e : Option (Int32 × (Nat → Int32))}, ck 61 63 e = e := fun {e} => ck_nI (j := 61) (by decide) (by decide)
    simp only [c61, e61, h, bitK (show w < 2 ^ 31 by omega) (show x < 32 by omega), nI_1, nI_add]
    rw [cnt] at hi
    rcases Nat.mod_two_eq_zero_or_one (w / 2 ^ x) with e | e
    · rw [e] at hi ⊢; exact hi
    · rw [e] at hi ⊢; exact hi
theorem st_moth : St_moth := by
  intro n_lands n_camphors n_there n_mothCells n_mothHeads n_threads n_sightNights n_sightCells n_sights n_night u_lands u_camphors u_there u_mothCells u_mothHeads u_threads u_sightNights u_sightCells u_sights u_night v_lands v_camphors v_there v_mothCells v_mothHeads v_threads v_sightNights v_sightCells v_sights v_night kept p_signs p_size t_next_ book sights sight signs pad image isKept p1 p2 p3 hR
  obtain ⟨⟨B, S, SS, hW, hDB, hMB, hWS, hDS, hMS⟩, hRP, hI0, hI1, hRT⟩ := hR
  by_cases c1 : 0 ≤ p1 ∧ p1 ≤ 3
  · obtain ⟨j, hj, rfl⟩ := rngN (k := 3) (by decide) c1
    by_cases c2 : 0 ≤ p2 ∧ p2 ≤ 24
    · obtain ⟨v, hv, rfl⟩ := rngN (k := 24) (by decide) c2
      by_cases c3 : 0 ≤ p3 ∧ p3 ≤ 3
      · obtain ⟨w, hw, rfl⟩ := rngN (k := 3) (by decide) c3
        have h61 := hW.2.2.2.2.2.1
        obtain ⟨o1, o2⟩ := or_bit (B 61) h61 j (by omega)
        have hD2 := DB_there (w := B 61 ||| 2 ^ j) (DB_mh (v := w) (DB_mc (v := v) hDB (show j < 4 by omega)) (show j < 4 by omega)) (j := j) (b := 1) (fun k hk => by rw [upN_ne (by omega), upN_ne (by omega)]; exact o2 k hk)
        have hW2 : WF (upN (upN (upN B (50 + j) v) (54 + j) w) 61 (B 61 ||| 2 ^ j)) := WF_up (WF_up (WF_up hW (by omega) (by omega) (by omega) (by omega) (by omega) (by omega) (by omega)) (by omega) (by omega) (by omega) (by omega) (by omega) (by omega) (by omega)) (by omega) (by omega) (by omega) (by omega) (by omega) (fun _ => o1) (by omega)
        have hM2 := MB_up (MB_up (MB_up hMB (50 + j) v) (54 + j) w) 61 (B 61 ||| 2 ^ j)
        have hm := DB_mothBits (nf := 100) hD2 hW2 (by omega)
        rw [upN_eq] at hm
        have h9 := mo_69 (nf := 100) (w := B 61 ||| 2 ^ j) (book := upd (upd (upd book (50 + j) (nI v)) (54 + j) (nI w)) 61 (nI (B 61 ||| 2 ^ j))) upd_eq o1 4 0 100 (by omega) (by omega)
        refine ⟨100, (nI (cnt (fun i => (B 61 ||| 2 ^ j).testBit i) 32), upd n_there j 1, upd n_mothCells j (nI v), upd n_mothHeads j (nI w)), (nI (cnt (fun k => decide ((B 61 ||| 2 ^ j) / 2 ^ k % 2 = 1)) 4), upd (upd (upd book (50 + j) (nI v)) (54 + j) (nI w)) 61 (nI (B 61 ||| 2 ^ j))), ?_, ?_, ?_, ⟨_, S, SS, hW2, hD2, hM2, hWS, hDS, hMS⟩, hRP, hI0, hI1, hRT⟩
        · have hm' : g_X1_mothBits 100 (upd n_there j 1) = some (nI (B 61 ||| 2 ^ j)) := hm
          simp only [g_X8_moth, m8_t c1, c8_t c2, y8_t c3, Option.bind_some, i10, if_false, ck_nI (show j < 4 by omega) (by decide), bz_in (Or.inr rfl), nI_clamp (show j < 2 ^ 31 by omega), hm', s_bitCount (show B 61 ||| 2 ^ j < 2 ^ 31 by omega)]
        · have e61 : (61 : Int32).toNatClampNeg = 61 := by decide
          have c61 : ∀ {e : Option (Int32 × (Nat → Int32))}, ck 61 63 e = e := fun {e} => ck_nI (j := 61) (by decide) (by decide)
          have hb : upd (upd book (50 + j) (nI v)) (54 + j) (nI w) 61 = nI (B 61) := by rw [upd_ne (by omega), upd_ne (by omega), hMB 61 (by omega)]
          simp only [g_X9_moth, n_t c1, c9_t c2, n_t c3, Option.bind_some, i10, if_false, show (50 : Int32) + nI j = nI (50 + j) from nI_add 50 j, show (54 : Int32) + nI j = nI (54 + j) from nI_add 54 j, ck_nI (show 50 + j < 63 by omega) (by decide), ck_nI (show 54 + j < 63 by omega) (by decide), nI_clamp (show 50 + j < 2 ^ 31 by omega), nI_clamp (show 54 + j < 2 ^ 31 by omega), c61, e61, hb, shl1 (show j < 31 by omega), or_I]
          exact h9
        · show nI _ = nI _
          rw [cnt_16 _ o1]
      · refine ⟨0, (-2, n_there, n_mothCells, n_mothHeads), (-2, book), ?_, ?_, rfl, ⟨B, S, SS, hW, hDB, hMB, hWS, hDS, hMS⟩, hRP, hI0, hI1, hRT⟩
        · simp only [g_X8_moth, m8_t c1, c8_t c2, y8_f c3, Option.bind_some, i10, i00, if_false, if_true]
        · simp only [g_X9_moth, n_t c1, c9_t c2, n_f c3, Option.bind_some, i10, i00, if_false, if_true]
    · refine ⟨0, (-1, n_there, n_mothCells, n_mothHeads), (-1, book), ?_, ?_, rfl, ⟨B, S, SS, hW, hDB, hMB, hWS, hDS, hMS⟩, hRP, hI0, hI1, hRT⟩
      · simp only [g_X8_moth, m8_t c1, c8_f c2, Option.bind_some, i10, i00, if_false, if_true]
      · simp only [g_X9_moth, n_t c1, c9_f c2, Option.bind_some, i10, i00, if_false, if_true]
  · refine ⟨0, (-1, n_there, n_mothCells, n_mothHeads), (-1, book), ?_, ?_, rfl, ⟨B, S, SS, hW, hDB, hMB, hWS, hDS, hMS⟩, hRP, hI0, hI1, hRT⟩
    · simp only [g_X8_moth, m8_f c1, Option.bind_some, i00, if_true]
    · simp only [g_X9_moth, n_f c1, Option.bind_some, i00, if_true]
theorem nbit (w k : Nat) : nI (w / 2 ^ k % 2) = 0 ∨ nI (w / 2 ^ k % 2) = 1 := by
  rcases Nat.mod_two_eq_zero_or_one (w / 2 ^ k) with e | e <;> rw [e]
  · exact Or.inl rfl
  · exact Or.inr rfl
theorem s_there8_eq {nf : Nat} {v : Int32} {t : Nat → Int32} : g_X1_isThere nf v t = (g_X8_isMoth nf v).bind fun q1 => if q1 = 0 then bz 0 (some 0) else ck v 4 (if t v.toNatClampNeg = 0 then bz 0 (some 0) else bz 1 (some 1)) := by
  unfold g_X1_isThere g_X8_isMoth
  by_cases h1 : v < 0
  · rw [if_pos h1, if_pos h1]; rfl
  · rw [if_neg h1, if_neg h1]
    by_cases h2 : (4 : Int32) ≤ v
    · rw [if_pos h2, if_pos h2]; rfl
    · rw [if_neg h2, if_neg h2]; rfl
theorem s_there8 {nf k : Nat} {l c t mc mh th : Nat → Int32} {n : Int32} {B : Nat → Nat} (h : DB l c t mc mh th n B) (hk : k < 4) : g_X1_isThere nf (nI k) t = some (nI (B 61 / 2 ^ k % 2)) := by
  have c1 : (0 : Int32) ≤ nI k ∧ nI k ≤ 3 := in_nI (a := 0) (b := 3) (Nat.zero_le _) (by omega) (by decide)
  simp only [s_there8_eq, m8_t c1, Option.bind_some, i10, if_false, ck_nI hk (by decide), nI_clamp (show k < 2 ^ 31 by omega), h.2.2.1 k hk, bz_in (Or.inr rfl), bz_in (Or.inl rfl)]
  rcases nbit (B 61) k with e | e <;> rw [e]
  · rfl
  · rfl
theorem s_there8_f {nf : Nat} {t : Nat → Int32} {v : Int32} (c1 : ¬ (0 ≤ v ∧ v ≤ 3)) : g_X1_isThere nf v t = some 0 := by
  simp only [s_there8_eq, m8_f c1, Option.bind_some, i00, if_true, bz_in (Or.inl rfl)]
theorem ck61 {α : Type} {e : Option α} : ck 61 63 e = e := ck_nI (j := 61) (by decide) (by decide)
theorem ck62 {α : Type} {e : Option α} : ck 62 63 e = e := ck_nI (j := 62) (by decide) (by decide)
theorem cl61 : (61 : Int32).toNatClampNeg = 61 := by decide
theorem cl62 : (62 : Int32).toNatClampNeg = 62 := by decide
theorem s_has {nf w k : Nat} (hw : w < 2 ^ 31) (hk : k < 32) : g_X9_has nf (nI w) (nI k) = some (nI (w / 2 ^ k % 2)) := by
  unfold g_X9_has
  rw [bitK hw hk]
  rcases nbit w k with e | e <;> rw [e]
  · rw [if_neg (by decide), bz_in (Or.inl rfl)]
  · rw [if_pos rfl, bz_in (Or.inr rfl)]
theorem s_there9 {nf k : Nat} {book : Nat → Int32} {B : Nat → Nat} (h : MB book B) (hW : WF B) (hk : k < 4) : g_X9_isThere nf (nI k) book = some (nI (B 61 / 2 ^ k % 2)) := by
  have c1 : (0 : Int32) ≤ nI k ∧ nI k ≤ 3 := in_nI (a := 0) (b := 3) (Nat.zero_le _) (by omega) (by decide)
  have h61 := hW.2.2.2.2.2.1
  simp only [g_X9_isThere, n_t c1, Option.bind_some, i10, if_false, ck61, cl61, h 61 (by omega), s_has (show B 61 < 2 ^ 31 by omega) (show k < 32 by omega), bz_in (Or.inr rfl), bz_in (Or.inl rfl)]
  rcases nbit (B 61) k with e | e <;> rw [e]
  · rfl
  · rfl
theorem s_there9_f {nf : Nat} {book : Nat → Int32} {v : Int32} (c1 : ¬ (0 ≤ v ∧ v ≤ 3)) : g_X9_isThere nf v book = some 0 := by
  simp only [g_X9_isThere, n_f c1, Option.bind_some, i00, if_true, bz_in (Or.inl rfl)]
theorem sub_rng {j k a b : Nat} (hj : j < 2 ^ 20) (hk : k < 2 ^ 20) (ha : a < 2 ^ 20) (hb : b < 2 ^ 20) : (nI a ≤ nI j - nI k ∧ nI j - nI k ≤ nI b) ↔ (a + k ≤ j ∧ j ≤ b + k) := by
  rw [Int32.le_iff_toInt_le, Int32.le_iff_toInt_le, pk_sub_toInt (by omega) (by omega), nI_toInt (by omega), nI_toInt (by omega)]
  omega
theorem sub_rngF {p : Int32} {k a b : Nat} (hp : ¬ (0 ≤ p ∧ p ≤ nI (b + k))) (hb : b + k < 2 ^ 31) (ha : a < 2 ^ 31) : ¬ (nI a ≤ p - nI k ∧ p - nI k ≤ nI b) := by
  intro h
  obtain ⟨j, h1, h2, h3⟩ := rngA (by omega) h ha
  have e : p = nI (j + k) := by rw [← nI_add, ← h3]; exact (Int32.sub_add_cancel p (nI k)).symm
  exact hp ⟨by rw [e]; exact nI_pos' (by omega), by rw [e]; exact nI_le (by omega) hb⟩
theorem st_told : St_told := by
  intro n_lands n_camphors n_there n_mothCells n_mothHeads n_threads n_sightNights n_sightCells n_sights n_night u_lands u_camphors u_there u_mothCells u_mothHeads u_threads u_sightNights u_sightCells u_sights u_night v_lands v_camphors v_there v_mothCells v_mothHeads v_threads v_sightNights v_sightCells v_sights v_night kept p_signs p_size t_next_ book sights sight signs pad image isKept now nights townAt townCell p1 hR
  obtain ⟨⟨B, S, SS, hW, hDB, hMB, hWS, hDS, hMS⟩, hRP, hI0, hI1, hRT⟩ := hR
  have hA := s_asNow (nf := 100) (book := book) (now := now) (a := nights) (b := townAt) (c := townCell) (by omega)
  obtain ⟨PS, PD, r1, r2, r3, r4⟩ := id hRP
  -- an answer of the class and one of the reference are the same
  suffices h : ∃ (r : Int32) (q : (Nat → Int32) × Int32 × Int32 × Int32), g_X8_told 100 p1 n_lands n_camphors n_there n_mothCells n_mothHeads n_threads n_sights n_night p_size = some r ∧ g_X9_told 100 p1 book now sights signs nights townAt townCell = some (r, q) by
    obtain ⟨r, q, h1, h2⟩ := h
    exact ⟨100, r, (r, q), h1, h2, rfl, ⟨B, S, SS, hW, hDB, hMB, hWS, hDS, hMS⟩, hRP, hI0, hI1, hRT⟩
  by_cases c0 : 0 ≤ p1 ∧ p1 ≤ 224
  · obtain ⟨j, hj, rfl⟩ := rngN (k := 224) (by decide) c0
    have hb61 := hW.2.2.2.2.2.1
    have lt : ∀ k : Nat, k < 2 ^ 31 → j < k → nI j < (OfNat.ofNat k : Int32) := fun k hk h => nI_lt h hk
    have nlt : ∀ k : Nat, k ≤ j → ¬ nI j < (OfNat.ofNat k : Int32) := fun k h => nI_nlt h (by omega)
    have ne : ∀ k : Nat, k < 2 ^ 31 → j ≠ k → ¬ nI j = (OfNat.ofNat k : Int32) := fun k hk h e => h ((nI_eq (by omega) hk).mp e)
    have eR : nI j - nI j / nI 10 * nI 10 = nI (j % 10) := pk_rem (by omega) (by decide) (by decide)
    have eD : nI j / nI 10 = nI (j / 10) := pk_div (by omega) (by decide) (by decide)
    -- the class beyond the first five
    have big : ∀ r : Int32, 5 ≤ j → g_X8_toldOfOne 100 (nI j) n_lands n_camphors n_there n_mothCells n_mothHeads n_threads = some r → g_X8_told 100 (nI j) n_lands n_camphors n_there n_mothCells n_mothHeads n_threads n_sights n_night p_size = some r := by
      intro r h5 hr
      unfold g_X8_told
      rw [if_neg (ne 0 (by decide) (by omega)), if_neg (ne 1 (by decide) (by omega)), if_neg (ne 2 (by decide) (by omega)), if_neg (ne 3 (by decide) (by omega)), if_neg (ne 4 (by decide) (by omega)), hr]
      rfl
    -- the reference below 20
    have low : ∀ r : Int32, 5 ≤ j → j < 20 → (if 11 ≤ j ∧ j ≤ 13 then r = book (47 + j) else r = -2) → ∃ q, g_X9_told 100 (nI j) book now sights signs nights townAt townCell = some (r, q) := by
      intro r h5 h20 hr
      unfold g_X9_told
      rw [if_pos (lt 200 (by decide) (by omega)), if_pos (lt 100 (by decide) (by omega)), if_pos (lt 20 (by decide) (by omega)), hA, Option.bind_some]
      by_cases c : 11 ≤ j ∧ j ≤ 13
      · rw [if_pos c] at hr
        rw [n_t (L_in 11 13 c.1 c.2 (by decide)), Option.bind_some, if_neg (by decide), show (47 : Int32) + nI j = nI (47 + j) from nI_add 47 j, ck_nI (by omega) (by decide), nI_clamp (by omega), hr]
        exact ⟨_, rfl⟩
      · rw [if_neg c] at hr
        rw [n_f (show ¬ ((11 : Int32) ≤ nI j ∧ nI j ≤ 13) from fun h => c ⟨(nI_leI (a := 11) (by decide) (by omega)).mp h.1, (nI_leI (b := 13) (by omega) (by decide)).mp h.2⟩), Option.bind_some, if_pos rfl, if_neg (ne 0 (by decide) (by omega)), if_neg (ne 1 (by decide) (by omega)), if_neg (ne 2 (by decide) (by omega)), if_neg (ne 3 (by decide) (by omega)), if_neg (ne 4 (by decide) (by omega)), hr]
        exact ⟨_, rfl⟩
    have T10 : (1 + 10 ≤ j ∧ j ≤ 3 + 10) → g_X8_isThread 100 (nI j - 10) = some 1 := fun h => h8_t ((sub_rng (j := j) (k := 10) (a := 1) (b := 3) (by omega) (by decide) (by decide) (by decide)).mpr h)
    have F10 : ¬ (1 + 10 ≤ j ∧ j ≤ 3 + 10) → g_X8_isThread 100 (nI j - 10) = some 0 := fun h => h8_f (fun q => h ((sub_rng (j := j) (k := 10) (a := 1) (b := 3) (by omega) (by decide) (by decide) (by decide)).mp q))
    have F20 : ¬ (0 + 20 ≤ j ∧ j ≤ 3 + 20) → g_X1_isThere 100 (nI j - 20) n_there = some 0 := fun h => s_there8_f (fun q => h ((sub_rng (j := j) (k := 20) (a := 0) (b := 3) (by omega) (by decide) (by decide) (by decide)).mp q))
    have F30 : ¬ (0 + 30 ≤ j ∧ j ≤ 3 + 30) → g_X1_isThere 100 (nI j - 30) n_there = some 0 := fun h => s_there8_f (fun q => h ((sub_rng (j := j) (k := 30) (a := 0) (b := 3) (by omega) (by decide) (by decide) (by decide)).mp q))
    have F100 : ¬ (0 + 100 ≤ j ∧ j ≤ 24 + 100) → g_X8_isCell 100 (nI j - 100) = some 0 ∧ g_X9_isCell 100 (nI j - 100) = some 0 := fun h => ⟨c8_f (fun q => h ((sub_rng (j := j) (k := 100) (a := 0) (b := 24) (by omega) (by decide) (by decide) (by decide)).mp q)), c9_f (fun q => h ((sub_rng (j := j) (k := 100) (a := 0) (b := 24) (by omega) (by decide) (by decide) (by decide)).mp q))⟩
    have F200 : ¬ (0 + 200 ≤ j ∧ j ≤ 24 + 200) → g_X8_isCell 100 (nI j - 200) = some 0 ∧ g_X9_isCell 100 (nI j - 200) = some 0 := fun h => ⟨c8_f (fun q => h ((sub_rng (j := j) (k := 200) (a := 0) (b := 24) (by omega) (by decide) (by decide) (by decide)).mp q)), c9_f (fun q => h ((sub_rng (j := j) (k := 200) (a := 0) (b := 24) (by omega) (by decide) (by decide) (by decide)).mp q))⟩
    have sb : ∀ k : Nat, k ≤ j → nI j - nI k = nI (j - k) := fun k h => pk_sub h
    -- nothing fits
    have out8 : ¬ (1 + 10 ≤ j ∧ j ≤ 3 + 10) → g_X1_isThere 100 (nI j - 20) n_there = some 0 → g_X1_isThere 100 (nI j - 30) n_there = some 0 → ¬ (0 + 100 ≤ j ∧ j ≤ 24 + 100) → ¬ (0 + 200 ≤ j ∧ j ≤ 24 + 200) → g_X8_toldOfOne 100 (nI j) n_lands n_camphors n_there n_mothCells n_mothHeads n_threads = some (-2) := by
      intro h1 h2 h3 h4 h5
      simp only [g_X8_toldOfOne, F10 h1, h2, h3, (F100 h4).1, (F200 h5).1, Option.bind_some, i00, if_true]
    rcases Nat.lt_or_ge j 5 with h5 | h5
    · -- signs, moths, night, holes, sights
      have l200 : nI j < 200 := lt 200 (by decide) (by omega)
      have l100 : nI j < 100 := lt 100 (by decide) (by omega)
      have l20 : nI j < 20 := lt 20 (by decide) (by omega)
      have nin : g_X9_in 100 (nI j) 11 13 = some 0 := n_f (fun h => absurd ((nI_leI (a := 11) (by decide) (by omega)).mp h.1) (by omega))
      unfold g_X9_told
      rw [if_pos l200, if_pos l100, if_pos l20, hA, Option.bind_some, nin, Option.bind_some, if_pos rfl]
      obtain rfl | rfl | rfl | rfl | rfl : j = 0 ∨ j = 1 ∨ j = 2 ∨ j = 3 ∨ j = 4 := by omega
      · exact ⟨p_size, _, rfl, by rw [if_pos (L_eq 0 rfl), r2, r3]⟩
      · refine ⟨nI (B 61), (cpy book now 0 63, 0, -6, -6), ?_, ?_⟩
        · unfold g_X8_told
          rw [if_neg (by decide), if_pos (L_eq 1 rfl), DB_mothBits hDB hW (by omega)]
          rfl
        · rw [if_neg (by decide), if_pos (L_eq 1 rfl), ck61, cl61, hMB 61 (by omega)]
      · refine ⟨nI (B 62), (cpy book now 0 63, 0, -6, -6), ?_, ?_⟩
        · unfold g_X8_told
          rw [if_neg (by decide), if_neg (by decide), if_pos (L_eq 2 rfl), hDB.2.2.2.2.2.2]
        · rw [if_neg (by decide), if_neg (by decide), if_pos (L_eq 2 rfl), ck62, cl62, hMB 62 (by omega)]
      · refine ⟨nI (cnt (fun c => decide (B c = 0)) 25), (cpy book now 0 63, 0, -6, -6), ?_, ?_⟩
        · unfold g_X8_told
          rw [if_neg (by decide), if_neg (by decide), if_neg (by decide), if_pos (L_eq 3 rfl), nI0, s_countOf (DB_lands hDB hW) (by decide) (by omega)]
          rfl
        · rw [if_neg (by decide), if_neg (by decide), if_neg (by decide), if_pos (L_eq 3 rfl), nI0, s_countOf9 (MB_lands (MB_cpy hMB) hW) (by decide) (by omega)]
          rfl
      · exact ⟨n_sights, _, rfl, by rw [if_neg (by decide), if_neg (by decide), if_neg (by decide), if_neg (by decide), if_pos (L_eq 4 rfl), hDS.2.2, hMS.2]⟩
    · rcases Nat.lt_or_ge j 20 with h20 | h20
      · by_cases c : 11 ≤ j ∧ j ≤ 13
        · obtain ⟨k, rfl⟩ : ∃ k, j = 11 + k := ⟨j - 11, by omega⟩
          obtain ⟨q, hq⟩ := low (book (47 + (11 + k))) h5 h20 (by rw [if_pos c])
          refine ⟨_, q, big _ h5 ?_, hq⟩
          have e10 : nI (11 + k) - 10 = nI (1 + k) := by rw [show (10 : Int32) = nI 10 from rfl, sb 10 (by omega), show 11 + k - 10 = 1 + k by omega]
          simp only [g_X8_toldOfOne, e10, h8_t (L_in (j := 1 + k) 1 3 (by omega) (by omega) (by decide)), Option.bind_some, i10, if_false, ck_nI (show 1 + k < 4 by omega) (by decide), nI_clamp (show 1 + k < 2 ^ 31 by omega), hDB.2.2.2.2.2.1 k (by omega)]
          rw [hMB _ (by omega), show 47 + (11 + k) = 58 + k by omega]
        · obtain ⟨q, hq⟩ := low (-2) h5 h20 (by rw [if_neg c])
          exact ⟨_, q, big _ h5 (out8 (by omega) (F20 (by omega)) (F30 (by omega)) (by omega) (by omega)), hq⟩
      · rcases Nat.lt_or_ge j 40 with h40 | h40
        · -- moths
          have mid : ∀ (r : Int32), (if j % 10 < 4 ∧ B 61 / 2 ^ (j % 10) % 2 = 1 then r = book (42 + j / 10 * 4 + j % 10) else r = -2) → ∃ q, g_X9_told 100 (nI j) book now sights signs nights townAt townCell = some (r, q) := by
            intro r hr
            unfold g_X9_told
            rw [if_pos (lt 200 (by decide) (by omega)), if_pos (lt 100 (by decide) (by omega)), if_neg (nlt 20 h20), if_neg (show ¬ (40 : Int32) ≤ nI j from nI_ge (b := 40) h40 (by decide)), show nI j - nI j / 10 * 10 = nI (j % 10) from eR, show nI j / 10 = nI (j / 10) from eD]
            by_cases c : j % 10 < 4
            · rw [s_there9 hMB hW c, Option.bind_some]
              rcases Nat.mod_two_eq_zero_or_one (B 61 / 2 ^ (j % 10)) with e | e
              · rw [if_neg (by omega)] at hr
                rw [e, if_pos (L_eq 0 rfl), hr]
                exact ⟨_, rfl⟩
              · rw [if_pos ⟨c, e⟩] at hr
                rw [e, if_neg (by decide), show (42 : Int32) + nI (j / 10) * 4 + nI (j % 10) = nI (42 + j / 10 * 4 + j % 10) by rw [show (4 : Int32) = nI 4 from rfl, show (42 : Int32) = nI 42 from rfl, pk_mul, nI_add, nI_add], ck_nI (by omega) (by decide), nI_clamp (by omega), hr]
                exact ⟨_, rfl⟩
            · rw [s_there9_f (show ¬ ((0 : Int32) ≤ nI (j % 10) ∧ nI (j % 10) ≤ 3) from fun h => c (by have := (nI_leI (b := 3) (by omega) (by decide)).mp h.2; omega)), Option.bind_some, if_pos rfl]
              rw [if_neg (by omega)] at hr
              rw [hr]
              exact ⟨_, rfl⟩
          by_cases c : j % 10 < 4
          · rcases Nat.lt_or_ge j 30 with h30 | h30
            · have e20 : nI j - 20 = nI (j % 10) := by rw [show (20 : Int32) = nI 20 from rfl, sb 20 (by omega), show j - 20 = j % 10 by omega]
              have ht : g_X1_isThere 100 (nI j - 20) n_there = some (nI (B 61 / 2 ^ (j % 10) % 2)) := by rw [e20]; exact s_there8 hDB c
              rcases Nat.mod_two_eq_zero_or_one (B 61 / 2 ^ (j % 10)) with e | e
              · obtain ⟨q, hq⟩ := mid (-2) (by rw [if_neg (by omega)])
                exact ⟨_, q, big _ h5 (out8 (by omega) (by rw [ht, e]; rfl) (F30 (by omega)) (by omega) (by omega)), hq⟩
              · obtain ⟨q, hq⟩ := mid (book (42 + j / 10 * 4 + j % 10)) (by rw [if_pos ⟨c, e⟩])
                refine ⟨_, q, big _ h5 ?_, hq⟩
                rw [e, e20] at ht
                simp only [g_X8_toldOfOne, F10 (by omega), ht, Option.bind_some, i00, if_true, show ¬ nI 1 = 0 from by decide, if_false, e20, ck_nI c (by decide), nI_clamp (show j % 10 < 2 ^ 31 by omega), hDB.2.2.2.1 (j % 10) c]
                rw [hMB _ (by omega), show 42 + j / 10 * 4 + j % 10 = 50 + j % 10 by omega]
            · have e30 : nI j - 30 = nI (j % 10) := by rw [show (30 : Int32) = nI 30 from rfl, sb 30 (by omega), show j - 30 = j % 10 by omega]
              have ht : g_X1_isThere 100 (nI j - 30) n_there = some (nI (B 61 / 2 ^ (j % 10) % 2)) := by rw [e30]; exact s_there8 hDB c
              rcases Nat.mod_two_eq_zero_or_one (B 61 / 2 ^ (j % 10)) with e | e
              · obtain ⟨q, hq⟩ := mid (-2) (by rw [if_neg (by omega)])
                exact ⟨_, q, big _ h5 (out8 (by omega) (F20 (by omega)) (by rw [ht, e]; rfl) (by omega) (by omega)), hq⟩
              · obtain ⟨q, hq⟩ := mid (book (42 + j / 10 * 4 + j % 10)) (by rw [if_pos ⟨c, e⟩])
                refine ⟨_, q, big _ h5 ?_, hq⟩
                rw [e, e30] at ht
                simp only [g_X8_toldOfOne, F10 (by omega), F20 (by omega), ht, Option.bind_some, i00, if_true, show ¬ nI 1 = 0 from by decide, if_false, e30, ck_nI c (by decide), nI_clamp (show j % 10 < 2 ^ 31 by omega), hDB.2.2.2.2.1 (j % 10) c]
                rw [hMB _ (by omega), show 42 + j / 10 * 4 + j % 10 = 54 + j % 10 by omega]
          · obtain ⟨q, hq⟩ := mid (-2) (by rw [if_neg (by omega)])
            exact ⟨_, q, big _ h5 (out8 (by omega) (F20 (by omega)) (F30 (by omega)) (by omega) (by omega)), hq⟩
        · rcases Nat.lt_or_ge j 100 with h100 | h100
          · refine ⟨-2, (now, nights, townAt, townCell), big _ h5 (out8 (by omega) (F20 (by omega)) (F30 (by omega)) (by omega) (by omega)), ?_⟩
            unfold g_X9_told
            rw [if_pos (lt 200 (by decide) (by omega)), if_pos (lt 100 (by decide) (by omega)), if_neg (nlt 20 h20), if_pos (show (40 : Int32) ≤ nI j from nI_le (a := 40) h40 (by omega))]
          · rcases Nat.lt_or_ge j 200 with h200 | h200
            · by_cases c : j ≤ 124
              · have e100 : nI j - 100 = nI (j - 100) := sb 100 (by omega)
                have ci : (0 : Int32) ≤ nI (j - 100) ∧ nI (j - 100) ≤ 24 := in_nI (a := 0) (b := 24) (Nat.zero_le _) (by omega) (by decide)
                refine ⟨nI (B (j - 100)), (now, nights, townAt, townCell), big _ h5 ?_, ?_⟩
                · simp only [g_X8_toldOfOne, F10 (by omega), F20 (by omega), F30 (by omega), e100, c8_t ci, Option.bind_some, i00, i10, if_true, if_false, ck_nI (show j - 100 < 25 by omega) (by decide), nI_clamp (show j - 100 < 2 ^ 31 by omega), hDB.1 (j - 100) (by omega)]
                · unfold g_X9_told
                  rw [if_pos (lt 200 (by decide) (by omega)), if_neg (nlt 100 h100), e100, c9_t ci, Option.bind_some, if_neg (by decide), ck_nI (by omega) (by decide), nI_clamp (by omega), hMB _ (by omega)]
              · refine ⟨-2, (now, nights, townAt, townCell), big _ h5 (out8 (by omega) (F20 (by omega)) (F30 (by omega)) (by omega) (by omega)), ?_⟩
                unfold g_X9_told
                rw [if_pos (lt 200 (by decide) (by omega)), if_neg (nlt 100 h100), (F100 (by omega)).2, Option.bind_some, if_pos rfl]
            · have e200 : nI j - 200 = nI (j - 200) := sb 200 (by omega)
              have ci : (0 : Int32) ≤ nI (j - 200) ∧ nI (j - 200) ≤ 24 := in_nI (a := 0) (b := 24) (Nat.zero_le _) (by omega) (by decide)
              refine ⟨nI (B (25 + (j - 200))), (now, nights, townAt, townCell), big _ h5 ?_, ?_⟩
              · simp only [g_X8_toldOfOne, F10 (by omega), F20 (by omega), F30 (by omega), (F100 (by omega)).1, e200, c8_t ci, Option.bind_some, i00, i10, if_true, if_false, ck_nI (show j - 200 < 25 by omega) (by decide), nI_clamp (show j - 200 < 2 ^ 31 by omega), hDB.2.1 (j - 200) (by omega)]
              · unfold g_X9_told
                rw [if_neg (nlt 200 h200), e200, c9_t ci, Option.bind_some, if_neg (by decide), show nI j - 175 = nI (25 + (j - 200)) by rw [show (175 : Int32) = nI 175 from rfl, sb 175 (by omega), show j - 175 = 25 + (j - 200) by omega], ck_nI (by omega) (by decide), nI_clamp (by omega), hMB _ (by omega)]
  · have w : ∀ k : Nat, k ≤ 224 → ¬ (0 ≤ p1 ∧ p1 ≤ nI k) := fun k hk h => c0 ⟨h.1, Int32.le_trans h.2 (nI_le (b := 224) hk (by decide))⟩
    have n0 : ∀ k : Nat, k ≤ 224 → ¬ p1 = (OfNat.ofNat k : Int32) := fun k hk e => c0 ⟨by rw [e]; exact nI_pos' (n := k) (by omega), by rw [e]; exact nI_le (a := k) (b := 224) hk (by decide)⟩
    refine ⟨-2, ?_⟩
    suffices h : ∃ q, g_X9_told 100 p1 book now sights signs nights townAt townCell = some (-2, q) by
      obtain ⟨q, hq⟩ := h
      refine ⟨q, ?_, hq⟩
      have q10 : g_X8_isThread 100 (p1 - 10) = some 0 := h8_f (sub_rngF (k := 10) (a := 1) (b := 3) (w 13 (by omega)) (by decide) (by decide))
      have q20 : g_X1_isThere 100 (p1 - 20) n_there = some 0 := s_there8_f (sub_rngF (k := 20) (a := 0) (b := 3) (w 23 (by omega)) (by decide) (by decide))
      have q30 : g_X1_isThere 100 (p1 - 30) n_there = some 0 := s_there8_f (sub_rngF (k := 30) (a := 0) (b := 3) (w 33 (by omega)) (by decide) (by decide))
      have q100 : g_X8_isCell 100 (p1 - 100) = some 0 := c8_f (sub_rngF (k := 100) (a := 0) (b := 24) (w 124 (by omega)) (by decide) (by decide))
      have q200 : g_X8_isCell 100 (p1 - 200) = some 0 := c8_f (sub_rngF (k := 200) (a := 0) (b := 24) (w 224 (by omega)) (by decide) (by decide))
      unfold g_X8_told
      rw [if_neg (n0 0 (by omega)), if_neg (n0 1 (by omega)), if_neg (n0 2 (by omega)), if_neg (n0 3 (by omega)), if_neg (n0 4 (by omega))]
      simp only [g_X8_toldOfOne, q10, q20, q30, q100, q200, Option.bind_some, i00, if_true]
    unfold g_X9_told
    by_cases c2 : p1 < 200
    · have hneg : p1 < 0 := by
        refine Int32.not_le.mp fun h => w 224 (by omega) ⟨h, ?_⟩
        exact Int32.le_trans (Int32.le_of_lt c2) (show (200 : Int32) ≤ nI 224 by decide)
      have l100 : p1 < 100 := Int32.lt_trans hneg (by decide)
      have l20 : p1 < 20 := Int32.lt_trans hneg (by decide)
      rw [if_pos c2, if_pos l100, if_pos l20, hA, Option.bind_some, n_f (fun h => absurd (Int32.lt_of_lt_of_le hneg (Int32.le_trans (by decide) h.1)) (Int32.lt_irrefl)), Option.bind_some, if_pos rfl, if_neg (n0 0 (by omega)), if_neg (n0 1 (by omega)), if_neg (n0 2 (by omega)), if_neg (n0 3 (by omega)), if_neg (n0 4 (by omega))]
      exact ⟨_, rfl⟩
    · have q200 : g_X9_isCell 100 (p1 - 200) = some 0 := c9_f (sub_rngF (k := 200) (a := 0) (b := 24) (w 224 (by omega)) (by decide) (by decide))
      rw [if_neg c2, q200, Option.bind_some, if_pos rfl]
      exact ⟨_, rfl⟩
