/-! ===== darned: the reference ===== -/
def dfl (b : Bool) : Int32 := if b then 1 else 0
theorem bz_fl {α : Type} {b : Bool} {e : Option α} : bz (dfl b) e = e := by
  cases b
  · exact bz_in (Or.inl rfl)
  · exact bz_in (Or.inr rfl)
theorem dfl_t : ¬ dfl true = 0 := by decide
theorem dfl_f : dfl false = 0 := rfl
def thr (code N i : Nat) : Nat := code / 3 ^ (N - 1 - i) % 3 + 1
theorem thr_le (code N i : Nat) : thr code N i ≤ 3 := by
  unfold thr
  have := Nat.mod_lt (code / 3 ^ (N - 1 - i)) (show 0 < 3 by decide)
  omega
theorem th_7 {nf k : Nat} (hk : k < 25) : ∀ (d n L : Nat), d < n → d ≤ 25 → L < 2 ^ 31 → g_X9_threadOf_l7 nf n (nI k) (nI L) (nI (k + d)) = some (nI (L / 3 ^ d % 3 + 1)) := by
  intro d
  induction d with
  | zero =>
    intro n L hn _ hL
    obtain ⟨n, rfl⟩ := pred_ex hn
    rw [g_X9_threadOf_l7, if_pos (show nI (k + 0) ≤ nI k from nI_le (Nat.le_refl _) (by omega)), show nI L - nI L / 3 * 3 = nI (L % 3) from pk_rem (d := 3) hL (by decide) (by decide), nI_1, Nat.pow_zero, Nat.div_one]
  | succ d ih =>
    intro n L hn hd hL
    obtain ⟨n, rfl⟩ := pred_ex hn
    rw [g_X9_threadOf_l7, if_neg (show ¬ nI (k + (d + 1)) ≤ nI k from nI_ge (by omega) (by omega)), show nI L / 3 = nI (L / 3) from pk_div (d := 3) hL (by decide) (by decide), show nI (k + (d + 1)) + (-1) = nI (k + d) from pk_m1 (k + d), ih n (L / 3) (by omega) (by omega) (by omega), Nat.div_div_eq_div_mul, Nat.pow_succ, Nat.mul_comm (3 ^ d)]
theorem s_th9 {nf code N i : Nat} (hi : i < N) (hN : N ≤ 25) (hc : code < 2 ^ 31) (hnf : 100 ≤ nf) : g_X9_threadOf nf (nI code) (nI N) (nI i) = some (nI (thr code N i)) := by
  obtain ⟨M, rfl⟩ := pred_ex hi
  have := th_7 (nf := nf) (k := i) (by omega) (M - i) nf code (by omega) (by omega) hc
  rw [show i + (M - i) = M by omega] at this
  unfold g_X9_threadOf thr
  rw [nI_pred, Nat.add_sub_cancel]
  exact this
abbrev CK5 := Int32 → Int32 → Int32 → Int32 → (Nat → Int32) → (Nat → Int32) → Option Int32
abbrev CK27 := Int32 → Int32 → Int32 → Int32 → Int32 → Int32 → (Nat → Int32) → (Nat → Int32) → Option Int32
section CDARN
variable {nf code N : Nat} {B : Nat → Nat} {book hole : Nat → Int32}
theorem cd_82 {i own w : Nat} {to : Int32} (hi : i < N) (hN : N ≤ 25) (hcd : code < 2 ^ 31) (hown : own ≤ 3) (hnf : 100 ≤ nf) : ∀ (d x n : Nat) (b : Bool), x + d = i → d < n → ∃ b' : Bool, (b' = true ↔ b = true ∧ ∀ k, x ≤ k → k < i → hole k = to → ¬ thr code N k = own) ∧ ∀ (K5 : CK5) (K27 : CK27), g_X9_canDarn_l82 nf K5 K27 n (nI code) (nI N) (dfl b) (nI i) (nI own) (nI w) to (nI x) book hole = K27 (nI code) (nI N) (dfl b') (nI i) (nI own) (nI (w + 1)) book hole := by
  intro d
  induction d with
  | zero =>
    intro x n b hx hn
    obtain ⟨n, rfl⟩ := pred_ex hn
    obtain rfl : x = i := by omega
    refine ⟨b, ⟨fun h => ⟨h, fun k h1 h2 => by omega⟩, fun h => h.1⟩, fun K5 K27 => ?_⟩
    rw [g_X9_canDarn_l82, if_pos (nI_le (Nat.le_refl _) (by omega)), nI_1]
  | succ d ih =>
    intro x n b hx hn
    obtain ⟨n, rfl⟩ := pred_ex hn
    have hx25 : x < 25 := by omega
    cases b with
    | false =>
      obtain ⟨b', h1, h2⟩ := ih (x + 1) n false (by omega) (by omega)
      refine ⟨b', ⟨fun z => absurd (h1.mp z).1 (by decide), fun z => absurd z.1 (by decide)⟩, fun K5 K27 => ?_⟩
      rw [g_X9_canDarn_l82, if_neg (nI_ge (show x < i by omega) (by omega)), if_pos dfl_f]
      show g_X9_canDarn_l82 nf K5 K27 n (nI code) (nI N) (dfl false) (nI i) (nI own) (nI w) to (nI x + 1) book hole = _
      rw [nI_1]
      exact h2 K5 K27
    | true =>
      by_cases e : hole x = to ∧ thr code N x = own
      · obtain ⟨b', h1, h2⟩ := ih (x + 1) n false (by omega) (by omega)
        refine ⟨b', ⟨fun z => absurd (h1.mp z).1 (by decide), fun z => absurd e.2 (z.2 x (Nat.le_refl _) (by omega) e.1)⟩, fun K5 K27 => ?_⟩
        rw [g_X9_canDarn_l82, if_neg (nI_ge (show x < i by omega) (by omega)), if_neg dfl_t, ck_nI hx25 (by decide), nI_clamp (by omega), if_pos e.1, s_th9 (show x < N by omega) hN hcd hnf, Option.bind_some, if_pos (show nI (thr code N x) = nI own by rw [e.2])]
        show g_X9_canDarn_l82 nf K5 K27 n (nI code) (nI N) (dfl false) (nI i) (nI own) (nI w) to (nI x + 1) book hole = _
        rw [nI_1]
        exact h2 K5 K27
      · obtain ⟨b', h1, h2⟩ := ih (x + 1) n true (by omega) (by omega)
        refine ⟨b', ⟨fun z => ⟨rfl, fun k k1 k2 k3 k4 => ?_⟩, fun z => h1.mpr ⟨rfl, fun k k1 k2 => z.2 k (by omega) k2⟩⟩, fun K5 K27 => ?_⟩
        · by_cases y : k = x
          · subst y; exact e ⟨k3, k4⟩
          · exact (h1.mp z).2 k (by omega) k2 k3 k4
        · have hgo : g_X9_canDarn_l82 nf K5 K27 n (nI code) (nI N) (dfl true) (nI i) (nI own) (nI w) to (nI x + 1) book hole = K27 (nI code) (nI N) (dfl b') (nI i) (nI own) (nI (w + 1)) book hole := by
            rw [nI_1]
            exact h2 K5 K27
          rw [g_X9_canDarn_l82, if_neg (nI_ge (show x < i by omega) (by omega)), if_neg dfl_t, ck_nI hx25 (by decide), nI_clamp (by omega)]
          by_cases e1 : hole x = to
          · have t3 := thr_le code N x
            rw [if_pos e1, s_th9 (show x < N by omega) hN hcd hnf, Option.bind_some, if_neg (fun z => e ⟨e1, (nI_eq (by omega) (by omega)).mp z⟩)]
            exact hgo
          · rw [if_neg e1]
            exact hgo
theorem cd_27 {i own c : Nat} (hi : i < N) (hN : N ≤ 25) (hcd : code < 2 ^ 31) (hown : own ≤ 3) (hnf : 100 ≤ nf) (hhc : hole i = nI c) (hc : c < 25) (hM : MB book B) (hB : ∀ c, c < 25 → B c ≤ 5) (hHB : ∀ k, k < N → ∃ x, x < 25 ∧ hole k = nI x) : ∀ (d w n : Nat) (b : Bool), w + d = 4 → d < n → ∃ b' : Bool, (b' = true ↔ b = true ∧ ∀ w', w ≤ w' → w' < 4 → bes c w' < 25 → (own = 2 → ¬ B (bes c w') = 4) ∧ ∀ k, k < i → hole k = nI (bes c w') → ¬ thr code N k = own) ∧ ∀ (K5 : CK5), g_X9_canDarn_l27 nf K5 n (nI code) (nI N) (dfl b) (nI i) (nI own) (nI w) book hole = K5 (nI code) (nI N) (dfl b') (nI (i + 1)) book hole := by
  intro d
  induction d with
  | zero =>
    intro w n b hw hn
    obtain ⟨n, rfl⟩ := pred_ex hn
    obtain rfl : w = 4 := by omega
    refine ⟨b, ⟨fun h => ⟨h, fun k h1 h2 => by omega⟩, fun h => h.1⟩, fun K5 => ?_⟩
    rw [g_X9_canDarn_l27, if_pos (by decide), nI_1]
  | succ d ih =>
    intro w n b hw hn
    obtain ⟨n, rfl⟩ := pred_ex hn
    have hw4 : w < 4 := by omega
    have mid : ∃ b1 : Bool, (b1 = true ↔ b = true ∧ (bes c w < 25 → own = 2 → ¬ B (bes c w) = 4)) ∧ ∀ (K5 : CK5), g_X9_canDarn_l27 nf K5 (n + 1) (nI code) (nI N) (dfl b) (nI i) (nI own) (nI w) book hole = g_X9_canDarn_l82 nf K5 (g_X9_canDarn_l27 nf K5 n) nf (nI code) (nI N) (dfl b1) (nI i) (nI own) (nI w) (if bes c w < 25 then nI (bes c w) else -6) (nI 0) book hole := by
      cases b with
      | false =>
        refine ⟨false, ⟨fun z => absurd z (by decide), fun z => absurd z.1 (by decide)⟩, fun K5 => ?_⟩
        rw [g_X9_canDarn_l27, if_neg (L_nge 4 hw4 (by decide)), ck_nI (show i < 25 by omega) (by decide), nI_clamp (by omega), hhc, s_bes9 hc hw4, Option.bind_some, if_pos dfl_f]
        rfl
      | true =>
        have go : ∀ (K5 : CK5), g_X9_canDarn_l27 nf K5 (n + 1) (nI code) (nI N) (dfl true) (nI i) (nI own) (nI w) book hole = _ := fun K5 => by
          rw [g_X9_canDarn_l27, if_neg (L_nge 4 hw4 (by decide)), ck_nI (show i < 25 by omega) (by decide), nI_clamp (by omega), hhc, s_bes9 hc hw4, Option.bind_some, if_neg dfl_t]
        by_cases hb : bes c w < 25
        · by_cases ho : own = 2
          · by_cases h4 : B (bes c w) = 4
            · refine ⟨false, ⟨fun z => absurd z (by decide), fun z => absurd h4 (z.2 hb ho)⟩, fun K5 => ?_⟩
              rw [go, if_pos hb, if_neg (nI_pos (show bes c w < 2 ^ 31 by omega)), if_pos (L_eq 2 ho), ck_nI (show bes c w < 63 by omega) (by decide), nI_clamp (by omega), hM (bes c w) (by omega), if_pos (L_eq 4 h4)]
              rfl
            · refine ⟨true, ⟨fun _ => ⟨rfl, fun _ _ => h4⟩, fun _ => rfl⟩, fun K5 => ?_⟩
              have h5 := hB _ hb
              rw [go, if_pos hb, if_neg (nI_pos (show bes c w < 2 ^ 31 by omega)), if_pos (L_eq 2 ho), ck_nI (show bes c w < 63 by omega) (by decide), nI_clamp (by omega), hM (bes c w) (by omega), if_neg (L_ne 4 h4 (by omega) (by decide))]
              rfl
          · refine ⟨true, ⟨fun _ => ⟨rfl, fun _ z => absurd z ho⟩, fun _ => rfl⟩, fun K5 => ?_⟩
            rw [go, if_pos hb, if_neg (nI_pos (show bes c w < 2 ^ 31 by omega)), if_neg (L_ne 2 ho (by omega) (by decide))]
            rfl
        · refine ⟨true, ⟨fun _ => ⟨rfl, fun z _ => absurd z hb⟩, fun _ => rfl⟩, fun K5 => ?_⟩
          rw [go, if_neg hb, if_pos (show (-6 : Int32) < 0 by decide)]
          rfl
    obtain ⟨b1, h1, h2⟩ := mid
    obtain ⟨b2, h3, h4⟩ := cd_82 (nf := nf) (code := code) (N := N) (book := book) (hole := hole) (i := i) (own := own) (w := w) (to := if bes c w < 25 then nI (bes c w) else -6) hi hN hcd hown hnf i 0 nf b1 (by omega) (by omega)
    obtain ⟨b', h5, h6⟩ := ih (w + 1) n b2 (by omega) (by omega)
    refine ⟨b', ?_, fun K5 => by rw [h2 K5, h4 K5 _, h6 K5]⟩
    constructor
    · intro z
      obtain ⟨z1, z2⟩ := h5.mp z
      obtain ⟨z3, z4⟩ := h3.mp z1
      obtain ⟨z5, z6⟩ := h1.mp z3
      refine ⟨z5, fun w' w1 w2 hb => ?_⟩
      by_cases y : w' = w
      · subst y
        exact ⟨z6 hb, fun k hk e => z4 k (Nat.zero_le _) hk (by rw [if_pos hb]; exact e)⟩
      · exact z2 w' (by omega) w2 hb
    · rintro ⟨z1, z2⟩
      refine h5.mpr ⟨h3.mpr ⟨h1.mpr ⟨z1, fun hb => (z2 w (Nat.le_refl _) hw4 hb).1⟩, fun k _ hk e => ?_⟩, fun w' w1 w2 hb => z2 w' (by omega) w2 hb⟩
      by_cases hb : bes c w < 25
      · rw [if_pos hb] at e
        exact (z2 w (Nat.le_refl _) hw4 hb).2 k hk e
      · rw [if_neg hb] at e
        obtain ⟨x, x1, x2⟩ := hHB k (by omega)
        rw [x2] at e
        exact absurd e (nI_m6 (by omega))
theorem cd_5 (hN : N ≤ 25) (hcd : code < 2 ^ 31) (hnf : 100 ≤ nf) (hM : MB book B) (hB : ∀ c, c < 25 → B c ≤ 5) (hHB : ∀ k, k < N → ∃ x, x < 25 ∧ hole k = nI x) : ∀ (d i n : Nat) (b : Bool), i + d = N → d < n → ∃ b' : Bool, (b' = true ↔ b = true ∧ ∀ i', i ≤ i' → i' < N → ∀ c, c < 25 → hole i' = nI c → ∀ w, w < 4 → bes c w < 25 → (thr code N i' = 2 → ¬ B (bes c w) = 4) ∧ ∀ k, k < i' → hole k = nI (bes c w) → ¬ thr code N k = thr code N i') ∧ g_X9_canDarn_l5 nf n (nI code) (nI N) (dfl b) (nI i) book hole = some (dfl b') := by
  intro d
  induction d with
  | zero =>
    intro i n b hi hn
    obtain ⟨n, rfl⟩ := pred_ex hn
    obtain rfl : i = N := by omega
    refine ⟨b, ⟨fun h => ⟨h, fun k h1 h2 => by omega⟩, fun h => h.1⟩, ?_⟩
    rw [g_X9_canDarn_l5, if_pos (nI_le (Nat.le_refl _) (by omega)), bz_fl]
  | succ d ih =>
    intro i n b hi hn
    obtain ⟨n, rfl⟩ := pred_ex hn
    cases b with
    | false =>
      refine ⟨false, ⟨fun z => absurd z (by decide), fun z => absurd z.1 (by decide)⟩, ?_⟩
      rw [g_X9_canDarn_l5, if_neg (nI_ge (show i < N by omega) (by omega)), if_pos dfl_f, bz_fl]
    | true =>
      obtain ⟨c, hc, hhc⟩ := hHB i (by omega)
      obtain ⟨b1, h1, h2⟩ := cd_27 (nf := nf) (B := B) (book := book) (own := thr code N i) (show i < N by omega) hN hcd (thr_le _ _ _) hnf hhc hc hM hB hHB 4 0 nf true (by omega) (by omega)
      obtain ⟨b', h3, h4⟩ := ih (i + 1) n b1 (by omega) (by omega)
      refine ⟨b', ?_, ?_⟩
      · constructor
        · intro z
          obtain ⟨z1, z2⟩ := h3.mp z
          obtain ⟨z3, z4⟩ := h1.mp z1
          refine ⟨rfl, fun i' i1 i2 c' hc' hh w hw hb => ?_⟩
          by_cases y : i' = i
          · subst y
            obtain rfl : c' = c := by
              rw [hhc] at hh
              exact ((nI_eq (by omega) (by omega)).mp hh).symm
            exact z4 w (Nat.zero_le _) hw hb
          · exact z2 i' (by omega) i2 c' hc' hh w hw hb
        · rintro ⟨-, z⟩
          exact h3.mpr ⟨h1.mpr ⟨rfl, fun w _ hw hb => z i (Nat.le_refl _) (by omega) c hc hhc w hw hb⟩, fun i' i1 i2 => z i' (by omega) i2⟩
      · rw [g_X9_canDarn_l5, if_neg (nI_ge (show i < N by omega) (by omega)), if_neg dfl_t, s_th9 (show i < N by omega) hN hcd hnf, Option.bind_some]
        exact (h2 _).trans h4
def HO (B : Nat → Nat) (hole : Nat → Int32) (c : Nat) : Prop := ∀ x, x < c → B x = 0 → hole (drk B x) = nI x
theorem thr_q {x : Nat} (hb : B x = 0) : thr code (drk B 25) (drk B x) = code / 3 ^ (drk B 25 - drk B (x + 1)) % 3 + 1 := by
  unfold thr
  rw [drk_h hb, show drk B 25 - 1 - drk B x = drk B 25 - (drk B x + 1) by omega]
theorem thr_d {x y : Nat} (hx : x < 25) (hy : y < x) (hb : B y = 0) : thr code (drk B 25) (drk B y) = dgc B (x + 1) (code / 3 ^ (drk B 25 - drk B (x + 1))) y + 1 := by
  have m1 := drk_m (B := B) (show y + 1 ≤ x + 1 by omega)
  have m2 := drk_m (B := B) (show x + 1 ≤ 25 by omega)
  rw [thr_q hb]
  unfold dgc
  rw [Nat.div_div_eq_div_mul, ← Nat.pow_add, show drk B 25 - drk B (x + 1) + (drk B (x + 1) - drk B (y + 1)) = drk B 25 - drk B (y + 1) by omega]
theorem s_can (hHO : HO B hole 25) (hcd : code < 2 ^ 31) (hM : MB book B) (hB : ∀ c, c < 25 → B c ≤ 5) (hnf : 100 ≤ nf) : g_X9_canDarn nf (nI code) (nI (drk B 25)) book hole = some (dfl (PV B code)) := by
  have hN := drk_le (B := B) (c := 25)
  have hHB : ∀ k, k < drk B 25 → ∃ x, x < 25 ∧ hole k = nI x := fun k hk => by
    obtain ⟨x, h1, h2, h3⟩ := drk_ex 25 k hk
    exact ⟨x, h1, by rw [← h3]; exact hHO x h1 h2⟩
  obtain ⟨b', h1, h2⟩ := cd_5 (nf := nf) hN hcd hnf hM hB hHB (drk B 25) 0 nf true (by omega) (by omega)
  have hiff : b' = true ↔ VV B 25 code := by
    rw [h1]
    constructor
    · rintro ⟨-, z⟩ x hx hb w hw hw2
      have r1 := drk_lt hb hx
      have k := z (drk B x) (Nat.zero_le _) (by omega) x hx (hHO x hx hb) w hw hw2
      rw [thr_q hb] at k
      refine ⟨fun e => k.1 (by omega), fun y yb e => ?_⟩
      refine k.2 (drk B (bes x w)) (drk_lt yb y) (hHO _ hw2 yb) ?_
      rw [thr_d hx y yb, e]
    · intro z
      refine ⟨rfl, fun i' _ hi c hc hh w hw hw2 => ?_⟩
      obtain ⟨x, x1, x2, x3⟩ := drk_ex 25 i' hi
      obtain rfl : c = x := by
        have := hHO x x1 x2
        rw [x3, hh] at this
        exact (nI_eq (by omega) (by omega)).mp this
      subst x3
      have k := z c hc x2 w hw hw2
      rw [thr_q x2]
      refine ⟨fun e => k.1 (by omega), fun j hj hh2 e => ?_⟩
      obtain ⟨y, y1, y2, y3⟩ := drk_ex (B := B) 25 j (by omega)
      obtain rfl : y = bes c w := by
        have := hHO y y1 y2
        rw [y3, hh2] at this
        exact ((nI_eq (by omega) (by omega)).mp this).symm
      subst y3
      have yc : bes c w < c := Decidable.byContradiction fun h => by
        have := drk_m (B := B) (show c ≤ bes c w by omega)
        omega
      rw [thr_d hc yc y2] at e
      exact k.2 yc y2 (by omega)
  have e : b' = PV B code := by
    cases e1 : b'
    · exact (cdec_no fun z => by have := hiff.mpr z; rw [e1] at this; exact absurd this (by decide)).symm
    · exact (cdec_iff.mpr (hiff.mp e1)).symm
  rw [← e]
  exact h2
theorem dr_144 (hN : N ≤ 25) (hcd : code < 2 ^ 31) (hnf : 100 ≤ nf) : ∀ (d i n x : Nat), i + d = N → d < n → g_X9_darned_l144 nf n (nI N) (nI code) (nI x) (nI i) book hole = some (nI (dcr code N d i x), hole) := by
  intro d
  induction d with
  | zero =>
    intro i n x hi hn
    obtain ⟨n, rfl⟩ := pred_ex hn
    obtain rfl : i = N := by omega
    rw [g_X9_darned_l144, if_pos (nI_le (Nat.le_refl _) (by omega))]
    rfl
  | succ d ih =>
    intro i n x hi hn
    obtain ⟨n, rfl⟩ := pred_ex hn
    rw [g_X9_darned_l144, if_neg (nI_ge (show i < N by omega) (by omega)), s_th9 (show i < N by omega) hN hcd hnf, Option.bind_some, show (10 : Int32) * nI x = nI (10 * x) from pk_mul 10 x, nI_add, nI_1]
    exact ih (i + 1) n _ (by omega) (by omega)
theorem dr_61 {w : Nat} (hN : N ≤ 25) : ∀ (d i n x : Nat), i + d = N → d < n → g_X9_darned_l61 nf n (nI w) (nI N) (nI x) (nI i) book hole = g_X9_darned_l89 nf nf (nI w) (nI N) 0 (-6) (nI (x * 3 ^ d) - 1) book hole := by
  intro d
  induction d with
  | zero =>
    intro i n x hi hn
    obtain ⟨n, rfl⟩ := pred_ex hn
    obtain rfl : i = N := by omega
    rw [g_X9_darned_l61, if_pos (nI_le (Nat.le_refl _) (by omega)), Nat.pow_zero, Nat.mul_one]
  | succ d ih =>
    intro i n x hi hn
    obtain ⟨n, rfl⟩ := pred_ex hn
    rw [g_X9_darned_l61, if_neg (nI_ge (show i < N by omega) (by omega)), show nI x * (3 : Int32) = nI (x * 3) from pk_mul x 3, nI_1, ih (i + 1) n _ (by omega) (by omega), Nat.mul_assoc, Nat.pow_succ, Nat.mul_comm 3 (3 ^ d)]
theorem p3_9 (hN : N ≤ 9) : 3 ^ N ≤ 19683 := Nat.pow_le_pow_right (show 0 < 3 by decide) hN
theorem dr_89 {w : Nat} (hw : w < 2) (hN9 : drk B 25 ≤ 9) (hHO : HO B hole 25) (hM : MB book B) (hB : ∀ c, c < 25 → B c ≤ 5) (hnf : 100 ≤ nf) : ∀ (m n : Nat), m ≤ 3 ^ drk B 25 → m < n → g_X9_darned_l89 nf n (nI w) (nI (drk B 25)) (nI (dsc (PV B) m (3 ^ drk B 25 - m)).1) (oI (dsc (PV B) m (3 ^ drk B 25 - m)).2) (nI m + (-1)) book hole = some ((if w = 0 then nI (dsc (PV B) 0 (3 ^ drk B 25)).1 else oI ((dsc (PV B) 0 (3 ^ drk B 25)).2.map fun q => dcr q (drk B 25) (drk B 25) 0 0)), hole) := by
  have hT := p3_9 hN9
  intro m
  induction m with
  | zero =>
    intro n hm hn
    obtain ⟨n, rfl⟩ := pred_ex hn
    rw [g_X9_darned_l89, if_pos (by decide), Nat.sub_zero]
    unfold g_X9_darned_b126
    by_cases z : w = 0
    · subst z
      rw [if_pos (L_eq 0 rfl), if_pos rfl, if_pos (show nI 0 = 0 from rfl)]
    · rw [if_neg (L_ne 0 z (by omega) (by decide)), if_neg z]
      cases e : (dsc (PV B) 0 (3 ^ drk B 25)).2 with
      | none => rw [if_neg (show ¬ (0 : Int32) ≤ oI none from by decide), if_neg (L_ne 0 z (by omega) (by decide))]; rfl
      | some v =>
        have hv := dsc_in _ _ _ e
        rw [if_pos (show (0 : Int32) ≤ oI (some v) from nI_pos' (by omega))]
        exact dr_144 (by omega) (by omega) hnf (drk B 25) 0 nf 0 (by omega) (by omega)
  | succ m ih =>
    intro n hm hn
    obtain ⟨n, rfl⟩ := pred_ex hn
    have hi := ih n (by omega) (by omega)
    rw [show 3 ^ drk B 25 - m = (3 ^ drk B 25 - (m + 1)) + 1 by omega, dsc_s] at hi
    rw [pk_m1 m, g_X9_darned_l89, if_neg (nI_pos (by omega)), s_can hHO (by omega) hM hB hnf, Option.bind_some]
    unfold g_X9_darned_b111
    by_cases hp : PV B m = true
    · rw [if_pos hp] at hi
      rw [hp, if_neg dfl_t, nI_1]
      exact hi
    · rw [if_neg hp] at hi
      rw [Bool.eq_false_iff.mpr hp, if_pos dfl_f]
      exact hi
theorem dr_16 {w : Nat} (hM : MB book B) (hB : ∀ c, c < 25 → B c ≤ 5) : ∀ (d c n : Nat) (hole : Nat → Int32), c + d = 25 → d < n → HO B hole c → ∃ hole', HO B hole' 25 ∧ g_X9_darned_l16 nf n (nI w) (nI (drk B c)) (nI c) book hole = if drk B 25 ≤ 9 then g_X9_darned_l61 nf nf (nI w) (nI (drk B 25)) 1 0 book hole' else some (-3, hole') := by
  intro d
  induction d with
  | zero =>
    intro c n hole hc hn hH
    obtain ⟨n, rfl⟩ := pred_ex hn
    obtain rfl : c = 25 := by omega
    refine ⟨hole, hH, ?_⟩
    have hN := drk_le (B := B) (c := 25)
    rw [g_X9_darned_l16, if_pos (by decide)]
    by_cases e : drk B 25 ≤ 9
    · rw [if_pos (L_le 9 e (by decide)), if_pos e]
    · rw [if_neg (L_nle 9 (by omega) (by omega)), if_neg e]
  | succ d ih =>
    intro c n hole hc hn hH
    obtain ⟨n, rfl⟩ := pred_ex hn
    have hN := drk_le (B := B) (c := c)
    have h5 := hB c (by omega)
    by_cases e : B c = 0
    · have hi := ih (c + 1) n (upd hole (drk B c) (nI c)) (by omega) (by omega) (fun x hx hb => by
        by_cases z : x = c
        · subst z; rw [upd_eq]
        · have := drk_lt hb (show x < c by omega)
          rw [upd_ne (by omega)]
          exact hH x (by omega) hb)
      obtain ⟨hole', h1, h2⟩ := hi
      refine ⟨hole', h1, ?_⟩
      rw [drk_h e] at h2
      rw [g_X9_darned_l16, if_neg (L_nge 25 (by omega) (by decide)), ck_nI (show c < 63 by omega) (by decide), nI_clamp (show c < 2 ^ 31 by omega), hM c (by omega), if_pos (L_eq 0 e), ck_nI (show drk B c < 25 by omega) (by decide), nI_clamp (show drk B c < 2 ^ 31 by omega)]
      unfold g_X9_darned_b41
      rw [nI_1, nI_1]
      exact h2
    · have hi := ih (c + 1) n hole (by omega) (by omega) (fun x hx hb => by
        by_cases z : x = c
        · subst z; exact absurd hb e
        · exact hH x (by omega) hb)
      obtain ⟨hole', h1, h2⟩ := hi
      refine ⟨hole', h1, ?_⟩
      rw [drk_n e] at h2
      rw [g_X9_darned_l16, if_neg (L_nge 25 (by omega) (by decide)), ck_nI (show c < 63 by omega) (by decide), nI_clamp (show c < 2 ^ 31 by omega), hM c (by omega), if_neg (L_ne 0 e (by omega) (by decide))]
      unfold g_X9_darned_b41
      rw [nI_1]
      exact h2
theorem s_darned9 {w : Nat} (hw : w < 2) (hM : MB book B) (hB : ∀ c, c < 25 → B c ≤ 5) (hnf : 40000 ≤ nf) : ∃ hole', g_X9_darned nf (nI w) book hole = some ((if drk B 25 ≤ 9 then (if w = 0 then nI (dblk (PV B) (drk B 25) 0).1 else oI ((dblk (PV B) (drk B 25) 0).2.map fun q => dcr q (drk B 25) (drk B 25) 0 0)) else -3), hole') := by
  obtain ⟨hole', h1, h2⟩ := dr_16 (nf := nf) (w := w) hM hB 25 0 nf hole (by omega) (by omega) (fun x hx => absurd hx (Nat.not_lt_zero x))
  refine ⟨hole', ?_⟩
  unfold g_X9_darned
  rw [n_t (L_in 0 1 (Nat.zero_le w) (by omega) (by decide)), Option.bind_some, if_neg i1n0]
  have h3 : g_X9_darned_l16 nf nf (nI w) 0 0 book hole = _ := h2
  rw [h3]
  by_cases e : drk B 25 ≤ 9
  · have hT := p3_9 e
    have hp : 0 < 3 ^ drk B 25 := Nat.pow_pos (by decide)
    rw [if_pos e, if_pos e]
    have h4 : g_X9_darned_l61 nf nf (nI w) (nI (drk B 25)) 1 0 book hole' = _ := dr_61 (nf := nf) (w := w) (book := book) (hole := hole') (show drk B 25 ≤ 25 by omega) (drk B 25) 0 nf 1 (by omega) (by omega)
    have h5 := dr_89 (nf := nf) hw e h1 hM hB (by omega) (3 ^ drk B 25) nf (Nat.le_refl _) (by omega)
    rw [Nat.sub_self] at h5
    rw [h4, Nat.one_mul]
    unfold dblk
    rw [Nat.zero_mul]
    obtain ⟨T, hTT⟩ := pred_ex hp
    rw [hTT] at h5 ⊢
    rw [nI_pred, ← pk_m1 T]
    exact h5
  · rw [if_neg e, if_neg e]
end CDARN
