/-! ===== cells beside; sheets ===== -/
theorem tb_bes8 : ∀ c, c < 25 → ∀ w, w < 4 → g_X8_beside 0 (nI c) (nI w) = some (if bes c w < 25 then nI (bes c w) else -1) := by decide +kernel
theorem tb_bes9 : ∀ c, c < 25 → ∀ w, w < 4 → g_X9_beside 0 (nI c) (nI w) = some (if bes c w < 25 then nI (bes c w) else -6) := by decide +kernel
theorem bes8_nf (nf : Nat) (a b : Int32) : g_X8_beside nf a b = g_X8_beside 0 a b := rfl
theorem bes9_nf (nf : Nat) (a b : Int32) : g_X9_beside nf a b = g_X9_beside 0 a b := rfl
theorem s_bes8 {nf c w : Nat} (hc : c < 25) (hw : w < 4) : g_X8_beside nf (nI c) (nI w) = some (if bes c w < 25 then nI (bes c w) else -1) := tb_bes8 c hc w hw
theorem s_bes9 {nf c w : Nat} (hc : c < 25) (hw : w < 4) : g_X9_beside nf (nI c) (nI w) = some (if bes c w < 25 then nI (bes c w) else -6) := tb_bes9 c hc w hw
/-- the least place below n where P holds -/
def fst (P : Nat → Bool) : Nat → Option Nat
  | 0 => none
  | n + 1 => match fst P n with
    | some k => some k
    | none => if P n then some n else none
def isF (P : Nat → Bool) (n : Nat) (r : Option Nat) : Prop := (r = none ∧ ∀ i, i < n → P i = false) ∨ ∃ k, r = some k ∧ k < n ∧ P k = true ∧ ∀ i, i < k → P i = false
theorem fst_is (P : Nat → Bool) : ∀ n, isF P n (fst P n)
  | 0 => Or.inl ⟨rfl, fun i hi => absurd hi (Nat.not_lt_zero i)⟩
  | n + 1 => by
    rcases fst_is P n with ⟨h1, h2⟩ | ⟨k, h1, h2, h3, h4⟩
    · rw [fst, h1]
      by_cases hp : P n = true
      · exact Or.inr ⟨n, by simp [hp], by omega, hp, h2⟩
      · refine Or.inl ⟨by simp [hp], fun i hi => ?_⟩
        by_cases e : i = n
        · subst e; simpa using hp
        · exact h2 i (by omega)
    · rw [fst, h1]
      exact Or.inr ⟨k, rfl, by omega, h3, h4⟩
theorem isF_one {P : Nat → Bool} {n : Nat} {r s : Option Nat} (h : isF P n r) (g : isF P n s) : r = s := by
  rcases h with ⟨h1, h2⟩ | ⟨k, h1, h2, h3, h4⟩ <;> rcases g with ⟨g1, g2⟩ | ⟨j, g1, g2, g3, g4⟩
  · rw [h1, g1]
  · rw [h2 j g2] at g3; cases g3
  · rw [g2 k h2] at h3; cases h3
  · rw [h1, g1]
    rcases Nat.lt_trichotomy k j with q | q | q
    · rw [g4 k q] at h3; cases h3
    · rw [q]
    · rw [h4 j q] at g3; cases g3
def shS (B : Nat → Nat) (c : Nat) : Nat := 1000 * B c + 100 * B (c + 1) + 10 * B (c + 5) + B (c + 6)
def shP (B : Nat → Nat) (v : Nat) (c : Nat) : Bool := decide (c % 5 < 4 ∧ c < 20 ∧ shS B c = v)
theorem sh_four {nf c : Nat} {lands : Nat → Int32} {B : Nat → Nat} (h : ∀ c, c < 25 → lands c = nI (B c)) (hc : c < 25) : g_X1_fourLandsFrom nf (nI c) lands = some (if c % 5 < 4 ∧ c < 20 then nI (shS B c) else -1) := by
  have b1 : g_X8_beside nf (nI c) 1 = some (if bes c 1 < 25 then nI (bes c 1) else -1) := s_bes8 (w := 1) hc (by decide)
  have b2 : g_X8_beside nf (nI c) 2 = some (if bes c 2 < 25 then nI (bes c 2) else -1) := s_bes8 (w := 2) hc (by decide)
  have e1 : bes c 1 = if c % 5 < 4 then c + 1 else 25 := rfl
  have e2 : bes c 2 = if c < 20 then c + 5 else 25 := rfl
  unfold g_X1_fourLandsFrom
  rw [b1, Option.bind_some, b2, Option.bind_some]
  by_cases q1 : c % 5 < 4
  · rw [e1, if_pos q1, if_pos (show c + 1 < 25 by omega), c8_t (L_in 0 24 (by omega) (by omega) (by decide)), Option.bind_some, if_neg (by decide)]
    by_cases q2 : c < 20
    · rw [e2, if_pos q2, if_pos (show c + 5 < 25 by omega), c8_t (L_in 0 24 (by omega) (by omega) (by decide)), Option.bind_some, if_neg (by decide), show nI (c + 5) + 1 = nI (c + 6) from nI_1 _, c8_t (L_in 0 24 (by omega) (by omega) (by decide)), Option.bind_some, if_neg (by decide), ck_nI hc (by decide), ck_nI (by omega) (by decide), ck_nI (by omega) (by decide), ck_nI (by omega) (by decide), nI_clamp (by omega), nI_clamp (by omega), nI_clamp (by omega), nI_clamp (by omega), h c hc, h (c + 1) (by omega), h (c + 5) (by omega), h (c + 6) (by omega), if_pos ⟨q1, q2⟩, show (1000 : Int32) = nI 1000 from rfl, show (100 : Int32) = nI 100 from rfl, show (10 : Int32) = nI 10 from rfl, pk_mul, pk_mul, pk_mul, nI_add, nI_add, nI_add]
      rfl
    · rw [e2, if_neg q2, if_neg (show ¬ 25 < 25 by omega), c8_f (by decide), Option.bind_some, if_pos rfl, if_neg (fun h => q2 h.2)]
  · rw [e1, if_neg q1, if_neg (show ¬ 25 < 25 by omega), c8_f (by decide), Option.bind_some, if_pos rfl, if_neg (fun h => q1 h.1)]
def oI : Option Nat → Int32
  | none => -6
  | some k => nI k
theorem nI_m6 {k : Nat} (h : k < 2 ^ 31) : ¬ nI k = -6 := by
  intro e
  have := congrArg Int32.toInt e
  rw [nI_toInt h] at this
  have h2 : (-6 : Int32).toInt = -6 := by decide
  rw [h2] at this
  omega
theorem nI_m1 {k : Nat} (h : k < 2 ^ 31) : ¬ -1 = nI k := by
  intro e
  have := congrArg Int32.toInt e
  rw [nI_toInt h] at this
  have h2 : (-1 : Int32).toInt = -1 := by decide
  rw [h2] at this
  omega
theorem sh_28 {nf v w : Nat} {lands : Nat → Int32} {B : Nat → Nat} (h : ∀ c, c < 25 → lands c = nI (B c)) (hB : ∀ c, c < 25 → B c ≤ 5) (hv : v < 10000) (hw : w < 2) : ∀ (m x n : Nat), x + m = 25 → m < n → g_X8_sheet_l28 nf n (nI v) (nI w) (nI (cnt (shP B v) x)) (oI (fst (shP B v) x)) (nI x) lands = some (if w = 0 then nI (cnt (shP B v) 25) else oI (fst (shP B v) 25)) := by
  intro m
  induction m with
  | zero =>
    intro x n hx hn
    obtain ⟨n, rfl⟩ := pred_ex hn
    obtain rfl : x = 25 := by omega
    rw [g_X8_sheet_l28, if_pos (by decide)]
    by_cases c : w = 0
    · subst c; rw [if_pos (L_eq 0 rfl), if_pos rfl]
    · rw [if_neg (L_ne 0 c (by omega) (by decide)), if_neg c]
  | succ m ih =>
    intro x n hx hn
    obtain ⟨n, rfl⟩ := pred_ex hn
    have hi := ih (x + 1) n (by omega) (by omega)
    rw [g_X8_sheet_l28, if_neg (L_nge 25 (by omega) (by decide)), sh_four h (by omega), Option.bind_some]
    simp only [g_X8_sheet_b65, g_X8_sheet_b67, nI_1]
    rw [cnt, fst] at hi
    by_cases q : x % 5 < 4 ∧ x < 20
    · have hb : shS B x < 2 ^ 31 := by
        have h1 := hB x (by omega); have h2 := hB (x + 1) (by omega); have h3 := hB (x + 5) (by omega); have h4 := hB (x + 6) (by omega)
        unfold shS; omega
      rw [if_pos q]
      by_cases e : shS B x = v
      · have hp : shP B v x = true := decide_eq_true ⟨q.1, q.2, e⟩
        rw [if_pos (show nI (shS B x) = nI v by rw [e])]
        rw [hp] at hi
        cases hf : fst (shP B v) x with
        | none =>
          rw [hf] at hi
          rw [if_pos (show oI none = -6 from rfl)]
          exact hi
        | some k =>
          rw [hf] at hi
          have hk : k < x := by
            rcases fst_is (shP B v) x with ⟨g1, -⟩ | ⟨j, g1, g2, -⟩
            · rw [hf] at g1; cases g1
            · rw [hf] at g1; cases g1; exact g2
          rw [if_neg (show ¬ oI (some k) = -6 from nI_m6 (by omega))]
          exact hi
      · have hp : shP B v x = false := decide_eq_false (fun z => e z.2.2)
        rw [if_neg (fun z => e ((nI_eq hb (by omega)).mp z))]
        rw [hp] at hi
        cases hf : fst (shP B v) x with
        | none => rw [hf] at hi; exact hi
        | some k => rw [hf] at hi; exact hi
    · have hp : shP B v x = false := decide_eq_false (fun z => q ⟨z.1, z.2.1⟩)
      rw [if_neg q, if_neg (nI_m1 (by omega))]
      rw [hp] at hi
      cases hf : fst (shP B v) x with
      | none => rw [hf] at hi; exact hi
      | some k => rw [hf] at hi; exact hi
def inv89 (P : Nat → Bool) (m : Nat) (r : Option Nat) : Prop := (r = none ∧ ∀ i, m ≤ i → i < 19 → P i = false) ∨ ∃ k, r = some k ∧ m ≤ k ∧ k < 19 ∧ P k = true ∧ ∀ i, m ≤ i → i < k → P i = false
theorem ck63 {α : Type} {e : Option α} {j : Nat} (h : j < 63) : ck (nI j) 63 e = e := ck_nI h (by decide)
theorem sh_89 {nf v w : Nat} {book : Nat → Int32} {B : Nat → Nat} (h : MB book B) (hB : ∀ c, c < 25 → B c ≤ 5) (hv : v < 10000) (hw : w < 2) : ∀ (m n t : Nat) (r : Option Nat), m ≤ 19 → m < n → t + cnt (shP B v) m = cnt (shP B v) 19 → inv89 (shP B v) m r → g_X9_sheet_l89 nf n (nI v) (nI w) (nI t) (oI r) (nI m + (-1)) book = some (if w = 0 then nI (cnt (shP B v) 19) else oI (fst (shP B v) 19)) := by
  intro m
  induction m with
  | zero =>
    intro n t r hm hn ht hr
    obtain ⟨n, rfl⟩ := pred_ex hn
    have e1 : t = cnt (shP B v) 19 := ht
    have e2 : r = fst (shP B v) 19 := by
      refine isF_one ?_ (fst_is (shP B v) 19)
      rcases hr with ⟨g1, g2⟩ | ⟨k, g1, g2, g3, g4, g5⟩
      · exact Or.inl ⟨g1, fun i hi => g2 i (Nat.zero_le _) hi⟩
      · exact Or.inr ⟨k, g1, g3, g4, fun i hi => g5 i (Nat.zero_le _) hi⟩
    rw [g_X9_sheet_l89, if_pos (by decide), e1, e2]
    by_cases c : w = 0
    · subst c; rw [if_pos (L_eq 0 rfl), if_pos rfl]
    · rw [if_neg (L_ne 0 c (by omega) (by decide)), if_neg c]
  | succ c ih =>
    intro n t r hm hn ht hr
    obtain ⟨n, rfl⟩ := pred_ex hn
    rw [pk_m1 c]
    rw [cnt] at ht
    have eR : nI c - nI c / 5 * 5 = nI (c % 5) := pk_rem (d := 5) (by omega) (by decide) (by decide)
    rw [g_X9_sheet_l89, if_neg (nI_pos (by omega)), eR]
    simp only [g_X9_sheet_b158, g_X9_sheet_b159, g_X9_sheet_b173, g_X9_sheet_b188, i00, i10, if_true, if_false]
    -- the cell fits, or not
    have no : shP B v c = false → g_X9_sheet_l89 nf n (nI v) (nI w) (nI t + 0) (oI r) (nI c + (-1)) book = some (if w = 0 then nI (cnt (shP B v) 19) else oI (fst (shP B v) 19)) := by
      intro hp
      rw [hp] at ht
      rw [show nI t + 0 = nI t from by rw [nI0, nI_add]; rfl]
      refine ih n t r (by omega) (by omega) (by simpa using ht) ?_
      rcases hr with ⟨g1, g2⟩ | ⟨k, g1, g2, g3, g4, g5⟩
      · refine Or.inl ⟨g1, fun i h1 h2 => ?_⟩
        by_cases e : i = c
        · subst e; exact hp
        · exact g2 i (by omega) h2
      · refine Or.inr ⟨k, g1, by omega, g3, g4, fun i h1 h2 => ?_⟩
        by_cases e : i = c
        · subst e; exact hp
        · exact g5 i (by omega) h2
    by_cases q : c % 5 < 4
    · rw [if_neg (L_nge 4 q (by decide)), show nI c + 1 = nI (c + 1) from nI_1 c, show nI c + 5 = nI (c + 5) from nI_add c 5, show nI c + 6 = nI (c + 6) from nI_add c 6, ck63 (by omega), ck63 (by omega), ck63 (by omega), ck63 (by omega), nI_clamp (by omega), nI_clamp (by omega), nI_clamp (by omega), nI_clamp (by omega), h c (by omega), h (c + 1) (by omega), h (c + 5) (by omega), h (c + 6) (by omega), show (1000 : Int32) = nI 1000 from rfl, show (100 : Int32) = nI 100 from rfl, show (10 : Int32) = nI 10 from rfl, pk_mul, pk_mul, pk_mul, nI_add, nI_add, nI_add]
      have hb : 1000 * B c + 100 * B (c + 1) + 10 * B (c + 5) + B (c + 6) < 2 ^ 31 := by
        have h1 := hB c (by omega); have h2 := hB (c + 1) (by omega); have h3 := hB (c + 5) (by omega); have h4 := hB (c + 6) (by omega)
        omega
      by_cases e : 1000 * B c + 100 * B (c + 1) + 10 * B (c + 5) + B (c + 6) = v
      · have hp : shP B v c = true := decide_eq_true ⟨q, by omega, e⟩
        rw [hp] at ht
        rw [if_pos (show nI (1000 * B c + 100 * B (c + 1) + 10 * B (c + 5) + B (c + 6)) = nI v by rw [e]), show nI t + 1 = nI (t + 1) from nI_1 t]
        refine ih n (t + 1) (some c) (by omega) (by omega) (by simp at ht; omega) (Or.inr ⟨c, rfl, Nat.le_refl _, by omega, hp, fun i h1 h2 => by omega⟩)
      · rw [if_neg (fun z => e ((nI_eq hb (by omega)).mp z))]
        exact no (decide_eq_false (fun z => e z.2.2))
    · rw [if_pos (L_ge 4 (by omega) (by omega))]
      exact no (decide_eq_false (fun z => q z.1))
theorem shP_19 {B : Nat → Nat} {v : Nat} : ∀ i, 19 ≤ i → i < 25 → shP B v i = false := fun i h1 h2 => decide_eq_false (fun z => by omega)
theorem sh_cnt {B : Nat → Nat} {v : Nat} : cnt (shP B v) 25 = cnt (shP B v) 19 := by
  rw [show (25 : Nat) = 19 + 6 from rfl, cnt_add, cnt_zero (fun k hk => shP_19 (19 + k) (by omega) (by omega)), Nat.add_zero]
theorem sh_fst {B : Nat → Nat} {v : Nat} : fst (shP B v) 25 = fst (shP B v) 19 := by
  refine isF_one (n := 25) (fst_is _ 25) ?_
  rcases fst_is (shP B v) 19 with ⟨g1, g2⟩ | ⟨k, g1, g2, g3, g4⟩
  · refine Or.inl ⟨g1, fun i hi => ?_⟩
    rcases Nat.lt_or_ge i 19 with q | q
    · exact g2 i q
    · exact shP_19 i q hi
  · exact Or.inr ⟨k, g1, by omega, g3, g4⟩
def dok : Nat → Nat → Bool
  | 0, _ => true
  | m + 1, L => decide (L % 10 < 6) && dok m (L / 10)
theorem sh_32f {nf : Nat} {x1 x2 : Int32} {book : Nat → Int32} : ∀ (m x n : Nat) (x4 : Int32), x + m = 4 → m < n → g_X9_sheet_l32 nf n x1 x2 0 x4 (nI x) book = some (-2) := by
  intro m
  induction m with
  | zero =>
    intro x n x4 hx hn
    obtain ⟨n, rfl⟩ := pred_ex hn
    obtain rfl : x = 4 := by omega
    rw [g_X9_sheet_l32, if_pos (by decide), if_pos rfl]
  | succ m ih =>
    intro x n x4 hx hn
    obtain ⟨n, rfl⟩ := pred_ex hn
    rw [g_X9_sheet_l32, if_neg (L_nge 4 (by omega) (by decide)), if_pos rfl]
    simp only [g_X9_sheet_b56, g_X9_sheet_b57, nI_1]
    exact ih (x + 1) n _ (by omega) (by omega)
theorem sh_32 {nf : Nat} {x1 x2 : Int32} {book : Nat → Int32} : ∀ (m x n L : Nat), x + m = 4 → m < n → L < 2 ^ 31 → g_X9_sheet_l32 nf n x1 x2 1 (nI L) (nI x) book = if dok m L = true then g_X9_sheet_l89 nf nf x1 x2 0 (-6) 18 book else some (-2) := by
  intro m
  induction m with
  | zero =>
    intro x n L hx hn hL
    obtain ⟨n, rfl⟩ := pred_ex hn
    obtain rfl : x = 4 := by omega
    rw [g_X9_sheet_l32, if_pos (by decide), if_neg (by decide), dok, if_pos rfl]
  | succ m ih =>
    intro x n L hx hn hL
    obtain ⟨n, rfl⟩ := pred_ex hn
    have eR : nI L - nI L / 10 * 10 = nI (L % 10) := pk_rem (d := 10) hL (by decide) (by decide)
    have eD : nI L / 10 = nI (L / 10) := pk_div (d := 10) hL (by decide) (by decide)
    rw [g_X9_sheet_l32, if_neg (L_nge 4 (by omega) (by decide)), if_neg (by decide), eR]
    simp only [g_X9_sheet_b56, g_X9_sheet_b57, nI_1, eD]
    rw [dok]
    by_cases c : L % 10 < 6
    · rw [if_neg (L_nge 6 c (by decide)), decide_eq_true c, Bool.true_and]
      exact ih (x + 1) n (L / 10) (by omega) (by omega) (by omega)
    · rw [if_pos (L_ge 6 (by omega) (by omega)), decide_eq_false c, Bool.false_and, if_neg (by decide)]
      exact sh_32f m (x + 1) n _ (by omega) (by omega)
theorem dok_4 (v : Nat) : dok 4 v = decide (v % 10 < 6 ∧ v / 10 % 10 < 6 ∧ v / 10 / 10 % 10 < 6 ∧ v / 10 / 10 / 10 % 10 < 6) := by
  simp [dok, Bool.and_assoc]
theorem s_four {nf v : Nat} (hv : v ≤ 9999) : g_X8_areFourLands nf (nI v) = some (if dok 4 v = true then 1 else 0) := by
  have e3 : nI v / 1000 = nI (v / 1000) := pk_div (d := 1000) (by omega) (by decide) (by decide)
  have e2 : nI v / 100 = nI (v / 100) := pk_div (d := 100) (by omega) (by decide) (by decide)
  have e1 : nI v / 10 = nI (v / 10) := pk_div (d := 10) (by omega) (by decide) (by decide)
  have r2 : nI (v / 100) - nI (v / 100) / 10 * 10 = nI (v / 100 % 10) := pk_rem (d := 10) (by omega) (by decide) (by decide)
  have r1 : nI (v / 10) - nI (v / 10) / 10 * 10 = nI (v / 10 % 10) := pk_rem (d := 10) (by omega) (by decide) (by decide)
  have r0 : nI v - nI v / 10 * 10 = nI (v % 10) := pk_rem (d := 10) (by omega) (by decide) (by decide)
  unfold g_X8_areFourLands
  rw [w_t (L_in 0 9999 (Nat.zero_le _) hv (by decide)), Option.bind_some, if_neg (by decide), r0, e3, e2, e1, r2, r1]
  have hd : dok 4 v = true ↔ (v % 10 < 6 ∧ v / 10 % 10 < 6 ∧ v / 100 % 10 < 6 ∧ v / 1000 < 6) := by
    rw [dok_4, decide_eq_true_iff, Nat.div_div_eq_div_mul, Nat.div_div_eq_div_mul]
    constructor
    · intro h; omega
    · intro h; omega
  by_cases c3 : v / 1000 < 6
  · rw [if_neg (L_ngt 5 (by omega) (by decide))]
    by_cases c2 : v / 100 % 10 < 6
    · rw [if_neg (L_ngt 5 (by omega) (by decide))]
      by_cases c1 : v / 10 % 10 < 6
      · rw [if_neg (L_ngt 5 (by omega) (by decide))]
        by_cases c0 : v % 10 < 6
        · rw [if_neg (L_ngt 5 (by omega) (by decide)), if_pos (hd.mpr ⟨c0, c1, c2, c3⟩)]; rfl
        · rw [if_pos (L_gt 5 (by omega) (by omega)), if_neg (fun h => c0 (hd.mp h).1)]; rfl
      · rw [if_pos (L_gt 5 (by omega) (by omega)), if_neg (fun h => c1 (hd.mp h).2.1)]; rfl
    · rw [if_pos (L_gt 5 (by omega) (by omega)), if_neg (fun h => c2 (hd.mp h).2.2.1)]; rfl
  · rw [if_pos (L_gt 5 (by omega) (by omega)), if_neg (fun h => c3 (hd.mp h).2.2.2)]; rfl
theorem st_sheet : St_sheet := by
  intro n_lands n_camphors n_there n_mothCells n_mothHeads n_threads n_sightNights n_sightCells n_sights n_night u_lands u_camphors u_there u_mothCells u_mothHeads u_threads u_sightNights u_sightCells u_sights u_night v_lands v_camphors v_there v_mothCells v_mothHeads v_threads v_sightNights v_sightCells v_sights v_night kept p_signs p_size t_next_ book sights sight signs pad image isKept p1 p2 hR
  obtain ⟨⟨B, S, SS, hW, hDB, hMB, hWS, hDS, hMS⟩, hRP, hI0, hI1, hRT⟩ := hR
  suffices h : ∃ r : Int32, g_X8_sheet 100 p1 p2 n_lands = some r ∧ g_X9_sheet 100 p1 p2 book = some r by
    obtain ⟨r, h1, h2⟩ := h
    exact ⟨100, r, r, h1, h2, rfl, ⟨B, S, SS, hW, hDB, hMB, hWS, hDS, hMS⟩, hRP, hI0, hI1, hRT⟩
  have out9 : ∀ q : Int32, g_X9_sheet_b25 100 q p2 0 book = some (-2) := fun q => sh_32f 4 0 100 q (by omega) (by omega)
  by_cases c1 : 0 ≤ p1 ∧ p1 ≤ 9999
  · obtain ⟨v, hv, rfl⟩ := rngN (k := 9999) (by decide) c1
    by_cases c2 : 0 ≤ p2 ∧ p2 ≤ 1
    · obtain ⟨w, hw, rfl⟩ := rngN (k := 1) (by decide) c2
      by_cases c3 : dok 4 v = true
      · have hd := dok_4 v
        rw [c3] at hd
        have hd2 := of_decide_eq_true hd.symm
        have hv2 : v ≤ 5555 := by omega
        refine ⟨if w = 0 then nI (cnt (shP B v) 25) else oI (fst (shP B v) 25), ?_, ?_⟩
        · unfold g_X8_sheet
          rw [s_four hv, if_pos c3, Option.bind_some, if_neg (by decide), w_t c2, Option.bind_some, if_neg (by decide)]
          exact sh_28 hDB.1 hW.1 (by omega) (by omega) 25 0 100 (by omega) (by omega)
        · unfold g_X9_sheet
          rw [n_t (L_in 0 5555 (Nat.zero_le _) hv2 (by decide)), Option.bind_some, if_neg (by decide), n_t c2, Option.bind_some, if_neg (by decide)]
          unfold g_X9_sheet_b25
          rw [show (0 : Int32) = nI 0 from rfl, sh_32 4 0 100 v (by omega) (by omega) (by omega), if_pos c3, sh_cnt, sh_fst]
          exact sh_89 hMB hW.1 (by omega) (by omega) 19 100 0 none (by omega) (by omega) (by omega) (Or.inl ⟨rfl, fun i h1 h2 => by omega⟩)
      · refine ⟨-2, ?_, ?_⟩
        · unfold g_X8_sheet
          rw [s_four hv, if_neg c3, Option.bind_some, if_pos rfl]
        · unfold g_X9_sheet
          by_cases c4 : v ≤ 5555
          · rw [n_t (L_in 0 5555 (Nat.zero_le _) c4 (by decide)), Option.bind_some, if_neg (by decide), n_t c2, Option.bind_some, if_neg (by decide)]
            unfold g_X9_sheet_b25
            rw [show (0 : Int32) = nI 0 from rfl, sh_32 4 0 100 v (by omega) (by omega) (by omega), if_neg c3]
          · rw [n_f (fun h => L_nle 5555 (by omega) (by omega) h.2), Option.bind_some, if_pos rfl]
            exact out9 _
    · refine ⟨-2, ?_, ?_⟩
      · unfold g_X8_sheet
        rw [s_four hv, Option.bind_some]
        by_cases c3 : dok 4 v = true
        · rw [if_pos c3, if_neg (by decide), w_f c2, Option.bind_some, if_pos rfl]
        · rw [if_neg c3, if_pos rfl]
      · unfold g_X9_sheet
        by_cases c4 : v ≤ 5555
        · rw [n_t (L_in 0 5555 (Nat.zero_le _) c4 (by decide)), Option.bind_some, if_neg (by decide), n_f c2, Option.bind_some, if_pos rfl]
          exact out9 _
        · rw [n_f (fun h => L_nle 5555 (by omega) (by omega) h.2), Option.bind_some, if_pos rfl]
          exact out9 _
  · refine ⟨-2, ?_, ?_⟩
    · unfold g_X8_sheet g_X8_areFourLands
      rw [w_f c1, Option.bind_some, if_pos rfl]; rfl
    · unfold g_X9_sheet
      rw [n_f (fun h => c1 ⟨h.1, Int32.le_trans h.2 (by decide)⟩), Option.bind_some, if_pos rfl]
      exact out9 _
