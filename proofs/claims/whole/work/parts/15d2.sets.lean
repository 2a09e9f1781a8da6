/-! ===== sets of cells as bits ===== -/
def adn (a b : Nat) : Nat := a ^^^ (a &&& b)
theorem adn_bit (a b i : Nat) : (adn a b).testBit i = (a.testBit i && !b.testBit i) := by
  unfold adn
  rw [Nat.testBit_xor, Nat.testBit_and]
  cases a.testBit i <;> cases b.testBit i <;> rfl
theorem adn_lt {a b n : Nat} (h : a < 2 ^ n) : adn a b < 2 ^ n := Nat.xor_lt_two_pow h (by rw [Nat.and_comm]; exact Nat.and_lt_two_pow b h)
theorem an_not (a b : Nat) : nI a &&& (nI b ^^^ ((-1) : Int32)) = nI (adn a b) := by
  unfold adn
  rw [← xo_I, ← an_I]
  generalize nI a = x
  generalize nI b = y
  apply Int32.toBitVec_inj.mp
  rw [Int32.toBitVec_and, Int32.toBitVec_xor, Int32.toBitVec_xor, Int32.toBitVec_and]
  apply BitVec.eq_of_getLsbD_eq
  intro i hi
  rw [BitVec.getLsbD_and, BitVec.getLsbD_xor, BitVec.getLsbD_xor, BitVec.getLsbD_and, show ((-1 : Int32).toBitVec) = BitVec.allOnes 32 from by decide, BitVec.getLsbD_allOnes, decide_eq_true hi]
  cases x.toBitVec.getLsbD i <;> cases y.toBitVec.getLsbD i <;> rfl
theorem shlN {m k : Nat} (hk : k < 32) (h : m * 2 ^ k < 2 ^ 32) : nI m <<< (nI k &&& 31) = nI (m * 2 ^ k) := pk_shlN _ k (s_l k hk) h
def AB (x : Nat) : Nat := ((x / 2 ^ 5 ||| (x * 2 ^ 5 &&& (2 ^ 25 - 1))) ||| adn x 17318416 * 2 ^ 1) ||| adn x 1082401 / 2 ^ 1
theorem s_AB {nf x : Nat} (hx : x < 2 ^ 25) : g_X8_allBeside nf (nI x) = some (nI (AB x)) := by
  have h1 := adn_lt (b := 17318416) hx
  have h2 := adn_lt (b := 1082401) hx
  have e1 : nI x >>> ((5 : Int32) &&& 31) = nI (x / 2 ^ 5) := shrN (k := 5) (by omega) (by decide)
  have e2 : nI x <<< ((5 : Int32) &&& 31) = nI (x * 2 ^ 5) := shlN (k := 5) (by decide) (by omega)
  have e3 : nI (x * 2 ^ 5) &&& (33554431 : Int32) = nI (x * 2 ^ 5 &&& (2 ^ 25 - 1)) := an_I _ (2 ^ 25 - 1)
  have e4 : (1082401 : Int32) <<< ((4 : Int32) &&& 31) = nI 17318416 := by decide
  have e5 : nI x &&& (nI 17318416 ^^^ ((-1) : Int32)) = nI (adn x 17318416) := an_not x 17318416
  have e6 : nI x &&& ((1082401 : Int32) ^^^ ((-1) : Int32)) = nI (adn x 1082401) := an_not x 1082401
  have e7 : nI (adn x 17318416) <<< ((1 : Int32) &&& 31) = nI (adn x 17318416 * 2 ^ 1) := shlN (k := 1) (by decide) (by omega)
  have e8 : nI (adn x 1082401) >>> ((1 : Int32) &&& 31) = nI (adn x 1082401 / 2 ^ 1) := shrN (k := 1) (by omega) (by decide)
  unfold g_X8_allBeside AB
  rw [e4, e5, e6, e7, e8, e1, e2, e3, or_I, or_I, or_I]
theorem tz {x j : Nat} (hx : x < 2 ^ 25) (hj : 25 ≤ j) : x.testBit j = false := Nat.testBit_lt_two_pow (Nat.lt_of_lt_of_le hx (Nat.pow_le_pow_right (by decide) hj))
theorem tlt {x j : Nat} (hx : x < 2 ^ 25) (h : x.testBit j = true) : j < 25 := Decidable.byContradiction fun z => by rw [tz hx (by omega)] at h; exact absurd h (by decide)
theorem tE : ∀ i, i < 25 → (17318416 : Nat).testBit i = decide (i % 5 = 4) := by decide +kernel
theorem tW : ∀ i, i < 25 → (1082401 : Nat).testBit i = decide (i % 5 = 0) := by decide +kernel
theorem AB_raw (x c : Nat) : (AB x).testBit c = (((x.testBit (c + 5) || ((decide (5 ≤ c) && x.testBit (c - 5)) && decide (c < 25))) || (decide (1 ≤ c) && (x.testBit (c - 1) && !(17318416 : Nat).testBit (c - 1)))) || (x.testBit (c + 1) && !(1082401 : Nat).testBit (c + 1))) := by
  unfold AB
  rw [Nat.testBit_or, Nat.testBit_or, Nat.testBit_or, Nat.testBit_div_two_pow, Nat.testBit_and, Nat.testBit_two_pow_sub_one, Nat.testBit_mul_two_pow, Nat.testBit_mul_two_pow, Nat.testBit_div_two_pow, adn_bit, adn_bit]
theorem AB_lt {x : Nat} (hx : x < 2 ^ 25) : AB x < 2 ^ 25 := by
  apply Nat.lt_pow_two_of_testBit
  intro i hi
  rw [AB_raw, tz hx (show 25 ≤ i + 5 by omega), tz hx (show 25 ≤ i + 1 by omega), decide_eq_false (show ¬ i < 25 by omega)]
  by_cases e : i = 25
  · subst e
    rw [show (17318416 : Nat).testBit (25 - 1) = true from by decide]
    simp
  · rw [tz hx (show 25 ≤ i - 1 by omega)]
    simp
theorem bes0 {c : Nat} (h : 5 ≤ c) : bes c 0 = c - 5 := by unfold bes; rw [if_pos rfl, if_pos h]
theorem bes1 {c : Nat} (h : c % 5 < 4) : bes c 1 = c + 1 := by unfold bes; rw [if_neg (by decide), if_pos rfl, if_pos h]
theorem bes2 {c : Nat} (h : c < 20) : bes c 2 = c + 5 := by unfold bes; rw [if_neg (by decide), if_neg (by decide), if_pos rfl, if_pos h]
theorem bes3 {c : Nat} (h : 0 < c % 5) : bes c 3 = c - 1 := by unfold bes; rw [if_neg (by decide), if_neg (by decide), if_neg (by decide), if_pos h]
theorem bes0n {c : Nat} (h : ¬ 5 ≤ c) : bes c 0 = 25 := by unfold bes; rw [if_pos rfl, if_neg h]
theorem bes1n {c : Nat} (h : ¬ c % 5 < 4) : bes c 1 = 25 := by unfold bes; rw [if_neg (by decide), if_pos rfl, if_neg h]
theorem bes2n {c : Nat} (h : ¬ c < 20) : bes c 2 = 25 := by unfold bes; rw [if_neg (by decide), if_neg (by decide), if_pos rfl, if_neg h]
theorem bes3n {c : Nat} (h : ¬ 0 < c % 5) : bes c 3 = 25 := by unfold bes; rw [if_neg (by decide), if_neg (by decide), if_neg (by decide), if_neg h]
theorem AB_bit {x c : Nat} (hx : x < 2 ^ 25) (hc : c < 25) : (AB x).testBit c = true ↔ ∃ w, w < 4 ∧ bes c w < 25 ∧ x.testBit (bes c w) = true := by
  rw [AB_raw]
  constructor
  · intro h
    rw [Bool.or_eq_true, Bool.or_eq_true, Bool.or_eq_true, Bool.and_eq_true, Bool.and_eq_true, Bool.and_eq_true, Bool.and_eq_true, Bool.and_eq_true, decide_eq_true_eq, decide_eq_true_eq, decide_eq_true_eq] at h
    rcases h with ((h | h) | h) | h
    · have := tlt hx h
      exact ⟨2, by decide, by rw [bes2 (by omega)]; omega, by rw [bes2 (by omega)]; exact h⟩
    · exact ⟨0, by decide, by rw [bes0 h.1.1]; omega, by rw [bes0 h.1.1]; exact h.1.2⟩
    · have h1 := h.1
      have h3 := h.2.2
      rw [tE (c - 1) (by omega)] at h3
      have h4 : ¬ (c - 1) % 5 = 4 := fun z => by rw [decide_eq_true z] at h3; exact absurd h3 (by decide)
      exact ⟨3, by decide, by rw [bes3 (by omega)]; omega, by rw [bes3 (by omega)]; exact h.2.1⟩
    · have h1 := tlt hx h.1
      have h3 := h.2
      rw [tW (c + 1) (by omega)] at h3
      have h4 : ¬ (c + 1) % 5 = 0 := fun z => by rw [decide_eq_true z] at h3; exact absurd h3 (by decide)
      exact ⟨1, by decide, by rw [bes1 (by omega)]; omega, by rw [bes1 (by omega)]; exact h.1⟩
  · rintro ⟨w, hw, hb, hw2⟩
    rw [Bool.or_eq_true, Bool.or_eq_true, Bool.or_eq_true, Bool.and_eq_true, Bool.and_eq_true, Bool.and_eq_true, Bool.and_eq_true, Bool.and_eq_true, decide_eq_true_eq, decide_eq_true_eq, decide_eq_true_eq]
    match w, hw with
    | 0, _ =>
      by_cases e : 5 ≤ c
      · rw [bes0 e] at hw2; exact Or.inl (Or.inl (Or.inr ⟨⟨e, hw2⟩, hc⟩))
      · rw [bes0n e] at hb; omega
    | 1, _ =>
      by_cases e : c % 5 < 4
      · rw [bes1 e] at hw2
        have h1 := tlt hx hw2
        refine Or.inr ⟨hw2, ?_⟩
        rw [tW (c + 1) h1, decide_eq_false (by omega)]; rfl
      · rw [bes1n e] at hb; omega
    | 2, _ =>
      by_cases e : c < 20
      · rw [bes2 e] at hw2; exact Or.inl (Or.inl (Or.inl hw2))
      · rw [bes2n e] at hb; omega
    | 3, _ =>
      by_cases e : 0 < c % 5
      · rw [bes3 e] at hw2
        refine Or.inl (Or.inr ⟨by omega, hw2, ?_⟩)
        rw [tE (c - 1) (by omega), decide_eq_false (by omega)]; rfl
      · rw [bes3n e] at hb; omega
theorem bes_sym : ∀ c, c < 25 → ∀ w, w < 4 → bes c w < 25 → (w + 2) % 4 < 4 ∧ bes (bes c w) ((w + 2) % 4) = c := by decide +kernel
/-- the cells beside those of a set -/
theorem AB_of {x c w : Nat} (hx : x < 2 ^ 25) (hc : c < 25) (hw : w < 4) (hb : bes c w < 25) (h : x.testBit c = true) : (AB x).testBit (bes c w) = true := by
  obtain ⟨h1, h2⟩ := bes_sym c hc w hw hb
  exact (AB_bit hx hb).mpr ⟨_, h1, by rw [h2]; exact hc, by rw [h2]; exact h⟩
theorem two25 {c : Nat} (h : c < 25) : 2 ^ c < 2 ^ 25 := two_lt h
theorem AB_one {a c : Nat} (ha : a < 25) (hc : c < 25) : (AB (2 ^ a)).testBit c = true ↔ ∃ w, w < 4 ∧ bes c w = a := by
  rw [AB_bit (two25 ha) hc]
  constructor
  · rintro ⟨w, hw, hb, h⟩
    rw [Nat.testBit_two_pow, decide_eq_true_eq] at h
    exact ⟨w, hw, h.symm⟩
  · rintro ⟨w, hw, h⟩
    exact ⟨w, hw, by rw [h]; exact ha, by rw [h]; exact Nat.testBit_two_pow_self⟩
theorem z_bits {x : Nat} (hx : x < 2 ^ 31) : nI x = 0 ↔ ∀ i, x.testBit i = false := by
  have h := nI_eq hx (show 0 < 2 ^ 31 by decide)
  constructor
  · intro z i
    rw [h.mp z, Nat.zero_testBit]
  · intro z
    refine h.mpr (Nat.eq_of_testBit_eq fun i => ?_)
    rw [z i, Nat.zero_testBit]
theorem z_bit {x c : Nat} (hc : c < 31) : (nI x &&& nI (2 ^ c)) = 0 ↔ x.testBit c = false := by
  have hl : x &&& 2 ^ c < 2 ^ 31 := Nat.and_lt_two_pow x (two_lt hc)
  rw [an_I, z_bits hl]
  constructor
  · intro h
    have := h c
    rw [Nat.testBit_and, Nat.testBit_two_pow_self, Bool.and_true] at this
    exact this
  · intro h i
    rw [Nat.testBit_and, Nat.testBit_two_pow]
    by_cases e : c = i
    · rw [← e, h, Bool.false_and]
    · rw [decide_eq_false e, Bool.and_false]
theorem z_and {x y : Nat} (hy : y < 2 ^ 31) : (nI x &&& nI y) = 0 ↔ ∀ i, x.testBit i = true → y.testBit i = false := by
  rw [an_I, z_bits (Nat.and_lt_two_pow x hy)]
  constructor
  · intro h i hi
    have := h i
    rw [Nat.testBit_and, hi, Bool.true_and] at this
    exact this
  · intro h i
    rw [Nat.testBit_and]
    cases e : x.testBit i
    · rfl
    · rw [h i e]; rfl
/-! the lowest bit -/
theorem low_ex : ∀ (n x : Nat), 0 < x → x < 2 ^ n → ∃ c, c < n ∧ x.testBit c = true ∧ x &&& (2 ^ n - x) = 2 ^ c := by
  intro n
  induction n with
  | zero => intro x h0 h1; omega
  | succ n ih =>
    intro x h0 h1
    rw [Nat.pow_succ] at h1
    by_cases e : x % 2 = 1
    · refine ⟨0, by omega, by rw [Nat.testBit_zero]; exact decide_eq_true e, Nat.eq_of_testBit_eq fun i => ?_⟩
      rw [Nat.testBit_and]
      cases i with
      | zero =>
        rw [Nat.testBit_zero, Nat.testBit_zero, decide_eq_true e, decide_eq_true (show (2 ^ (n + 1) - x) % 2 = 1 by rw [Nat.pow_succ]; omega)]
        rfl
      | succ i =>
        rw [Nat.testBit_add_one, Nat.testBit_add_one, show (2 ^ (n + 1) - x) / 2 = 2 ^ n - (x / 2 + 1) by rw [Nat.pow_succ]; omega, Nat.testBit_two_pow_sub_succ (by omega), Nat.testBit_two_pow, decide_eq_false (show ¬ 0 = i + 1 by omega)]
        cases (x / 2).testBit i <;> simp
    · obtain ⟨c, c1, c2, c3⟩ := ih (x / 2) (by omega) (by omega)
      refine ⟨c + 1, by omega, by rw [Nat.testBit_add_one]; exact c2, Nat.eq_of_testBit_eq fun i => ?_⟩
      rw [Nat.testBit_and]
      cases i with
      | zero =>
        rw [Nat.testBit_zero, decide_eq_false e, Nat.testBit_two_pow, decide_eq_false (show ¬ c + 1 = 0 by omega), Bool.false_and]
      | succ i =>
        rw [Nat.testBit_add_one, Nat.testBit_add_one, show (2 ^ (n + 1) - x) / 2 = 2 ^ n - x / 2 by rw [Nat.pow_succ]; omega, ← Nat.testBit_and, c3, Nat.testBit_two_pow, Nat.testBit_two_pow]
        by_cases z : c = i
        · rw [decide_eq_true z, decide_eq_true (by omega)]
        · rw [decide_eq_false z, decide_eq_false (by omega)]
theorem neg_I {x : Nat} (h0 : 0 < x) (h : x < 2 ^ 31) : -(nI x) = nI (2 ^ 32 - x) := by
  apply Int32.toBitVec_inj.mp
  apply BitVec.eq_of_toNat_eq
  rw [Int32.toBitVec_neg, BitVec.toNat_neg, pk_tn (show x < 2 ^ 32 by omega), pk_tn (show 2 ^ 32 - x < 2 ^ 32 by omega), Nat.mod_eq_of_lt (by omega)]
theorem s_low {nf x : Nat} (h0 : 0 < x) (hx : x < 2 ^ 25) : ∃ c, c < 25 ∧ x.testBit c = true ∧ g_J6_lowestOneBit_0f7a4 nf (nI x) = some (nI (2 ^ c)) := by
  obtain ⟨c, c1, c2, c3⟩ := low_ex 32 x h0 (by omega)
  refine ⟨c, tlt hx c2, c2, ?_⟩
  unfold g_J6_lowestOneBit_0f7a4
  rw [neg_I h0 (by omega), an_I, c3]
/-! counting -/
theorem cnt_sub {P Q : Nat → Bool} : ∀ {n : Nat}, (∀ k, k < n → P k = true → Q k = true) → cnt P n ≤ cnt Q n
  | 0, _ => Nat.le_refl _
  | n + 1, h => by
    have := cnt_sub (n := n) (fun k hk => h k (by omega))
    rw [cnt_s, cnt_s]
    by_cases e : P n = true
    · rw [if_pos e, if_pos (h n (by omega) e)]; omega
    · rw [if_neg e]; omega
theorem cnt_sub1 {P Q : Nat → Bool} {x : Nat} : ∀ {n : Nat}, (∀ k, k < n → P k = true → Q k = true) → x < n → P x = false → Q x = true → cnt P n < cnt Q n
  | 0, _, hx, _, _ => absurd hx (Nat.not_lt_zero _)
  | n + 1, h, hx, h1, h2 => by
    rw [cnt_s, cnt_s]
    by_cases e : x = n
    · subst e
      rw [if_neg (by rw [h1]; decide), if_pos h2]
      have := cnt_sub (n := x) (fun k hk => h k (by omega))
      omega
    · have := cnt_sub1 (n := n) (fun k hk => h k (by omega)) (by omega) h1 h2
      by_cases g : P n = true
      · rw [if_pos g, if_pos (h n (by omega) g)]; omega
      · rw [if_neg g]; omega
/-- one more -/
theorem cnt_one {P Q : Nat → Bool} {x : Nat} : ∀ {n : Nat}, (∀ k, k < n → k ≠ x → P k = Q k) → x < n → P x = false → Q x = true → cnt Q n = cnt P n + 1
  | 0, _, hx, _, _ => absurd hx (Nat.not_lt_zero _)
  | n + 1, h, hx, h1, h2 => by
    rw [cnt_s, cnt_s]
    by_cases e : x = n
    · subst e
      rw [if_neg (show ¬ P x = true by rw [h1]; decide), if_pos h2, cnt_cong (fun k hk => h k (by omega) (by omega))]
    · rw [h n (by omega) (fun z => e z.symm), cnt_one (n := n) (fun k hk => h k (by omega)) (by omega) h1 h2]
      omega
