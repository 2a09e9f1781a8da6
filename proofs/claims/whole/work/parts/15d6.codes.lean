/-! ===== darned: codes of threads, as the reference counts them ===== -/
noncomputable def cdec (p : Prop) : Bool := @decide p (Classical.propDecidable _)
theorem cdec_iff {p : Prop} : cdec p = true ↔ p := by
  unfold cdec
  exact @decide_eq_true_iff _ (Classical.propDecidable _)
theorem cdec_no {p : Prop} (h : ¬ p) : cdec p = false := by
  cases e : cdec p
  · rfl
  · exact absurd (cdec_iff.mp e) h
/-- how many of a to a + m, and the least -/
def dsc (P : Nat → Bool) : Nat → Nat → Nat × Option Nat
  | _, 0 => (0, none)
  | a, m + 1 => if P a = true then ((dsc P (a + 1) m).1 + 1, some a) else dsc P (a + 1) m
theorem dsc_0 (P : Nat → Bool) (a : Nat) : dsc P a 0 = (0, none) := rfl
theorem dsc_s (P : Nat → Bool) (a m : Nat) : dsc P a (m + 1) = if P a = true then ((dsc P (a + 1) m).1 + 1, some a) else dsc P (a + 1) m := rfl
theorem dsc_add (P : Nat → Bool) (k : Nat) : ∀ (m a : Nat), dsc P a (m + k) = ((dsc P a m).1 + (dsc P (a + m) k).1, (dsc P a m).2.or (dsc P (a + m) k).2) := by
  intro m
  induction m with
  | zero =>
    intro a
    show dsc P a (0 + k) = (0 + (dsc P a k).1, (dsc P a k).2)
    rw [Nat.zero_add, Nat.zero_add]
  | succ m ih =>
    intro a
    have hi := ih (a + 1)
    rw [show a + 1 + m = a + (m + 1) by omega] at hi
    rw [show m + 1 + k = (m + k) + 1 by omega, dsc_s, dsc_s]
    by_cases h : P a = true
    · rw [if_pos h, if_pos h, hi]
      refine Prod.ext ?_ rfl
      show (dsc P (a + 1) m).1 + (dsc P (a + (m + 1)) k).1 + 1 = (dsc P (a + 1) m).1 + 1 + (dsc P (a + (m + 1)) k).1
      omega
    · rw [if_neg h, if_neg h, hi]
theorem dsc_no {P : Nat → Bool} : ∀ (m a : Nat), (∀ x, a ≤ x → x < a + m → P x = false) → dsc P a m = (0, none) := by
  intro m
  induction m with
  | zero => intro a _; rfl
  | succ m ih =>
    intro a h
    rw [dsc_s, h a (Nat.le_refl _) (by omega), if_neg (by decide)]
    exact ih (a + 1) fun x h1 h2 => h x (by omega) (by omega)
theorem dsc_z {P : Nat → Bool} : ∀ (m a : Nat), (dsc P a m).1 = 0 → (dsc P a m).2 = none := by
  intro m
  induction m with
  | zero => intro a _; rfl
  | succ m ih =>
    intro a h
    rw [dsc_s] at h ⊢
    by_cases e : P a = true
    · rw [if_pos e] at h
      exact absurd h (Nat.succ_ne_zero _)
    · rw [if_neg e] at h ⊢
      exact ih (a + 1) h
theorem dsc_in {P : Nat → Bool} : ∀ (m a q : Nat), (dsc P a m).2 = some q → a ≤ q ∧ q < a + m := by
  intro m
  induction m with
  | zero => intro a q h; cases h
  | succ m ih =>
    intro a q h
    rw [dsc_s] at h
    by_cases e : P a = true
    · rw [if_pos e] at h
      have : a = q := Option.some.inj h
      omega
    · rw [if_neg e] at h
      have := ih (a + 1) q h
      omega
/-- all codes that begin with q, r digits behind it -/
def dblk (P : Nat → Bool) (r q : Nat) : Nat × Option Nat := dsc P (q * 3 ^ r) (3 ^ r)
theorem dblk_s (P : Nat → Bool) (r q : Nat) : dblk P (r + 1) q = ((dblk P r (3 * q + 0)).1 + ((dblk P r (3 * q + 1)).1 + (dblk P r (3 * q + 2)).1), (dblk P r (3 * q + 0)).2.or ((dblk P r (3 * q + 1)).2.or (dblk P r (3 * q + 2)).2)) := by
  have e : 3 ^ (r + 1) = 3 ^ r + (3 ^ r + 3 ^ r) := by rw [Nat.pow_succ]; omega
  have a0 : q * 3 ^ (r + 1) = (3 * q + 0) * 3 ^ r := by rw [show 3 * q + 0 = q * 3 by omega, Nat.pow_succ, Nat.mul_assoc, Nat.mul_comm 3]
  have a1 : (3 * q + 0) * 3 ^ r + 3 ^ r = (3 * q + 1) * 3 ^ r := by rw [Nat.add_mul (3 * q) 1, Nat.one_mul, Nat.add_zero]
  have a2 : (3 * q + 1) * 3 ^ r + 3 ^ r = (3 * q + 2) * 3 ^ r := by rw [show 3 * q + 2 = (3 * q + 1) + 1 from rfl, Nat.add_mul (3 * q + 1) 1, Nat.one_mul]
  unfold dblk
  rw [a0, e, dsc_add, a1, dsc_add, a2]
theorem dblk_z {P : Nat → Bool} {r q : Nat} (h : (dblk P r q).1 = 0) : (dblk P r q).2 = none := dsc_z _ _ h
/-! the place of a hole among the holes, its digit in a code -/
def drk (B : Nat → Nat) (c : Nat) : Nat := cnt (fun x => decide (B x = 0)) c
section DRK
variable {B : Nat → Nat} {c x y p t q : Nat}
theorem drk_h (h : B c = 0) : drk B (c + 1) = drk B c + 1 := by
  unfold drk
  rw [cnt_s, if_pos (decide_eq_true h)]
theorem drk_n (h : ¬ B c = 0) : drk B (c + 1) = drk B c := by
  unfold drk
  rw [cnt_s, if_neg (by rw [decide_eq_false h]; decide), Nat.add_zero]
theorem drk_le : drk B c ≤ c := cnt_le _ c
theorem drk_up : drk B c ≤ drk B (c + 1) := by
  by_cases h : B c = 0
  · rw [drk_h h]; omega
  · rw [drk_n h]; omega
theorem drk_mono : ∀ (d a : Nat), drk B a ≤ drk B (a + d)
  | 0, a => Nat.le_refl _
  | d + 1, a => Nat.le_trans (drk_mono d a) drk_up
theorem drk_m {a b : Nat} (h : a ≤ b) : drk B a ≤ drk B b := by
  have := drk_mono (B := B) (b - a) a
  rw [show a + (b - a) = b by omega] at this
  exact this
theorem drk_lt (h : B x = 0) (hx : x < c) : drk B x + 1 ≤ drk B c := by
  rw [← drk_h h]
  exact drk_m hx
theorem drk_inj (hx : B x = 0) (hy : B y = 0) (h : drk B x = drk B y) : x = y := by
  rcases Nat.lt_trichotomy x y with z | z | z
  · have := drk_lt hx z; omega
  · exact z
  · have := drk_lt hy z; omega
theorem drk_ex : ∀ (c k : Nat), k < drk B c → ∃ x, x < c ∧ B x = 0 ∧ drk B x = k
  | 0, k, h => absurd h (Nat.not_lt_zero _)
  | c + 1, k, h => by
    by_cases e : B c = 0
    · rw [drk_h e] at h
      by_cases z : k = drk B c
      · exact ⟨c, by omega, e, z.symm⟩
      · obtain ⟨x, h1, h2, h3⟩ := drk_ex c k (by omega)
        exact ⟨x, by omega, h2, h3⟩
    · rw [drk_n e] at h
      obtain ⟨x, h1, h2, h3⟩ := drk_ex c k h
      exact ⟨x, by omega, h2, h3⟩
def dgc (B : Nat → Nat) (c p x : Nat) : Nat := p / 3 ^ (drk B c - drk B (x + 1)) % 3
theorem dpre_h (h : B c = 0) (hx : x < c) (ht : t < 3) : (3 * p + t) / 3 ^ (drk B (c + 1) - drk B (x + 1)) = p / 3 ^ (drk B c - drk B (x + 1)) := by
  have := drk_m (B := B) (show x + 1 ≤ c by omega)
  rw [drk_h h, show drk B c + 1 - drk B (x + 1) = (drk B c - drk B (x + 1)) + 1 by omega, Nat.pow_succ, Nat.mul_comm (3 ^ _) 3, ← Nat.div_div_eq_div_mul, show (3 * p + t) / 3 = p by omega]
theorem dgc_h (h : B c = 0) (hx : x < c) (ht : t < 3) : dgc B (c + 1) (3 * p + t) x = dgc B c p x := by
  unfold dgc
  rw [dpre_h h hx ht]
theorem dgc_n (h : ¬ B c = 0) : dgc B (c + 1) p x = dgc B c p x := by
  unfold dgc
  rw [drk_n h]
theorem dgc_c (ht : t < 3) : dgc B (c + 1) (3 * p + t) c = t := by
  unfold dgc
  rw [Nat.sub_self, Nat.pow_zero, Nat.div_one]
  omega
/-- the digit of a hole agrees with the holes before it; no blue by a town -/
def okC (B : Nat → Nat) (c q : Nat) : Prop := ∀ w, w < 4 → bes c w < 25 → (q % 3 = 1 → ¬ B (bes c w) = 4) ∧ (bes c w < c → B (bes c w) = 0 → ¬ dgc B (c + 1) q (bes c w) = q % 3)
def VV (B : Nat → Nat) (c p : Nat) : Prop := ∀ x, x < c → B x = 0 → okC B x (p / 3 ^ (drk B c - drk B (x + 1)))
theorem VV_n (h : ¬ B c = 0) : VV B (c + 1) p ↔ VV B c p := by
  unfold VV
  rw [drk_n h]
  constructor
  · intro k x hx hb
    exact k x (by omega) hb
  · intro k x hx hb
    by_cases z : x = c
    · subst z; exact absurd hb h
    · exact k x (by omega) hb
theorem VV_h (h : B c = 0) (ht : t < 3) : VV B (c + 1) (3 * p + t) ↔ VV B c p ∧ okC B c (3 * p + t) := by
  constructor
  · intro k
    refine ⟨fun x hx hb => ?_, ?_⟩
    · have := k x (by omega) hb
      rw [dpre_h h hx ht] at this
      exact this
    · have := k c (by omega) h
      rw [Nat.sub_self, Nat.pow_zero, Nat.div_one] at this
      exact this
  · rintro ⟨k1, k2⟩ x hx hb
    by_cases z : x = c
    · subst z
      rw [Nat.sub_self, Nat.pow_zero, Nat.div_one]
      exact k2
    · rw [dpre_h h (by omega) ht]
      exact k1 x (by omega) hb
theorem VV_pre {code : Nat} (hc : c ≤ 25) (h : VV B 25 code) : VV B c (code / 3 ^ (drk B 25 - drk B c)) := by
  intro x hx hb
  have k := h x (by omega) hb
  have m1 := drk_m (B := B) (show x + 1 ≤ c by omega)
  have m2 := drk_m (B := B) hc
  rw [Nat.div_div_eq_div_mul, ← Nat.pow_add, show drk B 25 - drk B c + (drk B c - drk B (x + 1)) = drk B 25 - drk B (x + 1) by omega]
  exact k
noncomputable def PV (B : Nat → Nat) (code : Nat) : Bool := cdec (VV B 25 code)
theorem dblk_no (hc : c ≤ 25) (h : ¬ VV B c q) : dblk (PV B) (drk B 25 - drk B c) q = (0, none) := by
  unfold dblk
  refine dsc_no _ _ fun x h1 h2 => cdec_no fun z => h ?_
  have k := VV_pre hc z
  rw [Nat.div_eq_of_lt_le h1 (show x < (q + 1) * 3 ^ (drk B 25 - drk B c) by rw [Nat.add_mul, Nat.one_mul]; exact h2)] at k
  exact k
/-! a code in decimals -/
def dcr (code N : Nat) : Nat → Nat → Nat → Nat
  | 0, _, x => x
  | d + 1, i, x => dcr code N d (i + 1) (10 * x + (code / 3 ^ (N - 1 - i) % 3 + 1))
def dcc (B col : Nat → Nat) : Nat → Nat → Nat → Nat
  | 0, _, x => x
  | d + 1, c, x => if B c = 0 then dcc B col d (c + 1) (10 * x + col c) else dcc B col d (c + 1) x
theorem dcr_s (code N d i x : Nat) : dcr code N (d + 1) i x = dcr code N d (i + 1) (10 * x + (code / 3 ^ (N - 1 - i) % 3 + 1)) := rfl
theorem dcc_s (B col : Nat → Nat) (d c x : Nat) : dcc B col (d + 1) c x = if B c = 0 then dcc B col d (c + 1) (10 * x + col c) else dcc B col d (c + 1) x := rfl
theorem dc_eq {col : Nat → Nat} {code : Nat} (h : ∀ x, x < 25 → B x = 0 → col x = code / 3 ^ (drk B 25 - 1 - drk B x) % 3 + 1) : ∀ (d c x : Nat), c + d = 25 → dcc B col d c x = dcr code (drk B 25) (drk B 25 - drk B c) (drk B c) x := by
  intro d
  induction d with
  | zero =>
    intro c x hc
    obtain rfl : c = 25 := by omega
    rw [Nat.sub_self]
    rfl
  | succ d ih =>
    intro c x hc
    rw [dcc_s]
    by_cases e : B c = 0
    · have h1 := drk_lt e (show c < 25 by omega)
      rw [if_pos e, ih (c + 1) _ (by omega), drk_h e, show drk B 25 - drk B c = (drk B 25 - (drk B c + 1)) + 1 by omega, dcr_s, h c (by omega) e]
    · rw [if_neg e, ih (c + 1) _ (by omega), drk_n e]
theorem dcc_bd {col : Nat → Nat} (h : ∀ x, x < 25 → B x = 0 → col x ≤ 3) : ∀ (d c x k : Nat), c + d = 25 → 3 * x + 1 ≤ 10 ^ k → 3 * dcc B col d c x + 1 ≤ 10 ^ (k + (drk B 25 - drk B c)) := by
  intro d
  induction d with
  | zero =>
    intro c x k hc hk
    obtain rfl : c = 25 := by omega
    rw [Nat.sub_self]
    exact hk
  | succ d ih =>
    intro c x k hc hk
    rw [dcc_s]
    by_cases e : B c = 0
    · have h1 := drk_lt e (show c < 25 by omega)
      have h3 := h c (by omega) e
      have := ih (c + 1) (10 * x + col c) (k + 1) (by omega) (by rw [Nat.pow_succ]; omega)
      rw [drk_h e, show k + 1 + (drk B 25 - (drk B c + 1)) = k + (drk B 25 - drk B c) by omega] at this
      rw [if_pos e]
      exact this
    · have := ih (c + 1) x k (by omega) hk
      rw [drk_n e] at this
      rw [if_neg e]
      exact this
end DRK
