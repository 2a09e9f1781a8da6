/-! ===== camphor: what is safe ===== -/
def XCL (M S : Nat) (X : Nat → Prop) : Prop := (∀ c, c < 25 → M.testBit c = true → X c) ∧ ∀ c w, c < 25 → w < 4 → bes c w < 25 → X c → S.testBit (bes c w) = false → X (bes c w)
def SAFE (M g S : Nat) : Prop := ∃ X : Nat → Prop, XCL M S X ∧ ¬ X g
noncomputable def sf (M g S : Nat) : Bool := @decide (SAFE M g S) (Classical.propDecidable _)
theorem sf_iff {M g S : Nat} : sf M g S = true ↔ SAFE M g S := by
  unfold sf
  exact @decide_eq_true_iff _ (Classical.propDecidable _)
theorem sf_no {M g S : Nat} (h : ¬ SAFE M g S) : sf M g S = false := by
  cases e : sf M g S
  · rfl
  · exact absurd (sf_iff.mp e) h
def MM (B : Nat → Nat) : Nat → Nat
  | 0 => 0
  | k + 1 => MM B k ||| (if B 61 / 2 ^ k % 2 = 1 then 2 ^ B (50 + k) else 0)
theorem MM_lt {B : Nat → Nat} (hW : WF B) : ∀ k, k ≤ 4 → MM B k < 2 ^ 25
  | 0, _ => Nat.two_pow_pos 25
  | k + 1, h => by
    rw [MM]
    refine Nat.or_lt_two_pow (MM_lt hW k (by omega)) ?_
    split
    · exact two25 (hW.2.2.1 k (by omega))
    · decide
theorem s_hasT {nf w k : Nat} (hw : w < 2 ^ 31) (hk : k < 32) : g_X9_has nf (nI w) (nI k) = some (if w.testBit k = true then 1 else 0) := by
  rw [s_has hw hk, tb_div]
theorem i1n0 : ¬ (1 : Int32) = 0 := by decide
theorem bit_I {b : Nat} (h : ¬ b % 2 = 1) : nI (b % 2) = 0 := by rw [show b % 2 = 0 by omega]; rfl
theorem bit_J {b : Nat} (h : b % 2 = 1) : nI (b % 2) = 1 := by rw [h]; rfl
section MOTHS
variable {nf : Nat} {B : Nat → Nat}
theorem mcb_4 {l c t mc mh th : Nat → Int32} {nt : Int32} (h : DB l c t mc mh th nt B) (hW : WF B) : ∀ (d x n : Nat), x + d = 4 → d < n → g_X1_mothCellBits_l4 nf n (nI (MM B x)) (nI x) t mc = some (nI (MM B 4)) := by
  intro d
  induction d with
  | zero =>
    intro x n hx hn
    obtain ⟨n, rfl⟩ := pred_ex hn
    obtain rfl : x = 4 := by omega
    rw [g_X1_mothCellBits_l4, if_pos (by decide)]
  | succ d ih =>
    intro x n hx hn
    obtain ⟨n, rfl⟩ := pred_ex hn
    have hx4 : x < 4 := by omega
    have hB := hW.2.2.1 x hx4
    have k := ih (x + 1) n (by omega) (by omega)
    rw [MM] at k
    rw [g_X1_mothCellBits_l4, if_neg (L_nge 4 (by omega) (by decide)), ck_nI hx4 (by decide), nI_clamp (by omega), h.2.2.1 x hx4, ← k]
    unfold g_X1_mothCellBits_b31
    rw [nI_1]
    by_cases e : B 61 / 2 ^ x % 2 = 1
    · rw [bit_J e, if_neg i1n0, ck_nI hx4 (by decide), h.2.2.2.1 x hx4, shl1 (by omega), or_I, if_pos e]
    · rw [bit_I e, if_pos rfl, show (0 : Int32) = nI 0 from rfl, or_I, if_neg e]
theorem sf_5 {book : Nat → Int32} {g S : Int32} (hM : MB book B) (hW : WF B) : ∀ (d x n : Nat), x + d = 4 → d < n → g_X9_isSafe_l5 nf n g S (nI (MM B x)) (nI x) book = g_X9_isSafe_l48 nf nf g S (nI (MM B 4)) (-1) book := by
  intro d
  induction d with
  | zero =>
    intro x n hx hn
    obtain ⟨n, rfl⟩ := pred_ex hn
    obtain rfl : x = 4 := by omega
    rw [g_X9_isSafe_l5, if_pos (by decide)]
  | succ d ih =>
    intro x n hx hn
    obtain ⟨n, rfl⟩ := pred_ex hn
    have hx4 : x < 4 := by omega
    have hB := hW.2.2.1 x hx4
    have k := ih (x + 1) n (by omega) (by omega)
    rw [MM] at k
    rw [g_X9_isSafe_l5, if_neg (L_nge 4 (by omega) (by decide)), s_there9 hM hW hx4, Option.bind_some, ← k]
    unfold g_X9_isSafe_b37
    rw [nI_1]
    by_cases e : B 61 / 2 ^ x % 2 = 1
    · rw [bit_J e, if_neg i1n0, show (50 : Int32) + nI x = nI (50 + x) from nI_add 50 x, ck_nI (show 50 + x < 63 by omega) (by decide), nI_clamp (by omega), hM (50 + x) (by omega), shl1 (by omega), or_I, if_pos e]
    · rw [bit_I e, if_pos rfl, show (0 : Int32) = nI 0 from rfl, or_I, if_neg e]
end MOTHS
section FLOOD
variable {nf g S M : Nat} {book : Nat → Int32}
def SND (M S Z : Nat) : Prop := ∀ X, XCL M S X → ∀ c, c < 25 → Z.testBit c = true → X c
def PI9 (M S H Z q : Nat) : Prop := Z < 2 ^ 25 ∧ H ≤ Z ∧ (∀ c, H.testBit c = true → Z.testBit c = true) ∧ SND M S Z ∧ ∀ c w, c < 25 → w < 4 → 4 * c + w < q → H.testBit c = true → bes c w < 25 → S.testBit (bes c w) = false → Z.testBit (bes c w) = true
abbrev FK48 := Int32 → Int32 → Int32 → Int32 → (Nat → Int32) → Option Int32
abbrev FK60 := Int32 → Int32 → Int32 → Int32 → Int32 → (Nat → Int32) → Option Int32
theorem PI9_skip {H Z c w : Nat} (h : PI9 M S H Z (4 * c + w)) (hw : w < 4) (hE : H.testBit c = true → bes c w < 25 → S.testBit (bes c w) = false → Z.testBit (bes c w) = true) : PI9 M S H Z (4 * c + (w + 1)) := by
  obtain ⟨h1, h2, h3, h4, h5⟩ := h
  refine ⟨h1, h2, h3, h4, fun c' w' hc' hw' hq hH hb hS => ?_⟩
  by_cases e : 4 * c' + w' < 4 * c + w
  · exact h5 c' w' hc' hw' e hH hb hS
  · obtain rfl : c' = c := by omega
    obtain rfl : w' = w := by omega
    exact hE hH hb hS
theorem sf_70 {H c : Nat} (hc : c < 25) (hS25 : S < 2 ^ 25) : ∀ (d w n Z : Nat), w + d = 4 → d < n → PI9 M S H Z (4 * c + w) → ∃ Z', PI9 M S H Z' (4 * (c + 1)) ∧ ∀ (K48 : FK48) (K60 : FK60), g_X9_isSafe_l70 nf K48 K60 n (nI g) (nI S) (nI Z) (nI H) (nI c) (nI w) book = K60 (nI g) (nI S) (nI Z') (nI H) (nI (c + 1)) book := by
  intro d
  induction d with
  | zero =>
    intro w n Z hw hn hP
    obtain ⟨n, rfl⟩ := pred_ex hn
    obtain rfl : w = 4 := by omega
    exact ⟨Z, hP, fun K48 K60 => by rw [g_X9_isSafe_l70, if_pos (by decide), nI_1]⟩
  | succ d ih =>
    intro w n Z hw hn hP
    obtain ⟨n, rfl⟩ := pred_ex hn
    have hw4 : w < 4 := by omega
    have hH25 : H < 2 ^ 25 := Nat.lt_of_le_of_lt hP.2.1 hP.1
    have or0 : nI Z ||| (0 : Int32) = nI Z := by rw [show (0 : Int32) = nI 0 from rfl, or_I, Nat.or_zero]
    have skip : (H.testBit c = true → bes c w < 25 → S.testBit (bes c w) = false → Z.testBit (bes c w) = true) → (∀ (K48 : FK48) (K60 : FK60), g_X9_isSafe_l70 nf K48 K60 (n + 1) (nI g) (nI S) (nI Z) (nI H) (nI c) (nI w) book = g_X9_isSafe_l70 nf K48 K60 n (nI g) (nI S) (nI Z) (nI H) (nI c) (nI (w + 1)) book) → ∃ Z', PI9 M S H Z' (4 * (c + 1)) ∧ ∀ (K48 : FK48) (K60 : FK60), g_X9_isSafe_l70 nf K48 K60 (n + 1) (nI g) (nI S) (nI Z) (nI H) (nI c) (nI w) book = K60 (nI g) (nI S) (nI Z') (nI H) (nI (c + 1)) book := by
      intro h1 h2
      obtain ⟨Z', k1, k2⟩ := ih (w + 1) n Z (by omega) (by omega) (PI9_skip hP hw4 h1)
      exact ⟨Z', k1, fun K48 K60 => by rw [h2, k2]⟩
    by_cases hH : H.testBit c = true
    · by_cases hb : bes c w < 25
      · cases hS : S.testBit (bes c w)
        · obtain ⟨p1, p2, p3, p4, p5⟩ := hP
          obtain ⟨Z', k1, k2⟩ := ih (w + 1) n (Z ||| 2 ^ bes c w) (by omega) (by omega) (PI9_skip (by
            refine ⟨Nat.or_lt_two_pow p1 (two25 hb), Nat.le_trans p2 Nat.left_le_or, fun c' h => by rw [Nat.testBit_or, p3 c' h, Bool.true_or], fun X hX c' hc' h => ?_, fun c' w' a1 a2 a3 a4 a5 a6 => by rw [Nat.testBit_or, p5 c' w' a1 a2 a3 a4 a5 a6, Bool.true_or]⟩
            rw [Nat.testBit_or, Bool.or_eq_true, Nat.testBit_two_pow, decide_eq_true_eq] at h
            rcases h with h | h
            · exact p4 X hX c' hc' h
            · rw [← h]
              exact hX.2 c w hc hw4 hb (p4 X hX c hc (p3 c hH)) hS) hw4 (fun _ _ _ => by rw [Nat.testBit_or, Nat.testBit_two_pow_self, Bool.or_true]))
          refine ⟨Z', k1, fun K48 K60 => ?_⟩
          rw [← k2 K48 K60, g_X9_isSafe_l70, if_neg (L_nge 4 (by omega) (by decide)), s_bes9 hc hw4, Option.bind_some, s_hasT (show H < 2 ^ 31 by omega) (by omega), Option.bind_some, if_pos hH, if_neg i1n0, if_pos hb, if_neg (nI_pos (by omega)), s_hasT (show S < 2 ^ 31 by omega) (by omega), Option.bind_some, hS, if_neg Bool.false_ne_true, if_pos rfl, shl1 (by omega)]
          unfold g_X9_isSafe_b118
          rw [or_I, nI_1]
        · refine skip (fun _ _ z => by rw [hS] at z; exact absurd z (by decide)) (fun K48 K60 => ?_)
          rw [g_X9_isSafe_l70, if_neg (L_nge 4 (by omega) (by decide)), s_bes9 hc hw4, Option.bind_some, s_hasT (show H < 2 ^ 31 by omega) (by omega), Option.bind_some, if_pos hH, if_neg i1n0, if_pos hb, if_neg (nI_pos (by omega)), s_hasT (show S < 2 ^ 31 by omega) (by omega), Option.bind_some, hS, if_pos rfl, if_neg i1n0]
          unfold g_X9_isSafe_b117 g_X9_isSafe_b118
          rw [or0, nI_1]
      · refine skip (fun _ z _ => absurd z hb) (fun K48 K60 => ?_)
        rw [g_X9_isSafe_l70, if_neg (L_nge 4 (by omega) (by decide)), s_bes9 hc hw4, Option.bind_some, s_hasT (show H < 2 ^ 31 by omega) (by omega), Option.bind_some, if_pos hH, if_neg i1n0, if_neg hb, if_pos (by decide)]
        unfold g_X9_isSafe_b117 g_X9_isSafe_b118
        rw [or0, nI_1]
    · refine skip (fun z => absurd z hH) (fun K48 K60 => ?_)
      rw [g_X9_isSafe_l70, if_neg (L_nge 4 (by omega) (by decide)), s_bes9 hc hw4, Option.bind_some, s_hasT (show H < 2 ^ 31 by omega) (by omega), Option.bind_some, if_neg hH, if_pos rfl]
      unfold g_X9_isSafe_b117 g_X9_isSafe_b118
      rw [or0, nI_1]
theorem sf_60 {H : Nat} (hS25 : S < 2 ^ 25) (hnf : 100 ≤ nf) : ∀ (d c n Z : Nat), c + d = 25 → d < n → PI9 M S H Z (4 * c) → ∃ Z', PI9 M S H Z' 100 ∧ ∀ (K48 : FK48), g_X9_isSafe_l60 nf K48 n (nI g) (nI S) (nI Z) (nI H) (nI c) book = K48 (nI g) (nI S) (nI Z') (nI H) book := by
  intro d
  induction d with
  | zero =>
    intro c n Z hc hn hP
    obtain ⟨n, rfl⟩ := pred_ex hn
    obtain rfl : c = 25 := by omega
    exact ⟨Z, hP, fun K48 => by rw [g_X9_isSafe_l60, if_pos (by decide)]⟩
  | succ d ih =>
    intro c n Z hc hn hP
    obtain ⟨n, rfl⟩ := pred_ex hn
    obtain ⟨Z1, k1, k2⟩ := sf_70 (nf := nf) (g := g) (book := book) (show c < 25 by omega) hS25 4 0 nf Z (by omega) (by omega) hP
    obtain ⟨Z2, k3, k4⟩ := ih (c + 1) n Z1 (by omega) (by omega) k1
    refine ⟨Z2, k3, fun K48 => ?_⟩
    rw [← k4 K48, g_X9_isSafe_l60, if_neg (L_nge 25 (by omega) (by decide))]
    exact k2 K48 (g_X9_isSafe_l60 nf K48 n)
theorem sf_48 (hg : g < 25) (hS25 : S < 2 ^ 25) (hnf : 100 ≤ nf) : ∀ (d n Z : Nat) (x4 : Int32), 2 ^ 25 ≤ Z + d → d + 1 < n → Z < 2 ^ 25 → (∀ c, c < 25 → M.testBit c = true → Z.testBit c = true) → SND M S Z → ¬ nI Z = x4 → g_X9_isSafe_l48 nf n (nI g) (nI S) (nI Z) x4 book = some (if sf M g S = true then 1 else 0) := by
  intro d
  induction d with
  | zero => intro n Z x4 h1 h2 h3; omega
  | succ d ih =>
    intro n Z x4 h1 h2 h3 h4 h5 h6
    obtain ⟨n, rfl⟩ := pred_ex h2
    obtain ⟨n, rfl⟩ := pred_ex (show 0 < n by omega)
    obtain ⟨Z', k1, k2⟩ := sf_60 (nf := nf) (g := g) (M := M) (H := Z) (book := book) hS25 hnf 25 0 nf Z (by omega) (by omega) ⟨h3, Nat.le_refl _, fun _ h => h, h5, fun c w _ _ h => absurd h (by omega)⟩
    obtain ⟨p1, p2, p3, p4, p5⟩ := k1
    rw [g_X9_isSafe_l48, if_neg h6, show g_X9_isSafe_l60 nf (g_X9_isSafe_l48 nf (n + 1)) nf (nI g) (nI S) (nI Z) (nI Z) 0 book = _ from k2 _]
    by_cases e : Z' = Z
    · subst e
      rw [g_X9_isSafe_l48, if_pos rfl, s_hasT (by omega) (by omega), Option.bind_some, bz_in (Or.inr rfl), bz_in (Or.inl rfl)]
      by_cases hz : Z'.testBit g = true
      · rw [if_pos hz, if_neg i1n0, sf_no (fun ⟨X, hX, hn⟩ => hn (h5 X hX g hg hz))]
        rfl
      · rw [if_neg hz, if_pos rfl, if_pos (sf_iff.mpr ⟨fun c => Z'.testBit c = true, ⟨h4, fun c w hc hw hb hX hS => p5 c w hc hw (by omega) hX hb hS⟩, hz⟩)]
    · exact ih (n + 1) Z' (nI Z) (by omega) (by omega) p1 (fun c hc h => p3 c (h4 c hc h)) p4 (fun z => e ((nI_eq (by omega) (by omega)).mp z))
end FLOOD
theorem s_isSafe {nf g S : Nat} {B : Nat → Nat} {book : Nat → Int32} (hM : MB book B) (hW : WF B) (hg : g < 25) (hS : S < 2 ^ 25) (hnf : 40000000 ≤ nf) : g_X9_isSafe nf (nI g) (nI S) book = some (if sf (MM B 4) g S = true then 1 else 0) := by
  have hl := MM_lt hW 4 (Nat.le_refl _)
  rw [show g_X9_isSafe nf (nI g) (nI S) book = _ from sf_5 (nf := nf) (g := nI g) (S := nI S) hM hW 4 0 nf (by omega) (by omega)]
  refine sf_48 hg hS (by omega) (2 ^ 25) nf (MM B 4) (-1) (by omega) (by omega) hl (fun c _ h => h) (fun X hX c hc h => hX.1 c hc h) (fun z => nI_m1 (show MM B 4 < 2 ^ 31 by omega) z.symm)
/-! the least set of so many -/
def tsr (sub : Nat → Nat → Option Nat) (F acc : Nat) : Nat → Nat → Option Nat
  | 0, _ => none
  | d + 1, x => if F.testBit x = true then (sub x (acc ||| 2 ^ x)).or (tsr sub F acc d (x + 1)) else tsr sub F acc d (x + 1)
def ts (P : Nat → Bool) (F : Nat) : Nat → Nat → Nat → Option Nat
  | 0, _, acc => if P acc = true then some acc else none
  | m + 1, top, acc => tsr (ts P F m) F acc top 0
def och : Option Nat → Option Int32 → Option Int32
  | some r, _ => some (nI r)
  | none, k => k
theorem och_or (a b : Option Nat) (k : Option Int32) : och (a.or b) k = och a (och b k) := by cases a <;> rfl
section SHUT
variable {nf g F : Nat} {B : Nat → Nat} {book : Nat → Int32}
abbrev TK23 := Int32 → Int32 → Int32 → Int32 → (Nat → Int32) → Option Int32
abbrev TK67 := Int32 → Int32 → Int32 → Int32 → Int32 → (Nat → Int32) → Option Int32
abbrev TK123 := Int32 → Int32 → Int32 → Int32 → Int32 → Int32 → Int32 → (Nat → Int32) → Option Int32
theorem t177_3 {k23 : TK23} {k67 : TK67} {k123 : TK123} {n : Nat} {x1 x2 x3 x4 x5 x6 x7 x8 x9 : Int32} (hn : 0 < n) (h3 : x3 ≤ 3) : g_X9_tryShut_l177 nf k23 k67 k123 n x1 x2 x3 x4 x5 x6 x7 x8 x9 book = k123 x1 x2 x3 x4 x5 x6 (x7 + 1) book := by
  obtain ⟨n, rfl⟩ := pred_ex hn
  rw [g_X9_tryShut_l177, if_pos h3]
  unfold g_X9_tryShut_b227
  split <;> rfl
theorem t123_2 {k23 : TK23} {k67 : TK67} {n : Nat} {x1 x2 x3 x4 x5 x6 x7 : Int32} (hn : 0 < n) (h3 : x3 ≤ 2) : g_X9_tryShut_l123 nf k23 k67 n x1 x2 x3 x4 x5 x6 x7 book = k67 x1 x2 x3 x4 (x5 + 1) book := by
  obtain ⟨n, rfl⟩ := pred_ex hn
  rw [g_X9_tryShut_l123, if_pos h3]
  unfold g_X9_tryShut_b233
  split <;> rfl
theorem t67_1 {k23 : TK23} {n : Nat} {x1 x2 x3 x4 x5 : Int32} (hn : 0 < n) (h3 : x3 ≤ 1) : g_X9_tryShut_l67 nf k23 n x1 x2 x3 x4 x5 book = k23 x1 x2 x3 (x4 + 1) book := by
  obtain ⟨n, rfl⟩ := pred_ex hn
  rw [g_X9_tryShut_l67, if_pos h3]
  unfold g_X9_tryShut_b239
  split <;> rfl
theorem t177 (hM : MB book B) (hW : WF B) (hg : g < 25) (hF : F < 2 ^ 25) (hnf : 40000000 ≤ nf) {k23 : TK23} {k67 : TK67} {k123 : TK123} {c acc : Nat} {x4 x5 x6 : Int32} (hc : c ≤ 25) (hacc : acc < 2 ^ 25) : ∀ (d x n : Nat), x + d = c → d < n → g_X9_tryShut_l177 nf k23 k67 k123 n (nI g) (nI F) (nI 4) x4 x5 x6 (nI c) (nI acc) (nI x) book = och (tsr (ts (sf (MM B 4) g) F 0) F acc d x) (k123 (nI g) (nI F) (nI 4) x4 x5 x6 (nI (c + 1)) book) := by
  intro d
  induction d with
  | zero =>
    intro x n hx hn
    obtain ⟨n, rfl⟩ := pred_ex hn
    obtain rfl : x = c := by omega
    rw [g_X9_tryShut_l177, if_pos (nI_le (Nat.le_refl _) (by omega))]
    unfold g_X9_tryShut_b227
    rw [nI_1]
    rfl
  | succ d ih =>
    intro x n hx hn
    obtain ⟨n, rfl⟩ := pred_ex hn
    have hS : acc ||| 2 ^ x < 2 ^ 25 := Nat.or_lt_two_pow hacc (two25 (by omega))
    rw [g_X9_tryShut_l177, if_neg (nI_ge (show x < c by omega) (by omega)), if_neg (by decide), s_hasT (by omega) (by omega), Option.bind_some, tsr]
    unfold g_X9_tryShut_b221
    rw [nI_1]
    by_cases hb : F.testBit x = true
    · rw [if_pos hb, if_pos hb, if_neg i1n0, shl1 (by omega), or_I, s_isSafe hM hW hg hS hnf, Option.bind_some, och_or, ts]
      by_cases hp : sf (MM B 4) g (acc ||| 2 ^ x) = true
      · rw [if_pos hp, if_neg i1n0, if_pos hp]
        rfl
      · rw [if_neg hp, if_pos rfl, if_neg hp]
        exact ih (x + 1) n (by omega) (by omega)
    · rw [if_neg hb, if_pos rfl, if_neg hb]
      exact ih (x + 1) n (by omega) (by omega)
theorem t123 (hM : MB book B) (hW : WF B) (hg : g < 25) (hF : F < 2 ^ 25) (hnf : 40000000 ≤ nf) {k23 : TK23} {k67 : TK67} {b acc m : Nat} {x4 : Int32} (hm : m ≤ 1) (hb25 : b ≤ 25) (hacc : acc < 2 ^ 25) : ∀ (d x n : Nat), x + d = b → d < n → g_X9_tryShut_l123 nf k23 k67 n (nI g) (nI F) (nI (3 + m)) x4 (nI b) (nI acc) (nI x) book = och (tsr (ts (sf (MM B 4) g) F m) F acc d x) (k67 (nI g) (nI F) (nI (3 + m)) x4 (nI (b + 1)) book) := by
  intro d
  induction d with
  | zero =>
    intro x n hx hn
    obtain ⟨n, rfl⟩ := pred_ex hn
    obtain rfl : x = b := by omega
    rw [g_X9_tryShut_l123, if_pos (nI_le (Nat.le_refl _) (by omega))]
    unfold g_X9_tryShut_b233
    rw [nI_1]
    rfl
  | succ d ih =>
    intro x n hx hn
    obtain ⟨n, rfl⟩ := pred_ex hn
    have hS : acc ||| 2 ^ x < 2 ^ 25 := Nat.or_lt_two_pow hacc (two25 (by omega))
    rw [g_X9_tryShut_l123, if_neg (nI_ge (show x < b by omega) (by omega)), if_neg (L_nle 2 (by omega) (by omega)), s_hasT (by omega) (by omega), Option.bind_some, tsr]
    by_cases hb : F.testBit x = true
    · rw [if_pos hb, if_pos hb, if_neg i1n0, shl1 (by omega), or_I, och_or]
      unfold g_X9_tryShut_b174
      by_cases e : m = 0
      · subst e
        rw [if_pos (by decide), s_isSafe hM hW hg hS hnf, Option.bind_some, ts]
        by_cases hp : sf (MM B 4) g (acc ||| 2 ^ x) = true
        · rw [if_pos hp, if_neg i1n0, if_pos hp]
          rfl
        · rw [if_neg hp, if_pos rfl, if_neg hp, t177_3 (by omega) (by decide), nI_1]
          exact ih (x + 1) n (by omega) (by omega)
      · obtain rfl : m = 1 := by omega
        rw [if_neg (by decide), show g_X9_tryShut_l177 nf k23 k67 (g_X9_tryShut_l123 nf k23 k67 n) nf (nI g) (nI F) (nI (3 + 1)) x4 (nI b) (nI acc) (nI x) (nI (acc ||| 2 ^ x)) 0 book = _ from t177 hM hW hg hF hnf (show x ≤ 25 by omega) hS x 0 nf (by omega) (by omega), ← ih (x + 1) n (by omega) (by omega)]
        rfl
    · rw [if_neg hb, if_pos rfl, if_neg hb]
      unfold g_X9_tryShut_b227
      rw [nI_1]
      exact ih (x + 1) n (by omega) (by omega)
theorem t67 (hM : MB book B) (hW : WF B) (hg : g < 25) (hF : F < 2 ^ 25) (hnf : 40000000 ≤ nf) {k23 : TK23} {a m : Nat} (hm : m ≤ 2) (ha : a < 25) : ∀ (d x n : Nat), x + d = a → d < n → g_X9_tryShut_l67 nf k23 n (nI g) (nI F) (nI (2 + m)) (nI a) (nI x) book = och (tsr (ts (sf (MM B 4) g) F m) F (2 ^ a) d x) (k23 (nI g) (nI F) (nI (2 + m)) (nI (a + 1)) book) := by
  intro d
  induction d with
  | zero =>
    intro x n hx hn
    obtain ⟨n, rfl⟩ := pred_ex hn
    obtain rfl : x = a := by omega
    rw [g_X9_tryShut_l67, if_pos (nI_le (Nat.le_refl _) (by omega))]
    unfold g_X9_tryShut_b239
    rw [nI_1]
    rfl
  | succ d ih =>
    intro x n hx hn
    obtain ⟨n, rfl⟩ := pred_ex hn
    have hS : 2 ^ a ||| 2 ^ x < 2 ^ 25 := Nat.or_lt_two_pow (two25 ha) (two25 (by omega))
    rw [g_X9_tryShut_l67, if_neg (nI_ge (show x < a by omega) (by omega)), if_neg (L_nle 1 (by omega) (by omega)), s_hasT (by omega) (by omega), Option.bind_some, tsr]
    by_cases hb : F.testBit x = true
    · rw [if_pos hb, if_pos hb, if_neg i1n0, shl1 (show a < 31 by omega), shl1 (show x < 31 by omega), or_I, och_or]
      unfold g_X9_tryShut_b120
      by_cases e : m = 0
      · subst e
        rw [if_pos (by decide), s_isSafe hM hW hg hS hnf, Option.bind_some, ts]
        by_cases hp : sf (MM B 4) g (2 ^ a ||| 2 ^ x) = true
        · rw [if_pos hp, if_neg i1n0, if_pos hp]
          rfl
        · rw [if_neg hp, if_pos rfl, if_neg hp, t123_2 (by omega) (by decide), nI_1]
          exact ih (x + 1) n (by omega) (by omega)
      · obtain ⟨m', rfl⟩ : ∃ m', m = m' + 1 := ⟨m - 1, by omega⟩
        rw [if_neg (L_ne 2 (by omega) (by omega) (by decide)), show nI (2 + (m' + 1)) = nI (3 + m') by congr 1; omega, show g_X9_tryShut_l123 nf k23 (g_X9_tryShut_l67 nf k23 n) nf (nI g) (nI F) (nI (3 + m')) (nI a) (nI x) (nI (2 ^ a ||| 2 ^ x)) 0 book = _ from t123 hM hW hg hF hnf (show m' ≤ 1 by omega) (show x ≤ 25 by omega) hS x 0 nf (by omega) (by omega), show nI (3 + m') = nI (2 + (m' + 1)) by congr 1; omega, ← ih (x + 1) n (by omega) (by omega)]
        rfl
    · rw [if_neg hb, if_pos rfl, if_neg hb]
      unfold g_X9_tryShut_b233
      rw [nI_1]
      exact ih (x + 1) n (by omega) (by omega)
theorem t23 (hM : MB book B) (hW : WF B) (hg : g < 25) (hF : F < 2 ^ 25) (hnf : 40000000 ≤ nf) {m : Nat} (hm : m ≤ 3) : ∀ (d x n : Nat), x + d = 25 → d < n → g_X9_tryShut_l23 nf n (nI g) (nI F) (nI (1 + m)) (nI x) book = och (tsr (ts (sf (MM B 4) g) F m) F 0 d x) (some (-6)) := by
  intro d
  induction d with
  | zero =>
    intro x n hx hn
    obtain ⟨n, rfl⟩ := pred_ex hn
    obtain rfl : x = 25 := by omega
    rw [g_X9_tryShut_l23, if_pos (by decide)]
    rfl
  | succ d ih =>
    intro x n hx hn
    obtain ⟨n, rfl⟩ := pred_ex hn
    have hx25 : x < 25 := by omega
    have hS : 2 ^ x < 2 ^ 25 := two25 hx25
    rw [g_X9_tryShut_l23, if_neg (L_nge 25 (by omega) (by decide)), s_hasT (by omega) (by omega), Option.bind_some, tsr, Nat.zero_or]
    by_cases hb : F.testBit x = true
    · rw [if_pos hb, if_pos hb, if_neg i1n0, shl1 (show x < 31 by omega), och_or]
      unfold g_X9_tryShut_b64
      by_cases e : m = 0
      · subst e
        rw [if_pos (by decide), s_isSafe hM hW hg hS hnf, Option.bind_some, ts]
        by_cases hp : sf (MM B 4) g (2 ^ x) = true
        · rw [if_pos hp, if_neg i1n0, if_pos hp]
          rfl
        · rw [if_neg hp, if_pos rfl, if_neg hp, t67_1 (by omega) (by decide), nI_1]
          exact ih (x + 1) n (by omega) (by omega)
      · obtain ⟨m', rfl⟩ : ∃ m', m = m' + 1 := ⟨m - 1, by omega⟩
        rw [if_neg (L_ne 1 (by omega) (by omega) (by decide)), show nI (1 + (m' + 1)) = nI (2 + m') by congr 1; omega, show g_X9_tryShut_l67 nf (g_X9_tryShut_l23 nf n) nf (nI g) (nI F) (nI (2 + m')) (nI x) 0 book = _ from t67 hM hW hg hF hnf (show m' ≤ 2 by omega) hx25 x 0 nf (by omega) (by omega), show nI (2 + m') = nI (1 + (m' + 1)) by congr 1; omega, ← ih (x + 1) n (by omega) (by omega)]
        rfl
    · rw [if_neg hb, if_pos rfl, if_neg hb]
      unfold g_X9_tryShut_b239
      rw [nI_1]
      exact ih (x + 1) n (by omega) (by omega)
theorem s_tryShut (hM : MB book B) (hW : WF B) (hg : g < 25) (hF : F < 2 ^ 25) (hnf : 40000000 ≤ nf) {m : Nat} (hm : m ≤ 4) : g_X9_tryShut nf (nI g) (nI F) (nI m) book = some (oI (ts (sf (MM B 4) g) F m 25 0)) := by
  unfold g_X9_tryShut
  by_cases e : m = 0
  · subst e
    rw [if_pos (show nI 0 = 0 from rfl), show g_X9_isSafe nf (nI g) 0 book = _ from s_isSafe hM hW hg (show 0 < 2 ^ 25 by decide) hnf, Option.bind_some, ts]
    by_cases hp : sf (MM B 4) g 0 = true
    · rw [if_pos hp, if_neg i1n0, if_pos hp]
      rfl
    · rw [if_neg hp, if_pos rfl, if_neg hp]
      rfl
  · obtain ⟨m', rfl⟩ : ∃ m', m = m' + 1 := ⟨m - 1, by omega⟩
    rw [if_neg (L_ne 0 (by omega) (by omega) (by decide)), show nI (m' + 1) = nI (1 + m') by congr 1; omega, show g_X9_tryShut_l23 nf nf (nI g) (nI F) (nI (1 + m')) 0 book = _ from t23 hM hW hg hF hnf (show m' ≤ 3 by omega) 25 0 nf (by omega) (by omega), show ts (sf (MM B 4) g) F (m' + 1) 25 0 = tsr (ts (sf (MM B 4) g) F m') F 0 25 0 from rfl]
    cases tsr (ts (sf (MM B 4) g) F m') F 0 25 0 <;> rfl
end SHUT
/-! what is found is the least -/
def SZ (F : Nat) : Nat → Nat → Nat → Prop
  | 0, _, S => S = 0
  | m + 1, top, S => ∃ x S1, x < top ∧ F.testBit x = true ∧ SZ F m x S1 ∧ S = 2 ^ x + S1
theorem SZ_lt {F : Nat} : ∀ (m top S : Nat), SZ F m top S → S < 2 ^ top
  | 0, top, S, h => by rw [show S = 0 from h]; exact Nat.two_pow_pos top
  | m + 1, top, S, h => by
    obtain ⟨x, S1, h1, h2, h3, h4⟩ := h
    have h5 := SZ_lt m x S1 h3
    have h6 : 2 ^ (x + 1) ≤ 2 ^ top := Nat.pow_le_pow_right (by decide) h1
    rw [Nat.pow_succ] at h6
    omega
theorem pw_or {x S1 : Nat} (h : S1 < 2 ^ x) : 2 ^ x + S1 = 2 ^ x ||| S1 := by
  have := Nat.two_pow_add_eq_or_of_lt h 1
  rw [Nat.mul_one] at this
  exact this
section TSP
variable {P : Nat → Bool} {F : Nat}
def SZx (F m x top S : Nat) : Prop := ∃ y S1, x ≤ y ∧ y < top ∧ F.testBit y = true ∧ SZ F m y S1 ∧ S = 2 ^ y + S1
theorem ts_spec : ∀ (m top acc : Nat), (ts P F m top acc = none → ∀ S, SZ F m top S → P (acc ||| S) = false) ∧ ∀ v, ts P F m top acc = some v → ∃ S, SZ F m top S ∧ v = acc ||| S ∧ P v = true ∧ ∀ S', SZ F m top S' → P (acc ||| S') = true → S ≤ S' := by
  intro m
  induction m with
  | zero =>
    intro top acc
    rw [ts]
    by_cases h : P acc = true
    · rw [if_pos h]
      exact ⟨fun z => by simp at z, fun v hv => ⟨0, rfl, by rw [Nat.or_zero]; exact (Option.some.inj hv).symm, by rw [← Option.some.inj hv]; exact h, fun S' _ _ => Nat.zero_le _⟩⟩
    · rw [if_neg h]
      refine ⟨fun _ S hS => ?_, fun v hv => by simp at hv⟩
      rw [show S = 0 from hS, Nat.or_zero]
      exact Bool.eq_false_iff.mpr h
  | succ m ih =>
    intro top acc
    have key : ∀ (d x : Nat), x + d = top → (tsr (ts P F m) F acc d x = none → ∀ S, SZx F m x top S → P (acc ||| S) = false) ∧ ∀ v, tsr (ts P F m) F acc d x = some v → ∃ S, SZx F m x top S ∧ v = acc ||| S ∧ P v = true ∧ ∀ S', SZx F m x top S' → P (acc ||| S') = true → S ≤ S' := by
      intro d
      induction d with
      | zero =>
        intro x hx
        refine ⟨fun _ S hS => ?_, fun v hv => by simp [tsr] at hv⟩
        obtain ⟨y, S1, h1, h2, _⟩ := hS
        omega
      | succ d ihd =>
        intro x hx
        obtain ⟨i1, i2⟩ := ihd (x + 1) (by omega)
        rw [tsr]
        by_cases hF : F.testBit x = true
        · rw [if_pos hF]
          obtain ⟨s1, s2⟩ := ih x (acc ||| 2 ^ x)
          cases hs : ts P F m x (acc ||| 2 ^ x) with
          | none =>
            have hx0 : ∀ S1, SZ F m x S1 → P (acc ||| (2 ^ x + S1)) = false := by
              intro S1 h
              rw [pw_or (SZ_lt m x S1 h), ← Nat.or_assoc]
              exact s1 hs S1 h
            rw [Option.none_or]
            refine ⟨fun hn S hS => ?_, fun v hv => ?_⟩
            · obtain ⟨y, S1, h1, h2, h3, h4, h5⟩ := hS
              by_cases e : y = x
              · subst e; rw [h5]; exact hx0 S1 h4
              · exact i1 hn S ⟨y, S1, by omega, h2, h3, h4, h5⟩
            · obtain ⟨S, ⟨y, S1, h1, h2, h3, h4, h5⟩, a2, a3, a4⟩ := i2 v hv
              refine ⟨S, ⟨y, S1, by omega, h2, h3, h4, h5⟩, a2, a3, fun S' hS' hP => ?_⟩
              obtain ⟨y', S1', g1, g2, g3, g4, g5⟩ := hS'
              by_cases e : y' = x
              · subst e
                rw [g5, hx0 S1' g4] at hP
                exact absurd hP (by decide)
              · exact a4 S' ⟨y', S1', by omega, g2, g3, g4, g5⟩ hP
          | some r =>
            obtain ⟨S1, b1, b2, b3, b4⟩ := s2 r hs
            rw [Option.some_or]
            refine ⟨fun z => by simp at z, fun v hv => ?_⟩
            obtain rfl := Option.some.inj hv
            have hl := SZ_lt m x S1 b1
            refine ⟨2 ^ x + S1, ⟨x, S1, Nat.le_refl _, by omega, hF, b1, rfl⟩, by rw [pw_or hl, ← Nat.or_assoc]; exact b2, b3, fun S' hS' hP => ?_⟩
            obtain ⟨y', S1', g1, g2, g3, g4, g5⟩ := hS'
            by_cases e : y' = x
            · subst e
              rw [g5, pw_or (SZ_lt m y' S1' g4), ← Nat.or_assoc] at hP
              have := b4 S1' g4 hP
              omega
            · have h6 : 2 ^ (x + 1) ≤ 2 ^ y' := Nat.pow_le_pow_right (by decide) (by omega)
              rw [Nat.pow_succ] at h6
              omega
        · rw [if_neg hF]
          refine ⟨fun hn S hS => ?_, fun v hv => ?_⟩
          · obtain ⟨y, S1, h1, h2, h3, h4, h5⟩ := hS
            have : y ≠ x := fun z => hF (by rw [← z]; exact h3)
            exact i1 hn S ⟨y, S1, by omega, h2, h3, h4, h5⟩
          · obtain ⟨S, ⟨y, S1, h1, h2, h3, h4, h5⟩, a2, a3, a4⟩ := i2 v hv
            refine ⟨S, ⟨y, S1, by omega, h2, h3, h4, h5⟩, a2, a3, fun S' hS' hP => ?_⟩
            obtain ⟨y', S1', g1, g2, g3, g4, g5⟩ := hS'
            have : y' ≠ x := fun z => hF (by rw [← z]; exact g3)
            exact a4 S' ⟨y', S1', by omega, g2, g3, g4, g5⟩ hP
    obtain ⟨k1, k2⟩ := key top 0 (by omega)
    have to : ∀ S, SZ F (m + 1) top S → SZx F m 0 top S := fun S ⟨x, S1, h1, h2, h3, h4⟩ => ⟨x, S1, Nat.zero_le _, h1, h2, h3, h4⟩
    refine ⟨fun hn S hS => k1 hn S (to S hS), fun v hv => ?_⟩
    obtain ⟨S, ⟨y, S1, h1, h2, h3, h4, h5⟩, a2, a3, a4⟩ := k2 v hv
    exact ⟨S, ⟨y, S1, h2, h3, h4, h5⟩, a2, a3, fun S' hS' hP => a4 S' (to S' hS') hP⟩
end TSP
theorem SZ_cnt {F : Nat} : ∀ (m top S n : Nat), SZ F m top S → top ≤ n → cnt (fun i => S.testBit i) n = m ∧ ∀ i, S.testBit i = true → F.testBit i = true
  | 0, top, S, n, h, _ => by
    rw [show S = 0 from h]
    exact ⟨cnt_zero (fun k _ => Nat.zero_testBit k), fun i hi => by rw [Nat.zero_testBit] at hi; exact absurd hi (by decide)⟩
  | m + 1, top, S, n, h, hn => by
    obtain ⟨x, S1, h1, h2, h3, h4⟩ := h
    have h5 := SZ_lt m x S1 h3
    obtain ⟨c1, c2⟩ := SZ_cnt m x S1 n h3 (by omega)
    rw [h4, pw_or h5]
    constructor
    · rw [cnt_one (P := fun i => S1.testBit i) (x := x) (fun k hk hne => by rw [Nat.testBit_or, Nat.testBit_two_pow_of_ne (fun z => hne z.symm), Bool.false_or]) (by omega) (Nat.testBit_lt_two_pow h5) (by rw [Nat.testBit_or, Nat.testBit_two_pow_self, Bool.true_or]), c1]
    · intro i hi
      rw [Nat.testBit_or, Bool.or_eq_true, Nat.testBit_two_pow, decide_eq_true_eq] at hi
      rcases hi with hi | hi
      · rw [← hi]; exact h2
      · exact c2 i hi
theorem SZ_up {F m top S : Nat} (h : SZ F m top S) : SZ F m (top + 1) S := by
  cases m with
  | zero => exact h
  | succ m =>
    obtain ⟨x, S1, h1, h2⟩ := h
    exact ⟨x, S1, by omega, h2⟩
theorem SZ_of {F : Nat} : ∀ (top S : Nat), S < 2 ^ top → (∀ i, S.testBit i = true → F.testBit i = true) → SZ F (cnt (fun i => S.testBit i) top) top S
  | 0, S, h, _ => by show S = 0; omega
  | top + 1, S, h, hF => by
    rw [cnt_s]
    by_cases e : S.testBit top = true
    · have h1 := Nat.ge_two_pow_of_testBit e
      rw [Nat.pow_succ] at h
      rw [if_pos e, show cnt (fun i => S.testBit i) top = cnt (fun i => (S - 2 ^ top).testBit i) top from cnt_cong (fun k hk => by
        have := Nat.testBit_two_pow_add_gt hk (S - 2 ^ top)
        rw [show 2 ^ top + (S - 2 ^ top) = S by omega] at this
        exact this)]
      refine ⟨top, S - 2 ^ top, by omega, hF top e, SZ_of top (S - 2 ^ top) (by omega) (fun i hi => ?_), by omega⟩
      have hit : i < top := Decidable.byContradiction fun z => by
        rw [Nat.testBit_lt_two_pow (Nat.lt_of_lt_of_le (show S - 2 ^ top < 2 ^ top by omega) (Nat.pow_le_pow_right (by decide) (by omega)))] at hi
        exact absurd hi (by decide)
      have := Nat.testBit_two_pow_add_gt hit (S - 2 ^ top)
      rw [show 2 ^ top + (S - 2 ^ top) = S by omega] at this
      exact hF i (by rw [this]; exact hi)
    · rw [if_neg e, Nat.add_zero]
      refine SZ_up (SZ_of top S (Nat.lt_pow_two_of_testBit S (fun i hi => ?_)) hF)
      by_cases z : i = top
      · rw [z]; exact Bool.eq_false_iff.mpr e
      · exact Nat.testBit_lt_two_pow (Nat.lt_of_lt_of_le h (Nat.pow_le_pow_right (by decide) (by omega)))
