/-! ===== camphored ===== -/
theorem bit_if (v x : Nat) : v / 2 ^ x % 2 = if v.testBit x = true then 1 else 0 := by
  rw [Nat.testBit_eq_decide_div_mod_eq]
  by_cases e : v / 2 ^ x % 2 = 1
  · rw [decide_eq_true e, if_pos rfl, e]
  · rw [decide_eq_false e, if_neg Bool.false_ne_true]; omega
theorem bi_4 {nf v : Nat} (hv : v < 2 ^ 25) : ∀ (d x n : Nat), x + d = 25 → d < n → g_X9_bits_l4 nf n (nI v) (nI (cnt (fun i => v.testBit i) x)) (nI x) = some (nI (cnt (fun i => v.testBit i) 25)) := by
  intro d
  induction d with
  | zero =>
    intro x n hx hn
    obtain ⟨n, rfl⟩ := pred_ex hn
    obtain rfl : x = 25 := by omega
    rw [g_X9_bits_l4, if_pos (by decide)]
  | succ d ih =>
    intro x n hx hn
    obtain ⟨n, rfl⟩ := pred_ex hn
    have k := ih (x + 1) n (by omega) (by omega)
    rw [cnt_s] at k
    rw [g_X9_bits_l4, if_neg (L_nge 25 (by omega) (by decide)), bitK (by omega) (by omega), bit_if, nI_add, nI_1]
    exact k
theorem s_bits {nf v : Nat} (hv : v < 2 ^ 25) (hnf : 100 ≤ nf) : g_X9_bits nf (nI v) = some (nI (cnt (fun i => v.testBit i) 25)) := bi_4 hv 25 0 nf (by omega) (by omega)
theorem cnt_32 {v : Nat} (hv : v < 2 ^ 25) : cnt (fun i => v.testBit i) 32 = cnt (fun i => v.testBit i) 25 := by
  rw [show (32 : Nat) = 25 + 7 from rfl, cnt_add, cnt_zero (P := fun k => v.testBit (25 + k)) (fun k _ => tz hv (by omega)), Nat.add_zero]
def FF (B : Nat → Nat) (g : Nat) : Nat → Nat
  | 0 => adn (2 ^ 25 - 1) (2 ^ g)
  | k + 1 => if B 61 / 2 ^ k % 2 = 1 then adn (FF B g k) (2 ^ B (50 + k)) else FF B g k
theorem FF_0 {B : Nat → Nat} {g : Nat} : (33554431 : Int32) &&& (nI (2 ^ g) ^^^ ((-1) : Int32)) = nI (FF B g 0) := by
  rw [show (33554431 : Int32) = nI (2 ^ 25 - 1) from by decide, an_not]
  rfl
theorem FF_lt {B : Nat → Nat} {g : Nat} : ∀ k, FF B g k < 2 ^ 25
  | 0 => adn_lt (by decide)
  | k + 1 => by
    rw [FF]
    split
    · exact adn_lt (FF_lt k)
    · exact FF_lt k
theorem FF_bit {B : Nat → Nat} {g : Nat} : ∀ k i, (FF B g k).testBit i = true ↔ i < 25 ∧ i ≠ g ∧ (MM B k).testBit i = false
  | 0, i => by
    rw [FF, MM, adn_bit, Nat.testBit_two_pow_sub_one, Nat.testBit_two_pow, Nat.zero_testBit, Bool.and_eq_true, decide_eq_true_eq]
    by_cases e : g = i
    · rw [decide_eq_true e]
      exact ⟨fun h => absurd h.2 (by decide), fun h => absurd e.symm h.2.1⟩
    · rw [decide_eq_false e]
      exact ⟨fun h => ⟨h.1, fun z => e z.symm, rfl⟩, fun h => ⟨h.1, rfl⟩⟩
  | k + 1, i => by
    have ih := FF_bit (B := B) (g := g) k i
    rw [FF, MM]
    by_cases e : B 61 / 2 ^ k % 2 = 1
    · rw [if_pos e, if_pos e, adn_bit, Nat.testBit_or, Nat.testBit_two_pow, Bool.and_eq_true, ih]
      by_cases f : B (50 + k) = i
      · rw [decide_eq_true f, Bool.or_true]
        exact ⟨fun h => absurd h.2 (by decide), fun h => absurd h.2.2 (by decide)⟩
      · rw [decide_eq_false f, Bool.or_false]
        exact ⟨fun h => h.1, fun h => ⟨h, rfl⟩⟩
    · rw [if_neg e, if_neg e, Nat.or_zero, ih]
theorem and_m1 (x : Nat) : nI x &&& (-1 : Int32) = nI x := by
  have := an_not x 0
  rw [show nI 0 ^^^ (-1 : Int32) = -1 from by decide] at this
  rw [this]
  unfold adn
  rw [Nat.and_zero, Nat.xor_zero]
theorem cm_33 {nf g : Nat} {B : Nat → Nat} {book : Nat → Int32} {p2 : Int32} (hM : MB book B) (hW : WF B) : ∀ (d x n : Nat), x + d = 4 → d < n → g_X9_camphored_l33 nf n (nI g) p2 (nI (FF B g x)) (nI x) book = (g_X9_isSafe nf (nI g) (nI (FF B g 4)) book).bind fun q1 => if q1 = 0 then some (-6) else g_X9_camphored_l94 nf nf (nI g) p2 (nI (FF B g 4)) (-6) 0 book := by
  intro d
  induction d with
  | zero =>
    intro x n hx hn
    obtain ⟨n, rfl⟩ := pred_ex hn
    obtain rfl : x = 4 := by omega
    rw [g_X9_camphored_l33, if_pos (by decide)]
  | succ d ih =>
    intro x n hx hn
    obtain ⟨n, rfl⟩ := pred_ex hn
    have hx4 : x < 4 := by omega
    have hB := hW.2.2.1 x hx4
    have k := ih (x + 1) n (by omega) (by omega)
    rw [FF] at k
    rw [g_X9_camphored_l33, if_neg (L_nge 4 (by omega) (by decide)), s_there9 hM hW hx4, Option.bind_some, ← k]
    unfold g_X9_camphored_b67
    rw [nI_1]
    by_cases e : B 61 / 2 ^ x % 2 = 1
    · rw [bit_J e, if_neg i1n0, show (50 : Int32) + nI x = nI (50 + x) from nI_add 50 x, ck_nI (show 50 + x < 63 by omega) (by decide), nI_clamp (by omega), hM (50 + x) (by omega), shl1 (by omega), an_not, if_pos e]
    · rw [bit_I e, if_pos rfl, and_m1, if_neg e]
theorem pre_iff {M g F : Nat} (hM : M < 2 ^ 25) (hg : g < 25) (hF : ∀ i, F.testBit i = true ↔ i < 25 ∧ i ≠ g ∧ M.testBit i = false) : SAFE M g F ↔ (M.testBit g = false ∧ ∀ w, w < 4 → bes g w < 25 → M.testBit (bes g w) = false) := by
  constructor
  · rintro ⟨X, hX, hn⟩
    constructor
    · cases e : M.testBit g
      · rfl
      · exact absurd (hX.1 g hg e) hn
    · intro w hw hb
      cases e : M.testBit (bes g w)
      · rfl
      · obtain ⟨s1, s2⟩ := bes_sym g hg w hw hb
        have := hX.2 (bes g w) ((w + 2) % 4) hb s1 (by rw [s2]; exact hg) (hX.1 _ hb e) (by
          rw [s2]
          cases f : F.testBit g
          · rfl
          · exact absurd rfl ((hF g).mp f).2.1)
        rw [s2] at this
        exact absurd this hn
  · rintro ⟨h1, h2⟩
    refine ⟨fun c => M.testBit c = true, ⟨fun c _ h => h, fun c w hc hw hb hX hS => ?_⟩, fun z => by
      have z' : M.testBit g = true := z
      rw [h1] at z'; exact absurd z' (by decide)⟩
    refine Decidable.byContradiction fun z => ?_
    have hm : M.testBit (bes c w) = false := Bool.eq_false_iff.mpr z
    by_cases e : bes c w = g
    · obtain ⟨s1, s2⟩ := bes_sym c hc w hw hb
      rw [e] at s2
      have := h2 _ s1 (by rw [s2]; exact hc)
      rw [s2] at this
      have hX' : M.testBit c = true := hX
      rw [this] at hX'
      exact absurd hX' (by decide)
    · rw [(hF _).mpr ⟨hb, e, hm⟩] at hS
      exact absurd hS (by decide)
theorem pre8 {M g : Nat} (hM : M < 2 ^ 25) (hg : g < 25) : (nI M &&& (nI (2 ^ g) ||| nI (AB (2 ^ g)))) = 0 ↔ (M.testBit g = false ∧ ∀ w, w < 4 → bes g w < 25 → M.testBit (bes g w) = false) := by
  have hA := AB_lt (two25 hg)
  have hl : 2 ^ g ||| AB (2 ^ g) < 2 ^ 31 := Nat.lt_trans (Nat.or_lt_two_pow (two25 hg) hA) (by decide)
  rw [or_I, z_and hl]
  constructor
  · intro h
    constructor
    · cases e : M.testBit g
      · rfl
      · have := h g e
        rw [Nat.testBit_or, Nat.testBit_two_pow_self, Bool.true_or] at this
        exact absurd this (by decide)
    · intro w hw hb
      cases e : M.testBit (bes g w)
      · rfl
      · have := h _ e
        rw [Nat.testBit_or, AB_of (two25 hg) hg hw hb Nat.testBit_two_pow_self, Bool.or_true] at this
        exact absurd this (by decide)
  · rintro ⟨h1, h2⟩ i hi
    have hi25 := tlt hM hi
    rw [Nat.testBit_or, Nat.testBit_two_pow]
    have e1 : ¬ g = i := fun z => by rw [← z, h1] at hi; exact absurd hi (by decide)
    rw [decide_eq_false e1, Bool.false_or]
    cases e : (AB (2 ^ g)).testBit i
    · rfl
    · obtain ⟨w, hw, hb⟩ := (AB_one hg hi25).mp e
      obtain ⟨s1, s2⟩ := bes_sym i hi25 w hw (by rw [hb]; exact hg)
      rw [hb] at s2
      have := h2 _ s1 (by rw [s2]; exact hi25)
      rw [s2, hi] at this
      exact absurd this (by decide)
section CAMPH
variable {nf g : Nat} {B : Nat → Nat} {book : Nat → Int32}
def NOS (M g F few : Nat) : Prop := ∀ k, k < few → ∀ S, SZ F k 25 S → sf M g S = false
theorem nos_cnt {M F few L : Nat} (h : NOS M g F few) (h1 : L < 2 ^ 25) (h2 : ∀ i, L.testBit i = true → F.testBit i = true) (h3 : SAFE M g L) : few ≤ cnt (fun i => L.testBit i) 25 := by
  refine Decidable.byContradiction fun z => ?_
  have := h _ (show cnt (fun i => L.testBit i) 25 < few by omega) L (SZ_of 25 L h1 h2)
  rw [sf_iff.mpr h3] at this
  exact absurd this (by decide)
theorem cm_few {M F few : Nat} {rings : Nat → Int32} (hg : g < 25) (hM : M < 2 ^ 25) (hgM : M.testBit g = false) (hpre : ∀ w, w < 4 → bes g w < 25 → M.testBit (bes g w) = false) (hF : ∀ i, F.testBit i = true ↔ i < 25 ∧ i ≠ g ∧ M.testBit i = false) (hnf : 100 ≤ nf) (hf : few ≤ 4) (hN : NOS M g F few) : ∃ rings', g_X3_search nf 6 0 0 (nI few) rings (nI M) (nI (2 ^ g)) (-6) = some (rings', oI (ts (sf M g) F few 25 0)) := by
  have z0 : ∀ i, (0 : Nat).testBit i = true → False := fun i h => by rw [Nat.zero_testBit] at h; exact absurd h (by decide)
  obtain ⟨r', bo', h1, h2, h3⟩ := se (nf := nf) (few := few) hg hM hgM hpre hF hnf 6 0 0 few rings none (by omega) (by omega) (by decide) (by decide) (fun i h => absurd h (z0 i)) (by rw [cnt_zero (fun k _ => Nat.zero_testBit k)]; omega) (fun b hb => by simp at hb)
  refine ⟨r', ?_⟩
  rw [show g_X3_search nf 6 0 0 (nI few) rings (nI M) (nI (2 ^ g)) (-6) = _ from h1]
  congr 3
  obtain ⟨s1, s2⟩ := ts_spec (P := sf M g) (F := F) few 25 0
  cases hts : ts (sf M g) F few 25 0 with
  | none =>
    cases bo' with
    | none => rfl
    | some b =>
      obtain ⟨g1, g2, g3, g4⟩ := h2.1 b rfl
      have g5 := nos_cnt hN g1 g2 g3
      have g6 := SZ_of 25 b g1 g2
      rw [show cnt (fun i => b.testBit i) 25 = few by omega] at g6
      have := s1 hts b g6
      rw [Nat.zero_or, sf_iff.mpr g3] at this
      exact absurd this (by decide)
  | some v =>
    obtain ⟨S, a1, a2, a3, a4⟩ := s2 v hts
    rw [Nat.zero_or] at a2
    subst a2
    have b1 := SZ_lt few 25 v a1
    obtain ⟨b2, b3⟩ := SZ_cnt few 25 v 25 a1 (Nat.le_refl _)
    obtain ⟨b, c1, c2⟩ := h3 v ⟨b1, b3, sf_iff.mp a3, fun L l1 l2 l3 => by
      have l4 := nos_cnt hN l1 (fun i hi => b3 i (l2 i hi)) l3
      refine Nat.eq_of_testBit_eq fun i => ?_
      cases e : v.testBit i
      · cases f : L.testBit i
        · rfl
        · rw [l2 i f] at e; exact absurd e (by decide)
      · refine Decidable.byContradiction fun f => ?_
        have := cnt_sub1 (P := fun i => L.testBit i) (Q := fun i => v.testBit i) (x := i) (n := 25) (fun k _ h => l2 k h) (tlt b1 e) (Bool.eq_false_iff.mpr f) e
        omega, fun i h => absurd h (z0 i), fun i h => absurd h (z0 i), by
      rw [cnt_cong (Q := fun i => v.testBit i) (fun k _ => by rw [Nat.zero_testBit, Bool.not_false, Bool.and_true]), b2]
      exact Nat.le_refl _⟩
    obtain ⟨g1, g2, g3, g4⟩ := h2.1 b c1
    have g5 := nos_cnt hN g1 g2 g3
    have g6 := SZ_of 25 b g1 g2
    rw [show cnt (fun i => b.testBit i) 25 = few by omega] at g6
    have := a4 b g6 (by rw [Nat.zero_or]; exact sf_iff.mpr g3)
    rw [c1, show b = v by omega]
theorem cm_loop {F : Nat} {p2 : Int32} (hMB : MB book B) (hW : WF B) (hg : g < 25) (hgM : (MM B 4).testBit g = false) (hpre : ∀ w, w < 4 → bes g w < 25 → (MM B 4).testBit (bes g w) = false) (hF : ∀ i, F.testBit i = true ↔ i < 25 ∧ i ≠ g ∧ (MM B 4).testBit i = false) (hF25 : F < 2 ^ 25) (hnf : 40000000 ≤ nf) : ∀ (e few n8 n9 : Nat) (rings : Nat → Int32), few + e = 5 → e + 1 < n8 → e + 1 < n9 → NOS (MM B 4) g F few → ∃ r q, (∀ v, r = some v → v < 2 ^ 25) ∧ g_X3_leastCells_l41 nf n8 (nI few) rings (nI (MM B 4)) (nI (2 ^ g)) (-6) = some (oI r, q) ∧ g_X9_camphored_l94 nf n9 (nI g) p2 (nI F) (-6) (nI few) book = g_X9_camphored_b121 nf p2 (oI r) book := by
  have hM := MM_lt hW 4 (Nat.le_refl _)
  intro e
  induction e with
  | zero =>
    intro few n8 n9 rings h1 h2 h3 hN
    obtain ⟨n8, rfl⟩ := pred_ex h2
    obtain ⟨n9, rfl⟩ := pred_ex h3
    obtain rfl : few = 5 := by omega
    exact ⟨none, _, fun v hv => by simp at hv, by rw [g_X3_leastCells_l41, if_pos (by decide)]; rfl, by rw [g_X9_camphored_l94, if_pos (by decide)]; rfl⟩
  | succ e ih =>
    intro few n8 n9 rings h1 h2 h3 hN
    obtain ⟨n8, rfl⟩ := pred_ex h2
    obtain ⟨n9, rfl⟩ := pred_ex h3
    obtain ⟨r1, k1⟩ := cm_few (nf := nf) (rings := rings) hg hM hgM hpre hF (by omega) (show few ≤ 4 by omega) hN
    rw [g_X3_leastCells_l41, if_neg (L_ngt 4 (by omega) (by decide)), if_pos rfl, k1, Option.bind_some, g_X9_camphored_l94, if_neg (L_nge 5 (by omega) (by decide)), if_neg (by decide), s_tryShut hMB hW hg hF25 hnf (show few ≤ 4 by omega), Option.bind_some, nI_1]
    cases hts : ts (sf (MM B 4) g) F few 25 0 with
    | none =>
      refine ih (few + 1) n8 n9 r1 (by omega) (by omega) (by omega) fun k hk S hS => ?_
      by_cases z : k < few
      · exact hN k z S hS
      · rw [show k = few by omega] at hS
        have := (ts_spec (P := sf (MM B 4) g) (F := F) few 25 0).1 hts S hS
        rw [Nat.zero_or] at this
        exact this
    | some v =>
      obtain ⟨n8, rfl⟩ := pred_ex (show 0 < n8 by omega)
      obtain ⟨n9, rfl⟩ := pred_ex (show 0 < n9 by omega)
      obtain ⟨S, a1, a2, a3, a4⟩ := (ts_spec (P := sf (MM B 4) g) (F := F) few 25 0).2 v hts
      have b1 := SZ_lt few 25 S a1
      rw [Nat.zero_or] at a2
      rw [← a2] at b1
      refine ⟨some v, (r1, nI (MM B 4), nI (2 ^ g), nI v), fun v' hv => by rw [← Option.some.inj hv]; exact b1, ?_, ?_⟩
      · rw [g_X3_leastCells_l41, oI_some, if_neg (nI_m6 (by omega))]
        split <;> rfl
      · rw [g_X9_camphored_l94, oI_some, if_pos (show (0 : Int32) ≤ nI v from nI_le (Nat.zero_le v) (by omega))]
        split <;> rfl
end CAMPH
theorem st_camphored : St_camphored := by
  intro n_lands n_camphors n_there n_mothCells n_mothHeads n_threads n_sightNights n_sightCells n_sights n_night u_lands u_camphors u_there u_mothCells u_mothHeads u_threads u_sightNights u_sightCells u_sights u_night v_lands v_camphors v_there v_mothCells v_mothHeads v_threads v_sightNights v_sightCells v_sights v_night kept p_signs p_size t_next_ book sights sight signs pad image isKept y_rings y_moths y_harbour y_best p1 p2 hR
  obtain ⟨⟨B, S, SS, hW, hDB, hMB, hWS, hDS, hMS⟩, hRP, hI0, hI1, hRT⟩ := hR
  obtain ⟨nf, hnf⟩ : ∃ nf : Nat, 40000000 ≤ nf := ⟨40000000, Nat.le_refl _⟩
  suffices hh : ∃ q1 q2, g_X8_camphored nf p1 p2 n_there n_mothCells y_rings y_moths y_harbour y_best = some q1 ∧ g_X9_camphored nf p1 p2 book = some q2 ∧ q1.1 = q2 by
    obtain ⟨q1, q2, h1, h2, h3⟩ := hh
    exact ⟨nf, q1, q2, h1, h2, h3, ⟨B, S, SS, hW, hDB, hMB, hWS, hDS, hMS⟩, hRP, hI0, hI1, hRT⟩
  unfold g_X8_camphored g_X9_camphored
  by_cases c1 : 0 ≤ p1 ∧ p1 ≤ 24
  · rw [c8_t c1, c9_t c1, Option.bind_some, Option.bind_some, if_neg i1n0, if_neg i1n0]
    by_cases c2 : 0 ≤ p2 ∧ p2 ≤ 1
    · rw [w_t c2, n_t c2, Option.bind_some, Option.bind_some, if_neg i1n0, if_neg i1n0]
      obtain ⟨g, hg, rfl⟩ := rngN (k := 24) (by decide) c1
      obtain ⟨w, hw, rfl⟩ := rngN (k := 1) (by decide) c2
      have hg25 : g < 25 := by omega
      have hM := MM_lt hW 4 (Nat.le_refl _)
      have hF := fun i => FF_bit (B := B) (g := g) 4 i
      rw [show g_X1_mothCellBits nf n_there n_mothCells = _ from mcb_4 (nf := nf) hDB hW 4 0 nf (by omega) (by omega), Option.bind_some, shl1 (show g < 31 by omega), show (33554431 : Int32) &&& (nI (2 ^ g) ^^^ ((-1) : Int32)) = nI (FF B g 0) from FF_0, show g_X9_camphored_l33 nf nf (nI g) (nI w) (nI (FF B g 0)) 0 book = _ from cm_33 (nf := nf) hMB hW 4 0 nf (by omega) (by omega), s_isSafe hMB hW hg25 (FF_lt 4) hnf, Option.bind_some]
      unfold g_X3_leastCells
      rw [s_AB (two25 hg25), Option.bind_some]
      by_cases hp : (MM B 4).testBit g = false ∧ ∀ w, w < 4 → bes g w < 25 → (MM B 4).testBit (bes g w) = false
      · rw [if_pos ((pre8 hM hg25).mpr hp), if_pos (sf_iff.mpr ((pre_iff hM hg25 hF).mpr hp)), if_neg i1n0]
        obtain ⟨r, q, k1, k2, k3⟩ := cm_loop (nf := nf) (p2 := nI w) hMB hW hg25 hp.1 hp.2 hF (FF_lt 4) hnf 5 0 nf nf y_rings (by omega) (by omega) (by omega) (fun k hk => absurd hk (Nat.not_lt_zero k))
        rw [show g_X3_leastCells_l41 nf nf 0 y_rings (nI (MM B 4)) (nI (2 ^ g)) (-6) = _ from k2, Option.bind_some, show g_X9_camphored_l94 nf nf (nI g) (nI w) (nI (FF B g 4)) (-6) 0 book = _ from k3]
        unfold g_X9_camphored_b121 g_X9_camphored_b131
        cases r with
        | none => exact ⟨_, _, if_pos rfl, if_pos (by decide), rfl⟩
        | some v =>
          have hv := k1 v rfl
          rw [oI_some, if_neg (show ¬ ((nI v, q) : Int32 × (Nat → Int32) × Int32 × Int32 × Int32).1 = -6 from nI_m6 (by omega)), if_neg (nI_pos (show v < 2 ^ 31 by omega)), s_bits hv (by omega), Option.bind_some, show g_J6_bitCount_0f7a4 nf ((nI v, q) : Int32 × (Nat → Int32) × Int32 × Int32 × Int32).1 = _ from s_bitCount (nf := nf) (show v < 2 ^ 31 by omega), Option.bind_some, cnt_32 hv]
          by_cases z : w = 0
          · subst z
            exact ⟨_, _, if_pos rfl, if_neg (by decide), rfl⟩
          · obtain rfl : w = 1 := by omega
            exact ⟨_, _, if_neg (by decide), if_pos rfl, rfl⟩
      · rw [if_neg (fun z => hp ((pre8 hM hg25).mp z)), sf_no (fun z => hp ((pre_iff hM hg25 hF).mp z)), if_neg Bool.false_ne_true, if_pos rfl, Option.bind_some]
        exact ⟨_, _, if_pos rfl, rfl, rfl⟩
    · rw [w_f c2, n_f c2]
      exact ⟨_, _, rfl, rfl, rfl⟩
  · rw [c8_f c1, c9_f c1]
    exact ⟨_, _, rfl, rfl, rfl⟩
