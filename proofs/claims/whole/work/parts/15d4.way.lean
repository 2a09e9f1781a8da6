/-! ===== camphor: the open way ===== -/
section WAY
variable {nf M T g : Nat}
/-- a way whose cells are none of the taken ones, and that each safe set must cut -/
def WAYP (M T g W : Nat) : Prop := (∀ x, W.testBit x = true → T.testBit x = false ∧ M.testBit x = false ∧ x ≠ g) ∧ ∀ S X, XCL M S X → S.testBit g = false → (∀ x, W.testBit x = true → S.testBit x = false) → X g
def WQ (M T g W a : Nat) : Prop := (∀ x, W.testBit x = true → T.testBit x = false ∧ M.testBit x = false ∧ x ≠ g) ∧ (a = g ∨ W.testBit a = true) ∧ ∀ S X, XCL M S X → S.testBit g = false → (∀ x, W.testBit x = true → S.testBit x = false) → X a → X g
def RG (M T g : Nat) (R : Nat → Nat) (K : Nat) : Prop := R 0 = M ∧ (∀ j, j < K → R j < 2 ^ 25) ∧ ∀ j, j + 1 < K → ∀ c, (R (j + 1)).testBit c = true → T.testBit c = false ∧ M.testBit c = false ∧ c ≠ g ∧ (AB (R j)).testBit c = true
theorem wb_12 {R : Nat → Nat} {rings : Nat → Int32} {h : Int32} {K : Nat} (hK : K ≤ 26) (hR : RG M T g R K) (hr : ∀ j, j < K → rings j = nI (R j)) : ∀ (k n W a : Nat), k < K → k < n → W < 2 ^ 25 → a < 25 → (AB (R k)).testBit a = true → WQ M T g W a → ∃ W', g_X3_wayBack_l12 nf n (nI W) (nI (2 ^ a)) (nI k) rings h = some (nI W') ∧ W' < 2 ^ 25 ∧ WAYP M T g W' ∧ (∀ x, W.testBit x = true → W'.testBit x = true) ∧ (1 ≤ k → ∃ x, W'.testBit x = true) := by
  intro k
  induction k with
  | zero =>
    intro n W a hk hn hW ha hN hQ
    obtain ⟨n, rfl⟩ := pred_ex hn
    refine ⟨W, by rw [g_X3_wayBack_l12, if_pos (by decide)], hW, ⟨hQ.1, fun S X hX hS hD => ?_⟩, fun _ h => h, fun z => absurd z (by decide)⟩
    rw [hR.1, AB_bit (by have := hR.2.1 0 hk; rw [hR.1] at this; exact this) ha] at hN
    obtain ⟨w, hw, hb, hm⟩ := hN
    obtain ⟨s1, s2⟩ := bes_sym a ha w hw hb
    have hSa : S.testBit a = false := by
      rcases hQ.2.1 with e | e
      · rw [e]; exact hS
      · exact hD a e
    have := hX.2 (bes a w) ((w + 2) % 4) hb s1 (by rw [s2]; exact ha) (hX.1 _ hb hm) (by rw [s2]; exact hSa)
    rw [s2] at this
    exact hQ.2.2 S X hX hS hD this
  | succ k ih =>
    intro n W a hk hn hW ha hN hQ
    obtain ⟨n, rfl⟩ := pred_ex hn
    have hRk := hR.2.1 (k + 1) hk
    have hA2 := AB_lt (two25 ha)
    have hlt : AB (2 ^ a) &&& R (k + 1) < 2 ^ 25 := Nat.and_lt_two_pow _ hRk
    obtain ⟨w, hw, hb, hm⟩ := (AB_bit hRk ha).mp hN
    have hpos : 0 < AB (2 ^ a) &&& R (k + 1) := by
      refine Nat.pos_of_ne_zero fun z => ?_
      have h1 : (AB (2 ^ a) &&& R (k + 1)).testBit (bes a w) = true := by
        rw [Nat.testBit_and, hm, AB_of (two25 ha) ha hw hb Nat.testBit_two_pow_self]; rfl
      rw [z, Nat.zero_testBit] at h1
      exact absurd h1 (by decide)
    obtain ⟨b, hb25, hbt, hlow⟩ := s_low (nf := nf) hpos hlt
    rw [Nat.testBit_and, Bool.and_eq_true] at hbt
    obtain ⟨r1, r2, r3, r4⟩ := hR.2.2 k hk b hbt.2
    obtain ⟨W', j1, j2, j3, j4, j5⟩ := ih n (W ||| 2 ^ b) b (by omega) (by omega) (Nat.or_lt_two_pow hW (two25 hb25)) hb25 r4 ⟨fun x hx => by
        rw [Nat.testBit_or, Bool.or_eq_true, Nat.testBit_two_pow, decide_eq_true_eq] at hx
        rcases hx with hx | hx
        · exact hQ.1 x hx
        · rw [← hx]; exact ⟨r1, r2, r3⟩, Or.inr (by rw [Nat.testBit_or, Nat.testBit_two_pow_self, Bool.or_true]), fun S X hX hS hD hXb => by
        have hD' : ∀ x, W.testBit x = true → S.testBit x = false := fun x hx => hD x (by rw [Nat.testBit_or, hx, Bool.true_or])
        have hSa : S.testBit a = false := by
          rcases hQ.2.1 with e | e
          · rw [e]; exact hS
          · exact hD' a e
        obtain ⟨w', hw', e'⟩ := (AB_one ha hb25).mp hbt.1
        have := hX.2 b w' hb25 hw' (by rw [e']; exact ha) hXb (by rw [e']; exact hSa)
        rw [e'] at this
        exact hQ.2.2 S X hX hS hD' this⟩
    refine ⟨W', ?_, j2, j3, fun x hx => j4 x (by rw [Nat.testBit_or, hx, Bool.true_or]), fun _ => ⟨b, j4 b (by rw [Nat.testBit_or, Nat.testBit_two_pow_self, Bool.or_true])⟩⟩
    rw [← j1, g_X3_wayBack_l12, if_neg (L_nlt 1 (by omega) (by omega)), if_neg (L_ngt 25 (by omega) (by decide)), s_AB (two25 ha), Option.bind_some, ck_nI (show k + 1 < 26 by omega) (by decide), nI_clamp (by omega), hr (k + 1) hk, an_I, hlow, Option.bind_some, or_I, pk_m1]
def OW (M T g k Rc : Nat) (R : Nat → Nat) (rings : Nat → Int32) : Prop := RG M T g R k ∧ (∀ j, j < k → rings j = nI (R j)) ∧ Rc < 2 ^ 25 ∧ Rc.testBit g = false ∧ (∀ c, M.testBit c = true → Rc.testBit c = true) ∧ (∀ c, (R (k - 1)).testBit c = true → Rc.testBit c = true) ∧ (∀ c w, c < 25 → w < 4 → bes c w < 25 → Rc.testBit c = true → (R (k - 1)).testBit c = false → T.testBit (bes c w) = false → Rc.testBit (bes c w) = true) ∧ k - 1 ≤ cnt (fun i => Rc.testBit i) 25
theorem ow_17 (hg : g < 25) (hT : T < 2 ^ 25) (hpre : ∀ w, w < 4 → bes g w < 25 → M.testBit (bes g w) = false) (hnf : 100 ≤ nf) : ∀ (d k n Rc : Nat) (R : Nat → Nat) (rings : Nat → Int32), k + d = 26 → 1 ≤ k → d < n → OW M T g k Rc R rings → ∃ W rings', g_X3_openWay_l17 nf n (nI T) (nI Rc) (nI k) rings (nI M) (nI (2 ^ g)) = some (nI W, rings') ∧ W < 2 ^ 25 ∧ ((W = 0 ∧ SAFE M g T) ∨ (W ≠ 0 ∧ WAYP M T g W)) := by
  intro d
  induction d with
  | zero =>
    intro k n Rc R rings hk h1 hn hO
    obtain ⟨o1, o2, o3, o4, o5, o6, o7, o8⟩ := hO
    have := cnt_le (fun i => Rc.testBit i) 25
    have h2 := cnt_all (show cnt (fun i => Rc.testBit i) 25 = 25 by omega) g hg
    rw [show Rc.testBit g = false from o4] at h2
    exact absurd h2 (by decide)
  | succ d ih =>
    intro k n Rc R rings hk h1 hn hO
    obtain ⟨n, rfl⟩ := pred_ex hn
    obtain ⟨o1, o2, o3, o4, o5, o6, o7, o8⟩ := hO
    have hRk := o1.2.1 (k - 1) (by omega)
    have hA := AB_lt hRk
    have hr1 := adn_lt (b := Rc) hA
    have hr := adn_lt (b := T) hr1
    have bit : ∀ c, (adn (adn (AB (R (k - 1))) Rc) T).testBit c = true ↔ (AB (R (k - 1))).testBit c = true ∧ Rc.testBit c = false ∧ T.testBit c = false := by
      intro c
      rw [adn_bit, adn_bit]
      cases (AB (R (k - 1))).testBit c <;> cases Rc.testBit c <;> cases T.testBit c <;> simp
    rw [g_X3_openWay_l17, if_neg (L_ngt 25 (by omega) (by decide)), show nI k - 1 = nI (k - 1) from pk_sub (b := 1) h1, ck_nI (show k - 1 < 26 by omega) (by decide), nI_clamp (by omega), o2 (k - 1) (by omega), s_AB hRk, Option.bind_some, an_not, an_not]
    generalize hq : adn (adn (AB (R (k - 1))) Rc) T = ring at hr bit
    by_cases hz : ring = 0
    · rw [hz, if_pos (show nI 0 = 0 from rfl)]
      refine ⟨0, rings, rfl, by decide, Or.inl ⟨rfl, fun c => Rc.testBit c = true, ⟨fun c _ h => o5 c h, fun c w hc hw hb hX hS => ?_⟩, fun z => by
        have z' : Rc.testBit g = true := z
        rw [o4] at z'
        exact absurd z' (by decide)⟩⟩
      cases e : (R (k - 1)).testBit c
      · exact o7 c w hc hw hb hX e hS
      · refine Decidable.byContradiction fun z => ?_
        have := (bit (bes c w)).mpr ⟨AB_of hRk hc hw hb e, Bool.eq_false_iff.mpr z, hS⟩
        rw [hz, Nat.zero_testBit] at this
        exact absurd this (by decide)
    · rw [if_neg (show ¬ nI ring = 0 from fun z => hz ((nI_eq (show ring < 2 ^ 31 by omega) (show 0 < 2 ^ 31 by decide)).mp z))]
      cases hgb : ring.testBit g
      · rw [if_pos ((z_bit (show g < 31 by omega)).mpr hgb), ck_nI (show k < 26 by omega) (by decide), nI_clamp (by omega), or_I, nI_1]
        refine ih (k + 1) n (Rc ||| ring) (upN R k ring) (upd rings k (nI ring)) (by omega) (by omega) (by omega) ⟨⟨?_, ?_, ?_⟩, ?_, Nat.or_lt_two_pow o3 hr, ?_, ?_, ?_, ?_, ?_⟩
        · rw [upN_ne (by omega)]; exact o1.1
        · intro j hj
          by_cases e : j = k
          · rw [e, upN_eq]; exact hr
          · rw [upN_ne e]; exact o1.2.1 j (by omega)
        · intro j hj c hc
          by_cases e : j + 1 = k
          · rw [e, upN_eq] at hc
            have hb := (bit c).mp hc
            rw [upN_ne (by omega), show j = k - 1 by omega]
            refine ⟨hb.2.2, ?_, ?_, hb.1⟩
            · cases m : M.testBit c
              · rfl
              · have h9 := o5 c m
                rw [hb.2.1] at h9
                exact absurd h9 (by decide)
            · intro z
              rw [z, hgb] at hc
              exact absurd hc (by decide)
          · rw [upN_ne e] at hc
            rw [upN_ne (by omega)]
            exact o1.2.2 j (by omega) c hc
        · intro j hj
          by_cases e : j = k
          · rw [e, upd_eq, upN_eq]
          · rw [upd_ne e, upN_ne e]; exact o2 j (by omega)
        · rw [Nat.testBit_or, o4, hgb]; rfl
        · intro c h
          rw [Nat.testBit_or, o5 c h, Bool.true_or]
        · intro c h
          rw [Nat.add_sub_cancel, upN_eq] at h
          rw [Nat.testBit_or, h, Bool.or_true]
        · intro c w hc hw hb hX hN hS
          rw [Nat.add_sub_cancel, upN_eq] at hN
          rw [Nat.testBit_or, hN, Bool.or_false] at hX
          rw [Nat.testBit_or]
          cases e : (R (k - 1)).testBit c
          · rw [o7 c w hc hw hb hX e hS, Bool.true_or]
          · cases f : Rc.testBit (bes c w)
            · rw [(bit (bes c w)).mpr ⟨AB_of hRk hc hw hb e, f, hS⟩]; rfl
            · rfl
        · obtain ⟨x, hx⟩ := Nat.exists_testBit_of_ne_zero hz
          have hx25 := tlt hr hx
          have := cnt_sub1 (P := fun i => Rc.testBit i) (Q := fun i => (Rc ||| ring).testBit i) (x := x) (n := 25) (fun i _ h => by rw [Nat.testBit_or, show Rc.testBit i = true from h, Bool.true_or]) hx25 ((bit x).mp hx).2.1 (by rw [Nat.testBit_or, hx, Bool.or_true])
          omega
      · rw [if_neg (fun z => by rw [(z_bit (show g < 31 by omega)).mp z] at hgb; exact absurd hgb (by decide))]
        have hAg := ((bit g).mp hgb).1
        have hk2 : 2 ≤ k := by
          refine Decidable.byContradiction fun z => ?_
          have e : k - 1 = 0 := by omega
          rw [e, o1.1] at hAg
          obtain ⟨w, hw, hb, hm⟩ := (AB_bit (by rw [← o1.1]; exact o1.2.1 0 (by omega)) hg).mp hAg
          rw [hpre w hw hb] at hm
          exact absurd hm (by decide)
        obtain ⟨W, w1, w2, w3, w4, w5⟩ := wb_12 (nf := nf) (h := nI (2 ^ g)) (K := k) (by omega) o1 o2 (k - 1) nf 0 g (by omega) (by omega) (by decide) hg hAg ⟨fun x hx => by rw [Nat.zero_testBit] at hx; exact absurd hx (by decide), Or.inl rfl, fun S X _ _ _ h => h⟩
        refine ⟨W, rings, ?_, w2, Or.inr ⟨fun z => ?_, w3⟩⟩
        · unfold g_X3_wayBack
          rw [show nI k - 1 = nI (k - 1) from pk_sub (b := 1) h1, show g_X3_wayBack_l12 nf nf 0 (nI (2 ^ g)) (nI (k - 1)) rings (nI (2 ^ g)) = _ from w1, Option.bind_some]
        · obtain ⟨x, hx⟩ := w5 (by omega)
          rw [z, Nat.zero_testBit] at hx
          exact absurd hx (by decide)
theorem s_openWay {rings : Nat → Int32} (hg : g < 25) (hM : M < 2 ^ 25) (hT : T < 2 ^ 25) (hgM : M.testBit g = false) (hpre : ∀ w, w < 4 → bes g w < 25 → M.testBit (bes g w) = false) (hnf : 100 ≤ nf) : ∃ W rings', g_X3_openWay nf (nI T) rings (nI M) (nI (2 ^ g)) = some (nI W, rings') ∧ W < 2 ^ 25 ∧ ((W = 0 ∧ SAFE M g T) ∨ (W ≠ 0 ∧ WAYP M T g W)) := by
  obtain ⟨W, r', h1, h2, h3⟩ := ow_17 (nf := nf) hg hT hpre hnf 25 1 nf M (fun _ => M) (upd rings 0 (nI M)) (by omega) (by omega) (by omega) ⟨⟨rfl, fun _ _ => hM, fun j hj => by omega⟩, fun j hj => by rw [show j = 0 by omega, upd_eq], hM, hgM, fun c h => h, fun c h => h, fun c w _ _ _ h1 h2 => by rw [h1] at h2; exact absurd h2 (by decide), Nat.zero_le _⟩
  refine ⟨W, r', ?_, h2, h3⟩
  unfold g_X3_openWay
  rw [ckL (k := 0) (n := 26) (by decide) (by decide)]
  exact h1
end WAY
/-! the search -/
section SEARCH
variable {nf M g F few : Nat}
def GOODL (M g F few L : Nat) : Prop := L < 2 ^ 25 ∧ (∀ i, L.testBit i = true → F.testBit i = true) ∧ SAFE M g L ∧ cnt (fun i => L.testBit i) 25 ≤ few
def TGT (M g F S T fr left : Nat) : Prop := S < 2 ^ 25 ∧ (∀ i, S.testBit i = true → F.testBit i = true) ∧ SAFE M g S ∧ (∀ L, L < 2 ^ 25 → (∀ i, L.testBit i = true → S.testBit i = true) → SAFE M g L → L = S) ∧ (∀ i, T.testBit i = true → S.testBit i = true) ∧ (∀ i, fr.testBit i = true → S.testBit i = false) ∧ cnt (fun i => S.testBit i && !T.testBit i) 25 ≤ left
def RES (M g F few : Nat) (bo bo' : Option Nat) : Prop := (∀ b, bo' = some b → GOODL M g F few b) ∧ ∀ b, bo = some b → ∃ b', bo' = some b' ∧ b' ≤ b
theorem RES_r {bo : Option Nat} (h : ∀ b, bo = some b → GOODL M g F few b) : RES M g F few bo bo := ⟨h, fun b e => ⟨b, e, Nat.le_refl _⟩⟩
theorem RES_t {a b c : Option Nat} (h : RES M g F few a b) (k : RES M g F few b c) : RES M g F few a c := by
  refine ⟨k.1, fun x e => ?_⟩
  obtain ⟨y, h1, h2⟩ := h.2 x e
  obtain ⟨z, h3, h4⟩ := k.2 y h1
  exact ⟨z, h3, Nat.le_trans h4 h2⟩
theorem oI_some (k : Nat) : oI (some k) = nI k := rfl
theorem se (hg : g < 25) (hM : M < 2 ^ 25) (hgM : M.testBit g = false) (hpre : ∀ w, w < 4 → bes g w < 25 → M.testBit (bes g w) = false) (hF : ∀ i, F.testBit i = true ↔ i < 25 ∧ i ≠ g ∧ M.testBit i = false) (hnf : 100 ≤ nf) : ∀ (d T fr left : Nat) (rings : Nat → Int32) (bo : Option Nat), left < d → left < 100 → T < 2 ^ 25 → fr < 2 ^ 25 → (∀ i, T.testBit i = true → F.testBit i = true) → cnt (fun i => T.testBit i) 25 + left ≤ few → (∀ b, bo = some b → GOODL M g F few b) → ∃ rings' bo', g_X3_search nf d (nI T) (nI fr) (nI left) rings (nI M) (nI (2 ^ g)) (oI bo) = some (rings', oI bo') ∧ RES M g F few bo bo' ∧ ∀ S, TGT M g F S T fr left → ∃ b, bo' = some b ∧ b ≤ S := by
  intro d
  induction d with
  | zero => intro T fr left rings bo h; omega
  | succ d ih =>
    intro T fr left rings bo hl hl2 hT hfr hTF hcn hbo
    obtain ⟨W, r1, e1, hW, hway⟩ := s_openWay (nf := nf) (rings := rings) hg hM hT hgM hpre hnf
    rw [g_X3_search, e1, Option.bind_some]
    rcases hway with ⟨w0, hs⟩ | ⟨w0, hwp⟩
    · rw [show ((nI W, r1) : Int32 × (Nat → Int32)).1 = 0 by rw [w0]; rfl, if_pos rfl]
      have gT : GOODL M g F few T := ⟨hT, hTF, hs, by omega⟩
      unfold g_X3_search_b34
      cases bo with
      | none =>
        refine ⟨r1, some T, if_pos rfl, ⟨fun b hb => by rw [← Option.some.inj hb]; exact gT, fun b hb => by simp at hb⟩, fun S hS => ⟨T, rfl, ?_⟩⟩
        rw [hS.2.2.2.1 T hT hS.2.2.2.2.1 hs]; exact Nat.le_refl _
      | some b0 =>
        have g0 := hbo b0 rfl
        rw [oI_some, if_neg (nI_m6 (by have := g0.1; omega))]
        by_cases c : T < b0
        · refine ⟨r1, some T, by rw [if_pos (nI_lt c (by have := g0.1; omega))]; rfl, ⟨fun b hb => by rw [← Option.some.inj hb]; exact gT, fun b hb => ⟨T, rfl, by rw [← Option.some.inj hb]; omega⟩⟩, fun S hS => ⟨T, rfl, ?_⟩⟩
          rw [hS.2.2.2.1 T hT hS.2.2.2.2.1 hs]; exact Nat.le_refl _
        · refine ⟨r1, some b0, by rw [if_neg (nI_nlt (by omega) (by omega))]; rfl, ⟨fun b hb => by rw [← Option.some.inj hb]; exact g0, fun b hb => ⟨b0, rfl, by rw [← Option.some.inj hb]; omega⟩⟩, fun S hS => ⟨b0, rfl, ?_⟩⟩
          rw [← hS.2.2.2.1 T hT hS.2.2.2.2.1 hs]; omega
    · have hTg : T.testBit g = false := by
        cases e : T.testBit g
        · rfl
        · exact absurd rfl ((hF g).mp (hTF g e)).2.1
      have hns : ¬ SAFE M g T := fun ⟨X, hX, hn⟩ => hn (hwp.2 T X hX hTg (fun x hx => (hwp.1 x hx).1))
      rw [if_neg (show ¬ ((nI W, r1) : Int32 × (Nat → Int32)).1 = 0 from fun z => w0 ((nI_eq (show W < 2 ^ 31 by omega) (show 0 < 2 ^ 31 by decide)).mp z))]
      by_cases hl0 : left = 0
      · refine ⟨r1, bo, by rw [if_neg (L_ngt 0 (by omega) (by decide))], RES_r hbo, fun S hS => absurd hS.2.2.1 ?_⟩
        intro hSS
        refine hns ?_
        have : T = S := by
          refine Nat.eq_of_testBit_eq fun i => ?_
          cases e : S.testBit i
          · cases f : T.testBit i
            · rfl
            · rw [hS.2.2.2.2.1 i f] at e; exact absurd e (by decide)
          · refine Decidable.byContradiction fun f => ?_
            have hi := tlt hS.1 e
            have := cnt_lt (fun i => S.testBit i && !T.testBit i) hi (show (S.testBit i && !T.testBit i) = true by rw [e, Bool.eq_false_iff.mpr f]; rfl)
            have := hS.2.2.2.2.2.2
            omega
        rw [this]; exact hSS
      · rw [if_pos (L_gt 0 (by omega) (by omega))]
        have loop : ∀ (e x n nfr : Nat) (rg : Nat → Int32) (b0 : Option Nat), x + e = 25 → e < n → nfr < 2 ^ 25 → (∀ b, b0 = some b → GOODL M g F few b) → ∃ rings' bo', g_X3_search_l49 nf (g_X3_search nf d) n (nI T) (nI fr) (nI left) (nI W) (nI nfr) (nI x) rg (nI M) (nI (2 ^ g)) (oI b0) = some (rings', oI bo') ∧ RES M g F few b0 bo' ∧ ∀ S, TGT M g F S T nfr left → (∃ y, x ≤ y ∧ W.testBit y = true ∧ fr.testBit y = false ∧ S.testBit y = true) → ∃ b, bo' = some b ∧ b ≤ S := by
          intro e
          induction e with
          | zero =>
            intro x n nfr rg b0 hx hn hnfr hb0
            obtain ⟨n, rfl⟩ := pred_ex hn
            obtain rfl : x = 25 := by omega
            refine ⟨rg, b0, by rw [g_X3_search_l49, if_pos (by decide)], RES_r hb0, fun S hS ⟨y, y1, y2, y3, y4⟩ => ?_⟩
            have := tlt hS.1 y4
            omega
          | succ e ihe =>
            intro x n nfr rg b0 hx hn hnfr hb0
            obtain ⟨n, rfl⟩ := pred_ex hn
            have hx25 : x < 25 := by omega
            rw [g_X3_search_l49, if_neg (L_nge 25 (by omega) (by decide)), shl1 (by omega), an_not]
            unfold g_X3_search_b94
            rw [nI_1]
            cases hb : (adn W fr).testBit x
            · rw [if_pos ((z_bit (show x < 31 by omega)).mpr hb)]
              obtain ⟨r2, b2, k1, k2, k3⟩ := ihe (x + 1) n nfr rg b0 (by omega) (by omega) hnfr hb0
              refine ⟨r2, b2, k1, k2, fun S hS ⟨y, y1, y2, y3, y4⟩ => k3 S hS ⟨y, ?_, y2, y3, y4⟩⟩
              have : y ≠ x := fun z => by
                rw [adn_bit, ← z, y2, y3] at hb
                exact absurd hb (by decide)
              omega
            · rw [if_neg (fun z => by rw [(z_bit (show x < 31 by omega)).mp z] at hb; exact absurd hb (by decide)), or_I, or_I, show nI left - 1 = nI (left - 1) from pk_sub (b := 1) (by omega)]
              rw [adn_bit, Bool.and_eq_true] at hb
              obtain ⟨x1, x2, x3⟩ := hwp.1 x hb.1
              have hT' : T ||| 2 ^ x < 2 ^ 25 := Nat.or_lt_two_pow hT (two25 hx25)
              obtain ⟨r2, b2, k1, k2, k3⟩ := ih (T ||| 2 ^ x) nfr (left - 1) rg b0 (by omega) (by omega) hT' hnfr (fun i hi => by
                rw [Nat.testBit_or, Bool.or_eq_true, Nat.testBit_two_pow, decide_eq_true_eq] at hi
                rcases hi with hi | hi
                · exact hTF i hi
                · rw [← hi]; exact (hF x).mpr ⟨hx25, x3, x2⟩) (by
                rw [cnt_one (P := fun i => T.testBit i) (x := x) (fun k _ hne => by rw [Nat.testBit_or, Nat.testBit_two_pow_of_ne (fun z => hne z.symm), Bool.or_false]) hx25 x1 (by rw [Nat.testBit_or, Nat.testBit_two_pow_self, Bool.or_true])]
                omega) hb0
              obtain ⟨r3, b3, j1, j2, j3⟩ := ihe (x + 1) n (nfr ||| 2 ^ x) r2 b2 (by omega) (by omega) (Nat.or_lt_two_pow hnfr (two25 hx25)) k2.1
              refine ⟨r3, b3, by rw [k1, Option.bind_some]; exact j1, RES_t k2 j2, fun S hS ⟨y, y1, y2, y3, y4⟩ => ?_⟩
              obtain ⟨t1, t2, t3, t4, t5, t6, t7⟩ := hS
              cases hSx : S.testBit x
              · refine j3 S ⟨t1, t2, t3, t4, t5, fun i hi => ?_, t7⟩ ⟨y, ?_, y2, y3, y4⟩
                · rw [Nat.testBit_or, Bool.or_eq_true, Nat.testBit_two_pow, decide_eq_true_eq] at hi
                  rcases hi with hi | hi
                  · exact t6 i hi
                  · rw [← hi]; exact hSx
                · have : y ≠ x := fun z => by rw [z, hSx] at y4; exact absurd y4 (by decide)
                  omega
              · obtain ⟨b, q1, q2⟩ := k3 S ⟨t1, t2, t3, t4, fun i hi => by
                  rw [Nat.testBit_or, Bool.or_eq_true, Nat.testBit_two_pow, decide_eq_true_eq] at hi
                  rcases hi with hi | hi
                  · exact t5 i hi
                  · rw [← hi]; exact hSx, t6, by
                  have := cnt_one (P := fun i => S.testBit i && !(T ||| 2 ^ x).testBit i) (Q := fun i => S.testBit i && !T.testBit i) (x := x) (n := 25) (fun k _ hne => by rw [Nat.testBit_or, Nat.testBit_two_pow_of_ne (fun z => hne z.symm), Bool.or_false]) hx25 (by rw [Nat.testBit_or, Nat.testBit_two_pow_self, Bool.or_true]; simp) (by rw [hSx, x1]; rfl)
                  omega⟩
                obtain ⟨b', q3, q4⟩ := j2.2 b q1
                exact ⟨b', q3, Nat.le_trans q4 q2⟩
        obtain ⟨r2, b2, k1, k2, k3⟩ := loop 25 0 nf fr r1 bo (by omega) (by omega) hfr hbo
        refine ⟨r2, b2, k1, k2, fun S hS => k3 S hS ?_⟩
        obtain ⟨t1, t2, ⟨X, hX, hn⟩, t4, t5, t6, t7⟩ := hS
        refine Classical.byContradiction fun z => hn (hwp.2 S X hX ?_ fun x hx => ?_)
        · cases e : S.testBit g
          · rfl
          · exact absurd rfl ((hF g).mp (t2 g e)).2.1
        · cases e : S.testBit x
          · rfl
          · refine absurd ⟨x, Nat.zero_le _, hx, ?_, e⟩ z
            cases f : fr.testBit x
            · rfl
            · rw [t6 x f] at e; exact absurd e (by decide)
end SEARCH
