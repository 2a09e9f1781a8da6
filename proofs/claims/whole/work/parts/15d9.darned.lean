/-! ===== darned: the holes parted, and the step ===== -/
noncomputable def colP (B : Nat → Nat) (c : Nat) : Nat → Nat := fun x => if x < c ∧ B x = 0 ∧ cdec (lon B x) = true then 1 else 0
section PARTH
variable {nf : Nat} {B : Nat → Nat}
theorem colP_c {c : Nat} : colP B c c = 0 := if_neg fun z => Nat.lt_irrefl _ z.1
theorem colP_n {c x : Nat} (h : ¬ (B c = 0 ∧ lon B c)) : colP B c x = colP B (c + 1) x := by
  unfold colP
  by_cases e : x = c
  · subst e
    rw [if_neg (fun z => Nat.lt_irrefl _ z.1), if_neg (fun z => h ⟨z.2.1, cdec_iff.mp z.2.2⟩)]
  · by_cases z : x < c ∧ B x = 0 ∧ cdec (lon B x) = true
    · rw [if_pos z, if_pos ⟨by omega, z.2⟩]
    · rw [if_neg z, if_neg (fun y => z ⟨by omega, y.2⟩)]
theorem colP_l {c x : Nat} (hb : B c = 0) (hl : lon B c) : upN (colP B c) c 1 x = colP B (c + 1) x := by
  by_cases e : x = c
  · subst e
    rw [upN_eq]
    exact (if_pos ⟨by omega, hb, cdec_iff.mpr hl⟩).symm
  · rw [upN_ne e]
    unfold colP
    by_cases z : x < c ∧ B x = 0 ∧ cdec (lon B x) = true
    · rw [if_pos z, if_pos ⟨by omega, z.2⟩]
    · rw [if_neg z, if_neg (fun y => z ⟨by omega, y.2⟩)]
theorem CG_0 : CG B 0 (colP B 25) := by
  intro x hx
  refine ⟨fun z => if_neg fun y => z y.2.1, fun a b => if_pos ⟨hx, a, cdec_iff.mpr b⟩, fun a b => ⟨fun z => absurd z (Nat.not_lt_zero x), fun _ => if_neg fun y => b (cdec_iff.mp y.2.2)⟩⟩
theorem lon_iff {H c : Nat} (hc : c < 25) (hHl : H < 2 ^ 25) (hH : ∀ c, c < 25 → (H.testBit c = true ↔ B c = 0)) : (nI (AB (2 ^ c)) &&& nI H) = 0 ↔ lon B c := by
  rw [z_and (by omega)]
  constructor
  · intro h w hw hb e
    have := h _ (AB_of (two25 hc) hc hw hb Nat.testBit_two_pow_self)
    rw [(hH _ hb).mpr e] at this
    exact absurd this (by decide)
  · intro h i hi
    have hi25 := tlt (AB_lt (two25 hc)) hi
    obtain ⟨w, hw, hb⟩ := (AB_one hc hi25).mp hi
    obtain ⟨s1, s2⟩ := bes_sym i hi25 w hw (by rw [hb]; exact hc)
    rw [hb] at s2
    have h4 := h _ s1 (by rw [s2]; exact hi25)
    rw [s2] at h4
    cases e : H.testBit i
    · rfl
    · exact absurd ((hH i hi25).mp e) h4
theorem ph_29 {H BT : Nat} (hN : drk B 25 ≤ 9) (hHl : H < 2 ^ 25) (hH : ∀ c, c < 25 → (H.testBit c = true ↔ B c = 0)) (hBT : ∀ c, c < 25 → (BT.testBit c = true ↔ ¬ noT B c)) : ∀ (d c n x : Nat) (woven tied : Nat → Int32), c + d = 25 → d < n → WV woven (colP B c) → (∀ y, y < c → B y = 0 → ¬ lon B y → tied (dtk B y) = nI (2 ^ y)) → ∃ woven' tied', WV woven' (colP B 25) ∧ (∀ y, y < 25 → B y = 0 → ¬ lon B y → tied' (dtk B y) = nI (2 ^ y)) ∧ g_X0_partHoles_l29 nf n (nI x) (nI c) woven tied (nI (dtk B c)) (nI H) (nI BT) = some (nI (x * dlw B d c), woven', tied', nI (dtk B 25)) := by
  intro d
  induction d with
  | zero =>
    intro c n x woven tied hc hn hW hT
    obtain ⟨n, rfl⟩ := pred_ex hn
    obtain rfl : c = 25 := by omega
    refine ⟨woven, tied, hW, hT, ?_⟩
    rw [g_X0_partHoles_l29, if_pos (by decide), show dlw B 0 25 = 1 from rfl, Nat.mul_one]
  | succ d ih =>
    intro c n x woven tied hc hn hW hT
    obtain ⟨n, rfl⟩ := pred_ex hn
    have hc25 : c < 25 := by omega
    rw [g_X0_partHoles_l29, if_neg (L_nge 25 hc25 (by decide)), shl1 (by omega)]
    unfold g_X0_partHoles_b88 g_X0_partHoles_b122
    by_cases hb : B c = 0
    · rw [if_neg (zb_t hc25 (hH c hc25) hb), s_AB (two25 hc25), Option.bind_some]
      by_cases hl : lon B c
      · have ek : dtk B (c + 1) = dtk B c := dtk_n fun z => z.2 hl
        have hW' : WV (upd woven 1 (woven 1 ||| nI (2 ^ c))) (colP B (c + 1)) := WV_ext (fun x _ => colP_l hb hl) (WV_up hW hc25 (by decide) (by decide) colP_c)
        have hT' : ∀ y, y < c + 1 → B y = 0 → ¬ lon B y → tied (dtk B y) = nI (2 ^ y) := fun y hy yb yl => by
          by_cases e : y = c
          · subst e; exact absurd hl yl
          · exact hT y (by omega) yb yl
        rw [if_pos ((lon_iff hc25 hHl hH).mpr hl), ck14, ck14, show (1 : Int32).toNatClampNeg = 1 from rfl, nI_1]
        by_cases hn : noT B c
        · obtain ⟨w', t', z1, z2, z3⟩ := ih (c + 1) n (x * 3) _ tied (by omega) (by omega) hW' hT'
          refine ⟨w', t', z1, z2, ?_⟩
          rw [ek] at z3
          rw [if_pos (zb_f hc25 (hBT c hc25) (fun z => z hn)), show nI x * (3 : Int32) = nI (x * 3) from pk_mul x 3, z3, dlw_3 hb hl hn, Nat.mul_assoc]
        · obtain ⟨w', t', z1, z2, z3⟩ := ih (c + 1) n (x * 2) _ tied (by omega) (by omega) hW' hT'
          refine ⟨w', t', z1, z2, ?_⟩
          rw [ek] at z3
          rw [if_neg (zb_t hc25 (hBT c hc25) hn), show nI x * (2 : Int32) = nI (x * 2) from pk_mul x 2, z3, dlw_2 hb hl hn, Nat.mul_assoc]
      · have hk := dtk_lt hb hl hc25
        have hK := dtk_le (B := B) (c := 25)
        obtain ⟨w', t', z1, z2, z3⟩ := ih (c + 1) n x woven (upd tied (dtk B c) (nI (2 ^ c))) (by omega) (by omega) (WV_ext (fun x _ => colP_n fun z => hl z.2) hW) (fun y hy yb yl => by
          by_cases e : y = c
          · subst e; rw [upd_eq]
          · have := dtk_lt yb yl (show y < c by omega)
            rw [upd_ne (by omega)]
            exact hT y (by omega) yb yl)
        refine ⟨w', t', z1, z2, ?_⟩
        rw [dtk_t hb hl] at z3
        rw [if_neg (fun z => hl ((lon_iff hc25 hHl hH).mp z)), if_neg (L_nge 9 (by omega) (by decide)), ck_nI (show dtk B c < 9 by omega) (by decide), nI_clamp (show dtk B c < 2 ^ 31 by omega), nI_1, nI_1, dlw_n (fun z => hl z.2)]
        exact z3
    · have ek : dtk B (c + 1) = dtk B c := dtk_n fun z => hb z.1
      obtain ⟨w', t', z1, z2, z3⟩ := ih (c + 1) n x woven tied (by omega) (by omega) (WV_ext (fun x _ => colP_n fun z => hb z.1) hW) (fun y hy yb yl => by
        by_cases e : y = c
        · subst e; exact absurd yb hb
        · exact hT y (by omega) yb yl)
      refine ⟨w', t', z1, z2, ?_⟩
      rw [ek] at z3
      rw [if_pos (zb_f hc25 (hH c hc25) hb), nI_1, dlw_n (fun z => hb z.1)]
      exact z3
theorem ph_2 {tied : Nat → Int32} {ties hi bi : Int32} : ∀ (d t n : Nat) (woven : Nat → Int32), t + d = 4 → 1 ≤ t → d < n → (∀ s, 1 ≤ s → s < t → woven s = 0) → ∃ wv, (∀ s, 1 ≤ s → s ≤ 3 → wv s = 0) ∧ g_X0_partHoles_l2 nf n (nI t) woven tied ties hi bi = g_X0_partHoles_l29 nf nf 1 0 wv tied 0 hi bi := by
  intro d
  induction d with
  | zero =>
    intro t n woven ht h1 hn hw
    obtain ⟨n, rfl⟩ := pred_ex hn
    obtain rfl : t = 4 := by omega
    exact ⟨woven, fun s s1 s3 => hw s s1 (by omega), by rw [g_X0_partHoles_l2, if_pos (by decide)]⟩
  | succ d ih =>
    intro t n woven ht h1 hn hw
    obtain ⟨n, rfl⟩ := pred_ex hn
    obtain ⟨wv, a, b⟩ := ih (t + 1) n (upd woven t 0) (by omega) (by omega) (by omega) (fun s s1 s3 => by
      by_cases e : s = t
      · subst e; rw [upd_eq]
      · rw [upd_ne e]; exact hw s s1 (by omega))
    refine ⟨wv, a, ?_⟩
    rw [g_X0_partHoles_l2, if_neg (L_ngt 3 (by omega) (by decide)), ck_nI (show t < 4 by omega) (by decide), nI_clamp (show t < 2 ^ 31 by omega), nI_1]
    exact b
theorem s_darn8 {lands woven tied : Nat → Int32} {H TT : Nat} {ties holes byT ways first : Int32} (hN : drk B 25 ≤ 9) (hHl : H < 2 ^ 25) (hH : ∀ c, c < 25 → (H.testBit c = true ↔ B c = 0)) (hTl : TT < 2 ^ 25) (hTT : ∀ c, c < 25 → (TT.testBit c = true ↔ B c = 4)) (hnf : 100 ≤ nf) : ∃ w' t' ti b, g_X0_darn nf (nI H) (nI TT) woven tied ties holes byT ways first = some (w', t', ti, nI H, b, nI (dblk (PV B) (drk B 25) 0).1, oI ((dblk (PV B) (drk B 25) 0).2.map (dfin B))) := by
  have hBT : ∀ c, c < 25 → ((AB TT).testBit c = true ↔ ¬ noT B c) := fun c hc => by
    rw [AB_bit hTl hc]
    constructor
    · rintro ⟨w, hw, hb, e⟩ z
      exact z w hw hb ((hTT _ hb).mp e)
    · intro z
      refine Classical.byContradiction fun y => z fun w hw hb e => y ⟨w, hw, hb, (hTT _ hb).mpr e⟩
  obtain ⟨wv, a1, a2⟩ := ph_2 (nf := nf) (tied := tied) (ties := ties) (hi := nI H) (bi := nI (AB TT)) 3 1 nf woven (by omega) (by omega) (by omega) (fun s s1 s3 => by omega)
  have hW0 : WV wv (colP B 0) := fun t t1 t3 => ⟨0, a1 t t1 t3, by decide, fun c _ => by
    rw [Nat.zero_testBit, show colP B 0 c = 0 from if_neg fun z => Nat.not_lt_zero _ z.1]
    exact ⟨fun z => absurd z (by decide), fun z => by omega⟩⟩
  obtain ⟨w', t', z1, z2, z3⟩ := ph_29 (nf := nf) hN hHl hH hBT 25 0 nf 1 wv tied (by omega) (by omega) hW0 (fun y hy => absurd hy (Nat.not_lt_zero y))
  obtain ⟨T, fo, hv, hw, hp⟩ := wf_all (nf := nf) hN hH hBT z2 hnf 25 0 (colP B 25) (by omega) CG_0
  have hK := dtk_le (B := B) (c := 25)
  obtain ⟨w'', y1, y2⟩ := hw 11 w' (-6) z1 (by omega)
  obtain ⟨q1, q2⟩ := hp 0 (fun x hx => absurd hx (Nat.not_lt_zero x)) (fun x hx => absurd hx (Nat.not_lt_zero x))
  have q3 := q2 (fun x hx => absurd hx (Nat.not_lt_zero x))
  rw [show drk B 0 = 0 from rfl, Nat.sub_zero] at q1 q3
  have h5 : g_X0_partHoles nf woven tied ties (nI H) (nI (AB TT)) = _ := a2.trans z3
  have h6 : g_X0_waysFrom nf 11 0 w' t' (nI (dtk B 25)) (nI H) (nI (AB TT)) (-6) = _ := y2
  refine ⟨w'', t', nI (dtk B 25), nI (AB TT), ?_⟩
  unfold g_X0_darn
  rw [s_AB hTl, Option.bind_some, h5, Option.bind_some, h6, Option.bind_some, if_pos rfl, q1, q3, Nat.one_mul, ← pk_mul]
end PARTH
theorem st_darned : St_darned := by
  intro n_lands n_camphors n_there n_mothCells n_mothHeads n_threads n_sightNights n_sightCells n_sights n_night u_lands u_camphors u_there u_mothCells u_mothHeads u_threads u_sightNights u_sightCells u_sights u_night v_lands v_camphors v_there v_mothCells v_mothHeads v_threads v_sightNights v_sightCells v_sights v_night kept p_signs p_size t_next_ book sights sight signs pad image isKept d_woven d_tied d_ties d_holes d_byTowns d_ways d_first hole p1 hR
  obtain ⟨⟨B, S, SS, hW, hDB, hMB, hWS, hDS, hMS⟩, hRP, hI0, hI1, hRT⟩ := hR
  obtain ⟨nf, hnf⟩ : ∃ nf : Nat, 40000 ≤ nf := ⟨40000, Nat.le_refl _⟩
  suffices hh : ∃ q1 q2, g_X8_darned nf p1 n_lands d_woven d_tied d_ties d_holes d_byTowns d_ways d_first = some q1 ∧ g_X9_darned nf p1 book hole = some q2 ∧ q1.1 = q2.1 by
    obtain ⟨q1, q2, h1, h2, h3⟩ := hh
    exact ⟨nf, q1, q2, h1, h2, h3, ⟨B, S, SS, hW, hDB, hMB, hWS, hDS, hMS⟩, hRP, hI0, hI1, hRT⟩
  by_cases c1 : 0 ≤ p1 ∧ p1 ≤ 1
  · obtain ⟨w, hw, rfl⟩ := rngN (k := 1) (by decide) c1
    obtain ⟨hole', h9⟩ := s_darned9 (nf := nf) (hole := hole) (show w < 2 by omega) hMB hW.1 hnf
    have hL := DB_lands hDB hW
    have hcn : g_X1_countOf nf 0 n_lands = some (nI (drk B 25)) := s_countOf (v := 0) hL (by decide) (by omega)
    have hb0 : g_X1_bitsOf nf 0 n_lands = _ := s_bitsOf (v := 0) (nf := nf) hL (by decide) (by omega)
    have hb4 : g_X1_bitsOf nf 4 n_lands = _ := s_bitsOf (v := 4) (nf := nf) hL (by decide) (by omega)
    have hbit : ∀ v c, c < 25 → ((mk (fun c => decide (B c = v)) 25).testBit c = true ↔ B c = v) := fun v c hc => by
      rw [mk_bit, decide_eq_true hc, Bool.true_and, decide_eq_true_iff]
    have hN25 := drk_le (B := B) (c := 25)
    unfold g_X8_darned
    rw [w_t c1, Option.bind_some, if_neg i1n0, hcn, Option.bind_some, h9]
    by_cases e : drk B 25 ≤ 9
    · obtain ⟨w', t', ti, b, h8⟩ := s_darn8 (nf := nf) (lands := n_lands) (woven := d_woven) (tied := d_tied) (ties := d_ties) (holes := d_holes) (byT := d_byTowns) (ways := d_ways) (first := d_first) e (mk_lt _ _) (hbit 0) (mk_lt _ _) (hbit 4) (by omega)
      rw [if_pos (L_le 9 e (by decide)), hb0, Option.bind_some, hb4, Option.bind_some, h8, Option.bind_some, if_pos e]
      by_cases z : w = 0
      · subst z
        rw [if_pos (show nI 0 = 0 from rfl), if_pos rfl]
        exact ⟨_, _, rfl, rfl, rfl⟩
      · rw [if_neg (L_ne 0 z (by omega) (by decide)), if_neg z]
        exact ⟨_, _, rfl, rfl, rfl⟩
    · rw [if_neg (L_nle 9 (by omega) (by omega)), if_neg e]
      exact ⟨_, _, rfl, rfl, rfl⟩
  · unfold g_X8_darned g_X9_darned
    rw [w_f c1, n_f c1]
    exact ⟨_, _, rfl, rfl, rfl⟩
