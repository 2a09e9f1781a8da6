/-! ===== years by draws ===== -/
section YEAR
variable {nf : Nat} {α : Type}
theorem a_draw {X N : Nat} {l c t mc mh th now : Nat → Int32} {n eaten tA tC : Int32} {B : Nat → Nat} (hX : X < 65537) (hD : DB l c t mc mh th n B) (hM : MB now B) (hW : WF B) (hN : N < 2 ^ 20) (hnf : 100 ≤ nf) :
    ∃ (l' c' mc' mh' th' now' : Nat → Int32) (n' eaten' ns' tA' tC' reason' : Int32) (B' : Nat → Nat) (N' : Nat), g_X1_draw nf (nI X - nI X / 8 * 8) (nI X / 8) l c t mc mh th n eaten = some (l', c', mc', mh', th', n', eaten') ∧ N' ≤ N + 1 ∧ ns' = nI N' ∧ DB l' c' t mc' mh' th' n' B' ∧ MB now' B' ∧ WF B' ∧
      ∀ (K : (Nat → Int32) → Int32 → Int32 → Int32 → Int32 → Option α), (if (nI X - nI X / 8 * 8) = 0 then
        (g_X9_turn nf ((nI X / 8) - (nI X / 8) / 4 * 4) (((nI X / 8) / 4) - ((nI X / 8) / 4) / 4 * 4) now).bind fun q6 => K q6.2 (nI N) tA tC q6.1
      else
        if (nI X - nI X / 8 * 8) = 1 then
          (g_X9_strew nf ((nI X / 8) - (nI X / 8) / 25 * 25) now).bind fun q5 => K q5.2 (nI N) tA tC q5.1
        else
          if 4 ≤ (nI X - nI X / 8 * 8) then
            (g_X9_endNight nf now (nI N) tA tC).bind fun q3 => K q3.2.1 q3.2.2.1 q3.2.2.2.1 q3.2.2.2.2 q3.1
          else
            (g_X9_darn nf ((nI X / 8) - (nI X / 8) / 25 * 25) (1 + (((nI X / 8) / 25) - ((nI X / 8) / 25) / 3 * 3)) now).bind fun q4 => K q4.2 (nI N) tA tC q4.1) = K now' ns' tA' tC' reason' := by
  have hH : nI X - nI X / 8 * 8 = nI (X % 8) := pk_rem (d := 8) (by omega) (by decide) (by decide)
  have hY : nI X / 8 = nI (X / 8) := pk_div (d := 8) (by omega) (by decide) (by decide)
  have r4 : nI (X / 8) - nI (X / 8) / 4 * 4 = nI (X / 8 % 4) := pk_rem (d := 4) (by omega) (by decide) (by decide)
  have d4 : nI (X / 8) / 4 = nI (X / 8 / 4) := pk_div (d := 4) (by omega) (by decide) (by decide)
  have r44 : nI (X / 8 / 4) - nI (X / 8 / 4) / 4 * 4 = nI (X / 8 / 4 % 4) := pk_rem (d := 4) (by omega) (by decide) (by decide)
  have r25 : nI (X / 8) - nI (X / 8) / 25 * 25 = nI (X / 8 % 25) := pk_rem (d := 25) (by omega) (by decide) (by decide)
  have d25 : nI (X / 8) / 25 = nI (X / 8 / 25) := pk_div (d := 25) (by omega) (by decide) (by decide)
  have r3 : nI (X / 8 / 25) - nI (X / 8 / 25) / 3 * 3 = nI (X / 8 / 25 % 3) := pk_rem (d := 3) (by omega) (by decide) (by decide)
  have e1 : (1 : Int32) + nI (X / 8 / 25 % 3) = nI (1 + X / 8 / 25 % 3) := nI_add 1 _
  have hy4 : X / 8 % 4 < 4 := Nat.mod_lt _ (by decide)
  have hy44 : X / 8 / 4 % 4 < 4 := Nat.mod_lt _ (by decide)
  have hy25 : X / 8 % 25 < 25 := Nat.mod_lt _ (by decide)
  have hy3 : X / 8 / 25 % 3 < 3 := Nat.mod_lt _ (by decide)
  have hh : X % 8 < 8 := Nat.mod_lt _ (by decide)
  unfold g_X1_draw g_X1_draw_b60
  rw [hH, hY]
  generalize X % 8 = h at hh
  generalize X / 8 = y at *
  rw [r4, d4, r44, r25, d25, r3, e1]
  by_cases c0 : h = 0
  · obtain ⟨e, mh', now', B', q1, q2, q3, q4, q5, q6⟩ := a_turn (nf := nf) hD hM hW hy4 hy44
    refine ⟨l, c, mc, mh', th, now', n, eaten, nI N, tA, tC, nI e, B', N, ?_, by omega, rfl, q4, q5, q6, fun K => ?_⟩
    · rw [if_pos (L_eq 0 c0), q2]; rfl
    · rw [if_pos (L_eq 0 c0), q3]; rfl
  · by_cases c1 : h = 1
    · obtain ⟨e, c', now', B', q1, q2, q3, q4, q5, q6⟩ := a_strew (nf := nf) hD hM hW hy25
      refine ⟨l, c', mc, mh, th, now', n, eaten, nI N, tA, tC, nI e, B', N, ?_, by omega, rfl, q4, q5, q6, fun K => ?_⟩
      · rw [if_neg (L_ne 0 c0 (by omega) (by decide)), if_pos (L_eq 1 c1), q2]; rfl
      · rw [if_neg (L_ne 0 c0 (by omega) (by decide)), if_pos (L_eq 1 c1), q3]; rfl
    · by_cases c4 : 4 ≤ h
      · obtain ⟨e, l', c', mc', mh', now', n', eaten', ns', tA', tC', B', q1, q2, q3, q4, q5, q6, ⟨N', z1, z2⟩, -⟩ := a_night (nf := nf) (tA0 := tA) (tC0 := tC) (eaten := eaten) hD hM hW hN hnf
        refine ⟨l', c', mc', mh', th, now', n', eaten', ns', tA', tC', nI e, B', N', ?_, z1, z2, q4, q5, q6, fun K => ?_⟩
        · rw [if_neg (L_ne 0 c0 (by omega) (by decide)), if_neg (L_ne 1 c1 (by omega) (by decide)), if_neg (L_ne 2 (by omega) (by omega) (by decide)), if_neg (L_ne 3 (by omega) (by omega) (by decide)), q2]; rfl
        · rw [if_neg (L_ne 0 c0 (by omega) (by decide)), if_neg (L_ne 1 c1 (by omega) (by decide)), if_pos (L_ge 4 c4 (by omega)), q3]; rfl
      · obtain ⟨e, l', th', now', B', q1, q2, q3, q4, q5, q6⟩ := a_darn (nf := nf) hD hM hW hy25 hy3
        refine ⟨l', c, mc, mh, th', now', n, eaten, nI N, tA, tC, nI e, B', N, ?_, by omega, rfl, q4, q5, q6, fun K => ?_⟩
        · rw [if_neg (L_ne 0 c0 (by omega) (by decide)), if_neg (L_ne 1 c1 (by omega) (by decide)), q2]
          split
          · rfl
          · rw [if_pos (L_eq 3 (by have : ¬ h = 2 := fun z => by subst z; contradiction
                                   omega))]; rfl
        · rw [if_neg (L_ne 0 c0 (by omega) (by decide)), if_neg (L_ne 1 c1 (by omega) (by decide)), if_neg (L_nge 4 (by omega) (by decide)), q3]; rfl
theorem a_year {M w : Nat} {t sn sc nl nc nt nmc nmh nth nsn nsc book : Nat → Int32} {ss nss nn : Int32} (hM99 : M ≤ 99) (hw : w < 2 ^ 31) (hnf : 100 ≤ nf) : ∀ (m a x N n8 n9 : Nat) (l c mc mh th now : Nat → Int32) (n eaten tA tC reason : Int32) (B : Nat → Nat), a + m = M → m < n8 → m < n9 → x < 65537 → N ≤ a → DB l c t mc mh th n B → MB now B → WF B →
    ∃ v q8 q9, g_X8_year_l50 nf n8 (nI M) (nI w) (nI x) (nI a) nl nc nt nmc nmh nth nsn nsc nss nn l c t mc mh th sn sc ss n eaten = some (v, q8) ∧ g_X9_year_l43 nf n9 (nI M) (nI w) (nI x) (nI a) book now (nI N) tA tC reason = some (v, q9) := by
  intro m
  induction m with
  | zero =>
    intro a x N n8 n9 l c mc mh th now n eaten tA tC reason B ha h8 h9 hx hN hD hM hW
    obtain ⟨n8, rfl⟩ := pred_ex h8
    obtain ⟨n9, rfl⟩ := pred_ex h9
    obtain rfl : a = M := by omega
    rw [g_X8_year_l50, g_X9_year_l43, if_pos (nI_le (Nat.le_refl a) (by omega)), if_pos (nI_le (Nat.le_refl a) (by omega))]
    by_cases w0 : w = 0
    · rw [if_pos (L_eq 0 w0), if_pos (L_eq 0 w0), show (0 : Int32) = nI 0 from rfl, s_countOf (v := 0) (DB_lands hD hW) (by decide) (by omega), s_countOf9 (v := 0) (MB_lands hM hW) (by decide) (by omega)]
      exact ⟨_, _, _, rfl, rfl⟩
    · rw [if_neg (L_ne 0 w0 hw (by decide)), if_neg (L_ne 0 w0 hw (by decide))]
      by_cases w1 : w = 1
      · rw [if_pos (L_eq 1 w1), if_pos (L_eq 1 w1), s_threads8 hD, Option.bind_some, ckL (k := 58) (by omega) (by decide), ckL (k := 59) (by omega) (by decide), ckL (k := 60) (by omega) (by decide), s_threads9 hM]
        exact ⟨_, _, _, rfl, rfl⟩
      · rw [if_neg (L_ne 1 w1 hw (by decide)), if_neg (L_ne 1 w1 hw (by decide)), show (4 : Int32) = nI 4 from rfl, s_countOf (v := 4) (DB_lands hD hW) (by decide) (by omega), s_countOf9 (v := 4) (MB_lands hM hW) (by decide) (by omega)]
        exact ⟨_, _, _, rfl, rfl⟩
  | succ m ih =>
    intro a x N n8 n9 l c mc mh th now n eaten tA tC reason B ha h8 h9 hx hN hD hM hW
    obtain ⟨n8, rfl⟩ := pred_ex h8
    obtain ⟨n9, rfl⟩ := pred_ex h9
    have eX : (75 * nI x + 74) - (75 * nI x + 74) / 65537 * 65537 = nI ((75 * x + 74) % 65537) := by
      rw [show (75 : Int32) * nI x = nI (75 * x) from pk_mul 75 x, show nI (75 * x) + 74 = nI (75 * x + 74) from nI_add _ 74]
      exact pk_rem (d := 65537) (by omega) (by decide) (by decide)
    have hX : (75 * x + 74) % 65537 < 65537 := Nat.mod_lt _ (by decide)
    obtain ⟨l', c', mc', mh', th', now', n', eaten', ns', tA', tC', reason', B', N', h1, h2, h3, h4, h5, h6, h7⟩ := a_draw (nf := nf) (α := Int32 × (Nat → Int32) × Int32 × Int32 × Int32 × Int32) (tA := tA) (tC := tC) (eaten := eaten) hX hD hM hW (show N < 2 ^ 20 by omega) hnf
    obtain ⟨v, q8, q9, k1, k2⟩ := ih (a + 1) _ N' n8 n9 l' c' mc' mh' th' now' n' eaten' tA' tC' reason' B' (by omega) (by omega) (by omega) hX (by omega) h4 h5 h6
    refine ⟨v, q8, q9, ?_, ?_⟩
    · rw [g_X8_year_l50, if_neg (nI_ge (show a < M by omega) (by omega)), eX, h1, Option.bind_some, nI_1]
      exact k1
    · rw [g_X9_year_l43, if_neg (nI_ge (show a < M by omega) (by omega)), eX]
      unfold g_X9_year_b163
      rw [h7 (fun now nights tA tC reason => g_X9_year_l43 nf n9 (nI M) (nI w) (nI ((75 * x + 74) % 65537)) (nI a + 1) book now nights tA tC reason), nI_1, h3]
      exact k2
end YEAR
theorem st_year : St_year := by
  intro n_lands n_camphors n_there n_mothCells n_mothHeads n_threads n_sightNights n_sightCells n_sights n_night u_lands u_camphors u_there u_mothCells u_mothHeads u_threads u_sightNights u_sightCells u_sights u_night v_lands v_camphors v_there v_mothCells v_mothHeads v_threads v_sightNights v_sightCells v_sights v_night kept p_signs p_size t_next_ book sights sight signs pad image isKept s_lands s_camphors s_there s_mothCells s_mothHeads s_threads s_sightNights s_sightCells s_sights s_night s_eaten now nights townAt townCell reason p1 p2 p3 hR
  obtain ⟨⟨B, S, SS, hW, hDB, hMB, hWS, hDS, hMS⟩, hRP, hI0, hI1, hRT⟩ := hR
  suffices h : ∃ v q8 q9, g_X8_year 100 p1 p2 p3 n_lands n_camphors n_there n_mothCells n_mothHeads n_threads n_sightNights n_sightCells n_sights n_night s_lands s_camphors s_there s_mothCells s_mothHeads s_threads s_sightNights s_sightCells s_sights s_night s_eaten = some (v, q8) ∧ g_X9_year 100 p1 p2 p3 book now nights townAt townCell reason = some (v, q9) by
    obtain ⟨v, q8, q9, h8, h9⟩ := h
    exact ⟨100, (v, q8), (v, q9), h8, h9, rfl, ⟨B, S, SS, hW, hDB, hMB, hWS, hDS, hMS⟩, hRP, hI0, hI1, hRT⟩
  unfold g_X8_year g_X9_year
  by_cases c1 : 0 ≤ p1 ∧ p1 ≤ 9999
  · by_cases c2 : 1 ≤ p2 ∧ p2 ≤ 99
    · by_cases c3 : 0 ≤ p3 ∧ p3 ≤ 2
      · rw [w_t c1, n_t c1, w_t c2, n_t c2, w_t c3, n_t c3]
        simp only [Option.bind_some, i10, if_false]
        rw [s_become (by omega) (DB_bits hDB), s_asNow (by omega), Option.bind_some, Option.bind_some]
        obtain ⟨x, hx, rfl⟩ := rngN (k := 9999) (by decide) c1
        obtain ⟨M, hM1, hM2, rfl⟩ := rngA (a := 1) (b := 99) (by decide) c2 (by decide)
        obtain ⟨w, hw, rfl⟩ := rngN (k := 2) (by decide) c3
        exact a_year (nf := 100) (M := M) (w := w) hM2 (by omega) (by omega) M 0 x 0 100 100 _ _ _ _ _ _ _ _ _ _ _ B (by omega) (by omega) (by omega) (by omega) (by omega) (DB_cpy hDB) (MB_cpy hMB) hW
      · rw [w_t c1, n_t c1, w_t c2, n_t c2, w_f c3, n_f c3]
        simp only [Option.bind_some, i10, i00, if_false, if_true]
        exact ⟨-2, _, _, rfl, rfl⟩
    · rw [w_t c1, n_t c1, w_f c2, n_f c2]
      simp only [Option.bind_some, i10, i00, if_false, if_true]
      exact ⟨-2, _, _, rfl, rfl⟩
  · rw [w_f c1, n_f c1]
    simp only [Option.bind_some, i00, if_true]
    exact ⟨-2, _, _, rfl, rfl⟩
