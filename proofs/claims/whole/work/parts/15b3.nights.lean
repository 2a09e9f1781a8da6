/-! ===== nights told, the class's and the reference's side by side ===== -/
theorem flt_cons {PD : Nat → Nat} {m i st : Nat} (h : flt PD m i st = none) : (m = 0 ∧ st = 0) ∨ ∃ m', m = m' + 1 ∧ stp st (PD i) < 5 ∧ flt PD m' (i + 1) (stp st (PD i)) = none := by
  cases m with
  | zero =>
    rw [flt] at h
    by_cases c : st = 0
    · exact Or.inl ⟨rfl, c⟩
    · rw [if_neg c] at h; exact absurd h (by simp)
  | succ m =>
    rw [flt] at h
    by_cases c : stp st (PD i) < 5
    · rw [if_pos c] at h; exact Or.inr ⟨m, rfl, c, h⟩
    · rw [if_neg c] at h; exact absurd h (by simp)
theorem tb_st0 : ∀ s, s < 127 → stp 0 s < 5 → (65 ≤ s ∧ s ≤ 68 ∧ stp 0 s = 1) ∨ (s = 43 ∧ stp 0 s = 2) ∨ (s = 37 ∧ stp 0 s = 3) ∨ (s = 46 ∧ stp 0 s = 0) := by decide +kernel
theorem tb_st1 : ∀ s, s < 127 → stp 1 s < 5 → stp 1 s = 0 ∧ (s = 33 ∨ (s = 110 ∨ s = 101 ∨ s = 115 ∨ s = 119)) := by decide +kernel
theorem tb_st2 : ∀ s, s < 127 → stp 2 s < 5 → stp 2 s = 0 ∧ 97 ≤ s ∧ s ≤ 121 := by decide +kernel
theorem tb_st3 : ∀ s, s < 127 → stp 3 s < 5 → stp 3 s = 4 ∧ 97 ≤ s ∧ s ≤ 121 := by decide +kernel
theorem tb_st4 : ∀ s, s < 127 → stp 4 s < 5 → stp 4 s = 0 ∧ 49 ≤ s ∧ s ≤ 51 := by decide +kernel
def sgn (PD : Nat → Nat) (PS j : Nat) : Int32 := if j < PS then nI (PD j) else 0
theorem s_signAt {nf PS j : Nat} {PD : Nat → Nat} {sg : Nat → Int32} (hP : PS ≤ 60) (h : ∀ i, i < PS → sg i = nI (PD i)) (hj : j < 100) : g_X5_signAt nf (nI j) sg (nI PS) = some (sgn PD PS j) := by
  unfold g_X5_signAt sgn
  by_cases c : j < PS
  · rw [if_neg (nI_pos (by omega)), if_neg (nI_ge c (by omega)), ck_nI (by omega) (by decide), nI_clamp (by omega), h j c, if_pos c]
  · rw [if_neg (nI_pos (by omega)), if_pos (nI_le (by omega) (by omega)), if_neg c]
def TR (tA tC : Int32) : Prop := (¬ 0 ≤ tA ∧ tC = -6) ∨ (0 ≤ tA ∧ ¬ tC = -6)
def wy (s : Nat) : Nat := if s = 110 then 0 else if s = 101 then 1 else if s = 115 then 2 else 3
theorem s_way {nf s : Nat} (h : s = 110 ∨ s = 101 ∨ s = 115 ∨ s = 119) : g_X5_headOf nf (nI s) = some (nI (wy s)) ∧ g_X9_wayOf nf (nI s) = some (nI (wy s)) ∧ wy s < 4 := by
  obtain rfl | rfl | rfl | rfl := h <;> exact ⟨rfl, rfl, by decide⟩
theorem s_note {nf s : Nat} {a p x y e : Int32} (h : s ≠ 46) (hs : s < 127) : g_X4_note nf (nI s) a p x y e = some (a + 1, p, x, y) := by
  unfold g_X4_note
  rw [if_neg (L_ne 46 h (by omega) (by decide))]
section GO
variable {nf PS : Nat} {PD : Nat → Nat} {sg pad : Nat → Int32}
theorem a_act {i N : Nat} {l c t mc mh th now : Nat → Int32} {n eaten tA tC : Int32} {B : Nat → Nat} (hP : PS ≤ 60) (hS : ∀ i, i < PS → pad i = nI (PD i) ∧ 33 ≤ PD i ∧ PD i ≤ 126) (hD : DB l c t mc mh th n B) (hM : MB now B) (hW : WF B) (hN : N < 2 ^ 20) (hnf : 100 ≤ nf) (hT : TR tA tC) (hi : i < PS) (hf : flt PD (PS - i) i 0 = none) :
    ∃ (e L N' : Nat) (l' c' t' mc' mh' th' now' : Nat → Int32) (n' eaten' ns' tA' tC' : Int32) (B' : Nat → Nat), e ≤ 6 ∧ 1 ≤ L ∧ i + L ≤ PS ∧ flt PD (PS - (i + L)) (i + L) 0 = none ∧ g_X5_actLength nf (nI (PD i)) = some (nI L) ∧ g_X4_attempt nf (nI (PD i)) (sgn PD PS (i + 1)) (sgn PD PS (i + 2)) l c t mc mh th n eaten = some (nI e, l', c', t', mc', mh', th', n', eaten') ∧ g_X9_nextAct nf now pad (nI N) tA tC (nI i) = some (nI e, now', ns', tA', tC', nI (i + L)) ∧ DB l' c' t' mc' mh' th' n' B' ∧ MB now' B' ∧ WF B' ∧ (e = 0 → N' ≤ N + 1 ∧ ns' = nI N' ∧ TR tA' tC' ∧ ∀ acts, g_X4_note nf (nI (PD i)) acts (nI N) tA tC eaten' = some (acts + 1, nI N', tA', tC')) := by
  obtain ⟨p1, p2, p3⟩ := hS i hi
  have e1 : nI i + 1 = nI (i + 1) := nI_1 i
  have e2 : nI i + 2 = nI (i + 2) := nI_add i 2
  have e3 : nI i + 3 = nI (i + 3) := nI_add i 3
  have e21 : nI (i + 2) - 1 = nI (i + 1) := pk_sub (b := 1) (by omega)
  have e32 : nI (i + 3) - 2 = nI (i + 1) := pk_sub (b := 2) (by omega)
  have e31 : nI (i + 3) - 1 = nI (i + 2) := pk_sub (b := 1) (by omega)
  rcases flt_cons hf with ⟨h, -⟩ | ⟨m, hm, h1, h2⟩
  · omega
  rcases tb_st0 (PD i) (by omega) h1 with ⟨s1, s2, s3⟩ | ⟨s1, s3⟩ | ⟨s1, s3⟩ | ⟨s1, s3⟩
  · -- a deed of a moth
    rw [s3] at h2
    rcases flt_cons h2 with ⟨-, h⟩ | ⟨m', hm', h3, h4⟩
    · omega
    obtain ⟨r1, r2, r3⟩ := hS (i + 1) (by omega)
    obtain ⟨s4, s5⟩ := tb_st1 (PD (i + 1)) (by omega) h3
    rw [s4] at h4
    obtain ⟨k, hk, hk4⟩ : ∃ k, PD i = 65 + k ∧ k < 4 := ⟨PD i - 65, by omega, by omega⟩
    have em : nI (PD i) - 65 = nI k := by rw [hk, show (65 : Int32) = nI 65 from rfl, pk_sub (by omega), Nat.add_sub_cancel_left]
    have hl : g_X5_actLength nf (nI (PD i)) = some (nI 2) := by
      unfold g_X5_actLength
      rw [if_neg (L_ne 37 (by omega) (by omega) (by decide)), if_neg (L_ne 46 (by omega) (by omega) (by decide))]; rfl
    have hr : ∀ q4, (g_X4_attemptDeed nf (nI k) (nI (PD (i + 1))) t mh) = some q4 → g_X4_attempt nf (nI (PD i)) (sgn PD PS (i + 1)) (sgn PD PS (i + 2)) l c t mc mh th n eaten = some (q4.1, l, c, q4.2.1, mc, q4.2.2, th, n, eaten) := by
      intro q4 h
      unfold g_X4_attempt
      rw [if_neg (L_ne 37 (by omega) (by omega) (by decide)), if_neg (L_ne 43 (by omega) (by omega) (by decide)), if_neg (L_ne 46 (by omega) (by omega) (by decide)), em, show sgn PD PS (i + 1) = nI (PD (i + 1)) from if_pos (by omega), h, Option.bind_some]
    have hn : g_X9_nextAct nf now pad (nI N) tA tC (nI i) = (if nI (PD (i + 1)) = 33 then (g_X9_catchIt nf (nI k) now).bind fun q3 => some (q3.1, q3.2, nI N, tA, tC, nI (i + 2)) else (g_X9_wayOf nf (nI (PD (i + 1)))).bind fun q1 => (g_X9_turn nf (nI k) q1 now).bind fun q2 => some (q2.1, q2.2, nI N, tA, tC, nI (i + 2))) := by
      unfold g_X9_nextAct
      rw [ck_nI (show i < 60 by omega) (by decide), nI_clamp (by omega), p1, if_neg (L_ne 46 (by omega) (by omega) (by decide)), if_neg (L_ne 37 (by omega) (by omega) (by decide)), e2, e21, ck_nI (show i + 1 < 60 by omega) (by decide), if_neg (L_ne 43 (by omega) (by omega) (by decide)), em, nI_clamp (by omega), r1]
    have hfl : flt PD (PS - (i + 2)) (i + 2) 0 = none := by
      rw [show PS - (i + 2) = m' by omega]; exact h4
    rcases s5 with z | z
    · obtain ⟨e, t', now', B', q1, q2, q3, q4, q5, q6⟩ := a_catch (nf := nf) (k := k) hD hM hW hk4
      refine ⟨e, 2, N, l, c, t', mc, mh, th, now', n, eaten, nI N, tA, tC, B', q1, by omega, by omega, hfl, hl, ?_, ?_, q4, q5, q6, fun _ => ⟨by omega, rfl, hT, fun acts => s_note (by omega) (by omega)⟩⟩
      · refine hr (nI e, t', mh) ?_
        unfold g_X4_attemptDeed
        rw [z, if_pos (L_eq 33 rfl), q2]; rfl
      · rw [hn, z, if_pos (L_eq 33 rfl), q3]; rfl
    · obtain ⟨w1, w2, w3⟩ := s_way (nf := nf) z
      obtain ⟨e, mh', now', B', q1, q2, q3, q4, q5, q6⟩ := a_turn (nf := nf) (k := k) hD hM hW hk4 w3
      refine ⟨e, 2, N, l, c, t, mc, mh', th, now', n, eaten, nI N, tA, tC, B', q1, by omega, by omega, hfl, hl, ?_, ?_, q4, q5, q6, fun _ => ⟨by omega, rfl, hT, fun acts => s_note (by omega) (by omega)⟩⟩
      · refine hr (nI e, t, mh') ?_
        unfold g_X4_attemptDeed
        rw [if_neg (L_ne 33 (by omega) (by omega) (by decide)), w1, Option.bind_some, q2]; rfl
      · rw [hn, if_neg (L_ne 33 (by omega) (by omega) (by decide)), w2, Option.bind_some, q3]; rfl
  · -- camphor
    rw [s3] at h2
    rcases flt_cons h2 with ⟨-, h⟩ | ⟨m', hm', h3, h4⟩
    · omega
    obtain ⟨r1, r2, r3⟩ := hS (i + 1) (by omega)
    obtain ⟨s4, s5, s6⟩ := tb_st2 (PD (i + 1)) (by omega) h3
    rw [s4] at h4
    have em : nI (PD (i + 1)) - 97 = nI (PD (i + 1) - 97) := pk_sub (b := 97) (by omega)
    obtain ⟨e, c', now', B', q1, q2, q3, q4, q5, q6⟩ := a_strew (nf := nf) (x := PD (i + 1) - 97) hD hM hW (by omega)
    refine ⟨e, 2, N, l, c', t, mc, mh, th, now', n, eaten, nI N, tA, tC, B', q1, by omega, by omega, ?_, ?_, ?_, ?_, q4, q5, q6, fun _ => ⟨by omega, rfl, hT, fun acts => s_note (by omega) (by omega)⟩⟩
    · rw [show PS - (i + 2) = m' by omega]; exact h4
    · rw [s1]; rfl
    · unfold g_X4_attempt
      rw [if_neg (L_ne 37 (by omega) (by omega) (by decide)), if_pos (L_eq 43 s1), show sgn PD PS (i + 1) = nI (PD (i + 1)) from if_pos (by omega), em, q2, Option.bind_some]
    · unfold g_X9_nextAct
      rw [ck_nI (show i < 60 by omega) (by decide), nI_clamp (by omega), p1, if_neg (L_ne 46 (by omega) (by omega) (by decide)), if_neg (L_ne 37 (by omega) (by omega) (by decide)), e2, e21, ck_nI (show i + 1 < 60 by omega) (by decide), if_pos (L_eq 43 s1), nI_clamp (by omega), r1, em, q3, Option.bind_some]
  · -- darning
    rw [s3] at h2
    rcases flt_cons h2 with ⟨-, h⟩ | ⟨m', hm', h3, h4⟩
    · omega
    obtain ⟨r1, r2, r3⟩ := hS (i + 1) (by omega)
    obtain ⟨s4, s5, s6⟩ := tb_st3 (PD (i + 1)) (by omega) h3
    rw [s4] at h4
    rcases flt_cons h4 with ⟨-, h⟩ | ⟨m2, hm2, h5, h6⟩
    · omega
    obtain ⟨v1, v2, v3⟩ := hS (i + 2) (by omega)
    obtain ⟨s7, s8, s9⟩ := tb_st4 (PD (i + 2)) (by omega) h5
    rw [show i + 1 + 1 = i + 2 by omega] at h6
    rw [s7] at h6
    have em : nI (PD (i + 1)) - 97 = nI (PD (i + 1) - 97) := pk_sub (b := 97) (by omega)
    have en : nI (PD (i + 2)) - 48 = nI (1 + (PD (i + 2) - 49)) := by rw [show (48 : Int32) = nI 48 from rfl, pk_sub (by omega), show PD (i + 2) - 48 = 1 + (PD (i + 2) - 49) by omega]
    obtain ⟨e, l', th', now', B', q1, q2, q3, q4, q5, q6⟩ := a_darn (nf := nf) (x := PD (i + 1) - 97) (d := PD (i + 2) - 49) hD hM hW (by omega) (by omega)
    refine ⟨e, 3, N, l', c, t, mc, mh, th', now', n, eaten, nI N, tA, tC, B', q1, by omega, by omega, ?_, ?_, ?_, ?_, q4, q5, q6, fun _ => ⟨by omega, rfl, hT, fun acts => s_note (by omega) (by omega)⟩⟩
    · rw [show PS - (i + 3) = m2 by omega]; exact h6
    · rw [s1]; rfl
    · unfold g_X4_attempt
      rw [if_pos (L_eq 37 s1), show sgn PD PS (i + 1) = nI (PD (i + 1)) from if_pos (by omega), show sgn PD PS (i + 2) = nI (PD (i + 2)) from if_pos (by omega), em, en, q2, Option.bind_some]
    · unfold g_X9_nextAct
      rw [ck_nI (show i < 60 by omega) (by decide), nI_clamp (by omega), p1, if_neg (L_ne 46 (by omega) (by omega) (by decide)), if_pos (L_eq 37 s1), e3, e32, e31, ck_nI (show i + 1 < 60 by omega) (by decide), ck_nI (show i + 2 < 60 by omega) (by decide), nI_clamp (by omega), nI_clamp (by omega), r1, v1, em, en, q3, Option.bind_some]
  · -- a night
    rw [s3] at h2
    obtain ⟨e, l', c', mc', mh', now', n', eaten', ns', tA', tC', B', q1, q2, q3, q4, q5, q6, -, q7⟩ := a_night (nf := nf) (tA0 := tA) (tC0 := tC) (eaten := eaten) hD hM hW hN hnf
    refine ⟨e, 1, N + 1, l', c', t, mc', mh', th, now', n', eaten', ns', tA', tC', B', q1, by omega, by omega, ?_, ?_, ?_, ?_, q4, q5, q6, fun he => ?_⟩
    · rw [show PS - (i + 1) = m by omega]; exact h2
    · rw [s1]; rfl
    · unfold g_X4_attempt
      rw [if_neg (L_ne 37 (by omega) (by omega) (by decide)), if_neg (L_ne 43 (by omega) (by omega) (by decide)), if_pos (L_eq 46 s1), q2, Option.bind_some]
    · unfold g_X9_nextAct
      rw [ck_nI (show i < 60 by omega) (by decide), nI_clamp (by omega), p1, if_pos (L_eq 46 s1), q3, Option.bind_some, e1]
    · obtain ⟨w1, E1, E2, E3⟩ := q7 he
      refine ⟨by omega, w1, ?_⟩
      have hne : ∀ c, c < 25 → ¬ nI c = -6 := fun c hc => nI_m6 (by omega)
      rcases hT with ⟨z1, z2⟩ | ⟨z1, z2⟩
      · rcases E3 z1 with ⟨g1, g2, g3⟩ | ⟨g1, g2, g3⟩
        · refine ⟨Or.inl ⟨by rw [g2]; exact z1, by rw [g3]; exact z2⟩, fun acts => ?_⟩
          unfold g_X4_note g_X4_note_b57
          rw [if_pos (L_eq 46 s1), if_pos z2, if_pos g1, g2, g3, nI_1]
        · refine ⟨Or.inr ⟨by rw [g2]; exact nI_pos' (by omega), by rw [g3]; exact g1⟩, fun acts => ?_⟩
          unfold g_X4_note g_X4_note_b57
          rw [if_pos (L_eq 46 s1), if_pos z2, if_neg g1, g2, g3, nI_1]
      · obtain ⟨g2, g3⟩ := E2 z1
        refine ⟨Or.inr ⟨by rw [g2]; exact z1, by rw [g3]; exact z2⟩, fun acts => ?_⟩
        unfold g_X4_note g_X4_note_b57
        rw [if_pos (L_eq 46 s1), if_neg z2, g2, g3, nI_1]
end GO
