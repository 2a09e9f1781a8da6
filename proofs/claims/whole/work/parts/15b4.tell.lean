/-! ===== the telling, to the first act that can not be ===== -/
theorem flt_le' {PD : Nat → Nat} {k : Nat} : ∀ (m i st : Nat), flt PD m i st = some k → k ≤ i + m := by
  intro m
  induction m with
  | zero => intro i st h; rw [flt] at h; split at h <;> simp at h; omega
  | succ m ih =>
    intro i st h; rw [flt] at h; split at h
    · have := ih _ _ h; omega
    · simp at h; omega
theorem flt_le {PD : Nat → Nat} {k m st : Nat} (h : flt PD m 0 st = some k) : k ≤ m := by have := flt_le' m 0 st h; omega
section TELL
variable {nf PS : Nat} {PD : Nat → Nat} {sg pad sn sc nl nc nt nmc nmh nth nsn nsc book : Nat → Int32} {ss nss nn : Int32}
theorem a_tell (hP : PS ≤ 60) (hS : ∀ i, i < PS → sg i = nI (PD i) ∧ pad i = nI (PD i) ∧ 33 ≤ PD i ∧ PD i ≤ 126) (hnf : 100 ≤ nf) : ∀ (m i a N n8 n9 : Nat) (l c t mc mh th now : Nat → Int32) (n eaten tA tC reason : Int32) (B : Nat → Nat), i + m = PS → a ≤ i → N ≤ a → m + 1 < n8 → m < n9 → DB l c t mc mh th n B → MB now B → WF B → TR tA tC → flt PD m i 0 = none →
    ∃ (e A : Nat) (l' c' t' mc' mh' th' now' : Nat → Int32) (n' eaten' r ps tN tw ns' tA' tC' reason' at' : Int32) (B' : Nat → Nat), e ≤ 6 ∧ A ≤ 60 ∧ g_X4_tell_l40 nf n8 (nI i) (nI a) (nI a) 0 (nI N) tA tC l c t mc mh th sn sc ss n eaten sg (nI PS) nl nc nt nmc nmh nth nsn nsc nss nn = some (nI A, nI e, ps, tN, tw, l', c', t', mc', mh', th', sn, sc, ss, n', eaten') ∧ g_X9_goNights_l14 nf n9 book now (nI PS) pad (nI N) tA tC reason (nI a) (nI i) = some (r, now', ns', tA', tC', reason', nI A, at') ∧ DB l' c' t' mc' mh' th' n' B' ∧ MB now' B' ∧ WF B' ∧ (e = 0 → r = -6 ∧ ps = ns' ∧ tN = tA' ∧ tw = tC') ∧ (e ≠ 0 → r = nI A ∧ reason' = nI e) := by
  intro m
  induction m using Nat.strongRecOn with
  | ind m ih =>
  intro i a N n8 n9 l c t mc mh th now n eaten tA tC reason B hi ha hN h8 h9 hD hM hW hT hf
  obtain ⟨n8, rfl⟩ := pred_ex h8
  obtain ⟨n9, rfl⟩ := pred_ex h9
  by_cases hm : m = 0
  · obtain rfl : i = PS := by omega
    refine ⟨0, a, l, c, t, mc, mh, th, now, n, eaten, -6, nI N, tA, tC, nI N, tA, tC, reason, nI i, B, by omega, by omega, ?_, ?_, hD, hM, hW, fun _ => ⟨rfl, rfl, rfl, rfl⟩, fun h => absurd rfl h⟩
    · rw [g_X4_tell_l40, if_pos (nI_le (Nat.le_refl i) (by omega))]
      split <;> rfl
    · rw [g_X9_goNights_l14, if_pos (nI_le (Nat.le_refl i) (by omega))]
  · obtain ⟨e, L, N', l1, c1, t1, mc1, mh1, th1, now1, n1, eaten1, ns1, tA1, tC1, B1, k1, k2, k3, k4, k5, k6, k7, k8, k9, k10, k11⟩ := a_act (nf := nf) (i := i) (N := N) (n := n) (eaten := eaten) hP (fun i hi => (hS i hi).2) hD hM hW (by omega) hnf hT (by omega) (by rw [show PS - i = m by omega]; exact hf)
    have hs : ∀ i, i < PS → sg i = nI (PD i) := fun i hi => (hS i hi).1
    have e1 : nI i + 1 = nI (i + 1) := nI_1 i
    have e2 : nI i + 2 = nI (i + 2) := nI_add i 2
    have hgo : g_X9_goNights_l14 nf (n9 + 1) book now (nI PS) pad (nI N) tA tC reason (nI a) (nI i) = if nI e ≤ 0 then g_X9_goNights_l14 nf n9 book now1 (nI PS) pad ns1 tA1 tC1 (nI e) (nI (a + 1)) (nI (i + L)) else some (nI a, now1, ns1, tA1, tC1, nI e, nI a, nI (i + L)) := by
      rw [g_X9_goNights_l14, if_neg (nI_ge (show i < PS by omega) (by omega)), k7, Option.bind_some, nI_1]
    have hte : g_X4_tell_l40 nf (n8 + 1) (nI i) (nI a) (nI a) 0 (nI N) tA tC l c t mc mh th sn sc ss n eaten sg (nI PS) nl nc nt nmc nmh nth nsn nsc nss nn = if nI e = 0 then ((g_X4_note nf (nI (PD i)) (nI a) (nI N) tA tC eaten1).bind fun q5 => g_X4_tell_l40 nf n8 (nI (i + L)) (nI (a + 1)) q5.1 (nI e) q5.2.1 q5.2.2.1 q5.2.2.2 l1 c1 t1 mc1 mh1 th1 sn sc ss n1 eaten1 sg (nI PS) nl nc nt nmc nmh nth nsn nsc nss nn) else g_X4_tell_l40 nf n8 (nI (i + L)) (nI (a + 1)) (nI a) (nI e) (nI N) tA tC l1 c1 t1 mc1 mh1 th1 sn sc ss n1 eaten1 sg (nI PS) nl nc nt nmc nmh nth nsn nsc nss nn := by
      rw [g_X4_tell_l40, if_neg (L_nge 60 (by omega) (by decide)), if_neg (nI_ge (show i < PS by omega) (by omega)), if_pos rfl, e1, e2, s_signAt hP hs (by omega), s_signAt hP hs (by omega), s_signAt hP hs (by omega), Option.bind_some, Option.bind_some, Option.bind_some, show sgn PD PS i = nI (PD i) from if_pos (by omega), k6, Option.bind_some]
      unfold g_X4_tell_b106
      simp only [k5, Option.bind_some, nI_add, nI_1]
    rw [hgo, hte]
    by_cases z : e = 0
    · obtain ⟨y1, y2, y3, y4⟩ := k11 z
      subst z
      rw [if_pos (L_eq 0 rfl), if_pos (L_le 0 (Nat.le_refl 0) (by decide)), y4, Option.bind_some, nI_1, y2]
      exact ih (m - L) (by omega) (i + L) (a + 1) N' n8 n9 l1 c1 t1 mc1 mh1 th1 now1 n1 eaten1 tA1 tC1 (nI 0) B1 (by omega) (by omega) (by omega) (by omega) (by omega) k8 k9 k10 y3 (by rw [show m - L = PS - (i + L) by omega]; exact k4)
    · rw [if_neg (L_ne 0 z (by omega) (by decide)), if_neg (L_nle 0 (by omega) (by omega))]
      refine ⟨e, a, l1, c1, t1, mc1, mh1, th1, now1, n1, eaten1, nI a, nI N, tA, tC, ns1, tA1, tC1, nI e, nI (i + L), B1, k1, by omega, ?_, rfl, k8, k9, k10, fun h => absurd h z, fun _ => ⟨rfl, rfl⟩⟩
      obtain ⟨n8, rfl⟩ := pred_ex (show 0 < n8 by omega)
      rw [g_X4_tell_l40]
      split
      · rfl
      · split
        · rfl
        · rw [if_neg (L_ne 0 z (by omega) (by decide))]
/-- the whole telling -/
theorem a_nights {l c t mc mh th fl fc ft fmc fmh fth fsn fsc now : Nat → Int32} {ca cw cp ctn ct fss fn fe n nights tA tC reason acts at_ : Int32} {B : Nat → Nat} (hP : PS ≤ 60) (hS : ∀ i, i < PS → sg i = nI (PD i) ∧ pad i = nI (PD i) ∧ 33 ≤ PD i ∧ PD i ≤ 126) (hnf : 100 ≤ nf) (hD : DB l c t mc mh th n B) (hM : MB book B) (hW : WF B) (hf : flt PD PS 0 0 = none) :
    ∃ (e A : Nat) (l' c' t' mc' mh' th' now' : Nat → Int32) (n' eaten' r ps tN tw ns' tA' tC' reason' at' : Int32) (B' : Nat → Nat), e ≤ 6 ∧ A ≤ 60 ∧ g_X4_tell nf ca cw cp ctn ct fl fc ft fmc fmh fth fsn fsc fss fn fe sg (nI PS) l c t mc mh th sn sc ss n = some (nI A, nI e, ps, tN, tw, l', c', t', mc', mh', th', cpy sn fsn 0 8, cpy sc fsc 0 8, ss, n', eaten') ∧ g_X9_goNights nf book now (nI PS) pad nights tA tC reason acts at_ = some (r, now', ns', tA', tC', reason', nI A, at') ∧ DB l' c' t' mc' mh' th' n' B' ∧ MB now' B' ∧ WF B' ∧ (e = 0 → r = -6 ∧ ps = ns' ∧ tN = tA' ∧ tw = tC') ∧ (e ≠ 0 → r = nI A ∧ reason' = nI e) := by
  obtain ⟨e, A, l', c', t', mc', mh', th', now', n', eaten', r, ps, tN, tw, ns', tA', tC', reason', at', B', h1, h2, h3, h4, h5⟩ := a_tell (nf := nf) (sn := cpy sn fsn 0 8) (sc := cpy sc fsc 0 8) (nl := l) (nc := c) (nt := t) (nmc := mc) (nmh := mh) (nth := th) (nsn := sn) (nsc := sc) (book := book) (ss := ss) (nss := ss) (nn := n) hP hS hnf PS 0 0 0 nf nf (cpy l fl 0 25) (cpy c fc 0 25) (cpy t ft 0 4) (cpy mc fmc 0 4) (cpy mh fmh 0 4) (cpy th fth 1 4) (cpy book now 0 63) n fe (-6) (-6) reason B (by omega) (by omega) (by omega) (by omega) (by omega) (DB_cpy hD) (MB_cpy hM) hW (Or.inl ⟨by decide, rfl⟩) hf
  refine ⟨e, A, l', c', t', mc', mh', th', now', n', eaten', r, ps, tN, tw, ns', tA', tC', reason', at', B', h1, h2, ?_, ?_, h5⟩
  · unfold g_X4_tell
    rw [s_become hnf (DB_bits hD), Option.bind_some]
    exact h3
  · unfold g_X9_goNights
    rw [s_asNow hnf, Option.bind_some]
    exact h4
/-- both look whether the nights can be -/
theorem a_can {l c t mc mh th fl fc ft fmc fmh fth fsn fsc now : Nat → Int32} {ca cw cp ctn ct fss fn fe n nights tA tC reason acts at_ : Int32} {B : Nat → Nat} (hP : PS ≤ 60) (hS : ∀ i, i < PS → sg i = nI (PD i) ∧ pad i = nI (PD i) ∧ 33 ≤ PD i ∧ PD i ≤ 126) (hnf : 100 ≤ nf) (hD : DB l c t mc mh th n B) (hM : MB book B) (hW : WF B) :
    (∃ q8 q9, g_X8_nightsCanBe nf l c t mc mh th sn sc ss n sg (nI PS) ca cw cp ctn ct fl fc ft fmc fmh fth fsn fsc fss fn fe = some ((0 : Int32), q8) ∧ g_X9_barOfNights nf book now (nI PS) pad nights tA tC reason acts at_ = some (-5, q9)) ∨
    ∃ (A : Nat) (l' c' t' mc' mh' th' now' : Nat → Int32) (n' eaten' ps tN tw reason' at' : Int32) (B' : Nat → Nat), A ≤ 60 ∧ g_X8_nightsCanBe nf l c t mc mh th sn sc ss n sg (nI PS) ca cw cp ctn ct fl fc ft fmc fmh fth fsn fsc fss fn fe = some (1, nI A, 0, ps, tN, tw, l', c', t', mc', mh', th', cpy sn fsn 0 8, cpy sc fsc 0 8, ss, n', eaten') ∧ g_X9_barOfNights nf book now (nI PS) pad nights tA tC reason acts at_ = some (0, now', ps, tN, tw, reason', nI A, at') ∧ DB l' c' t' mc' mh' th' n' B' ∧ MB now' B' ∧ WF B' := by
  have f8 := s_firstWrong (nf := nf) hP (fun i hi => ⟨(hS i hi).1, (hS i hi).2.2⟩) hnf
  have f9 := s_faultOf (nf := nf) hP (fun i hi => ⟨(hS i hi).2.1, (hS i hi).2.2⟩) hnf
  unfold g_X8_nightsCanBe g_X9_barOfNights
  rw [f8, f9, Option.bind_some, Option.bind_some]
  rcases hq : flt PD PS 0 0 with _ | k
  · obtain ⟨e, A, l', c', t', mc', mh', th', now', n', eaten', r, ps, tN, tw, ns', tA', tC', reason', at', B', h1, h2, h3, h4, h5, h6, h7, h8, h9⟩ := a_nights (nf := nf) (sn := sn) (sc := sc) (fsn := fsn) (fsc := fsc) (ss := ss) (fl := fl) (fc := fc) (ft := ft) (fmc := fmc) (fmh := fmh) (fth := fth) (now := now) (ca := ca) (cw := cw) (cp := cp) (ctn := ctn) (ct := ct) (fss := fss) (fn := fn) (fe := fe) (nights := nights) (tA := tA) (tC := tC) (reason := reason) (acts := acts) (at_ := at_) hP hS hnf hD hM hW hq
    rw [if_pos (show fltI none = -6 from rfl), if_neg (show ¬ (0 : Int32) ≤ fltI none by decide), h3, h4, Option.bind_some, Option.bind_some]
    by_cases z : e = 0
    · obtain ⟨y1, y2, y3, y4⟩ := h8 z
      subst z
      refine Or.inr ⟨A, l', c', t', mc', mh', th', now', n', eaten', ps, tN, tw, reason', at', B', h2, ?_, ?_, h5, h6, h7⟩
      · rw [if_pos (L_eq 0 rfl), bz_in (Or.inr rfl)]; rfl
      · rw [if_pos (show r < 0 by rw [y1]; decide), y2, y3, y4]
    · obtain ⟨y1, y2⟩ := h9 z
      rw [if_neg (L_ne 0 z (by omega) (by decide)), bz_in (Or.inl rfl), if_neg (show ¬ r < 0 by rw [y1]; exact nI_pos (by omega))]
      exact Or.inl ⟨_, _, rfl, rfl⟩
  · have hk : k ≤ 60 := by have := flt_le hq; omega
    rw [if_neg (show ¬ fltI (some k) = -6 from nI_m6 (by omega)), bz_in (Or.inl rfl), if_pos (show (0 : Int32) ≤ fltI (some k) from nI_pos' (by omega))]
    exact Or.inl ⟨_, _, rfl, rfl⟩
end TELL

theorem st_judge : St_judge := by
  intro n_lands n_camphors n_there n_mothCells n_mothHeads n_threads n_sightNights n_sightCells n_sights n_night u_lands u_camphors u_there u_mothCells u_mothHeads u_threads u_sightNights u_sightCells u_sights u_night v_lands v_camphors v_there v_mothCells v_mothHeads v_threads v_sightNights v_sightCells v_sights v_night kept p_signs p_size t_next_ book sights sight signs pad image isKept c_acts c_why c_passed c_townNight c_town f_lands f_camphors f_there f_mothCells f_mothHeads f_threads f_sightNights f_sightCells f_sights f_night f_eaten now nights townAt townCell reason acts at_ p1 hR
  obtain ⟨⟨B, S, SS, hW, hDB, hMB, hWS, hDS, hMS⟩, hRP, hI0, hI1, hRT⟩ := hR
  obtain ⟨PS, PD, r1, r2, r3, r4⟩ := id hRP
  suffices h : ∃ v q8 q9, g_X8_judge 100 p1 n_lands n_camphors n_there n_mothCells n_mothHeads n_threads n_sightNights n_sightCells n_sights n_night p_signs p_size c_acts c_why c_passed c_townNight c_town f_lands f_camphors f_there f_mothCells f_mothHeads f_threads f_sightNights f_sightCells f_sights f_night f_eaten = some (v, q8) ∧ g_X9_judge 100 p1 book now signs pad nights townAt townCell reason acts at_ = some (v, q9) by
    obtain ⟨v, q8, q9, h8, h9⟩ := h
    exact ⟨100, (v, q8), (v, q9), h8, h9, rfl, ⟨B, S, SS, hW, hDB, hMB, hWS, hDS, hMS⟩, hRP, hI0, hI1, hRT⟩
  subst r2 r3
  by_cases c1 : 0 ≤ p1 ∧ p1 ≤ 1
  · unfold g_X8_judge g_X9_judge
    rw [w_t c1, n_t c1, Option.bind_some, Option.bind_some, if_neg (by decide), if_neg (by decide), s_firstWrong (nf := 100) r1 (fun i hi => ⟨(r4 i hi).1, (r4 i hi).2.2⟩) (by omega), s_faultOf (nf := 100) r1 (fun i hi => ⟨(r4 i hi).2.1, (r4 i hi).2.2⟩) (by omega), Option.bind_some, Option.bind_some]
    rcases hq : flt PD PS 0 0 with _ | k
    · obtain ⟨e, A, l', c', t', mc', mh', th', now', n', eaten', r, ps, tN, tw, ns', tA', tC', reason', at', B', h1, h2, h3, h4, h5, h6, h7, h8, h9⟩ := a_nights (nf := 100) (sn := n_sightNights) (sc := n_sightCells) (fsn := f_sightNights) (fsc := f_sightCells) (ss := n_sights) (fl := f_lands) (fc := f_camphors) (ft := f_there) (fmc := f_mothCells) (fmh := f_mothHeads) (fth := f_threads) (now := now) (ca := c_acts) (cw := c_why) (cp := c_passed) (ctn := c_townNight) (ct := c_town) (fss := f_sights) (fn := f_night) (fe := f_eaten) (nights := nights) (tA := townAt) (tC := townCell) (reason := reason) (acts := acts) (at_ := at_) r1 r4 (by omega) hDB hMB hW hq
      rw [if_pos (show fltI none = -6 from rfl), if_pos (show fltI none < (0 : Int32) by decide), h3, h4, Option.bind_some, Option.bind_some]
      unfold g_X9_judge_b35
      by_cases z : e = 0
      · obtain ⟨y1, y2, y3, y4⟩ := h8 z
        subst z
        rw [if_pos (L_eq 0 rfl), if_pos (show r < 0 by rw [y1]; decide), y1]
        exact ⟨-6, _, _, rfl, rfl⟩
      · obtain ⟨y1, y2⟩ := h9 z
        rw [if_neg (L_ne 0 z (by omega) (by decide)), if_neg (show ¬ r < 0 by rw [y1]; exact nI_pos (by omega)), y1, y2]
        by_cases c2 : p1 = 0
        · rw [if_pos c2, if_pos c2]; exact ⟨nI A, _, _, rfl, rfl⟩
        · rw [if_neg c2, if_neg c2]; exact ⟨nI e, _, _, rfl, rfl⟩
    · rw [if_neg (show ¬ fltI (some k) = -6 from nI_m6 (by have := flt_le hq; omega)), if_neg (show ¬ fltI (some k) < (0 : Int32) from nI_pos (by have := flt_le hq; omega))]
      exact ⟨-5, _, _, rfl, rfl⟩
  · unfold g_X8_judge g_X9_judge
    rw [w_f c1, n_f c1, Option.bind_some, Option.bind_some, if_pos rfl, if_pos rfl]
    exact ⟨-2, _, _, rfl, rfl⟩
