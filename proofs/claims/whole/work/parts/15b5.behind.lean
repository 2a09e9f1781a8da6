/-! ===== what is gone behind them ===== -/
theorem st_behind : St_behind := by
  intro n_lands n_camphors n_there n_mothCells n_mothHeads n_threads n_sightNights n_sightCells n_sights n_night u_lands u_camphors u_there u_mothCells u_mothHeads u_threads u_sightNights u_sightCells u_sights u_night v_lands v_camphors v_there v_mothCells v_mothHeads v_threads v_sightNights v_sightCells v_sights v_night kept p_signs p_size t_next_ book sights sight signs pad image isKept c_acts c_why c_passed c_townNight c_town f_lands f_camphors f_there f_mothCells f_mothHeads f_threads f_sightNights f_sightCells f_sights f_night f_eaten now nights townAt townCell reason acts at_ p1 p2 hR
  obtain ⟨⟨B, S, SS, hW, hDB, hMB, hWS, hDS, hMS⟩, hRP, hI0, hI1, hRT⟩ := hR
  obtain ⟨PS, PD, r1, r2, r3, r4⟩ := id hRP
  suffices h : ∃ v q8 q9, g_X8_behind 100 p1 p2 n_lands n_camphors n_there n_mothCells n_mothHeads n_threads n_sightNights n_sightCells n_sights n_night p_signs p_size c_acts c_why c_passed c_townNight c_town f_lands f_camphors f_there f_mothCells f_mothHeads f_threads f_sightNights f_sightCells f_sights f_night f_eaten = some (v, q8) ∧ g_X9_behind 100 p1 p2 book now signs pad nights townAt townCell reason acts at_ = some (v, q9) by
    obtain ⟨v, q8, q9, h8, h9⟩ := h
    exact ⟨100, (v, q8), (v, q9), h8, h9, rfl, ⟨B, S, SS, hW, hDB, hMB, hWS, hDS, hMS⟩, hRP, hI0, hI1, hRT⟩
  subst r2 r3
  unfold g_X8_behind g_X9_behind
  by_cases c1 : 0 ≤ p1 ∧ p1 ≤ 24
  · by_cases c2 : 0 ≤ p2 ∧ p2 ≤ 1
    · rw [c8_t c1, c9_t c1, w_t c2, n_t c2]
      simp only [Option.bind_some, i10, if_false]
      rcases a_can (nf := 100) (sn := n_sightNights) (sc := n_sightCells) (fsn := f_sightNights) (fsc := f_sightCells) (ss := n_sights) (fl := f_lands) (fc := f_camphors) (ft := f_there) (fmc := f_mothCells) (fmh := f_mothHeads) (fth := f_threads) (now := now) (ca := c_acts) (cw := c_why) (cp := c_passed) (ctn := c_townNight) (ct := c_town) (fss := f_sights) (fn := f_night) (fe := f_eaten) (nights := nights) (tA := townAt) (tC := townCell) (reason := reason) (acts := acts) (at_ := at_) r1 r4 (by omega) hDB hMB hW with ⟨q8, q9, h8, h9⟩ | ⟨A, l', c', t', mc', mh', th', now', n', eaten', ps, tN, tw, reason', at', B', h1, h8, h9, k1, k2, k3⟩
      · rw [h8, h9, Option.bind_some, Option.bind_some]
        dsimp only
        rw [if_pos (show (0 : Int32) = 0 from rfl), if_neg (show ¬ (0 : Int32) ≤ -5 by decide)]
        exact ⟨-5, _, _, rfl, rfl⟩
      · rw [h8, h9, Option.bind_some, Option.bind_some]
        dsimp only
        rw [if_neg (show ¬ (1 : Int32) = 0 by decide), if_pos (show (0 : Int32) ≤ 0 by decide)]
        obtain ⟨x, hx, rfl⟩ := rngN (k := 24) (by decide) c1
        obtain ⟨w, hw, rfl⟩ := rngN (k := 1) (by decide) c2
        rw [ck_nI (by omega) (by decide), ck_nI (by omega) (by decide), nI_clamp (by omega)]
        obtain rfl | rfl : w = 0 ∨ w = 1 := by omega
        · rw [if_pos (L_eq 0 rfl), show (25 : Int32) * nI 0 + nI x = nI x from Int32.zero_add _, ck63 (by omega), nI_clamp (by omega)]
          exact ⟨nI (B' x), _, _, by rw [k1.1 x (by omega)], by rw [k2 x (by omega)]⟩
        · rw [if_neg (by decide), show (25 : Int32) * nI 1 + nI x = nI (25 + x) from nI_add 25 x, ck63 (by omega), nI_clamp (by omega)]
          exact ⟨nI (B' (25 + x)), _, _, by rw [k1.2.1 x (by omega)], by rw [k2 _ (by omega)]⟩
    · rw [c8_t c1, c9_t c1, w_f c2, n_f c2]
      simp only [Option.bind_some, i10, i00, if_false, if_true]
      exact ⟨-2, _, _, rfl, rfl⟩
  · rw [c8_f c1, c9_f c1, Option.bind_some, Option.bind_some, if_pos rfl, if_pos rfl]
    exact ⟨-1, _, _, rfl, rfl⟩
theorem st_flies : St_flies := by
  intro n_lands n_camphors n_there n_mothCells n_mothHeads n_threads n_sightNights n_sightCells n_sights n_night u_lands u_camphors u_there u_mothCells u_mothHeads u_threads u_sightNights u_sightCells u_sights u_night v_lands v_camphors v_there v_mothCells v_mothHeads v_threads v_sightNights v_sightCells v_sights v_night kept p_signs p_size t_next_ book sights sight signs pad image isKept c_acts c_why c_passed c_townNight c_town f_lands f_camphors f_there f_mothCells f_mothHeads f_threads f_sightNights f_sightCells f_sights f_night f_eaten now nights townAt townCell reason acts at_ p1 p2 hR
  obtain ⟨⟨B, S, SS, hW, hDB, hMB, hWS, hDS, hMS⟩, hRP, hI0, hI1, hRT⟩ := hR
  obtain ⟨PS, PD, r1, r2, r3, r4⟩ := id hRP
  suffices h : ∃ v q8 q9, g_X8_flies 100 p1 p2 n_lands n_camphors n_there n_mothCells n_mothHeads n_threads n_sightNights n_sightCells n_sights n_night p_signs p_size c_acts c_why c_passed c_townNight c_town f_lands f_camphors f_there f_mothCells f_mothHeads f_threads f_sightNights f_sightCells f_sights f_night f_eaten = some (v, q8) ∧ g_X9_flies 100 p1 p2 book now signs pad nights townAt townCell reason acts at_ = some (v, q9) by
    obtain ⟨v, q8, q9, h8, h9⟩ := h
    exact ⟨100, (v, q8), (v, q9), h8, h9, rfl, ⟨B, S, SS, hW, hDB, hMB, hWS, hDS, hMS⟩, hRP, hI0, hI1, hRT⟩
  subst r2 r3
  unfold g_X8_flies g_X9_flies
  by_cases c1 : 0 ≤ p1 ∧ p1 ≤ 3
  · obtain ⟨k, hk, rfl⟩ := rngN (k := 3) (by decide) c1
    rw [s_there8 hDB (by omega), s_there9 hMB hW (by omega), Option.bind_some, Option.bind_some]
    rcases Nat.mod_two_eq_zero_or_one (B 61 / 2 ^ k) with e | e
    · rw [e, if_pos (L_eq 0 rfl), if_pos (L_eq 0 rfl)]
      exact ⟨-1, _, _, rfl, rfl⟩
    · rw [e, if_neg (by decide), if_neg (by decide)]
      by_cases c2 : 0 ≤ p2 ∧ p2 ≤ 1
      · rw [w_t c2, n_t c2]
        simp only [Option.bind_some, i10, if_false]
        rcases a_can (nf := 100) (sn := n_sightNights) (sc := n_sightCells) (fsn := f_sightNights) (fsc := f_sightCells) (ss := n_sights) (fl := f_lands) (fc := f_camphors) (ft := f_there) (fmc := f_mothCells) (fmh := f_mothHeads) (fth := f_threads) (now := now) (ca := c_acts) (cw := c_why) (cp := c_passed) (ctn := c_townNight) (ct := c_town) (fss := f_sights) (fn := f_night) (fe := f_eaten) (nights := nights) (tA := townAt) (tC := townCell) (reason := reason) (acts := acts) (at_ := at_) r1 r4 (by omega) hDB hMB hW with ⟨q8, q9, h8, h9⟩ | ⟨A, l', c', t', mc', mh', th', now', n', eaten', ps, tN, tw, reason', at', B', h1, h8, h9, k1, k2, k3⟩
        · rw [h8, h9, Option.bind_some, Option.bind_some]
          dsimp only
          rw [if_pos (show (0 : Int32) = 0 from rfl), if_neg (show ¬ (0 : Int32) ≤ -5 by decide)]
          exact ⟨-5, _, _, rfl, rfl⟩
        · rw [h8, h9, Option.bind_some, Option.bind_some]
          dsimp only
          rw [if_neg (show ¬ (1 : Int32) = 0 by decide), if_pos (show (0 : Int32) ≤ 0 by decide), s_there8 k1 (by omega), s_flying k2 k3 (by omega), Option.bind_some, Option.bind_some]
          rcases Nat.mod_two_eq_zero_or_one (B' 61 / 2 ^ k) with e' | e'
          · rw [e', if_pos (L_eq 0 rfl), if_pos (L_eq 0 rfl)]
            exact ⟨-6, _, _, rfl, rfl⟩
          · obtain ⟨w, hw, rfl⟩ := rngN (k := 1) (by decide) c2
            have n1 : ¬ nI 1 = 0 := by decide
            rw [e', if_neg n1, if_neg n1, ck_nI (show k < 4 by omega) (by decide), ck_nI (show k < 4 by omega) (by decide), nI_clamp (by omega)]
            obtain rfl | rfl : w = 0 ∨ w = 1 := by omega
            · rw [if_pos (L_eq 0 rfl), show (50 : Int32) + 4 * nI 0 + nI k = nI (50 + k) from nI_add 50 k, ck63 (by omega), nI_clamp (by omega)]
              exact ⟨nI (B' (50 + k)), _, _, by rw [k1.2.2.2.1 k (by omega)], by rw [k2 _ (by omega)]⟩
            · rw [if_neg (by decide), show (50 : Int32) + 4 * nI 1 + nI k = nI (54 + k) from nI_add 54 k, ck63 (by omega), nI_clamp (by omega)]
              exact ⟨nI (B' (54 + k)), _, _, by rw [k1.2.2.2.2.1 k (by omega)], by rw [k2 _ (by omega)]⟩
      · rw [w_f c2, n_f c2, Option.bind_some, Option.bind_some, if_pos rfl, if_pos rfl]
        exact ⟨-2, _, _, rfl, rfl⟩
  · rw [s_there8_f c1, s_there9_f c1, Option.bind_some, Option.bind_some, if_pos rfl, if_pos rfl]
    exact ⟨-1, _, _, rfl, rfl⟩
theorem ckL {α : Type} {k n : Nat} {e : Option α} (h : k < n) (hn : n < 2 ^ 31) : ck (OfNat.ofNat k : Int32) n e = e := ck_nI h hn
theorem s_threads8 {nf : Nat} {l c t mc mh th : Nat → Int32} {n : Int32} {B : Nat → Nat} (h : DB l c t mc mh th n B) : g_X1_threadsInAll nf th = some (nI (B 58) + nI (B 59) + nI (B 60)) := by
  unfold g_X1_threadsInAll
  rw [ckL (k := 1) (by omega) (by decide), ckL (k := 2) (by omega) (by decide), ckL (k := 3) (by omega) (by decide)]
  exact congrArg some (congr (congrArg HAdd.hAdd (congr (congrArg HAdd.hAdd (h.2.2.2.2.2.1 0 (by omega))) (h.2.2.2.2.2.1 1 (by omega)))) (h.2.2.2.2.2.1 2 (by omega)))
theorem s_threads9 {now : Nat → Int32} {B : Nat → Nat} (h : MB now B) : now (58 : Int32).toNatClampNeg + now (59 : Int32).toNatClampNeg + now (60 : Int32).toNatClampNeg = nI (B 58) + nI (B 59) + nI (B 60) := congr (congrArg HAdd.hAdd (congr (congrArg HAdd.hAdd (h 58 (by omega))) (h 59 (by omega)))) (h 60 (by omega))
theorem st_then : St_then := by
  intro n_lands n_camphors n_there n_mothCells n_mothHeads n_threads n_sightNights n_sightCells n_sights n_night u_lands u_camphors u_there u_mothCells u_mothHeads u_threads u_sightNights u_sightCells u_sights u_night v_lands v_camphors v_there v_mothCells v_mothHeads v_threads v_sightNights v_sightCells v_sights v_night kept p_signs p_size t_next_ book sights sight signs pad image isKept c_acts c_why c_passed c_townNight c_town f_lands f_camphors f_there f_mothCells f_mothHeads f_threads f_sightNights f_sightCells f_sights f_night f_eaten now nights townAt townCell reason acts at_ p1 hR
  obtain ⟨⟨B, S, SS, hW, hDB, hMB, hWS, hDS, hMS⟩, hRP, hI0, hI1, hRT⟩ := hR
  obtain ⟨PS, PD, r1, r2, r3, r4⟩ := id hRP
  suffices h : ∃ v q8 q9, g_X8_then 100 p1 n_lands n_camphors n_there n_mothCells n_mothHeads n_threads n_sightNights n_sightCells n_sights n_night p_signs p_size c_acts c_why c_passed c_townNight c_town f_lands f_camphors f_there f_mothCells f_mothHeads f_threads f_sightNights f_sightCells f_sights f_night f_eaten = some (v, q8) ∧ g_X9_then 100 p1 book now signs pad nights townAt townCell reason acts at_ = some (v, q9) by
    obtain ⟨v, q8, q9, h8, h9⟩ := h
    exact ⟨100, (v, q8), (v, q9), h8, h9, rfl, ⟨B, S, SS, hW, hDB, hMB, hWS, hDS, hMS⟩, hRP, hI0, hI1, hRT⟩
  subst r2 r3
  unfold g_X8_then g_X9_then
  by_cases c1 : 0 ≤ p1 ∧ p1 ≤ 4
  · rw [w_t c1, n_t c1]
    simp only [Option.bind_some, i10, if_false]
    rcases a_can (nf := 100) (sn := n_sightNights) (sc := n_sightCells) (fsn := f_sightNights) (fsc := f_sightCells) (ss := n_sights) (fl := f_lands) (fc := f_camphors) (ft := f_there) (fmc := f_mothCells) (fmh := f_mothHeads) (fth := f_threads) (now := now) (ca := c_acts) (cw := c_why) (cp := c_passed) (ctn := c_townNight) (ct := c_town) (fss := f_sights) (fn := f_night) (fe := f_eaten) (nights := nights) (tA := townAt) (tC := townCell) (reason := reason) (acts := acts) (at_ := at_) r1 r4 (by omega) hDB hMB hW with ⟨q8, q9, h8, h9⟩ | ⟨A, l', c', t', mc', mh', th', now', n', eaten', ps, tN, tw, reason', at', B', h1, h8, h9, k1, k2, k3⟩
    · rw [h8, h9, Option.bind_some, Option.bind_some]
      dsimp only
      rw [if_pos (show (0 : Int32) = 0 from rfl), if_neg (show ¬ (0 : Int32) ≤ -5 by decide)]
      exact ⟨-5, _, _, rfl, rfl⟩
    · rw [h8, h9, Option.bind_some, Option.bind_some]
      dsimp only
      rw [if_neg (show ¬ (1 : Int32) = 0 by decide), if_pos (show (0 : Int32) ≤ 0 by decide)]
      by_cases d0 : p1 = 0
      · rw [if_pos d0, if_pos d0]
        rw [show (0 : Int32) = nI 0 from rfl, s_countOf (v := 0) (DB_lands k1 k3) (by decide) (by omega), s_countOf9 (v := 0) (MB_lands k2 k3) (by decide) (by omega)]
        exact ⟨_, _, _, rfl, rfl⟩
      · rw [if_neg d0, if_neg d0]
        by_cases d1 : p1 = 1
        · rw [if_pos d1, if_pos d1, s_threads8 k1, Option.bind_some, ckL (k := 58) (by omega) (by decide), ckL (k := 59) (by omega) (by decide), ckL (k := 60) (by omega) (by decide), s_threads9 k2]
          exact ⟨_, _, _, rfl, rfl⟩
        · rw [if_neg d1, if_neg d1]
          by_cases d2 : p1 = 2
          · rw [if_pos d2, if_pos d2, ck62, cl62, k1.2.2.2.2.2.2, k2 62 (by omega)]
            exact ⟨nI (B' 62), _, _, rfl, rfl⟩
          · rw [if_neg d2, if_neg d2]
            by_cases d3 : p1 = 3
            · rw [if_pos d3, if_pos d3]
              exact ⟨tN, _, _, rfl, rfl⟩
            · rw [if_neg d3, if_neg d3]
              exact ⟨tw, _, _, rfl, rfl⟩
  · rw [w_f c1, n_f c1, Option.bind_some, Option.bind_some, if_pos rfl, if_pos rfl]
    exact ⟨-2, _, _, rfl, rfl⟩
theorem dn_12 {nf : Nat} {book now pad : Nat → Int32} {sg a b c d e f : Int32} : ∀ (m x n : Nat), x + m = 63 → m < n → g_X9_done_l12 nf n (nI x) (cpy now book 0 x) now sg pad a b c d e f = some (e, cpy now book 0 63, now, 0, a, b, c, d, e, f) := by
  intro m
  induction m with
  | zero =>
    intro x n h hn
    obtain ⟨n, rfl⟩ := pred_ex hn
    obtain rfl : x = 63 := by omega
    rw [g_X9_done_l12, if_pos (by decide)]
  | succ m ih =>
    intro x n h hn
    obtain ⟨n, rfl⟩ := pred_ex hn
    rw [g_X9_done_l12, if_neg (show ¬ (63 : Int32) ≤ nI x from nI_ge (b := 63) (by omega) (by decide))]
    simp only [ck_nI (show x < 63 by omega) (by decide), nI_clamp (show x < 2 ^ 31 by omega), cpy_s _ _ (Nat.zero_le x), nI_1]
    exact ih (x + 1) n (by omega) (by omega)
theorem st_done : St_done := by
  intro n_lands n_camphors n_there n_mothCells n_mothHeads n_threads n_sightNights n_sightCells n_sights n_night u_lands u_camphors u_there u_mothCells u_mothHeads u_threads u_sightNights u_sightCells u_sights u_night v_lands v_camphors v_there v_mothCells v_mothHeads v_threads v_sightNights v_sightCells v_sights v_night kept p_signs p_size t_next_ book sights sight signs pad image isKept c_acts c_why c_passed c_townNight c_town f_lands f_camphors f_there f_mothCells f_mothHeads f_threads f_sightNights f_sightCells f_sights f_night f_eaten now nights townAt townCell reason acts at_ hR
  obtain ⟨⟨B, S, SS, hW, hDB, hMB, hWS, hDS, hMS⟩, hRP, hI0, hI1, hRT⟩ := hR
  obtain ⟨PS, PD, r1, r2, r3, r4⟩ := id hRP
  rcases a_can (nf := 100) (sn := n_sightNights) (sc := n_sightCells) (fsn := f_sightNights) (fsc := f_sightCells) (ss := n_sights) (fl := f_lands) (fc := f_camphors) (ft := f_there) (fmc := f_mothCells) (fmh := f_mothHeads) (fth := f_threads) (now := now) (ca := c_acts) (cw := c_why) (cp := c_passed) (ctn := c_townNight) (ct := c_town) (fss := f_sights) (fn := f_night) (fe := f_eaten) (nights := nights) (tA := townAt) (tC := townCell) (reason := reason) (acts := acts) (at_ := at_) r1 r4 (by omega) hDB hMB hW with ⟨q8, q9, h8, h9⟩ | ⟨A, l', c', t', mc', mh', th', now', n', eaten', ps, tN, tw, reason', at', B', h1, h8, h9, k1, k2, k3⟩
  · refine ⟨100, (-5, n_lands, n_camphors, n_there, n_mothCells, n_mothHeads, n_threads, n_sightNights, n_sightCells, n_sights, n_night, p_size, q8), (-5, book, q9.1, signs, q9.2), ?_, ?_, rfl, ⟨B, S, SS, hW, hDB, hMB, hWS, hDS, hMS⟩, hRP, hI0, hI1, hRT⟩
    · unfold g_X8_done
      rw [r2, h8, Option.bind_some, if_pos rfl]
    · unfold g_X9_done
      rw [r3, h9, Option.bind_some]
      dsimp only
      rw [if_neg (show ¬ (0 : Int32) ≤ -5 by decide)]
  · refine ⟨100, (nI A, cpy l' n_lands 0 25, cpy c' n_camphors 0 25, cpy t' n_there 0 4, cpy mc' n_mothCells 0 4, cpy mh' n_mothHeads 0 4, cpy th' n_threads 1 4, cpy (cpy n_sightNights f_sightNights 0 8) n_sightNights 0 8, cpy (cpy n_sightCells f_sightCells 0 8) n_sightCells 0 8, n_sights, n', 0, nI A, 0, ps, tN, tw, l', c', t', mc', mh', th', cpy n_sightNights f_sightNights 0 8, cpy n_sightCells f_sightCells 0 8, n_sights, n', eaten'), (nI A, cpy now' book 0 63, now', 0, ps, tN, tw, reason', nI A, at'), ?_, ?_, rfl, ⟨B', S, SS, k3, DB_cpy k1, MB_cpy k2, hWS, DS_cpy (DS_cpy hDS), hMS⟩, ⟨0, PD, by omega, rfl, rfl, fun i hi => absurd hi (Nat.not_lt_zero i)⟩, hI0, hI1, hRT⟩
    · unfold g_X8_done
      rw [r2, h8, Option.bind_some]
      dsimp only
      rw [if_neg (show ¬ (1 : Int32) = 0 by decide), s_become (by omega) (DB_bits k1)]
      rfl
    · unfold g_X9_done
      rw [r3, h9, Option.bind_some]
      dsimp only
      rw [if_pos (show (0 : Int32) ≤ 0 by decide)]
      have := dn_12 (nf := 100) (book := book) (now := now') (pad := pad) (sg := nI PS) (a := ps) (b := tN) (c := tw) (d := reason') (e := nI A) (f := at') 63 0 100 (by omega) (by omega)
      rw [cpy_0] at this
      exact this
