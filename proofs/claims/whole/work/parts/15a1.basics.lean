/-! ===== numbers as naturals ===== -/
theorem lit (n : Nat) : (OfNat.ofNat n : Int32) = nI n := rfl
def upN (B : Nat → Nat) (j v : Nat) : Nat → Nat := fun i => if i = j then v else B i
theorem upN_eq {B : Nat → Nat} {j v : Nat} : upN B j v j = v := if_pos rfl
theorem upN_ne {B : Nat → Nat} {i j v : Nat} (h : i ≠ j) : upN B j v i = B i := if_neg h
theorem ck_nI {α : Type} {j n : Nat} {e : Option α} (h : j < n) (hn : n < 2 ^ 31) : ck (nI j) n e = e := ck_in (vp_in_nI h hn)
theorem upd_eq {f : Nat → Int32} {k : Nat} {x : Int32} : upd f k x k = x := pk_us
theorem upd_ne {f : Nat → Int32} {k j : Nat} {x : Int32} (h : j ≠ k) : upd f k x j = f j := pk_un h
theorem rngN {p : Int32} {k : Nat} (hk : k < 2 ^ 31) (h : 0 ≤ p ∧ p ≤ nI k) : ∃ j, j ≤ k ∧ p = nI j := nI_of2 (nI_toInt hk) (Int32.not_lt.mpr h.1) h.2
theorem in_nI {j a b : Nat} (h1 : a ≤ j) (h2 : j ≤ b) (hb : b < 2 ^ 31) : nI a ≤ nI j ∧ nI j ≤ nI b := ⟨nI_le h1 (by omega), nI_le h2 hb⟩
theorem rngA {p : Int32} {a b : Nat} (hb : b < 2 ^ 31) (h : nI a ≤ p ∧ p ≤ nI b) (ha : a < 2 ^ 31) : ∃ j, a ≤ j ∧ j ≤ b ∧ p = nI j := by
  have h0 : ¬ p < 0 := by
    rw [Int32.lt_iff_toInt_lt]
    have := Int32.le_iff_toInt_le.mp h.1
    rw [nI_toInt ha] at this
    show ¬ p.toInt < 0
    omega
  obtain ⟨j, hj, rfl⟩ := nI_of2 (nI_toInt hb) h0 h.2
  exact ⟨j, (nI_leI ha (by omega)).mp h.1, hj, rfl⟩
theorem if10 {c : Prop} [Decidable c] : ((if c then (1 : Int32) else 0) = 0) = ¬ c := by
  by_cases h : c <;> simp [h]
/-! against a written number -/
theorem L_lt {j : Nat} (k : Nat) (h : j < k) (hk : k < 2 ^ 31) : nI j < (OfNat.ofNat k : Int32) := nI_lt h hk
theorem L_nlt {j : Nat} (k : Nat) (h : k ≤ j) (hj : j < 2 ^ 31) : ¬ nI j < (OfNat.ofNat k : Int32) := nI_nlt h hj
theorem L_gt {j : Nat} (k : Nat) (h : k < j) (hj : j < 2 ^ 31) : (OfNat.ofNat k : Int32) < nI j := nI_lt h hj
theorem L_ngt {j : Nat} (k : Nat) (h : j ≤ k) (hk : k < 2 ^ 31) : ¬ (OfNat.ofNat k : Int32) < nI j := nI_nlt h hk
theorem L_le {j : Nat} (k : Nat) (h : j ≤ k) (hk : k < 2 ^ 31) : nI j ≤ (OfNat.ofNat k : Int32) := nI_le h hk
theorem L_nle {j : Nat} (k : Nat) (h : k < j) (hj : j < 2 ^ 31) : ¬ nI j ≤ (OfNat.ofNat k : Int32) := nI_ge h hj
theorem L_ge {j : Nat} (k : Nat) (h : k ≤ j) (hj : j < 2 ^ 31) : (OfNat.ofNat k : Int32) ≤ nI j := nI_le h hj
theorem L_nge {j : Nat} (k : Nat) (h : j < k) (hk : k < 2 ^ 31) : ¬ (OfNat.ofNat k : Int32) ≤ nI j := nI_ge h hk
theorem L_ne {j : Nat} (k : Nat) (h : j ≠ k) (hj : j < 2 ^ 31) (hk : k < 2 ^ 31) : ¬ nI j = (OfNat.ofNat k : Int32) := fun e => h ((nI_eq hj hk).mp e)
theorem L_in {j : Nat} (a b : Nat) (h1 : a ≤ j) (h2 : j ≤ b) (hb : b < 2 ^ 31) : (OfNat.ofNat a : Int32) ≤ nI j ∧ nI j ≤ (OfNat.ofNat b : Int32) := in_nI h1 h2 hb
theorem L_eq {j : Nat} (k : Nat) (h : j = k) : nI j = (OfNat.ofNat k : Int32) := by rw [h]; rfl
/-! ===== small methods ===== -/
theorem s_within (nf : Nat) (v a b : Int32) : g_X8_within nf v a b = some (if a ≤ v ∧ v ≤ b then 1 else 0) := by
  unfold g_X8_within
  by_cases h1 : v < a
  · rw [if_pos h1, if_neg (fun h => absurd h1 (Int32.not_lt.mpr h.1))]; rfl
  · rw [if_neg h1]
    by_cases h2 : b < v
    · rw [if_pos h2, if_neg (fun h => absurd h2 (Int32.not_lt.mpr h.2))]; rfl
    · rw [if_neg h2, if_pos ⟨Int32.not_lt.mp h1, Int32.not_lt.mp h2⟩]; rfl
theorem s_in (nf : Nat) (v a b : Int32) : g_X9_in nf v a b = some (if a ≤ v ∧ v ≤ b then 1 else 0) := s_within nf v a b
theorem bz_if {α : Type} {c : Prop} [Decidable c] {e : Option α} : bz (if c then 1 else 0) e = e := bz_in (by by_cases h : c <;> simp [h])
theorem s_isThread (nf : Nat) (v : Int32) : g_X8_isThread nf v = some (if 1 ≤ v ∧ v ≤ 3 then 1 else 0) := by
  unfold g_X8_isThread; rw [s_within, Option.bind_some, bz_if]
theorem s_isWay (nf : Nat) (v : Int32) : g_X8_isWay nf v = some (if 0 ≤ v ∧ v ≤ 3 then 1 else 0) := by
  unfold g_X8_isWay; rw [s_within, Option.bind_some, bz_if]
theorem s_lt_le {v : Int32} {k : Nat} (hk : k + 1 < 2 ^ 31) : nI (k + 1) ≤ v ↔ ¬ v ≤ nI k := by
  rw [Int32.le_iff_toInt_le, Int32.le_iff_toInt_le, nI_toInt hk, nI_toInt (by omega)]
  omega
theorem s_cell8 (nf : Nat) (v : Int32) : g_X8_isCell nf v = some (if 0 ≤ v ∧ v ≤ 24 then 1 else 0) := by
  unfold g_X8_isCell
  by_cases h1 : v < 0
  · rw [if_pos h1, if_neg (fun h => absurd h1 (Int32.not_lt.mpr h.1))]; rfl
  · rw [if_neg h1]
    by_cases h2 : (25 : Int32) ≤ v
    · rw [if_pos h2, if_neg (fun h => absurd h.2 ((s_lt_le (k := 24) (by decide)).mp h2))]; rfl
    · rw [if_neg h2, if_pos ⟨Int32.not_lt.mp h1, Decidable.of_not_not (fun h => h2 ((s_lt_le (k := 24) (by decide)).mpr h))⟩]; rfl
theorem s_moth8 (nf : Nat) (v : Int32) : g_X8_isMoth nf v = some (if 0 ≤ v ∧ v ≤ 3 then 1 else 0) := by
  unfold g_X8_isMoth
  by_cases h1 : v < 0
  · rw [if_pos h1, if_neg (fun h => absurd h1 (Int32.not_lt.mpr h.1))]; rfl
  · rw [if_neg h1]
    by_cases h2 : (4 : Int32) ≤ v
    · rw [if_pos h2, if_neg (fun h => absurd h.2 ((s_lt_le (k := 3) (by decide)).mp h2))]; rfl
    · rw [if_neg h2, if_pos ⟨Int32.not_lt.mp h1, Decidable.of_not_not (fun h => h2 ((s_lt_le (k := 3) (by decide)).mpr h))⟩]; rfl
theorem s_cell9 (nf : Nat) (v : Int32) : g_X9_isCell nf v = some (if 0 ≤ v ∧ v ≤ 24 then 1 else 0) := by
  unfold g_X9_isCell; rw [s_in, Option.bind_some, bz_if]
theorem i10 : ((1 : Int32) = 0) = False := eq_false (by decide)
theorem i00 : ((0 : Int32) = 0) = True := eq_true rfl
section TF
variable {nf : Nat} {v a b : Int32}
theorem w_t (h : a ≤ v ∧ v ≤ b) : g_X8_within nf v a b = some 1 := by rw [s_within, if_pos h]
theorem w_f (h : ¬ (a ≤ v ∧ v ≤ b)) : g_X8_within nf v a b = some 0 := by rw [s_within, if_neg h]
theorem n_t (h : a ≤ v ∧ v ≤ b) : g_X9_in nf v a b = some 1 := by rw [s_in, if_pos h]
theorem n_f (h : ¬ (a ≤ v ∧ v ≤ b)) : g_X9_in nf v a b = some 0 := by rw [s_in, if_neg h]
theorem c8_t (h : 0 ≤ v ∧ v ≤ 24) : g_X8_isCell nf v = some 1 := by rw [s_cell8, if_pos h]
theorem c8_f (h : ¬ (0 ≤ v ∧ v ≤ 24)) : g_X8_isCell nf v = some 0 := by rw [s_cell8, if_neg h]
theorem c9_t (h : 0 ≤ v ∧ v ≤ 24) : g_X9_isCell nf v = some 1 := by rw [s_cell9, if_pos h]
theorem c9_f (h : ¬ (0 ≤ v ∧ v ≤ 24)) : g_X9_isCell nf v = some 0 := by rw [s_cell9, if_neg h]
theorem m8_t (h : 0 ≤ v ∧ v ≤ 3) : g_X8_isMoth nf v = some 1 := by rw [s_moth8, if_pos h]
theorem m8_f (h : ¬ (0 ≤ v ∧ v ≤ 3)) : g_X8_isMoth nf v = some 0 := by rw [s_moth8, if_neg h]
theorem h8_t (h : 1 ≤ v ∧ v ≤ 3) : g_X8_isThread nf v = some 1 := by rw [s_isThread, if_pos h]
theorem h8_f (h : ¬ (1 ≤ v ∧ v ≤ 3)) : g_X8_isThread nf v = some 0 := by rw [s_isThread, if_neg h]
theorem y8_t (h : 0 ≤ v ∧ v ≤ 3) : g_X8_isWay nf v = some 1 := by rw [s_isWay, if_pos h]
theorem y8_f (h : ¬ (0 ≤ v ∧ v ≤ 3)) : g_X8_isWay nf v = some 0 := by rw [s_isWay, if_neg h]
end TF
/-! ===== one place of the state changes ===== -/
theorem MB_up {book : Nat → Int32} {B : Nat → Nat} (h : MB book B) (j v : Nat) : MB (upd book j (nI v)) (upN B j v) := by
  intro i hi
  by_cases e : i = j
  · subst e; rw [upd_eq, upN_eq]
  · rw [upd_ne e, upN_ne e, h i hi]
section ONE
variable {l c t mc mh th : Nat → Int32} {n : Int32} {B : Nat → Nat} {j v : Nat}
theorem DB_land (h : DB l c t mc mh th n B) (hj : j < 25) : DB (upd l j (nI v)) c t mc mh th n (upN B j v) := by
  obtain ⟨h1, h2, h3, h4, h5, h6, h7⟩ := h
  refine ⟨fun x hx => ?_, fun x hx => ?_, fun x hx => ?_, fun x hx => ?_, fun x hx => ?_, fun x hx => ?_, ?_⟩
  · by_cases e : x = j
    · subst e; rw [upd_eq, upN_eq]
    · rw [upd_ne e, upN_ne e, h1 x hx]
  · rw [h2 x hx, upN_ne (by omega)]
  · rw [h3 x hx, upN_ne (by omega)]
  · rw [h4 x hx, upN_ne (by omega)]
  · rw [h5 x hx, upN_ne (by omega)]
  · rw [h6 x hx, upN_ne (by omega)]
  · rw [h7, upN_ne (by omega)]
theorem DB_camph (h : DB l c t mc mh th n B) (hj : j < 25) : DB l (upd c j (nI v)) t mc mh th n (upN B (25 + j) v) := by
  obtain ⟨h1, h2, h3, h4, h5, h6, h7⟩ := h
  refine ⟨fun x hx => ?_, fun x hx => ?_, fun x hx => ?_, fun x hx => ?_, fun x hx => ?_, fun x hx => ?_, ?_⟩
  · rw [h1 x hx, upN_ne (by omega)]
  · by_cases e : x = j
    · subst e; rw [upd_eq, upN_eq]
    · rw [upd_ne e, upN_ne (by omega), h2 x hx]
  · rw [h3 x hx, upN_ne (by omega)]
  · rw [h4 x hx, upN_ne (by omega)]
  · rw [h5 x hx, upN_ne (by omega)]
  · rw [h6 x hx, upN_ne (by omega)]
  · rw [h7, upN_ne (by omega)]
theorem DB_mc (h : DB l c t mc mh th n B) (hj : j < 4) : DB l c t (upd mc j (nI v)) mh th n (upN B (50 + j) v) := by
  obtain ⟨h1, h2, h3, h4, h5, h6, h7⟩ := h
  refine ⟨fun x hx => ?_, fun x hx => ?_, fun x hx => ?_, fun x hx => ?_, fun x hx => ?_, fun x hx => ?_, ?_⟩
  · rw [h1 x hx, upN_ne (by omega)]
  · rw [h2 x hx, upN_ne (by omega)]
  · rw [h3 x hx, upN_ne (by omega)]
  · by_cases e : x = j
    · subst e; rw [upd_eq, upN_eq]
    · rw [upd_ne e, upN_ne (by omega), h4 x hx]
  · rw [h5 x hx, upN_ne (by omega)]
  · rw [h6 x hx, upN_ne (by omega)]
  · rw [h7, upN_ne (by omega)]
theorem DB_mh (h : DB l c t mc mh th n B) (hj : j < 4) : DB l c t mc (upd mh j (nI v)) th n (upN B (54 + j) v) := by
  obtain ⟨h1, h2, h3, h4, h5, h6, h7⟩ := h
  refine ⟨fun x hx => ?_, fun x hx => ?_, fun x hx => ?_, fun x hx => ?_, fun x hx => ?_, fun x hx => ?_, ?_⟩
  · rw [h1 x hx, upN_ne (by omega)]
  · rw [h2 x hx, upN_ne (by omega)]
  · rw [h3 x hx, upN_ne (by omega)]
  · rw [h4 x hx, upN_ne (by omega)]
  · by_cases e : x = j
    · subst e; rw [upd_eq, upN_eq]
    · rw [upd_ne e, upN_ne (by omega), h5 x hx]
  · rw [h6 x hx, upN_ne (by omega)]
  · rw [h7, upN_ne (by omega)]
theorem DB_th (h : DB l c t mc mh th n B) (hj : j < 3) : DB l c t mc mh (upd th (1 + j) (nI v)) n (upN B (58 + j) v) := by
  obtain ⟨h1, h2, h3, h4, h5, h6, h7⟩ := h
  refine ⟨fun x hx => ?_, fun x hx => ?_, fun x hx => ?_, fun x hx => ?_, fun x hx => ?_, fun x hx => ?_, ?_⟩
  · rw [h1 x hx, upN_ne (by omega)]
  · rw [h2 x hx, upN_ne (by omega)]
  · rw [h3 x hx, upN_ne (by omega)]
  · rw [h4 x hx, upN_ne (by omega)]
  · rw [h5 x hx, upN_ne (by omega)]
  · by_cases e : x = j
    · subst e; rw [upd_eq, upN_eq]
    · rw [upd_ne (by omega), upN_ne (by omega), h6 x hx]
  · rw [h7, upN_ne (by omega)]
/-- a moth comes or goes: bit j of place 61 -/
theorem DB_there (h : DB l c t mc mh th n B) {w b : Nat} (hw : ∀ k, k < 4 → w / 2 ^ k % 2 = if k = j then b else B 61 / 2 ^ k % 2) : DB l c (upd t j (nI b)) mc mh th n (upN B 61 w) := by
  obtain ⟨h1, h2, h3, h4, h5, h6, h7⟩ := h
  refine ⟨fun x hx => ?_, fun x hx => ?_, fun x hx => ?_, fun x hx => ?_, fun x hx => ?_, fun x hx => ?_, ?_⟩
  · rw [h1 x hx, upN_ne (by omega)]
  · rw [h2 x hx, upN_ne (by omega)]
  · rw [upN_eq, hw x hx]
    by_cases e : x = j
    · subst e; rw [upd_eq, if_pos rfl]
    · rw [upd_ne e, if_neg e, h3 x hx]
  · rw [h4 x hx, upN_ne (by omega)]
  · rw [h5 x hx, upN_ne (by omega)]
  · rw [h6 x hx, upN_ne (by omega)]
  · rw [h7, upN_ne (by omega)]
theorem DB_night (h : DB l c t mc mh th n B) : DB l c t mc mh th (nI v) (upN B 62 v) := by
  obtain ⟨h1, h2, h3, h4, h5, h6, h7⟩ := h
  refine ⟨fun x hx => ?_, fun x hx => ?_, fun x hx => ?_, fun x hx => ?_, fun x hx => ?_, fun x hx => ?_, ?_⟩
  · rw [h1 x hx, upN_ne (by omega)]
  · rw [h2 x hx, upN_ne (by omega)]
  · rw [h3 x hx, upN_ne (by omega)]
  · rw [h4 x hx, upN_ne (by omega)]
  · rw [h5 x hx, upN_ne (by omega)]
  · rw [h6 x hx, upN_ne (by omega)]
  · rw [upN_eq]
theorem WF_up (h : WF B) (h1 : j < 25 → v ≤ 5) (h2 : 25 ≤ j → j < 50 → v ≤ 9) (h3 : 50 ≤ j → j < 54 → v < 25) (h4 : 54 ≤ j → j < 58 → v < 4) (h5 : 58 ≤ j → j < 61 → v ≤ 99) (h6 : j = 61 → v < 16) (h7 : j = 62 → v ≤ 99) : WF (upN B j v) := by
  obtain ⟨w1, w2, w3, w4, w5, w6, w7⟩ := h
  refine ⟨fun x hx => ?_, fun x hx => ?_, fun x hx => ?_, fun x hx => ?_, fun x hx => ?_, ?_, ?_⟩
  · unfold upN; split
    · exact h1 (by omega)
    · exact w1 x hx
  · unfold upN; split
    · exact h2 (by omega) (by omega)
    · exact w2 x hx
  · unfold upN; split
    · exact h3 (by omega) (by omega)
    · exact w3 x hx
  · unfold upN; split
    · exact h4 (by omega) (by omega)
    · exact w4 x hx
  · unfold upN; split
    · exact h5 (by omega) (by omega)
    · exact w5 x hx
  · unfold upN; split
    · exact h6 (by omega)
    · exact w6
  · unfold upN; split
    · exact h7 (by omega)
    · exact w7
end ONE
theorem st_land : St_land := by
  intro n_lands n_camphors n_there n_mothCells n_mothHeads n_threads n_sightNights n_sightCells n_sights n_night u_lands u_camphors u_there u_mothCells u_mothHeads u_threads u_sightNights u_sightCells u_sights u_night v_lands v_camphors v_there v_mothCells v_mothHeads v_threads v_sightNights v_sightCells v_sights v_night kept p_signs p_size t_next_ book sights sight signs pad image isKept p1 p2 hR
  obtain ⟨⟨B, S, SS, hW, hDB, hMB, hWS, hDS, hMS⟩, hRP, hI0, hI1, hRT⟩ := hR
  by_cases c1 : 0 ≤ p1 ∧ p1 ≤ 24
  · obtain ⟨j, hj, rfl⟩ := rngN (k := 24) (by decide) c1
    by_cases c2 : 0 ≤ p2 ∧ p2 ≤ 5
    · obtain ⟨v, hv, rfl⟩ := rngN (k := 5) (by decide) c2
      refine ⟨0, (n_lands j, upd n_lands j (nI v)), (book j, upd book j (nI v)), ?_, ?_, ?_, ⟨upN B j v, S, SS, WF_up hW (by omega) (by omega) (by omega) (by omega) (by omega) (by omega) (by omega), DB_land hDB (by omega), MB_up hMB j v, hWS, hDS, hMS⟩, hRP, hI0, hI1, hRT⟩
      · simp only [g_X8_land, c8_t c1, w_t c2, Option.bind_some, i10, if_false, ck_nI (show j < 25 by omega) (by decide), nI_clamp (show j < 2 ^ 31 by omega)]
      · simp only [g_X9_land, c9_t c1, n_t c2, Option.bind_some, i10, if_false, ck_nI (show j < 63 by omega) (by decide), nI_clamp (show j < 2 ^ 31 by omega)]
      · show n_lands j = book j
        rw [hDB.1 j (by omega), hMB j (by omega)]
    · refine ⟨0, (-2, n_lands), (-2, book), ?_, ?_, rfl, ⟨B, S, SS, hW, hDB, hMB, hWS, hDS, hMS⟩, hRP, hI0, hI1, hRT⟩
      · simp only [g_X8_land, c8_t c1, w_f c2, Option.bind_some, i10, i00, if_false, if_true]
      · simp only [g_X9_land, c9_t c1, n_f c2, Option.bind_some, i10, i00, if_false, if_true]
  · refine ⟨0, (-1, n_lands), (-1, book), ?_, ?_, rfl, ⟨B, S, SS, hW, hDB, hMB, hWS, hDS, hMS⟩, hRP, hI0, hI1, hRT⟩
    · simp only [g_X8_land, c8_f c1, Option.bind_some, i00, if_true]
    · simp only [g_X9_land, c9_f c1, Option.bind_some, i00, if_true]
theorem st_camphor : St_camphor := by
  intro n_lands n_camphors n_there n_mothCells n_mothHeads n_threads n_sightNights n_sightCells n_sights n_night u_lands u_camphors u_there u_mothCells u_mothHeads u_threads u_sightNights u_sightCells u_sights u_night v_lands v_camphors v_there v_mothCells v_mothHeads v_threads v_sightNights v_sightCells v_sights v_night kept p_signs p_size t_next_ book sights sight signs pad image isKept p1 p2 hR
  obtain ⟨⟨B, S, SS, hW, hDB, hMB, hWS, hDS, hMS⟩, hRP, hI0, hI1, hRT⟩ := hR
  by_cases c1 : 0 ≤ p1 ∧ p1 ≤ 24
  · obtain ⟨j, hj, rfl⟩ := rngN (k := 24) (by decide) c1
    by_cases c2 : 0 ≤ p2 ∧ p2 ≤ 9
    · obtain ⟨v, hv, rfl⟩ := rngN (k := 9) (by decide) c2
      refine ⟨0, (n_camphors j, upd n_camphors j (nI v)), (book (25 + j), upd book (25 + j) (nI v)), ?_, ?_, ?_, ⟨upN B (25 + j) v, S, SS, WF_up hW (by omega) (by omega) (by omega) (by omega) (by omega) (by omega) (by omega), DB_camph hDB (by omega), MB_up hMB _ v, hWS, hDS, hMS⟩, hRP, hI0, hI1, hRT⟩
      · simp only [g_X8_camphor, c8_t c1, w_t c2, Option.bind_some, i10, if_false, ck_nI (show j < 25 by omega) (by decide), nI_clamp (show j < 2 ^ 31 by omega)]
      · simp only [g_X9_camphor, c9_t c1, n_t c2, Option.bind_some, i10, if_false, show (25 : Int32) + nI j = nI (25 + j) from nI_add 25 j, ck_nI (show 25 + j < 63 by omega) (by decide), nI_clamp (show 25 + j < 2 ^ 31 by omega)]
      · show n_camphors j = book (25 + j)
        rw [hDB.2.1 j (by omega), hMB (25 + j) (by omega)]
    · refine ⟨0, (-2, n_camphors), (-2, book), ?_, ?_, rfl, ⟨B, S, SS, hW, hDB, hMB, hWS, hDS, hMS⟩, hRP, hI0, hI1, hRT⟩
      · simp only [g_X8_camphor, c8_t c1, w_f c2, Option.bind_some, i10, i00, if_false, if_true]
      · simp only [g_X9_camphor, c9_t c1, n_f c2, Option.bind_some, i10, i00, if_false, if_true]
  · refine ⟨0, (-1, n_camphors), (-1, book), ?_, ?_, rfl, ⟨B, S, SS, hW, hDB, hMB, hWS, hDS, hMS⟩, hRP, hI0, hI1, hRT⟩
    · simp only [g_X8_camphor, c8_f c1, Option.bind_some, i00, if_true]
    · simp only [g_X9_camphor, c9_f c1, Option.bind_some, i00, if_true]
theorem st_spool : St_spool := by
  intro n_lands n_camphors n_there n_mothCells n_mothHeads n_threads n_sightNights n_sightCells n_sights n_night u_lands u_camphors u_there u_mothCells u_mothHeads u_threads u_sightNights u_sightCells u_sights u_night v_lands v_camphors v_there v_mothCells v_mothHeads v_threads v_sightNights v_sightCells v_sights v_night kept p_signs p_size t_next_ book sights sight signs pad image isKept p1 p2 hR
  obtain ⟨⟨B, S, SS, hW, hDB, hMB, hWS, hDS, hMS⟩, hRP, hI0, hI1, hRT⟩ := hR
  by_cases c1 : 1 ≤ p1 ∧ p1 ≤ 3
  · obtain ⟨j0, hj0, hj, rfl⟩ := rngA (a := 1) (b := 3) (by decide) c1 (by decide)
    obtain ⟨j, rfl⟩ : ∃ j, j0 = 1 + j := ⟨j0 - 1, by omega⟩
    by_cases c2 : 0 ≤ p2 ∧ p2 ≤ 99
    · obtain ⟨v, hv, rfl⟩ := rngN (k := 99) (by decide) c2
      refine ⟨0, (n_threads (1 + j), upd n_threads (1 + j) (nI v)), (book (58 + j), upd book (58 + j) (nI v)), ?_, ?_, ?_, ⟨upN B (58 + j) v, S, SS, WF_up hW (by omega) (by omega) (by omega) (by omega) (by omega) (by omega) (by omega), DB_th hDB (by omega), MB_up hMB _ v, hWS, hDS, hMS⟩, hRP, hI0, hI1, hRT⟩
      · simp only [g_X8_spool, h8_t c1, w_t c2, Option.bind_some, i10, if_false, ck_nI (show 1 + j < 4 by omega) (by decide), nI_clamp (show 1 + j < 2 ^ 31 by omega)]
      · simp only [g_X9_spool, n_t c1, n_t c2, Option.bind_some, i10, if_false, show (57 : Int32) + nI (1 + j) = nI (58 + j) from by rw [show (57 : Int32) = nI 57 from rfl, nI_add]; congr 1; omega, ck_nI (show 58 + j < 63 by omega) (by decide), nI_clamp (show 58 + j < 2 ^ 31 by omega)]
      · show n_threads (1 + j) = book (58 + j)
        rw [hDB.2.2.2.2.2.1 j (by omega), hMB (58 + j) (by omega)]
    · refine ⟨0, (-2, n_threads), (-2, book), ?_, ?_, rfl, ⟨B, S, SS, hW, hDB, hMB, hWS, hDS, hMS⟩, hRP, hI0, hI1, hRT⟩
      · simp only [g_X8_spool, h8_t c1, w_f c2, Option.bind_some, i10, i00, if_false, if_true]
      · simp only [g_X9_spool, n_t c1, n_f c2, Option.bind_some, i10, i00, if_false, if_true]
  · refine ⟨0, (-1, n_threads), (-1, book), ?_, ?_, rfl, ⟨B, S, SS, hW, hDB, hMB, hWS, hDS, hMS⟩, hRP, hI0, hI1, hRT⟩
    · simp only [g_X8_spool, h8_f c1, Option.bind_some, i00, if_true]
    · simp only [g_X9_spool, n_f c1, Option.bind_some, i00, if_true]
theorem st_wipe : St_wipe := by
  intro n_lands n_camphors n_there n_mothCells n_mothHeads n_threads n_sightNights n_sightCells n_sights n_night u_lands u_camphors u_there u_mothCells u_mothHeads u_threads u_sightNights u_sightCells u_sights u_night v_lands v_camphors v_there v_mothCells v_mothHeads v_threads v_sightNights v_sightCells v_sights v_night kept p_signs p_size t_next_ book sights sight signs pad image isKept hR
  obtain ⟨⟨B, S, SS, hW, hDB, hMB, hWS, hDS, hMS⟩, hRP, hI0, hI1, hRT⟩ := hR
  obtain ⟨PS, PD, h1, h2, h3, h4⟩ := hRP
  exact ⟨0, (p_size, 0), (signs, 0), rfl, rfl, by rw [h2, h3], ⟨B, S, SS, hW, hDB, hMB, hWS, hDS, hMS⟩, ⟨0, PD, Nat.zero_le _, rfl, rfl, fun i hi => absurd hi (Nat.not_lt_zero i)⟩, hI0, hI1, hRT⟩
theorem st_forget : St_forget := by
  intro n_lands n_camphors n_there n_mothCells n_mothHeads n_threads n_sightNights n_sightCells n_sights n_night u_lands u_camphors u_there u_mothCells u_mothHeads u_threads u_sightNights u_sightCells u_sights u_night v_lands v_camphors v_there v_mothCells v_mothHeads v_threads v_sightNights v_sightCells v_sights v_night kept p_signs p_size t_next_ book sights sight signs pad image isKept hR
  obtain ⟨⟨B, S, SS, hW, hDB, hMB, hWS, hDS, hMS⟩, hRP, hI0, hI1, hRT⟩ := hR
  exact ⟨0, (n_sights, 0), (sights, 0), rfl, rfl, by rw [hDS.2.2, hMS.2], ⟨B, S, 0, hW, hDB, hMB, ⟨Nat.zero_le _, hWS.2⟩, ⟨hDS.1, hDS.2.1, rfl⟩, hMS.1, rfl⟩, hRP, hI0, hI1, hRT⟩
theorem st_say : St_say := by
  intro n_lands n_camphors n_there n_mothCells n_mothHeads n_threads n_sightNights n_sightCells n_sights n_night u_lands u_camphors u_there u_mothCells u_mothHeads u_threads u_sightNights u_sightCells u_sights u_night v_lands v_camphors v_there v_mothCells v_mothHeads v_threads v_sightNights v_sightCells v_sights v_night kept p_signs p_size t_next_ book sights sight signs pad image isKept p1 hR
  obtain ⟨⟨B, S, SS, hW, hDB, hMB, hWS, hDS, hMS⟩, hRP, hI0, hI1, hRT⟩ := hR
  by_cases c1 : 33 ≤ p1 ∧ p1 ≤ 126
  · obtain ⟨v, hv0, hv, rfl⟩ := rngA (a := 33) (b := 126) (by decide) c1 (by decide)
    obtain ⟨PS, PD, h1, h2, h3, h4⟩ := hRP
    by_cases c2 : PS = 60
    · refine ⟨0, (-4, p_signs, p_size), (-4, signs, pad), ?_, ?_, rfl, ⟨B, S, SS, hW, hDB, hMB, hWS, hDS, hMS⟩, ⟨PS, PD, h1, h2, h3, h4⟩, hI0, hI1, hRT⟩
      · rw [h2, c2]
        simp only [g_X8_say, w_t c1, Option.bind_some, i10, if_false, g_X5_append, show ¬ nI 60 < 60 from by decide, bz_in (Or.inl rfl), i00, if_true]
      · rw [h3, c2]
        simp only [g_X9_say, n_t c1, Option.bind_some, i10, if_false, show nI 60 = 60 from rfl, if_true]
    · have hlt : PS < 60 := by omega
      refine ⟨0, (nI (PS + 1), upd p_signs PS (nI v), nI (PS + 1)), (nI (PS + 1), nI (PS + 1), upd pad PS (nI v)), ?_, ?_, rfl, ⟨B, S, SS, hW, hDB, hMB, hWS, hDS, hMS⟩, ⟨PS + 1, upN PD PS v, by omega, rfl, rfl, fun i hi => ?_⟩, hI0, hI1, hRT⟩
      · rw [h2]
        simp only [g_X8_say, w_t c1, Option.bind_some, i10, if_false, g_X5_append, show nI PS < 60 from nI_lt hlt (by decide), if_true, ck_nI hlt (by decide), bz_in (Or.inr rfl), nI_clamp (show PS < 2 ^ 31 by omega), show nI PS + 1 = nI (PS + 1) from nI_1 PS]
      · rw [h3]
        simp only [g_X9_say, n_t c1, Option.bind_some, i10, if_false, show ¬ nI PS = 60 from fun e => c2 ((nI_eq (by omega) (by decide)).mp e), ck_nI hlt (by decide), nI_clamp (show PS < 2 ^ 31 by omega), show nI PS + 1 = nI (PS + 1) from nI_1 PS]
      · dsimp only
        by_cases e : i = PS
        · subst e; exact ⟨by rw [upd_eq, upN_eq], by rw [upd_eq, upN_eq], by rw [upN_eq]; exact hv0, by rw [upN_eq]; exact hv⟩
        · obtain ⟨a1, a2, a3, a4⟩ := h4 i (by omega)
          exact ⟨by rw [upd_ne e, upN_ne e, a1], by rw [upd_ne e, upN_ne e, a2], by rw [upN_ne e]; exact a3, by rw [upN_ne e]; exact a4⟩
  · refine ⟨0, (-2, p_signs, p_size), (-2, signs, pad), ?_, ?_, rfl, ⟨B, S, SS, hW, hDB, hMB, hWS, hDS, hMS⟩, hRP, hI0, hI1, hRT⟩
    · simp only [g_X8_say, w_f c1, Option.bind_some, i00, if_true]
    · simp only [g_X9_say, n_f c1, Option.bind_some, i00, if_true]
theorem st_seen : St_seen := by
  intro n_lands n_camphors n_there n_mothCells n_mothHeads n_threads n_sightNights n_sightCells n_sights n_night u_lands u_camphors u_there u_mothCells u_mothHeads u_threads u_sightNights u_sightCells u_sights u_night v_lands v_camphors v_there v_mothCells v_mothHeads v_threads v_sightNights v_sightCells v_sights v_night kept p_signs p_size t_next_ book sights sight signs pad image isKept p1 p2 hR
  obtain ⟨⟨B, S, SS, hW, hDB, hMB, hWS, hDS, hMS⟩, hRP, hI0, hI1, hRT⟩ := hR
  obtain ⟨ds1, ds2, ds3⟩ := hDS
  obtain ⟨ms1, ms2⟩ := hMS
  obtain ⟨ws1, ws2⟩ := hWS
  by_cases c1 : 0 ≤ p2 ∧ p2 ≤ 24
  · obtain ⟨cc, hcc, rfl⟩ := rngN (k := 24) (by decide) c1
    by_cases c2 : 0 ≤ p1 ∧ p1 ≤ 40
    · obtain ⟨v, hv, rfl⟩ := rngN (k := 40) (by decide) c2
      by_cases c3 : SS = 8
      · refine ⟨0, (-4, n_sightNights, n_sightCells, n_sights), (-4, sights, sight), ?_, ?_, rfl, ⟨B, S, SS, hW, hDB, hMB, ⟨ws1, ws2⟩, ⟨ds1, ds2, ds3⟩, ms1, ms2⟩, hRP, hI0, hI1, hRT⟩
        · rw [ds3, c3]
          simp only [g_X8_seen, c8_t c1, w_t c2, Option.bind_some, i10, if_false, g_X1_addSight, show ¬ nI 8 < 8 from by decide, bz_in (Or.inl rfl), i00, if_true]
        · rw [ms2, c3]
          simp only [g_X9_seen, c9_t c1, n_t c2, Option.bind_some, i10, if_false, show nI 8 = 8 from rfl, if_true]
      · have hlt : SS < 8 := by omega
        refine ⟨0, (nI (SS + 1), upd n_sightNights SS (nI v), upd n_sightCells SS (nI cc), nI (SS + 1)), (nI (SS + 1), nI (SS + 1), upd (upd sight (2 * SS) (nI v)) (2 * SS + 1) (nI cc)), ?_, ?_, rfl, ⟨B, upN (upN S (2 * SS) v) (2 * SS + 1) cc, SS + 1, hW, hDB, hMB, ⟨by omega, fun i hi => ?_⟩, ⟨fun i hi => ?_, fun i hi => ?_, rfl⟩, fun i hi => ?_, rfl⟩, hRP, hI0, hI1, hRT⟩
        · rw [ds3]
          simp only [g_X8_seen, c8_t c1, w_t c2, Option.bind_some, i10, if_false, g_X1_addSight, show nI SS < 8 from nI_lt hlt (by decide), if_true, ck_nI hlt (by decide), bz_in (Or.inr rfl), nI_clamp (show SS < 2 ^ 31 by omega), show nI SS + 1 = nI (SS + 1) from nI_1 SS]
        · rw [ms2]
          simp only [g_X9_seen, c9_t c1, n_t c2, Option.bind_some, i10, if_false, show ¬ nI SS = 8 from fun e => c3 ((nI_eq (by omega) (by decide)).mp e), show (2 : Int32) * nI SS = nI (2 * SS) from pk_mul 2 SS, show nI (2 * SS) + 1 = nI (2 * SS + 1) from nI_1 _, ck_nI (show 2 * SS < 16 by omega) (by decide), ck_nI (show 2 * SS + 1 < 16 by omega) (by decide), nI_clamp (show 2 * SS < 2 ^ 31 by omega), nI_clamp (show 2 * SS + 1 < 2 ^ 31 by omega), show nI SS + 1 = nI (SS + 1) from nI_1 SS]
        · try dsimp only
          by_cases e : i = SS
          · subst e; exact ⟨by rw [upN_ne (by omega), upN_eq]; exact hv, by rw [upN_eq]; omega⟩
          · exact ⟨by rw [upN_ne (by omega), upN_ne (by omega)]; exact (ws2 i hi).1, by rw [upN_ne (by omega), upN_ne (by omega)]; exact (ws2 i hi).2⟩
        · try dsimp only
          by_cases e : i = SS
          · subst e; rw [upd_eq, upN_ne (by omega), upN_eq]
          · rw [upd_ne e, upN_ne (by omega), upN_ne (by omega), ds1 i hi]
        · try dsimp only
          by_cases e : i = SS
          · subst e; rw [upd_eq, upN_eq]
          · rw [upd_ne e, upN_ne (by omega), upN_ne (by omega), ds2 i hi]
        · dsimp only
          by_cases e : i = 2 * SS + 1
          · subst e; rw [upd_eq, upN_eq]
          · rw [upd_ne e, upN_ne e]
            by_cases e2 : i = 2 * SS
            · subst e2; rw [upd_eq, upN_eq]
            · rw [upd_ne e2, upN_ne e2, ms1 i hi]
    · refine ⟨0, (-2, n_sightNights, n_sightCells, n_sights), (-2, sights, sight), ?_, ?_, rfl, ⟨B, S, SS, hW, hDB, hMB, ⟨ws1, ws2⟩, ⟨ds1, ds2, ds3⟩, ms1, ms2⟩, hRP, hI0, hI1, hRT⟩
      · simp only [g_X8_seen, c8_t c1, w_f c2, Option.bind_some, i10, i00, if_false, if_true]
      · simp only [g_X9_seen, c9_t c1, n_f c2, Option.bind_some, i10, i00, if_false, if_true]
  · refine ⟨0, (-1, n_sightNights, n_sightCells, n_sights), (-1, sights, sight), ?_, ?_, rfl, ⟨B, S, SS, hW, hDB, hMB, ⟨ws1, ws2⟩, ⟨ds1, ds2, ds3⟩, ms1, ms2⟩, hRP, hI0, hI1, hRT⟩
    · simp only [g_X8_seen, c8_f c1, Option.bind_some, i00, if_true]
    · simp only [g_X9_seen, c9_f c1, Option.bind_some, i00, if_true]
