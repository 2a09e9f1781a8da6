/-! ===== moth, told ===== -/
theorem or_bit : ∀ w, w < 16 → ∀ j, j < 4 → (w ||| 2 ^ j) < 16 ∧ ∀ k, k < 4 → (w ||| 2 ^ j) / 2 ^ k % 2 = if k = j then 1 else w / 2 ^ k % 2 := by decide +kernel
theorem cnt_16 : ∀ w, w < 16 → cnt (fun i => w.testBit i) 32 = cnt (fun k => decide (w / 2 ^ k % 2 = 1)) 4 := by decide +kernel
theorem mo_69 {nf w : Nat} {book : Nat → Int32} (h : book 61 = nI w) (hw : w < 16) : ∀ (m x n : Nat), x + m = 4 → m < n → g_X9_moth_l69 nf n (nI (cnt (fun k => decide (w / 2 ^ k % 2 = 1)) x)) (nI x) book = some (nI (cnt (fun k => decide (w / 2 ^ k % 2 = 1)) 4), book) := by
  intro m
  induction m with
  | zero =>
    intro x n hx hn
    obtain ⟨n, rfl⟩ := pred_ex hn
    obtain rfl : x = 4 := by omega
    rw [g_X9_moth_l69, if_pos (by decide)]
  | succ m ih =>
    intro x n hx hn
    obtain ⟨n, rfl⟩ := pred_ex hn
    have hi := ih (x + 1) n (by omega) (by omega)
    rw [g_X9_moth_l69, if_neg (show ¬ (4 : Int32) ≤ nI x from nI_ge (b := 4) (by omega) (by decide))]
    have e61 : (61 : Int32).toNatClampNeg = 61 := by decide
    have c61 : ∀ {e : Option (Int32 × (Nat → Int32))}, ck 61 63 e = e := fun {e} => ck_nI (j := 61) (by decide) (by decide)
    simp only [c61, e61, h, bitK (show w < 2 ^ 31 by omega) (show x < 32 by omega), nI_1, nI_add]
    rw [cnt] at hi
    rcases Nat.mod_two_eq_zero_or_one (w / 2 ^ x) with e | e
    · rw [e] at hi ⊢; exact hi
    · rw [e] at hi ⊢; exact hi
theorem st_moth : St_moth := by
  intro n_lands n_camphors n_there n_mothCells n_mothHeads n_threads n_sightNights n_sightCells n_sights n_night u_lands u_camphors u_there u_mothCells u_mothHeads u_threads u_sightNights u_sightCells u_sights u_night v_lands v_camphors v_there v_mothCells v_mothHeads v_threads v_sightNights v_sightCells v_sights v_night kept p_signs p_size t_next_ book sights sight signs pad image isKept p1 p2 p3 hR
  obtain ⟨⟨B, S, SS, hW, hDB, hMB, hWS, hDS, hMS⟩, hRP, hI0, hI1, hRT⟩ := hR
  by_cases c1 : 0 ≤ p1 ∧ p1 ≤ 3
  · obtain ⟨j, hj, rfl⟩ := rngN (k := 3) (by decide) c1
    by_cases c2 : 0 ≤ p2 ∧ p2 ≤ 24
    · obtain ⟨v, hv, rfl⟩ := rngN (k := 24) (by decide) c2
      by_cases c3 : 0 ≤ p3 ∧ p3 ≤ 3
      · obtain ⟨w, hw, rfl⟩ := rngN (k := 3) (by decide) c3
        have h61 := hW.2.2.2.2.2.1
        obtain ⟨o1, o2⟩ := or_bit (B 61) h61 j (by omega)
        have hD2 := DB_there (w := B 61 ||| 2 ^ j) (DB_mh (v := w) (DB_mc (v := v) hDB (show j < 4 by omega)) (show j < 4 by omega)) (j := j) (b := 1) (fun k hk => by rw [upN_ne (by omega), upN_ne (by omega)]; exact o2 k hk)
        have hW2 : WF (upN (upN (upN B (50 + j) v) (54 + j) w) 61 (B 61 ||| 2 ^ j)) := WF_up (WF_up (WF_up hW (by omega) (by omega) (by omega) (by omega) (by omega) (by omega) (by omega)) (by omega) (by omega) (by omega) (by omega) (by omega) (by omega) (by omega)) (by omega) (by omega) (by omega) (by omega) (by omega) (fun _ => o1) (by omega)
        have hM2 := MB_up (MB_up (MB_up hMB (50 + j) v) (54 + j) w) 61 (B 61 ||| 2 ^ j)
        have hm := DB_mothBits (nf := 100) hD2 hW2 (by omega)
        rw [upN_eq] at hm
        have h9 := mo_69 (nf := 100) (w := B 61 ||| 2 ^ j) (book := upd (upd (upd book (50 + j) (nI v)) (54 + j) (nI w)) 61 (nI (B 61 ||| 2 ^ j))) upd_eq o1 4 0 100 (by omega) (by omega)
        refine ⟨100, (nI (cnt (fun i => (B 61 ||| 2 ^ j).testBit i) 32), upd n_there j 1, upd n_mothCells j (nI v), upd n_mothHeads j (nI w)), (nI (cnt (fun k => decide ((B 61 ||| 2 ^ j) / 2 ^ k % 2 = 1)) 4), upd (upd (upd book (50 + j) (nI v)) (54 + j) (nI w)) 61 (nI (B 61 ||| 2 ^ j))), ?_, ?_, ?_, ⟨_, S, SS, hW2, hD2, hM2, hWS, hDS, hMS⟩, hRP, hI0, hI1, hRT⟩
        · have hm' : g_X1_mothBits 100 (upd n_there j 1) = some (nI (B 61 ||| 2 ^ j)) := hm
          simp only [g_X8_moth, m8_t c1, c8_t c2, y8_t c3, Option.bind_some, i10, if_false, ck_nI (show j < 4 by omega) (by decide), bz_in (Or.inr rfl), nI_clamp (show j < 2 ^ 31 by omega), hm', s_bitCount (show B 61 ||| 2 ^ j < 2 ^ 31 by omega)]
        · have e61 : (61 : Int32).toNatClampNeg = 61 := by decide
          have c61 : ∀ {e : Option (Int32 × (Nat → Int32))}, ck 61 63 e = e := fun {e} => ck_nI (j := 61) (by decide) (by decide)
          have hb : upd (upd book (50 + j) (nI v)) (54 + j) (nI w) 61 = nI (B 61) := by rw [upd_ne (by omega), upd_ne (by omega), hMB 61 (by omega)]
          simp only [g_X9_moth, n_t c1, c9_t c2, n_t c3, Option.bind_some, i10, if_false, show (50 : Int32) + nI j = nI (50 + j) from nI_add 50 j, show (54 : Int32) + nI j = nI (54 + j) from nI_add 54 j, ck_nI (show 50 + j < 63 by omega) (by decide), ck_nI (show 54 + j < 63 by omega) (by decide), nI_clamp (show 50 + j < 2 ^ 31 by omega), nI_clamp (show 54 + j < 2 ^ 31 by omega), c61, e61, hb, shl1 (show j < 31 by omega), or_I]
          exact h9
        · show nI _ = nI _
          rw [cnt_16 _ o1]
      · refine ⟨0, (-2, n_there, n_mothCells, n_mothHeads), (-2, book), ?_, ?_, rfl, ⟨B, S, SS, hW, hDB, hMB, hWS, hDS, hMS⟩, hRP, hI0, hI1, hRT⟩
        · simp only [g_X8_moth, m8_t c1, c8_t c2, y8_f c3, Option.bind_some, i10, i00, if_false, if_true]
        · simp only [g_X9_moth, n_t c1, c9_t c2, n_f c3, Option.bind_some, i10, i00, if_false, if_true]
    · refine ⟨0, (-1, n_there, n_mothCells, n_mothHeads), (-1, book), ?_, ?_, rfl, ⟨B, S, SS, hW, hDB, hMB, hWS, hDS, hMS⟩, hRP, hI0, hI1, hRT⟩
      · simp only [g_X8_moth, m8_t c1, c8_f c2, Option.bind_some, i10, i00, if_false, if_true]
      · simp only [g_X9_moth, n_t c1, c9_f c2, Option.bind_some, i10, i00, if_false, if_true]
  · refine ⟨0, (-1, n_there, n_mothCells, n_mothHeads), (-1, book), ?_, ?_, rfl, ⟨B, S, SS, hW, hDB, hMB, hWS, hDS, hMS⟩, hRP, hI0, hI1, hRT⟩
    · simp only [g_X8_moth, m8_f c1, Option.bind_some, i00, if_true]
    · simp only [g_X9_moth, n_f c1, Option.bind_some, i00, if_true]
