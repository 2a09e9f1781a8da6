/-- the first stand of codes from a code on -/
def sto (code : Nat) : Nat := 4 * (code / 10) + min (code % 10) 4
theorem tb_sto : ∀ code, code < 250 → if code % 10 < 4 then (sto code < 100 ∧ cd (sto code) = code ∧ sto (code + 1) = sto code + 1) else sto (code + 1) = sto code := by decide +kernel
section BEG
variable {nf : Nat} {S : Nat → Nat} {SS : Nat} {sight : Nat → Int32} {sg : Int32}
theorem be9_b (hW : WS S SS) (hM : MS sight sg S SS) (hnf : 300 ≤ nf) {i s0 : Nat} (hs : s0 < 100) (hp : ft S SS s0 = true) (hi : cnt (ft S SS) s0 = i) : ∀ (m code n : Nat), code + m = 250 → m < n → sto code ≤ s0 → g_X9_began_l4 nf n (nI i) (nI (cnt (ft S SS) (sto code))) (nI code) (nI SS) sight = some (nI (cd s0)) := by
  intro m
  induction m with
  | zero =>
    intro code n hx hn hc
    obtain rfl : code = 250 := by omega
    exact absurd hc (by have : sto 250 = 100 := by decide
                        omega)
  | succ m ih =>
    intro code n hx hn hc
    obtain ⟨n, rfl⟩ := pred_ex hn
    have hi' := cnt_le (ft S SS) s0
    have hle := cnt_mono (ft S SS) hc
    have tb := tb_sto code (by omega)
    rw [g_X9_began_l4, if_neg (L_nge 250 (by omega) (by decide))]
    unfold g_X9_began_b29
    rw [nI_1, nI_1]
    by_cases c4 : code % 10 < 4
    · rw [if_pos c4] at tb
      obtain ⟨t1, t2, t3⟩ := tb
      have hf := s_isFit (nf := nf) (s := sto code) t1 hW hM (by omega)
      rw [t2] at hf
      rw [hf, Option.bind_some]
      by_cases q : ft S SS (sto code) = true
      · rw [if_pos q, if_neg (by decide)]
        by_cases e : sto code = s0
        · rw [e, hi, if_pos rfl, ← e, t2]
        · have := cnt_lt (ft S SS) (show sto code < s0 by omega) q
          rw [if_neg (fun h => by have := (nI_eq (by omega) (by omega)).mp h; omega), show cnt (ft S SS) (sto code) + 1 = cnt (ft S SS) (sto (code + 1)) by rw [t3, cnt_s, if_pos q]]
          exact ih (code + 1) n (by omega) (by omega) (by omega)
      · rw [if_neg q, if_pos rfl, show cnt (ft S SS) (sto code) = cnt (ft S SS) (sto (code + 1)) by rw [t3, cnt_s, if_neg q]; rfl]
        refine ih (code + 1) n (by omega) (by omega) ?_
        have : sto code ≠ s0 := fun e => q (e ▸ hp)
        omega
    · rw [if_neg c4] at tb
      rw [s_isFit0 (by omega) (by omega) (by omega), Option.bind_some, if_pos rfl, ← tb]
      exact ih (code + 1) n (by omega) (by omega) (by omega)
theorem be9_a (hW : WS S SS) (hM : MS sight sg S SS) (hnf : 300 ≤ nf) {p : Int32} (hp : ∀ i, i < cnt (ft S SS) 100 → ¬ nI i = p) : ∀ (m code n : Nat), code + m = 250 → m < n → g_X9_began_l4 nf n p (nI (cnt (ft S SS) (sto code))) (nI code) (nI SS) sight = some (if p = -1 then nI (cnt (ft S SS) 100) else -6) := by
  intro m
  induction m with
  | zero =>
    intro code n hx hn
    obtain ⟨n, rfl⟩ := pred_ex hn
    obtain rfl : code = 250 := by omega
    rw [g_X9_began_l4, if_pos (by decide), show sto 250 = 100 by decide]
    split <;> rfl
  | succ m ih =>
    intro code n hx hn
    obtain ⟨n, rfl⟩ := pred_ex hn
    have tb := tb_sto code (by omega)
    rw [g_X9_began_l4, if_neg (L_nge 250 (by omega) (by decide))]
    unfold g_X9_began_b29
    rw [nI_1, nI_1]
    by_cases c4 : code % 10 < 4
    · rw [if_pos c4] at tb
      obtain ⟨t1, t2, t3⟩ := tb
      have hf := s_isFit (nf := nf) (s := sto code) t1 hW hM (by omega)
      rw [t2] at hf
      rw [hf, Option.bind_some]
      by_cases q : ft S SS (sto code) = true
      · rw [if_pos q, if_neg (by decide), if_neg (hp _ (cnt_lt (ft S SS) t1 q)), show cnt (ft S SS) (sto code) + 1 = cnt (ft S SS) (sto (code + 1)) by rw [t3, cnt_s, if_pos q]]
        exact ih (code + 1) n (by omega) (by omega)
      · rw [if_neg q, if_pos rfl, show cnt (ft S SS) (sto code) = cnt (ft S SS) (sto (code + 1)) by rw [t3, cnt_s, if_neg q]; rfl]
        exact ih (code + 1) n (by omega) (by omega)
    · rw [if_neg c4] at tb
      rw [s_isFit0 (by omega) (by omega) (by omega), Option.bind_some, if_pos rfl, ← tb]
      exact ih (code + 1) n (by omega) (by omega)
end BEG
theorem st_began : St_began := by
  intro n_lands n_camphors n_there n_mothCells n_mothHeads n_threads n_sightNights n_sightCells n_sights n_night u_lands u_camphors u_there u_mothCells u_mothHeads u_threads u_sightNights u_sightCells u_sights u_night v_lands v_camphors v_there v_mothCells v_mothHeads v_threads v_sightNights v_sightCells v_sights v_night kept p_signs p_size t_next_ book sights sight signs pad image isKept t_starts t_cellsSeen t_fitting p1 hR
  obtain ⟨⟨B, S, SS, hW, hDB, hMB, hWS, hDS, hMS⟩, hRP, hI0, hI1, hRT⟩ := hR
  obtain ⟨st', cs', h1, h2⟩ := s_gather (nf := 300) (cs := t_cellsSeen) (st := t_starts) (f := t_fitting) hWS hDS hRT (by omega)
  have hF := cnt_le (ft S SS) 100
  suffices h : ∃ v, g_X8_began 300 p1 n_sightNights n_sightCells n_sights t_next_ t_starts t_cellsSeen t_fitting = some (v, st', cs', nI (cnt (ft S SS) 100)) ∧ g_X9_began 300 p1 sights sight = some v by
    obtain ⟨v, h8, h9⟩ := h
    exact ⟨300, _, v, h8, h9, rfl, ⟨B, S, SS, hW, hDB, hMB, hWS, hDS, hMS⟩, hRP, hI0, hI1, hRT⟩
  unfold g_X8_began g_X9_began
  rw [h1, Option.bind_some, hMS.2]
  dsimp only
  by_cases c : p1 = -1
  · refine ⟨nI (cnt (ft S SS) 100), by rw [if_pos c], ?_⟩
    have := be9_a (nf := 300) hWS hMS (by omega) (p := p1) (fun i hi e => nI_m1 (k := i) (by omega) (by rw [e, c])) 250 0 300 (by omega) (by omega)
    rw [if_pos c] at this
    exact this
  · rw [if_neg c]
    by_cases c2 : ∃ i, i < cnt (ft S SS) 100 ∧ nI i = p1
    · obtain ⟨i, hi, rfl⟩ := c2
      obtain ⟨s, k1, k2, k3⟩ := cnt_ex (ft S SS) 100 i hi
      refine ⟨nI (cd s), ?_, be9_b (nf := 300) hWS hMS (by omega) k1 k2 k3 250 0 300 (by omega) (by omega) (Nat.zero_le _)⟩
      have e1 : nI (cnt (ft S SS) 100) - 1 = nI (cnt (ft S SS) 100 - 1) := pk_sub (b := 1) (by omega)
      rw [e1, w_t (show (0 : Int32) ≤ nI i ∧ nI i ≤ nI (cnt (ft S SS) 100 - 1) from in_nI (a := 0) (b := cnt (ft S SS) 100 - 1) (Nat.zero_le i) (by omega) (by omega)), Option.bind_some, if_neg (by decide)]
      unfold g_X7_toldStart g_X7_toldStart_b20
      rw [if_neg (nI_pos (by omega)), if_neg (L_nge 100 (by omega) (by decide)), ck_nI (by omega) (by decide), nI_clamp (by omega), ← k3, h2 s k1 k2, show nI s - nI s / 4 * 4 = nI (s % 4) from pk_rem (d := 4) (by omega) (by decide) (by decide), show nI s / 4 = nI (s / 4) from pk_div (d := 4) (by omega) (by decide) (by decide), show nI (s / 4) * 10 = nI (s / 4 * 10) from pk_mul _ 10, nI_add, Option.bind_some]
      unfold cd
      rw [Nat.mul_comm]
    · refine ⟨-6, ?_, ?_⟩
      · rw [w_f, Option.bind_some, if_pos rfl]
        intro h
        apply c2
        by_cases z : cnt (ft S SS) 100 = 0
        · rw [z] at h
          exact absurd (Int32.le_trans h.1 h.2) (by decide)
        · rw [show nI (cnt (ft S SS) 100) - 1 = nI (cnt (ft S SS) 100 - 1) from pk_sub (b := 1) (by omega)] at h
          obtain ⟨i, hi, rfl⟩ := rngN (by omega) h
          exact ⟨i, by omega, rfl⟩
      · have := be9_a (nf := 300) hWS hMS (by omega) (p := p1) (fun i hi e => c2 ⟨i, hi, e⟩) 250 0 300 (by omega) (by omega)
        rw [if_neg c] at this
        exact this
