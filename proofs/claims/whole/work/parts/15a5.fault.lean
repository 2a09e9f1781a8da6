/-! ===== the grammar of the pad ===== -/
def stp (st sg : Nat) : Nat :=
  if st = 0 then (if 65 ≤ sg ∧ sg ≤ 68 then 1 else if sg = 43 then 2 else if sg = 37 then 3 else if sg = 46 then 0 else 5)
  else if st = 1 then (if sg = 110 ∨ sg = 101 ∨ sg = 115 ∨ sg = 119 ∨ sg = 33 then 0 else 5)
  else if st = 2 then (if 97 ≤ sg ∧ sg ≤ 121 then 0 else 5)
  else if st = 3 then (if 97 ≤ sg ∧ sg ≤ 121 then 4 else 5)
  else (if 49 ≤ sg ∧ sg ≤ 51 then 0 else 5)
theorem tb_due : ∀ st, st < 5 → ∀ sg, sg < 127 → g_X5_dueBehind 0 (nI (st + 1)) (nI sg) = some (if stp st sg < 5 then nI (stp st sg + 1) else 0) := by decide +kernel
theorem tb_step : ∀ st, st < 5 → ∀ sg, sg < 127 → g_X9_step 0 (nI st) (nI sg) = some (if stp st sg < 5 then nI (stp st sg) else -6) := by decide +kernel
theorem due_nf (nf : Nat) (a b : Int32) : g_X5_dueBehind nf a b = g_X5_dueBehind 0 a b := rfl
theorem step_nf (nf : Nat) (a b : Int32) : g_X9_step nf a b = g_X9_step 0 a b := rfl
/-- the fault among m signs from i on, in state st -/
def flt (PD : Nat → Nat) : Nat → Nat → Nat → Option Nat
  | 0, i, st => if st = 0 then none else some i
  | m + 1, i, st => if stp st (PD i) < 5 then flt PD m (i + 1) (stp st (PD i)) else some i
def fltI : Option Nat → Int32
  | none => -6
  | some k => nI k
theorem fw_4 {nf PS : Nat} {PD : Nat → Nat} {sg : Nat → Int32} (hP : PS ≤ 60) (h : ∀ i, i < PS → sg i = nI (PD i) ∧ 33 ≤ PD i ∧ PD i ≤ 126) : ∀ (m i n st : Nat), i + m = PS → m < n → st < 5 → g_X5_firstWrong_l4 nf n (nI (st + 1)) (nI i) sg (nI PS) = some (fltI (flt PD m i st)) := by
  intro m
  induction m with
  | zero =>
    intro i n st hi hn hs
    obtain ⟨n, rfl⟩ := pred_ex hn
    obtain rfl : i = PS := by omega
    rw [g_X5_firstWrong_l4, if_pos (nI_le (Nat.le_refl _) (by omega)), flt]
    by_cases c : st = 0
    · subst c; rw [if_pos (show nI (0 + 1) = 1 from rfl), if_pos rfl]; rfl
    · rw [if_neg (L_ne 1 (by omega) (by omega) (by decide)), if_neg c]; rfl
  | succ m ih =>
    intro i n st hi hn hs
    obtain ⟨n, rfl⟩ := pred_ex hn
    obtain ⟨h1, h2, h3⟩ := h i (by omega)
    have e1 : g_X5_signAt nf (nI i) sg (nI PS) = some (nI (PD i)) := by
      unfold g_X5_signAt
      rw [if_neg (nI_pos (by omega)), if_neg (nI_ge (by omega) (by omega)), ck_nI (by omega) (by decide), nI_clamp (by omega), h1]
    rw [g_X5_firstWrong_l4, if_neg (nI_ge (show i < PS by omega) (by omega)), e1, Option.bind_some, due_nf, tb_due st hs (PD i) (by omega), Option.bind_some, flt]
    by_cases c : stp st (PD i) < 5
    · rw [if_pos c, if_pos c, if_neg (L_ne 0 (by omega) (by omega) (by decide)), nI_1]
      exact ih (i + 1) n _ (by omega) (by omega) c
    · rw [if_neg c, if_neg c, if_pos rfl]; rfl
theorem fo_4 {nf PS : Nat} {PD : Nat → Nat} {pad : Nat → Int32} (hP : PS ≤ 60) (h : ∀ i, i < PS → pad i = nI (PD i) ∧ 33 ≤ PD i ∧ PD i ≤ 126) : ∀ (m i n st : Nat), i + m = PS → m < n → st < 5 → g_X9_faultOf_l4 nf n (nI st) (nI i) (nI PS) pad = some (fltI (flt PD m i st)) := by
  intro m
  induction m with
  | zero =>
    intro i n st hi hn hs
    obtain ⟨n, rfl⟩ := pred_ex hn
    obtain rfl : i = PS := by omega
    rw [g_X9_faultOf_l4, if_pos (nI_le (Nat.le_refl _) (by omega)), flt]
    by_cases c : st = 0
    · subst c; rw [if_pos (L_eq 0 rfl), if_pos rfl]; rfl
    · rw [if_neg (L_ne 0 c (by omega) (by decide)), if_neg c]; rfl
  | succ m ih =>
    intro i n st hi hn hs
    obtain ⟨n, rfl⟩ := pred_ex hn
    obtain ⟨h1, h2, h3⟩ := h i (by omega)
    rw [g_X9_faultOf_l4, if_neg (nI_ge (show i < PS by omega) (by omega)), ck_nI (by omega) (by decide), nI_clamp (by omega), h1, step_nf, tb_step st hs (PD i) (by omega), Option.bind_some, flt]
    by_cases c : stp st (PD i) < 5
    · rw [if_pos c, if_pos c, if_pos (nI_pos' (by omega)), nI_1]
      exact ih (i + 1) n _ (by omega) (by omega) c
    · rw [if_neg c, if_neg c, if_neg (by decide)]; rfl
theorem s_firstWrong {nf PS : Nat} {PD : Nat → Nat} {sg : Nat → Int32} (hP : PS ≤ 60) (h : ∀ i, i < PS → sg i = nI (PD i) ∧ 33 ≤ PD i ∧ PD i ≤ 126) (hn : 100 ≤ nf) : g_X5_firstWrong nf sg (nI PS) = some (fltI (flt PD PS 0 0)) := fw_4 hP h PS 0 nf 0 (by omega) (by omega) (by omega)
theorem s_faultOf {nf PS : Nat} {PD : Nat → Nat} {pad : Nat → Int32} (hP : PS ≤ 60) (h : ∀ i, i < PS → pad i = nI (PD i) ∧ 33 ≤ PD i ∧ PD i ≤ 126) (hn : 100 ≤ nf) : g_X9_faultOf nf (nI PS) pad = some (fltI (flt PD PS 0 0)) := fo_4 hP h PS 0 nf 0 (by omega) (by omega) (by omega)
theorem st_fault : St_fault := by
  intro n_lands n_camphors n_there n_mothCells n_mothHeads n_threads n_sightNights n_sightCells n_sights n_night u_lands u_camphors u_there u_mothCells u_mothHeads u_threads u_sightNights u_sightCells u_sights u_night v_lands v_camphors v_there v_mothCells v_mothHeads v_threads v_sightNights v_sightCells v_sights v_night kept p_signs p_size t_next_ book sights sight signs pad image isKept hR
  obtain ⟨⟨B, S, SS, hW, hDB, hMB, hWS, hDS, hMS⟩, hRP, hI0, hI1, hRT⟩ := hR
  obtain ⟨PS, PD, r1, r2, r3, r4⟩ := id hRP
  refine ⟨100, fltI (flt PD PS 0 0), fltI (flt PD PS 0 0), ?_, ?_, rfl, ⟨B, S, SS, hW, hDB, hMB, hWS, hDS, hMS⟩, hRP, hI0, hI1, hRT⟩
  · unfold g_X8_fault
    rw [r2, s_firstWrong r1 (fun i hi => ⟨(r4 i hi).1, (r4 i hi).2.2⟩) (by omega)]; rfl
  · unfold g_X9_fault
    rw [r3, s_faultOf r1 (fun i hi => ⟨(r4 i hi).2.1, (r4 i hi).2.2⟩) (by omega)]; rfl
