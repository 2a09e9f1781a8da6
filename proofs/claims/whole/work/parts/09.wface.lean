theorem hd_X8_land : yX8_land.cls = RX8 ∧ yX8_land.cls ≠ "java/lang/invoke/MethodHandle" ∧ yX8_land.cls ≠ "java/lang/invoke/VarHandle" ∧ (parseMethodDescriptor yX8_land.desc).map (fun d => d.parameters.length) = some 2 := by decide +kernel
set_option maxHeartbeats 4000000 in
set_option maxRecDepth 100000 in
theorem c_X8_land (l : Launch) (D : va_G) (cyI cyJ cyZ cyO : ClassId) (a : Nat → Nat → Nat) (sz : Nat) (n_lands : Nat → Int32) (n_camphors : Nat → Int32) (n_there : Nat → Int32) (n_mothCells : Nat → Int32) (n_mothHeads : Nat → Int32) (n_threads : Nat → Int32) (n_sightNights : Nat → Int32) (n_sightCells : Nat → Int32) (n_sights : Int32) (n_night : Int32) (n_eaten : Int32) (p1 : Int32) (p2 : Int32) (nf : Nat) (q : Int32 × (Nat → Int32)) (hf : g_X8_land nf p1 p2 n_lands = some q) : Met l yX8_land (Cond.code yX8_land cX8_land 4 (some .int) :: tbG) ({ frames := 1, cells := 0, slots := 0, locals := 22 } : Room) (va_Pc [.ref (a 0 0), .int p1, .int p2] (pcB D (ty4 cyI cyJ cyZ cyO) sz (vw6 cyI cyJ cyZ cyO a n_lands n_camphors n_there n_mothCells n_mothHeads n_threads n_sightNights n_sightCells n_sights n_night n_eaten))) (qI D (vw6 cyI cyJ cyZ cyO a q.2 n_camphors n_there n_mothCells n_mothHeads n_threads n_sightNights n_sightCells n_sights n_night n_eaten) q.1 (va_A (vw6 cyI cyJ cyZ cyO a n_lands n_camphors n_there n_mothCells n_mothHeads n_threads n_sightNights n_sightCells n_sights n_night n_eaten) sz)) 0 0 (va_A (vw6 cyI cyJ cyZ cyO a n_lands n_camphors n_there n_mothCells n_mothHeads n_threads n_sightNights n_sightCells n_sights n_night n_eaten) sz) := by
  refine Met.ofW (cc := cX8_land) (maxL := 4) (ret := (some .int)) (by decide) rfl ?_
  intro p e s m args below meth c s₁ B hml hv
  obtain ⟨rfl, hsz, hP, hK, hD0, hN⟩ := hv
  have hx := B.exec
  have hb := B.bytes
  have hr := B.returns
  have hT : ∀ w ∈ tbG, w.before ([.ref (a 0 0), .int p1, .int p2] : List Value).toArray s = true := fun w h => atoms_spec (ws := (Cond.code yX8_land cX8_land 4 (some .int) :: tbG)) B.pre w (List.mem_cons_of_mem _ h)
  have hown : s.vm.findClass RX8 = some m.cls := findClass_of_methodNamed B.named
  have hlocks := B.notSynchronized
  subst hsz
  have hD := hD0.self (sz := s.heap.size)
  generalize hAe : va_A (vw6 cyI cyJ cyZ cyO a n_lands n_camphors n_there n_mothCells n_mothHeads n_threads n_sightNights n_sightCells n_sights n_night n_eaten) s.heap.size = A at hD ⊢
  have hA : ∀ q : Nat, s.heap.size ≤ q → A q := fun q h => by rw [← hAe]; exact Or.inr h
  have hS : va_S A s.heap s.heap [] := va_S.rf
  show W p l e ({ frames := 1, cells := 0, slots := 0, locals := 22 } : Room) s m ([.ref (a 0 0), .int p1, .int p2] : List Value).toArray below meth c s.heap [] 0 0 (MQ below (qI D (vw6 cyI cyJ cyZ cyO a q.2 n_camphors n_there n_mothCells n_mothHeads n_threads n_sightNights n_sightCells n_sights n_night n_eaten) q.1 A) ([.ref (a 0 0), .int p1, .int p2] : List Value).toArray s 0 0 A) _
  have main : ∀ (H : Heap) (locs : List Loc) (ls : Array Slot), va_P D vwCl (vw6 cyI cyJ cyZ cyO a n_lands n_camphors n_there n_mothCells n_mothHeads n_threads n_sightNights n_sightCells n_sights n_night n_eaten) H → va_D A (vw6 cyI cyJ cyZ cyO a n_lands n_camphors n_there n_mothCells n_mothHeads n_threads n_sightNights n_sightCells n_sights n_night n_eaten) → va_S A s.heap H locs → lv_has ls 4 [(0, .ref (a 0 0)), (1, .int p1), (2, .int p2)] → W p l e ({ frames := 1, cells := 0, slots := 0, locals := 22 } : Room) s m ([.ref (a 0 0), .int p1, .int p2] : List Value).toArray below meth c H locs 0 0 (MQ below (qI D (vw6 cyI cyJ cyZ cyO a q.2 n_camphors n_there n_mothCells n_mothHeads n_threads n_sightNights n_sightCells n_sights n_night n_eaten) q.1 A) ([.ref (a 0 0), .int p1, .int p2] : List Value).toArray s 0 0 A) (F0 m 0 ls []) := by
    intro H locs ls hP hD hS hl
    unfold g_X8_land at hf
    refine lv_iload_n hx hb dX8_land_0 rfl (lv_at hl 1 rfl) ?_
    obtain ⟨q1, hq1, hf⟩ := bd_some hf
    have hC : ([] : List Nat).map (fun i => (vw6 cyI cyJ cyZ cyO a n_lands n_camphors n_there n_mothCells n_mothHeads n_threads n_sightNights n_sightCells n_sights n_night n_eaten)[i]?) = ([] : va_W).map some := rfl
    refine cl_i (rn_S (As := [.int p1]) (rest := []) hx hb hml hown hT hK hN hP hD [] hC rfl (c_X8_isCell l D cyI cyJ cyZ cyO H.size p1 nf q1 hq1) wm_X8_76 wt_X8_isCell wz_X8 wc_X8_isCell hd_X8_isCell ⟨rfl, rfl⟩ ⟨Nat.le_of_ble_eq_true rfl, Nat.le_of_ble_eq_true rfl⟩ rfl hl.1 rfl (Nat.le_of_ble_eq_true rfl) dX8_land_1 ⟨Nat.zero_le _, Nat.zero_le _⟩) hP hD hS hA [] hC [(false, 0), (false, 1), (false, 2), (false, 3), (false, 4), (false, 5), (false, 6), (false, 7), (false, 8), (false, 9)] (ws' := vw6 cyI cyJ cyZ cyO a n_lands n_camphors n_there n_mothCells n_mothHeads n_threads n_sightNights n_sightCells n_sights n_night n_eaten) rfl rfl rfl (fun H locs hP hD hS => ?_)
    refine lv_if_ne (tgt := 9) hx hb dX8_land_4 (by decide) (fun cc => ?_) (fun cc => ?_)
    · replace hf := if_f cc hf
      refine lv_iload_n hx hb dX8_land_9 rfl (lv_at hl 2 rfl) ?_
      refine lv_iconst (v := 0) hx hb dX8_land_10 (by decide) ?_
      refine lv_iconst (v := 5) hx hb dX8_land_11 (by decide) ?_
      obtain ⟨q2, hq2, hf⟩ := bd_some hf
      have hC : ([] : List Nat).map (fun i => (vw6 cyI cyJ cyZ cyO a n_lands n_camphors n_there n_mothCells n_mothHeads n_threads n_sightNights n_sightCells n_sights n_night n_eaten)[i]?) = ([] : va_W).map some := rfl
      refine cl_i (rn_S (As := [.int p2, .int 0, .int 5]) (rest := []) hx hb hml hown hT hK hN hP hD [] hC rfl (c_X8_within l D cyI cyJ cyZ cyO H.size p2 0 5 nf q2 hq2) wm_X8_80 wt_X8_within wz_X8 wc_X8_within hd_X8_within ⟨rfl, rfl⟩ ⟨Nat.le_of_ble_eq_true rfl, Nat.le_of_ble_eq_true rfl⟩ rfl hl.1 rfl (Nat.le_of_ble_eq_true rfl) dX8_land_12 ⟨Nat.zero_le _, Nat.zero_le _⟩) hP hD hS hA [] hC [(false, 0), (false, 1), (false, 2), (false, 3), (false, 4), (false, 5), (false, 6), (false, 7), (false, 8), (false, 9)] (ws' := vw6 cyI cyJ cyZ cyO a n_lands n_camphors n_there n_mothCells n_mothHeads n_threads n_sightNights n_sightCells n_sights n_night n_eaten) rfl rfl rfl (fun H locs hP hD hS => ?_)
      refine lv_if_ne (tgt := 21) hx hb dX8_land_15 (by decide) (fun cc => ?_) (fun cc => ?_)
      · replace hf := if_f cc hf
        refine lv_aload_n hx hb dX8_land_21 rfl (lv_at hl 0 rfl) ?_
        refine va_get (ci := 8) (v := .ref ((a 1) 0)) (C := RX8) (T := TX8) (N := 11) hx hb hT hin_X8 hown hK hP 0 rfl rfl 0 (by decide) (hT _ wf_X8_10) (fun _ h9 => h9) rfl dX8_land_22 ?_
        refine va_get (ci := 1) (v := .ref ((a 1) 1)) (C := RX1) (T := TX1) (N := 11) hx hb hT hin_X1 hown hK hP 1 rfl rfl 0 (by decide) (hT _ wf_X8_84) (fun _ h9 => h9) rfl dX8_land_25 ?_
        refine lv_iload_n hx hb dX8_land_28 rfl (lv_at hl 1 rfl) ?_
        obtain ⟨hi, hf⟩ := ck_some hf
        refine va_iald hx hb hK hP 2 0 rfl rfl hi dX8_land_29 ?_
        refine lv_istore_n (lv' := [(3, .int (n_lands p1.toNatClampNeg)), (0, .ref (a 0 0)), (1, .int p1), (2, .int p2)]) hx hb dX8_land_30 rfl hl (by decide) rfl (fun ls hl => ?_)
        refine lv_aload_n hx hb dX8_land_31 rfl (lv_at hl 1 rfl) ?_
        refine va_get (ci := 8) (v := .ref ((a 1) 0)) (C := RX8) (T := TX8) (N := 11) hx hb hT hin_X8 hown hK hP 0 rfl rfl 0 (by decide) (hT _ wf_X8_10) (fun _ h9 => h9) rfl dX8_land_32 ?_
        refine va_get (ci := 1) (v := .ref ((a 1) 1)) (C := RX1) (T := TX1) (N := 11) hx hb hT hin_X1 hown hK hP 1 rfl rfl 0 (by decide) (hT _ wf_X8_84) (fun _ h9 => h9) rfl dX8_land_35 ?_
        refine lv_iload_n hx hb dX8_land_38 rfl (lv_at hl 2 rfl) ?_
        refine lv_iload_n hx hb dX8_land_39 rfl (lv_at hl 3 rfl) ?_
        obtain ⟨hi, hf⟩ := ck_some hf
        refine va_iast hx hb hK hP hD hS 2 0 rfl rfl hi dX8_land_40 (fun H locs hP hD hS => ?_)
        have hP : va_P D vwCl (vw6 cyI cyJ cyZ cyO a (upd n_lands p1.toNatClampNeg p2) n_camphors n_there n_mothCells n_mothHeads n_threads n_sightNights n_sightCells n_sights n_night n_eaten) H := hP
        have hD : va_D A (vw6 cyI cyJ cyZ cyO a (upd n_lands p1.toNatClampNeg p2) n_camphors n_there n_mothCells n_mothHeads n_threads n_sightNights n_sightCells n_sights n_night n_eaten) := hD
        refine lv_iload_n hx hb dX8_land_41 rfl (lv_at hl 0 rfl) ?_
        cases Option.some.inj hf
        exact W.iret hx hb hr (fun t ht hW => ⟨⟨_, (), rfl, rfl, by show va_P D vwCl _ t.heap; rw [ht]; exact hP⟩, hS.F ht⟩) hS.2.2 dX8_land_42
      · replace hf := if_t cc hf
        refine lv_bipush (v := (-2)) hx hb dX8_land_18 (by decide) ?_
        cases Option.some.inj hf
        exact W.iret hx hb hr (fun t ht hW => ⟨⟨_, (), rfl, rfl, by show va_P D vwCl _ t.heap; rw [ht]; exact hP⟩, hS.F ht⟩) hS.2.2 dX8_land_20
    · replace hf := if_t cc hf
      refine lv_iconst (v := (-1)) hx hb dX8_land_7 (by decide) ?_
      cases Option.some.inj hf
      exact W.iret hx hb hr (fun t ht hW => ⟨⟨_, (), rfl, rfl, by show va_P D vwCl _ t.heap; rw [ht]; exact hP⟩, hS.F ht⟩) hS.2.2 dX8_land_8
  have hl := lv_entry ([.ref (a 0 0), .int p1, .int p2]) (n := 4) (Nat.le_of_ble_eq_true rfl)
  rw [lg_entry_eq]
  exact main s.heap [] _ hP hD hS hl
theorem hd_X8_camphor : yX8_camphor.cls = RX8 ∧ yX8_camphor.cls ≠ "java/lang/invoke/MethodHandle" ∧ yX8_camphor.cls ≠ "java/lang/invoke/VarHandle" ∧ (parseMethodDescriptor yX8_camphor.desc).map (fun d => d.parameters.length) = some 2 := by decide +kernel
set_option maxHeartbeats 4000000 in
set_option maxRecDepth 100000 in
theorem c_X8_camphor (l : Launch) (D : va_G) (cyI cyJ cyZ cyO : ClassId) (a : Nat → Nat → Nat) (sz : Nat) (n_lands : Nat → Int32) (n_camphors : Nat → Int32) (n_there : Nat → Int32) (n_mothCells : Nat → Int32) (n_mothHeads : Nat → Int32) (n_threads : Nat → Int32) (n_sightNights : Nat → Int32) (n_sightCells : Nat → Int32) (n_sights : Int32) (n_night : Int32) (n_eaten : Int32) (p1 : Int32) (p2 : Int32) (nf : Nat) (q : Int32 × (Nat → Int32)) (hf : g_X8_camphor nf p1 p2 n_camphors = some q) : Met l yX8_camphor (Cond.code yX8_camphor cX8_camphor 4 (some .int) :: tbG) ({ frames := 1, cells := 0, slots := 0, locals := 22 } : Room) (va_Pc [.ref (a 0 0), .int p1, .int p2] (pcB D (ty4 cyI cyJ cyZ cyO) sz (vw6 cyI cyJ cyZ cyO a n_lands n_camphors n_there n_mothCells n_mothHeads n_threads n_sightNights n_sightCells n_sights n_night n_eaten))) (qI D (vw6 cyI cyJ cyZ cyO a n_lands q.2 n_there n_mothCells n_mothHeads n_threads n_sightNights n_sightCells n_sights n_night n_eaten) q.1 (va_A (vw6 cyI cyJ cyZ cyO a n_lands n_camphors n_there n_mothCells n_mothHeads n_threads n_sightNights n_sightCells n_sights n_night n_eaten) sz)) 0 0 (va_A (vw6 cyI cyJ cyZ cyO a n_lands n_camphors n_there n_mothCells n_mothHeads n_threads n_sightNights n_sightCells n_sights n_night n_eaten) sz) := by
  refine Met.ofW (cc := cX8_camphor) (maxL := 4) (ret := (some .int)) (by decide) rfl ?_
  intro p e s m args below meth c s₁ B hml hv
  obtain ⟨rfl, hsz, hP, hK, hD0, hN⟩ := hv
  have hx := B.exec
  have hb := B.bytes
  have hr := B.returns
  have hT : ∀ w ∈ tbG, w.before ([.ref (a 0 0), .int p1, .int p2] : List Value).toArray s = true := fun w h => atoms_spec (ws := (Cond.code yX8_camphor cX8_camphor 4 (some .int) :: tbG)) B.pre w (List.mem_cons_of_mem _ h)
  have hown : s.vm.findClass RX8 = some m.cls := findClass_of_methodNamed B.named
  have hlocks := B.notSynchronized
  subst hsz
  have hD := hD0.self (sz := s.heap.size)
  generalize hAe : va_A (vw6 cyI cyJ cyZ cyO a n_lands n_camphors n_there n_mothCells n_mothHeads n_threads n_sightNights n_sightCells n_sights n_night n_eaten) s.heap.size = A at hD ⊢
  have hA : ∀ q : Nat, s.heap.size ≤ q → A q := fun q h => by rw [← hAe]; exact Or.inr h
  have hS : va_S A s.heap s.heap [] := va_S.rf
  show W p l e ({ frames := 1, cells := 0, slots := 0, locals := 22 } : Room) s m ([.ref (a 0 0), .int p1, .int p2] : List Value).toArray below meth c s.heap [] 0 0 (MQ below (qI D (vw6 cyI cyJ cyZ cyO a n_lands q.2 n_there n_mothCells n_mothHeads n_threads n_sightNights n_sightCells n_sights n_night n_eaten) q.1 A) ([.ref (a 0 0), .int p1, .int p2] : List Value).toArray s 0 0 A) _
  have main : ∀ (H : Heap) (locs : List Loc) (ls : Array Slot), va_P D vwCl (vw6 cyI cyJ cyZ cyO a n_lands n_camphors n_there n_mothCells n_mothHeads n_threads n_sightNights n_sightCells n_sights n_night n_eaten) H → va_D A (vw6 cyI cyJ cyZ cyO a n_lands n_camphors n_there n_mothCells n_mothHeads n_threads n_sightNights n_sightCells n_sights n_night n_eaten) → va_S A s.heap H locs → lv_has ls 4 [(0, .ref (a 0 0)), (1, .int p1), (2, .int p2)] → W p l e ({ frames := 1, cells := 0, slots := 0, locals := 22 } : Room) s m ([.ref (a 0 0), .int p1, .int p2] : List Value).toArray below meth c H locs 0 0 (MQ below (qI D (vw6 cyI cyJ cyZ cyO a n_lands q.2 n_there n_mothCells n_mothHeads n_threads n_sightNights n_sightCells n_sights n_night n_eaten) q.1 A) ([.ref (a 0 0), .int p1, .int p2] : List Value).toArray s 0 0 A) (F0 m 0 ls []) := by
    intro H locs ls hP hD hS hl
    unfold g_X8_camphor at hf
    refine lv_iload_n hx hb dX8_camphor_0 rfl (lv_at hl 1 rfl) ?_
    obtain ⟨q1, hq1, hf⟩ := bd_some hf
    have hC : ([] : List Nat).map (fun i => (vw6 cyI cyJ cyZ cyO a n_lands n_camphors n_there n_mothCells n_mothHeads n_threads n_sightNights n_sightCells n_sights n_night n_eaten)[i]?) = ([] : va_W).map some := rfl
    refine cl_i (rn_S (As := [.int p1]) (rest := []) hx hb hml hown hT hK hN hP hD [] hC rfl (c_X8_isCell l D cyI cyJ cyZ cyO H.size p1 nf q1 hq1) wm_X8_76 wt_X8_isCell wz_X8 wc_X8_isCell hd_X8_isCell ⟨rfl, rfl⟩ ⟨Nat.le_of_ble_eq_true rfl, Nat.le_of_ble_eq_true rfl⟩ rfl hl.1 rfl (Nat.le_of_ble_eq_true rfl) dX8_camphor_1 ⟨Nat.zero_le _, Nat.zero_le _⟩) hP hD hS hA [] hC [(false, 0), (false, 1), (false, 2), (false, 3), (false, 4), (false, 5), (false, 6), (false, 7), (false, 8), (false, 9)] (ws' := vw6 cyI cyJ cyZ cyO a n_lands n_camphors n_there n_mothCells n_mothHeads n_threads n_sightNights n_sightCells n_sights n_night n_eaten) rfl rfl rfl (fun H locs hP hD hS => ?_)
    refine lv_if_ne (tgt := 9) hx hb dX8_camphor_4 (by decide) (fun cc => ?_) (fun cc => ?_)
    · replace hf := if_f cc hf
      refine lv_iload_n hx hb dX8_camphor_9 rfl (lv_at hl 2 rfl) ?_
      refine lv_iconst (v := 0) hx hb dX8_camphor_10 (by decide) ?_
      refine lv_bipush (v := 9) hx hb dX8_camphor_11 (by decide) ?_
      obtain ⟨q2, hq2, hf⟩ := bd_some hf
      have hC : ([] : List Nat).map (fun i => (vw6 cyI cyJ cyZ cyO a n_lands n_camphors n_there n_mothCells n_mothHeads n_threads n_sightNights n_sightCells n_sights n_night n_eaten)[i]?) = ([] : va_W).map some := rfl
      refine cl_i (rn_S (As := [.int p2, .int 0, .int 9]) (rest := []) hx hb hml hown hT hK hN hP hD [] hC rfl (c_X8_within l D cyI cyJ cyZ cyO H.size p2 0 9 nf q2 hq2) wm_X8_80 wt_X8_within wz_X8 wc_X8_within hd_X8_within ⟨rfl, rfl⟩ ⟨Nat.le_of_ble_eq_true rfl, Nat.le_of_ble_eq_true rfl⟩ rfl hl.1 rfl (Nat.le_of_ble_eq_true rfl) dX8_camphor_13 ⟨Nat.zero_le _, Nat.zero_le _⟩) hP hD hS hA [] hC [(false, 0), (false, 1), (false, 2), (false, 3), (false, 4), (false, 5), (false, 6), (false, 7), (false, 8), (false, 9)] (ws' := vw6 cyI cyJ cyZ cyO a n_lands n_camphors n_there n_mothCells n_mothHeads n_threads n_sightNights n_sightCells n_sights n_night n_eaten) rfl rfl rfl (fun H locs hP hD hS => ?_)
      refine lv_if_ne (tgt := 22) hx hb dX8_camphor_16 (by decide) (fun cc => ?_) (fun cc => ?_)
      · replace hf := if_f cc hf
        refine lv_aload_n hx hb dX8_camphor_22 rfl (lv_at hl 0 rfl) ?_
        refine va_get (ci := 8) (v := .ref ((a 1) 0)) (C := RX8) (T := TX8) (N := 11) hx hb hT hin_X8 hown hK hP 0 rfl rfl 0 (by decide) (hT _ wf_X8_10) (fun _ h9 => h9) rfl dX8_camphor_23 ?_
        refine va_get (ci := 1) (v := .ref ((a 1) 2)) (C := RX1) (T := TX1) (N := 11) hx hb hT hin_X1 hown hK hP 1 rfl rfl 1 (by decide) (hT _ wf_X8_88) (fun _ h9 => h9) rfl dX8_camphor_26 ?_
        refine lv_iload_n hx hb dX8_camphor_29 rfl (lv_at hl 1 rfl) ?_
        obtain ⟨hi, hf⟩ := ck_some hf
        refine va_iald hx hb hK hP 3 0 rfl rfl hi dX8_camphor_30 ?_
        refine lv_istore_n (lv' := [(3, .int (n_camphors p1.toNatClampNeg)), (0, .ref (a 0 0)), (1, .int p1), (2, .int p2)]) hx hb dX8_camphor_31 rfl hl (by decide) rfl (fun ls hl => ?_)
        refine lv_aload_n hx hb dX8_camphor_32 rfl (lv_at hl 1 rfl) ?_
        refine va_get (ci := 8) (v := .ref ((a 1) 0)) (C := RX8) (T := TX8) (N := 11) hx hb hT hin_X8 hown hK hP 0 rfl rfl 0 (by decide) (hT _ wf_X8_10) (fun _ h9 => h9) rfl dX8_camphor_33 ?_
        refine va_get (ci := 1) (v := .ref ((a 1) 2)) (C := RX1) (T := TX1) (N := 11) hx hb hT hin_X1 hown hK hP 1 rfl rfl 1 (by decide) (hT _ wf_X8_88) (fun _ h9 => h9) rfl dX8_camphor_36 ?_
        refine lv_iload_n hx hb dX8_camphor_39 rfl (lv_at hl 2 rfl) ?_
        refine lv_iload_n hx hb dX8_camphor_40 rfl (lv_at hl 3 rfl) ?_
        obtain ⟨hi, hf⟩ := ck_some hf
        refine va_iast hx hb hK hP hD hS 3 0 rfl rfl hi dX8_camphor_41 (fun H locs hP hD hS => ?_)
        have hP : va_P D vwCl (vw6 cyI cyJ cyZ cyO a n_lands (upd n_camphors p1.toNatClampNeg p2) n_there n_mothCells n_mothHeads n_threads n_sightNights n_sightCells n_sights n_night n_eaten) H := hP
        have hD : va_D A (vw6 cyI cyJ cyZ cyO a n_lands (upd n_camphors p1.toNatClampNeg p2) n_there n_mothCells n_mothHeads n_threads n_sightNights n_sightCells n_sights n_night n_eaten) := hD
        refine lv_iload_n hx hb dX8_camphor_42 rfl (lv_at hl 0 rfl) ?_
        cases Option.some.inj hf
        exact W.iret hx hb hr (fun t ht hW => ⟨⟨_, (), rfl, rfl, by show va_P D vwCl _ t.heap; rw [ht]; exact hP⟩, hS.F ht⟩) hS.2.2 dX8_camphor_43
      · replace hf := if_t cc hf
        refine lv_bipush (v := (-2)) hx hb dX8_camphor_19 (by decide) ?_
        cases Option.some.inj hf
        exact W.iret hx hb hr (fun t ht hW => ⟨⟨_, (), rfl, rfl, by show va_P D vwCl _ t.heap; rw [ht]; exact hP⟩, hS.F ht⟩) hS.2.2 dX8_camphor_21
    · replace hf := if_t cc hf
      refine lv_iconst (v := (-1)) hx hb dX8_camphor_7 (by decide) ?_
      cases Option.some.inj hf
      exact W.iret hx hb hr (fun t ht hW => ⟨⟨_, (), rfl, rfl, by show va_P D vwCl _ t.heap; rw [ht]; exact hP⟩, hS.F ht⟩) hS.2.2 dX8_camphor_8
  have hl := lv_entry ([.ref (a 0 0), .int p1, .int p2]) (n := 4) (Nat.le_of_ble_eq_true rfl)
  rw [lg_entry_eq]
  exact main s.heap [] _ hP hD hS hl
theorem hd_X8_moth : yX8_moth.cls = RX8 ∧ yX8_moth.cls ≠ "java/lang/invoke/MethodHandle" ∧ yX8_moth.cls ≠ "java/lang/invoke/VarHandle" ∧ (parseMethodDescriptor yX8_moth.desc).map (fun d => d.parameters.length) = some 3 := by decide +kernel
set_option maxHeartbeats 4000000 in
set_option maxRecDepth 100000 in
theorem c_X8_moth (l : Launch) (D : va_G) (cyI cyJ cyZ cyO : ClassId) (a : Nat → Nat → Nat) (sz : Nat) (n_lands : Nat → Int32) (n_camphors : Nat → Int32) (n_there : Nat → Int32) (n_mothCells : Nat → Int32) (n_mothHeads : Nat → Int32) (n_threads : Nat → Int32) (n_sightNights : Nat → Int32) (n_sightCells : Nat → Int32) (n_sights : Int32) (n_night : Int32) (n_eaten : Int32) (p1 : Int32) (p2 : Int32) (p3 : Int32) (nf : Nat) (q : Int32 × (Nat → Int32) × (Nat → Int32) × (Nat → Int32)) (hf : g_X8_moth nf p1 p2 p3 n_there n_mothCells n_mothHeads = some q) : Met l yX8_moth (Cond.code yX8_moth cX8_moth 4 (some .int) :: tbG) ({ frames := 2, cells := 0, slots := 0, locals := 42 } : Room) (va_Pc [.ref (a 0 0), .int p1, .int p2, .int p3] (pcB D (ty4 cyI cyJ cyZ cyO) sz (vw6 cyI cyJ cyZ cyO a n_lands n_camphors n_there n_mothCells n_mothHeads n_threads n_sightNights n_sightCells n_sights n_night n_eaten))) (qI D (vw6 cyI cyJ cyZ cyO a n_lands n_camphors q.2.1 q.2.2.1 q.2.2.2 n_threads n_sightNights n_sightCells n_sights n_night n_eaten) q.1 (va_A (vw6 cyI cyJ cyZ cyO a n_lands n_camphors n_there n_mothCells n_mothHeads n_threads n_sightNights n_sightCells n_sights n_night n_eaten) sz)) 0 0 (va_A (vw6 cyI cyJ cyZ cyO a n_lands n_camphors n_there n_mothCells n_mothHeads n_threads n_sightNights n_sightCells n_sights n_night n_eaten) sz) := by
  refine Met.ofW (cc := cX8_moth) (maxL := 4) (ret := (some .int)) (by decide) rfl ?_
  intro p e s m args below meth c s₁ B hml hv
  obtain ⟨rfl, hsz, hP, hK, hD0, hN⟩ := hv
  have hx := B.exec
  have hb := B.bytes
  have hr := B.returns
  have hT : ∀ w ∈ tbG, w.before ([.ref (a 0 0), .int p1, .int p2, .int p3] : List Value).toArray s = true := fun w h => atoms_spec (ws := (Cond.code yX8_moth cX8_moth 4 (some .int) :: tbG)) B.pre w (List.mem_cons_of_mem _ h)
  have hown : s.vm.findClass RX8 = some m.cls := findClass_of_methodNamed B.named
  have hlocks := B.notSynchronized
  subst hsz
  have hD := hD0.self (sz := s.heap.size)
  generalize hAe : va_A (vw6 cyI cyJ cyZ cyO a n_lands n_camphors n_there n_mothCells n_mothHeads n_threads n_sightNights n_sightCells n_sights n_night n_eaten) s.heap.size = A at hD ⊢
  have hA : ∀ q : Nat, s.heap.size ≤ q → A q := fun q h => by rw [← hAe]; exact Or.inr h
  have hS : va_S A s.heap s.heap [] := va_S.rf
  show W p l e ({ frames := 2, cells := 0, slots := 0, locals := 42 } : Room) s m ([.ref (a 0 0), .int p1, .int p2, .int p3] : List Value).toArray below meth c s.heap [] 0 0 (MQ below (qI D (vw6 cyI cyJ cyZ cyO a n_lands n_camphors q.2.1 q.2.2.1 q.2.2.2 n_threads n_sightNights n_sightCells n_sights n_night n_eaten) q.1 A) ([.ref (a 0 0), .int p1, .int p2, .int p3] : List Value).toArray s 0 0 A) _
  have main : ∀ (H : Heap) (locs : List Loc) (ls : Array Slot), va_P D vwCl (vw6 cyI cyJ cyZ cyO a n_lands n_camphors n_there n_mothCells n_mothHeads n_threads n_sightNights n_sightCells n_sights n_night n_eaten) H → va_D A (vw6 cyI cyJ cyZ cyO a n_lands n_camphors n_there n_mothCells n_mothHeads n_threads n_sightNights n_sightCells n_sights n_night n_eaten) → va_S A s.heap H locs → lv_has ls 4 [(0, .ref (a 0 0)), (1, .int p1), (2, .int p2), (3, .int p3)] → W p l e ({ frames := 2, cells := 0, slots := 0, locals := 42 } : Room) s m ([.ref (a 0 0), .int p1, .int p2, .int p3] : List Value).toArray below meth c H locs 0 0 (MQ below (qI D (vw6 cyI cyJ cyZ cyO a n_lands n_camphors q.2.1 q.2.2.1 q.2.2.2 n_threads n_sightNights n_sightCells n_sights n_night n_eaten) q.1 A) ([.ref (a 0 0), .int p1, .int p2, .int p3] : List Value).toArray s 0 0 A) (F0 m 0 ls []) := by
    intro H locs ls hP hD hS hl
    unfold g_X8_moth at hf
    refine lv_iload_n hx hb dX8_moth_0 rfl (lv_at hl 1 rfl) ?_
    obtain ⟨q1, hq1, hf⟩ := bd_some hf
    have hC : ([] : List Nat).map (fun i => (vw6 cyI cyJ cyZ cyO a n_lands n_camphors n_there n_mothCells n_mothHeads n_threads n_sightNights n_sightCells n_sights n_night n_eaten)[i]?) = ([] : va_W).map some := rfl
    refine cl_i (rn_S (As := [.int p1]) (rest := []) hx hb hml hown hT hK hN hP hD [] hC rfl (c_X8_isMoth l D cyI cyJ cyZ cyO H.size p1 nf q1 hq1) wm_X8_91 wt_X8_isMoth wz_X8 wc_X8_isMoth hd_X8_isMoth ⟨rfl, rfl⟩ ⟨Nat.le_of_ble_eq_true rfl, Nat.le_of_ble_eq_true rfl⟩ rfl hl.1 rfl (Nat.le_of_ble_eq_true rfl) dX8_moth_1 ⟨Nat.zero_le _, Nat.zero_le _⟩) hP hD hS hA [] hC [(false, 0), (false, 1), (false, 2), (false, 3), (false, 4), (false, 5), (false, 6), (false, 7), (false, 8), (false, 9)] (ws' := vw6 cyI cyJ cyZ cyO a n_lands n_camphors n_there n_mothCells n_mothHeads n_threads n_sightNights n_sightCells n_sights n_night n_eaten) rfl rfl rfl (fun H locs hP hD hS => ?_)
    refine lv_if_eq (tgt := 14) hx hb dX8_moth_4 (by decide) (fun cc => ?_) (fun cc => ?_)
    · replace hf := if_t cc hf
      refine lv_iconst (v := (-1)) hx hb dX8_moth_14 (by decide) ?_
      cases Option.some.inj hf
      exact W.iret hx hb hr (fun t ht hW => ⟨⟨_, (), rfl, rfl, by show va_P D vwCl _ t.heap; rw [ht]; exact hP⟩, hS.F ht⟩) hS.2.2 dX8_moth_15
    · replace hf := if_f cc hf
      refine lv_iload_n hx hb dX8_moth_7 rfl (lv_at hl 2 rfl) ?_
      obtain ⟨q2, hq2, hf⟩ := bd_some hf
      have hC : ([] : List Nat).map (fun i => (vw6 cyI cyJ cyZ cyO a n_lands n_camphors n_there n_mothCells n_mothHeads n_threads n_sightNights n_sightCells n_sights n_night n_eaten)[i]?) = ([] : va_W).map some := rfl
      refine cl_i (rn_S (As := [.int p2]) (rest := []) hx hb hml hown hT hK hN hP hD [] hC rfl (c_X8_isCell l D cyI cyJ cyZ cyO H.size p2 nf q2 hq2) wm_X8_76 wt_X8_isCell wz_X8 wc_X8_isCell hd_X8_isCell ⟨rfl, rfl⟩ ⟨Nat.le_of_ble_eq_true rfl, Nat.le_of_ble_eq_true rfl⟩ rfl hl.1 rfl (Nat.le_of_ble_eq_true rfl) dX8_moth_8 ⟨Nat.zero_le _, Nat.zero_le _⟩) hP hD hS hA [] hC [(false, 0), (false, 1), (false, 2), (false, 3), (false, 4), (false, 5), (false, 6), (false, 7), (false, 8), (false, 9)] (ws' := vw6 cyI cyJ cyZ cyO a n_lands n_camphors n_there n_mothCells n_mothHeads n_threads n_sightNights n_sightCells n_sights n_night n_eaten) rfl rfl rfl (fun H locs hP hD hS => ?_)
      refine lv_if_ne (tgt := 16) hx hb dX8_moth_11 (by decide) (fun cc => ?_) (fun cc => ?_)
      · replace hf := if_f cc hf
        refine lv_iload_n hx hb dX8_moth_16 rfl (lv_at hl 3 rfl) ?_
        obtain ⟨q3, hq3, hf⟩ := bd_some hf
        have hC : ([] : List Nat).map (fun i => (vw6 cyI cyJ cyZ cyO a n_lands n_camphors n_there n_mothCells n_mothHeads n_threads n_sightNights n_sightCells n_sights n_night n_eaten)[i]?) = ([] : va_W).map some := rfl
        refine cl_i (rn_S (As := [.int p3]) (rest := []) hx hb hml hown hT hK hN hP hD [] hC rfl (c_X8_isWay l D cyI cyJ cyZ cyO H.size p3 nf q3 hq3) wm_X8_94 wt_X8_isWay wz_X8 wc_X8_isWay hd_X8_isWay ⟨rfl, rfl⟩ ⟨Nat.le_of_ble_eq_true rfl, Nat.le_of_ble_eq_true rfl⟩ rfl hl.1 rfl (Nat.le_of_ble_eq_true rfl) dX8_moth_17 ⟨Nat.zero_le _, Nat.zero_le _⟩) hP hD hS hA [] hC [(false, 0), (false, 1), (false, 2), (false, 3), (false, 4), (false, 5), (false, 6), (false, 7), (false, 8), (false, 9)] (ws' := vw6 cyI cyJ cyZ cyO a n_lands n_camphors n_there n_mothCells n_mothHeads n_threads n_sightNights n_sightCells n_sights n_night n_eaten) rfl rfl rfl (fun H locs hP hD hS => ?_)
        refine lv_if_ne (tgt := 26) hx hb dX8_moth_20 (by decide) (fun cc => ?_) (fun cc => ?_)
        · replace hf := if_f cc hf
          refine lv_aload_n hx hb dX8_moth_26 rfl (lv_at hl 0 rfl) ?_
          refine va_get (ci := 8) (v := .ref ((a 1) 0)) (C := RX8) (T := TX8) (N := 11) hx hb hT hin_X8 hown hK hP 0 rfl rfl 0 (by decide) (hT _ wf_X8_10) (fun _ h9 => h9) rfl dX8_moth_27 ?_
          refine va_get (ci := 1) (v := .ref ((a 1) 3)) (C := RX1) (T := TX1) (N := 11) hx hb hT hin_X1 hown hK hP 1 rfl rfl 2 (by decide) (hT _ wf_X8_97) (fun _ h9 => h9) rfl dX8_moth_30 ?_
          refine lv_iload_n hx hb dX8_moth_33 rfl (lv_at hl 1 rfl) ?_
          refine lv_iconst (v := 1) hx hb dX8_moth_34 (by decide) ?_
          obtain ⟨hi, hf⟩ := ck_some hf
          obtain ⟨hz, hf⟩ := bz_some hf
          refine va_zast hx hb hK hP hD hS 4 2 rfl rfl hi dX8_moth_35 (fun H locs hP hD hS => ?_)
          rw [(bz_nar hz).1] at hP hD
          have hP : va_P D vwCl (vw6 cyI cyJ cyZ cyO a n_lands n_camphors (upd n_there p1.toNatClampNeg 1) n_mothCells n_mothHeads n_threads n_sightNights n_sightCells n_sights n_night n_eaten) H := hP
          have hD : va_D A (vw6 cyI cyJ cyZ cyO a n_lands n_camphors (upd n_there p1.toNatClampNeg 1) n_mothCells n_mothHeads n_threads n_sightNights n_sightCells n_sights n_night n_eaten) := hD
          refine lv_aload_n hx hb dX8_moth_36 rfl (lv_at hl 0 rfl) ?_
          refine va_get (ci := 8) (v := .ref ((a 1) 0)) (C := RX8) (T := TX8) (N := 11) hx hb hT hin_X8 hown hK hP 0 rfl rfl 0 (by decide) (hT _ wf_X8_10) (fun _ h9 => h9) rfl dX8_moth_37 ?_
          refine va_get (ci := 1) (v := .ref ((a 1) 4)) (C := RX1) (T := TX1) (N := 11) hx hb hT hin_X1 hown hK hP 1 rfl rfl 3 (by decide) (hT _ wf_X8_100) (fun _ h9 => h9) rfl dX8_moth_40 ?_
          refine lv_iload_n hx hb dX8_moth_43 rfl (lv_at hl 1 rfl) ?_
          refine lv_iload_n hx hb dX8_moth_44 rfl (lv_at hl 2 rfl) ?_
          obtain ⟨hi, hf⟩ := ck_some hf
          refine va_iast hx hb hK hP hD hS 5 0 rfl rfl hi dX8_moth_45 (fun H locs hP hD hS => ?_)
          have hP : va_P D vwCl (vw6 cyI cyJ cyZ cyO a n_lands n_camphors (upd n_there p1.toNatClampNeg 1) (upd n_mothCells p1.toNatClampNeg p2) n_mothHeads n_threads n_sightNights n_sightCells n_sights n_night n_eaten) H := hP
          have hD : va_D A (vw6 cyI cyJ cyZ cyO a n_lands n_camphors (upd n_there p1.toNatClampNeg 1) (upd n_mothCells p1.toNatClampNeg p2) n_mothHeads n_threads n_sightNights n_sightCells n_sights n_night n_eaten) := hD
          refine lv_aload_n hx hb dX8_moth_46 rfl (lv_at hl 0 rfl) ?_
          refine va_get (ci := 8) (v := .ref ((a 1) 0)) (C := RX8) (T := TX8) (N := 11) hx hb hT hin_X8 hown hK hP 0 rfl rfl 0 (by decide) (hT _ wf_X8_10) (fun _ h9 => h9) rfl dX8_moth_47 ?_
          refine va_get (ci := 1) (v := .ref ((a 1) 5)) (C := RX1) (T := TX1) (N := 11) hx hb hT hin_X1 hown hK hP 1 rfl rfl 4 (by decide) (hT _ wf_X8_103) (fun _ h9 => h9) rfl dX8_moth_50 ?_
          refine lv_iload_n hx hb dX8_moth_53 rfl (lv_at hl 1 rfl) ?_
          refine lv_iload_n hx hb dX8_moth_54 rfl (lv_at hl 3 rfl) ?_
          obtain ⟨hi, hf⟩ := ck_some hf
          refine va_iast hx hb hK hP hD hS 6 0 rfl rfl hi dX8_moth_55 (fun H locs hP hD hS => ?_)
          have hP : va_P D vwCl (vw6 cyI cyJ cyZ cyO a n_lands n_camphors (upd n_there p1.toNatClampNeg 1) (upd n_mothCells p1.toNatClampNeg p2) (upd n_mothHeads p1.toNatClampNeg p3) n_threads n_sightNights n_sightCells n_sights n_night n_eaten) H := hP
          have hD : va_D A (vw6 cyI cyJ cyZ cyO a n_lands n_camphors (upd n_there p1.toNatClampNeg 1) (upd n_mothCells p1.toNatClampNeg p2) (upd n_mothHeads p1.toNatClampNeg p3) n_threads n_sightNights n_sightCells n_sights n_night n_eaten) := hD
          refine lv_aload_n hx hb dX8_moth_56 rfl (lv_at hl 0 rfl) ?_
          refine va_get (ci := 8) (v := .ref ((a 1) 0)) (C := RX8) (T := TX8) (N := 11) hx hb hT hin_X8 hown hK hP 0 rfl rfl 0 (by decide) (hT _ wf_X8_10) (fun _ h9 => h9) rfl dX8_moth_57 ?_
          obtain ⟨q4, hq4, hf⟩ := bd_some hf
          have hC : [1, 2, 3, 4, 5, 6, 7, 8, 9].map (fun i => (vw6 cyI cyJ cyZ cyO a n_lands n_camphors (upd n_there p1.toNatClampNeg 1) (upd n_mothCells p1.toNatClampNeg p2) (upd n_mothHeads p1.toNatClampNeg p3) n_threads n_sightNights n_sightCells n_sights n_night n_eaten)[i]?) = (wX1 cyI cyJ cyZ cyO (a 1) n_lands n_camphors (upd n_there p1.toNatClampNeg 1) (upd n_mothCells p1.toNatClampNeg p2) (upd n_mothHeads p1.toNatClampNeg p3) n_threads n_sightNights n_sightCells n_sights n_night n_eaten).map some := rfl
          refine cl_i (rn_V (As := []) (rest := []) (C := RX1) hx hb hml hown hT hK hN hP hD [1, 2, 3, 4, 5, 6, 7, 8, 9] hC rfl (c_X1_mothBits l D cyI cyJ cyZ cyO (a 1) H.size n_lands n_camphors (upd n_there p1.toNatClampNeg 1) (upd n_mothCells p1.toNatClampNeg p2) (upd n_mothHeads p1.toNatClampNeg p3) n_threads n_sightNights n_sightCells n_sights n_night n_eaten nf q4 hq4) wm_X8_106 wi_X1_mothBits wl_X1_mothBits wz_X1 wc_X1_mothBits hd_X1_mothBits ⟨rfl, rfl⟩ ⟨Nat.le_of_ble_eq_true rfl, Nat.le_of_ble_eq_true rfl⟩ (q0 := 0) (ci := 1) rfl rfl rfl rfl hl.1 rfl (Nat.le_of_ble_eq_true rfl) dX8_moth_60 ⟨Nat.zero_le _, Nat.zero_le _⟩) hP hD hS hA [1, 2, 3, 4, 5, 6, 7, 8, 9] hC [(false, 0), (true, 0), (true, 1), (true, 2), (true, 3), (true, 4), (true, 5), (true, 6), (true, 7), (true, 8)] (ws' := vw6 cyI cyJ cyZ cyO a n_lands n_camphors (upd n_there p1.toNatClampNeg 1) (upd n_mothCells p1.toNatClampNeg p2) (upd n_mothHeads p1.toNatClampNeg p3) n_threads n_sightNights n_sightCells n_sights n_night n_eaten) rfl rfl rfl (fun H locs hP hD hS => ?_)
          obtain ⟨q5, hq5, hf⟩ := bd_some hf
          have hC : ([] : List Nat).map (fun i => (vw6 cyI cyJ cyZ cyO a n_lands n_camphors (upd n_there p1.toNatClampNeg 1) (upd n_mothCells p1.toNatClampNeg p2) (upd n_mothHeads p1.toNatClampNeg p3) n_threads n_sightNights n_sightCells n_sights n_night n_eaten)[i]?) = ([] : va_W).map some := rfl
          refine cl_i (rn_S (As := [.int q4]) (rest := []) hx hb hml hown hT hK hN hP hD [] hC rfl (c_J6_bitCount_0f7a4 l D cyI cyJ cyZ cyO H.size q4 nf q5 hq5) wm_X8_110 wt_J6_bitCount_0f7a4 wz_J6 wc_J6_bitCount_0f7a4 hd_J6_bitCount_0f7a4 ⟨rfl, rfl⟩ ⟨Nat.le_of_ble_eq_true rfl, Nat.le_of_ble_eq_true rfl⟩ rfl hl.1 rfl (Nat.le_of_ble_eq_true rfl) dX8_moth_63 ⟨Nat.zero_le _, Nat.zero_le _⟩) hP hD hS hA [] hC [(false, 0), (false, 1), (false, 2), (false, 3), (false, 4), (false, 5), (false, 6), (false, 7), (false, 8), (false, 9)] (ws' := vw6 cyI cyJ cyZ cyO a n_lands n_camphors (upd n_there p1.toNatClampNeg 1) (upd n_mothCells p1.toNatClampNeg p2) (upd n_mothHeads p1.toNatClampNeg p3) n_threads n_sightNights n_sightCells n_sights n_night n_eaten) rfl rfl rfl (fun H locs hP hD hS => ?_)
          cases Option.some.inj hf
          exact W.iret hx hb hr (fun t ht hW => ⟨⟨_, (), rfl, rfl, by show va_P D vwCl _ t.heap; rw [ht]; exact hP⟩, hS.F ht⟩) hS.2.2 dX8_moth_66
        · replace hf := if_t cc hf
          refine lv_bipush (v := (-2)) hx hb dX8_moth_23 (by decide) ?_
          cases Option.some.inj hf
          exact W.iret hx hb hr (fun t ht hW => ⟨⟨_, (), rfl, rfl, by show va_P D vwCl _ t.heap; rw [ht]; exact hP⟩, hS.F ht⟩) hS.2.2 dX8_moth_25
      · replace hf := if_t cc hf
        refine lv_iconst (v := (-1)) hx hb dX8_moth_14 (by decide) ?_
        cases Option.some.inj hf
        exact W.iret hx hb hr (fun t ht hW => ⟨⟨_, (), rfl, rfl, by show va_P D vwCl _ t.heap; rw [ht]; exact hP⟩, hS.F ht⟩) hS.2.2 dX8_moth_15
  have hl := lv_entry ([.ref (a 0 0), .int p1, .int p2, .int p3]) (n := 4) (Nat.le_of_ble_eq_true rfl)
  rw [lg_entry_eq]
  exact main s.heap [] _ hP hD hS hl
theorem hd_X8_spool : yX8_spool.cls = RX8 ∧ yX8_spool.cls ≠ "java/lang/invoke/MethodHandle" ∧ yX8_spool.cls ≠ "java/lang/invoke/VarHandle" ∧ (parseMethodDescriptor yX8_spool.desc).map (fun d => d.parameters.length) = some 2 := by decide +kernel
set_option maxHeartbeats 4000000 in
set_option maxRecDepth 100000 in
theorem c_X8_spool (l : Launch) (D : va_G) (cyI cyJ cyZ cyO : ClassId) (a : Nat → Nat → Nat) (sz : Nat) (n_lands : Nat → Int32) (n_camphors : Nat → Int32) (n_there : Nat → Int32) (n_mothCells : Nat → Int32) (n_mothHeads : Nat → Int32) (n_threads : Nat → Int32) (n_sightNights : Nat → Int32) (n_sightCells : Nat → Int32) (n_sights : Int32) (n_night : Int32) (n_eaten : Int32) (p1 : Int32) (p2 : Int32) (nf : Nat) (q : Int32 × (Nat → Int32)) (hf : g_X8_spool nf p1 p2 n_threads = some q) : Met l yX8_spool (Cond.code yX8_spool cX8_spool 4 (some .int) :: tbG) ({ frames := 2, cells := 0, slots := 0, locals := 42 } : Room) (va_Pc [.ref (a 0 0), .int p1, .int p2] (pcB D (ty4 cyI cyJ cyZ cyO) sz (vw6 cyI cyJ cyZ cyO a n_lands n_camphors n_there n_mothCells n_mothHeads n_threads n_sightNights n_sightCells n_sights n_night n_eaten))) (qI D (vw6 cyI cyJ cyZ cyO a n_lands n_camphors n_there n_mothCells n_mothHeads q.2 n_sightNights n_sightCells n_sights n_night n_eaten) q.1 (va_A (vw6 cyI cyJ cyZ cyO a n_lands n_camphors n_there n_mothCells n_mothHeads n_threads n_sightNights n_sightCells n_sights n_night n_eaten) sz)) 0 0 (va_A (vw6 cyI cyJ cyZ cyO a n_lands n_camphors n_there n_mothCells n_mothHeads n_threads n_sightNights n_sightCells n_sights n_night n_eaten) sz) := by
  refine Met.ofW (cc := cX8_spool) (maxL := 4) (ret := (some .int)) (by decide) rfl ?_
  intro p e s m args below meth c s₁ B hml hv
  obtain ⟨rfl, hsz, hP, hK, hD0, hN⟩ := hv
  have hx := B.exec
  have hb := B.bytes
  have hr := B.returns
  have hT : ∀ w ∈ tbG, w.before ([.ref (a 0 0), .int p1, .int p2] : List Value).toArray s = true := fun w h => atoms_spec (ws := (Cond.code yX8_spool cX8_spool 4 (some .int) :: tbG)) B.pre w (List.mem_cons_of_mem _ h)
  have hown : s.vm.findClass RX8 = some m.cls := findClass_of_methodNamed B.named
  have hlocks := B.notSynchronized
  subst hsz
  have hD := hD0.self (sz := s.heap.size)
  generalize hAe : va_A (vw6 cyI cyJ cyZ cyO a n_lands n_camphors n_there n_mothCells n_mothHeads n_threads n_sightNights n_sightCells n_sights n_night n_eaten) s.heap.size = A at hD ⊢
  have hA : ∀ q : Nat, s.heap.size ≤ q → A q := fun q h => by rw [← hAe]; exact Or.inr h
  have hS : va_S A s.heap s.heap [] := va_S.rf
  show W p l e ({ frames := 2, cells := 0, slots := 0, locals := 42 } : Room) s m ([.ref (a 0 0), .int p1, .int p2] : List Value).toArray below meth c s.heap [] 0 0 (MQ below (qI D (vw6 cyI cyJ cyZ cyO a n_lands n_camphors n_there n_mothCells n_mothHeads q.2 n_sightNights n_sightCells n_sights n_night n_eaten) q.1 A) ([.ref (a 0 0), .int p1, .int p2] : List Value).toArray s 0 0 A) _
  have main : ∀ (H : Heap) (locs : List Loc) (ls : Array Slot), va_P D vwCl (vw6 cyI cyJ cyZ cyO a n_lands n_camphors n_there n_mothCells n_mothHeads n_threads n_sightNights n_sightCells n_sights n_night n_eaten) H → va_D A (vw6 cyI cyJ cyZ cyO a n_lands n_camphors n_there n_mothCells n_mothHeads n_threads n_sightNights n_sightCells n_sights n_night n_eaten) → va_S A s.heap H locs → lv_has ls 4 [(0, .ref (a 0 0)), (1, .int p1), (2, .int p2)] → W p l e ({ frames := 2, cells := 0, slots := 0, locals := 42 } : Room) s m ([.ref (a 0 0), .int p1, .int p2] : List Value).toArray below meth c H locs 0 0 (MQ below (qI D (vw6 cyI cyJ cyZ cyO a n_lands n_camphors n_there n_mothCells n_mothHeads q.2 n_sightNights n_sightCells n_sights n_night n_eaten) q.1 A) ([.ref (a 0 0), .int p1, .int p2] : List Value).toArray s 0 0 A) (F0 m 0 ls []) := by
    intro H locs ls hP hD hS hl
    unfold g_X8_spool at hf
    refine lv_iload_n hx hb dX8_spool_0 rfl (lv_at hl 1 rfl) ?_
    obtain ⟨q1, hq1, hf⟩ := bd_some hf
    have hC : ([] : List Nat).map (fun i => (vw6 cyI cyJ cyZ cyO a n_lands n_camphors n_there n_mothCells n_mothHeads n_threads n_sightNights n_sightCells n_sights n_night n_eaten)[i]?) = ([] : va_W).map some := rfl
    refine cl_i (rn_S (As := [.int p1]) (rest := []) hx hb hml hown hT hK hN hP hD [] hC rfl (c_X8_isThread l D cyI cyJ cyZ cyO H.size p1 nf q1 hq1) wm_X8_116 wt_X8_isThread wz_X8 wc_X8_isThread hd_X8_isThread ⟨rfl, rfl⟩ ⟨Nat.le_of_ble_eq_true rfl, Nat.le_of_ble_eq_true rfl⟩ rfl hl.1 rfl (Nat.le_of_ble_eq_true rfl) dX8_spool_1 ⟨Nat.zero_le _, Nat.zero_le _⟩) hP hD hS hA [] hC [(false, 0), (false, 1), (false, 2), (false, 3), (false, 4), (false, 5), (false, 6), (false, 7), (false, 8), (false, 9)] (ws' := vw6 cyI cyJ cyZ cyO a n_lands n_camphors n_there n_mothCells n_mothHeads n_threads n_sightNights n_sightCells n_sights n_night n_eaten) rfl rfl rfl (fun H locs hP hD hS => ?_)
    refine lv_if_ne (tgt := 9) hx hb dX8_spool_4 (by decide) (fun cc => ?_) (fun cc => ?_)
    · replace hf := if_f cc hf
      refine lv_iload_n hx hb dX8_spool_9 rfl (lv_at hl 2 rfl) ?_
      refine lv_iconst (v := 0) hx hb dX8_spool_10 (by decide) ?_
      refine lv_bipush (v := 99) hx hb dX8_spool_11 (by decide) ?_
      obtain ⟨q2, hq2, hf⟩ := bd_some hf
      have hC : ([] : List Nat).map (fun i => (vw6 cyI cyJ cyZ cyO a n_lands n_camphors n_there n_mothCells n_mothHeads n_threads n_sightNights n_sightCells n_sights n_night n_eaten)[i]?) = ([] : va_W).map some := rfl
      refine cl_i (rn_S (As := [.int p2, .int 0, .int 99]) (rest := []) hx hb hml hown hT hK hN hP hD [] hC rfl (c_X8_within l D cyI cyJ cyZ cyO H.size p2 0 99 nf q2 hq2) wm_X8_80 wt_X8_within wz_X8 wc_X8_within hd_X8_within ⟨rfl, rfl⟩ ⟨Nat.le_of_ble_eq_true rfl, Nat.le_of_ble_eq_true rfl⟩ rfl hl.1 rfl (Nat.le_of_ble_eq_true rfl) dX8_spool_13 ⟨Nat.zero_le _, Nat.zero_le _⟩) hP hD hS hA [] hC [(false, 0), (false, 1), (false, 2), (false, 3), (false, 4), (false, 5), (false, 6), (false, 7), (false, 8), (false, 9)] (ws' := vw6 cyI cyJ cyZ cyO a n_lands n_camphors n_there n_mothCells n_mothHeads n_threads n_sightNights n_sightCells n_sights n_night n_eaten) rfl rfl rfl (fun H locs hP hD hS => ?_)
      refine lv_if_ne (tgt := 22) hx hb dX8_spool_16 (by decide) (fun cc => ?_) (fun cc => ?_)
      · replace hf := if_f cc hf
        refine lv_aload_n hx hb dX8_spool_22 rfl (lv_at hl 0 rfl) ?_
        refine va_get (ci := 8) (v := .ref ((a 1) 0)) (C := RX8) (T := TX8) (N := 11) hx hb hT hin_X8 hown hK hP 0 rfl rfl 0 (by decide) (hT _ wf_X8_10) (fun _ h9 => h9) rfl dX8_spool_23 ?_
        refine va_get (ci := 1) (v := .ref ((a 1) 6)) (C := RX1) (T := TX1) (N := 11) hx hb hT hin_X1 hown hK hP 1 rfl rfl 5 (by decide) (hT _ wf_X8_119) (fun _ h9 => h9) rfl dX8_spool_26 ?_
        refine lv_iload_n hx hb dX8_spool_29 rfl (lv_at hl 1 rfl) ?_
        obtain ⟨hi, hf⟩ := ck_some hf
        refine va_iald hx hb hK hP 7 0 rfl rfl hi dX8_spool_30 ?_
        refine lv_istore_n (lv' := [(3, .int (n_threads p1.toNatClampNeg)), (0, .ref (a 0 0)), (1, .int p1), (2, .int p2)]) hx hb dX8_spool_31 rfl hl (by decide) rfl (fun ls hl => ?_)
        refine lv_aload_n hx hb dX8_spool_32 rfl (lv_at hl 1 rfl) ?_
        refine va_get (ci := 8) (v := .ref ((a 1) 0)) (C := RX8) (T := TX8) (N := 11) hx hb hT hin_X8 hown hK hP 0 rfl rfl 0 (by decide) (hT _ wf_X8_10) (fun _ h9 => h9) rfl dX8_spool_33 ?_
        refine va_get (ci := 1) (v := .ref ((a 1) 6)) (C := RX1) (T := TX1) (N := 11) hx hb hT hin_X1 hown hK hP 1 rfl rfl 5 (by decide) (hT _ wf_X8_119) (fun _ h9 => h9) rfl dX8_spool_36 ?_
        refine lv_iload_n hx hb dX8_spool_39 rfl (lv_at hl 2 rfl) ?_
        refine lv_iload_n hx hb dX8_spool_40 rfl (lv_at hl 3 rfl) ?_
        obtain ⟨hi, hf⟩ := ck_some hf
        refine va_iast hx hb hK hP hD hS 7 0 rfl rfl hi dX8_spool_41 (fun H locs hP hD hS => ?_)
        have hP : va_P D vwCl (vw6 cyI cyJ cyZ cyO a n_lands n_camphors n_there n_mothCells n_mothHeads (upd n_threads p1.toNatClampNeg p2) n_sightNights n_sightCells n_sights n_night n_eaten) H := hP
        have hD : va_D A (vw6 cyI cyJ cyZ cyO a n_lands n_camphors n_there n_mothCells n_mothHeads (upd n_threads p1.toNatClampNeg p2) n_sightNights n_sightCells n_sights n_night n_eaten) := hD
        refine lv_iload_n hx hb dX8_spool_42 rfl (lv_at hl 0 rfl) ?_
        cases Option.some.inj hf
        exact W.iret hx hb hr (fun t ht hW => ⟨⟨_, (), rfl, rfl, by show va_P D vwCl _ t.heap; rw [ht]; exact hP⟩, hS.F ht⟩) hS.2.2 dX8_spool_43
      · replace hf := if_t cc hf
        refine lv_bipush (v := (-2)) hx hb dX8_spool_19 (by decide) ?_
        cases Option.some.inj hf
        exact W.iret hx hb hr (fun t ht hW => ⟨⟨_, (), rfl, rfl, by show va_P D vwCl _ t.heap; rw [ht]; exact hP⟩, hS.F ht⟩) hS.2.2 dX8_spool_21
    · replace hf := if_t cc hf
      refine lv_iconst (v := (-1)) hx hb dX8_spool_7 (by decide) ?_
      cases Option.some.inj hf
      exact W.iret hx hb hr (fun t ht hW => ⟨⟨_, (), rfl, rfl, by show va_P D vwCl _ t.heap; rw [ht]; exact hP⟩, hS.F ht⟩) hS.2.2 dX8_spool_8
  have hl := lv_entry ([.ref (a 0 0), .int p1, .int p2]) (n := 4) (Nat.le_of_ble_eq_true rfl)
  rw [lg_entry_eq]
  exact main s.heap [] _ hP hD hS hl
theorem hd_X8_say : yX8_say.cls = RX8 ∧ yX8_say.cls ≠ "java/lang/invoke/MethodHandle" ∧ yX8_say.cls ≠ "java/lang/invoke/VarHandle" ∧ (parseMethodDescriptor yX8_say.desc).map (fun d => d.parameters.length) = some 1 := by decide +kernel
set_option maxHeartbeats 4000000 in
set_option maxRecDepth 100000 in
theorem c_X8_say (l : Launch) (D : va_G) (cyI cyJ cyZ cyO : ClassId) (a : Nat → Nat → Nat) (sz : Nat) (p_signs : Nat → Int32) (p_size : Int32) (p1 : Int32) (nf : Nat) (q : Int32 × (Nat → Int32) × Int32) (hf : g_X8_say nf p1 p_signs p_size = some q) : Met l yX8_say (Cond.code yX8_say cX8_say 2 (some .int) :: tbG) ({ frames := 1, cells := 0, slots := 0, locals := 22 } : Room) (va_Pc [.ref (a 0 0), .int p1] (pcB D (ty4 cyI cyJ cyZ cyO) sz (vw7 cyI cyJ cyZ cyO a p_signs p_size))) (qI D (vw7 cyI cyJ cyZ cyO a q.2.1 q.2.2) q.1 (va_A (vw7 cyI cyJ cyZ cyO a p_signs p_size) sz)) 0 0 (va_A (vw7 cyI cyJ cyZ cyO a p_signs p_size) sz) := by
  refine Met.ofW (cc := cX8_say) (maxL := 2) (ret := (some .int)) (by decide) rfl ?_
  intro p e s m args below meth c s₁ B hml hv
  obtain ⟨rfl, hsz, hP, hK, hD0, hN⟩ := hv
  have hx := B.exec
  have hb := B.bytes
  have hr := B.returns
  have hT : ∀ w ∈ tbG, w.before ([.ref (a 0 0), .int p1] : List Value).toArray s = true := fun w h => atoms_spec (ws := (Cond.code yX8_say cX8_say 2 (some .int) :: tbG)) B.pre w (List.mem_cons_of_mem _ h)
  have hown : s.vm.findClass RX8 = some m.cls := findClass_of_methodNamed B.named
  have hlocks := B.notSynchronized
  subst hsz
  have hD := hD0.self (sz := s.heap.size)
  generalize hAe : va_A (vw7 cyI cyJ cyZ cyO a p_signs p_size) s.heap.size = A at hD ⊢
  have hA : ∀ q : Nat, s.heap.size ≤ q → A q := fun q h => by rw [← hAe]; exact Or.inr h
  have hS : va_S A s.heap s.heap [] := va_S.rf
  show W p l e ({ frames := 1, cells := 0, slots := 0, locals := 22 } : Room) s m ([.ref (a 0 0), .int p1] : List Value).toArray below meth c s.heap [] 0 0 (MQ below (qI D (vw7 cyI cyJ cyZ cyO a q.2.1 q.2.2) q.1 A) ([.ref (a 0 0), .int p1] : List Value).toArray s 0 0 A) _
  have main : ∀ (H : Heap) (locs : List Loc) (ls : Array Slot), va_P D vwCl (vw7 cyI cyJ cyZ cyO a p_signs p_size) H → va_D A (vw7 cyI cyJ cyZ cyO a p_signs p_size) → va_S A s.heap H locs → lv_has ls 2 [(0, .ref (a 0 0)), (1, .int p1)] → W p l e ({ frames := 1, cells := 0, slots := 0, locals := 22 } : Room) s m ([.ref (a 0 0), .int p1] : List Value).toArray below meth c H locs 0 0 (MQ below (qI D (vw7 cyI cyJ cyZ cyO a q.2.1 q.2.2) q.1 A) ([.ref (a 0 0), .int p1] : List Value).toArray s 0 0 A) (F0 m 0 ls []) := by
    intro H locs ls hP hD hS hl
    unfold g_X8_say at hf
    refine lv_iload_n hx hb dX8_say_0 rfl (lv_at hl 1 rfl) ?_
    refine lv_bipush (v := 33) hx hb dX8_say_1 (by decide) ?_
    refine lv_bipush (v := 126) hx hb dX8_say_3 (by decide) ?_
    obtain ⟨q1, hq1, hf⟩ := bd_some hf
    have hC : ([] : List Nat).map (fun i => (vw7 cyI cyJ cyZ cyO a p_signs p_size)[i]?) = ([] : va_W).map some := rfl
    refine cl_i (rn_S (As := [.int p1, .int 33, .int 126]) (rest := []) hx hb hml hown hT hK hN hP hD [] hC rfl (c_X8_within l D cyI cyJ cyZ cyO H.size p1 33 126 nf q1 hq1) wm_X8_80 wt_X8_within wz_X8 wc_X8_within hd_X8_within ⟨rfl, rfl⟩ ⟨Nat.le_of_ble_eq_true rfl, Nat.le_of_ble_eq_true rfl⟩ rfl hl.1 rfl (Nat.le_of_ble_eq_true rfl) dX8_say_5 ⟨Nat.zero_le _, Nat.zero_le _⟩) hP hD hS hA [] hC [(false, 0), (false, 1), (false, 2)] (ws' := vw7 cyI cyJ cyZ cyO a p_signs p_size) rfl rfl rfl (fun H locs hP hD hS => ?_)
    refine lv_if_ne (tgt := 14) hx hb dX8_say_8 (by decide) (fun cc => ?_) (fun cc => ?_)
    · replace hf := if_f cc hf
      refine lv_aload_n hx hb dX8_say_14 rfl (lv_at hl 0 rfl) ?_
      refine va_get (ci := 8) (v := .ref ((a 5) 0)) (C := RX8) (T := TX8) (N := 11) hx hb hT hin_X8 hown hK hP 0 rfl rfl 4 (by decide) (hT _ wf_X8_30) (fun _ h9 => h9) rfl dX8_say_15 ?_
      refine lv_iload_n hx hb dX8_say_18 rfl (lv_at hl 1 rfl) ?_
      obtain ⟨q2, hq2, hf⟩ := bd_some hf
      have hC : [1, 2].map (fun i => (vw7 cyI cyJ cyZ cyO a p_signs p_size)[i]?) = (wX5 cyI cyJ cyZ cyO (a 5) p_signs p_size).map some := rfl
      refine cl_i (rn_V (As := [.int p1]) (rest := []) (C := RX5) hx hb hml hown hT hK hN hP hD [1, 2] hC rfl (c_X5_append l D cyI cyJ cyZ cyO (a 5) H.size p_signs p_size p1 nf q2 hq2) wm_X8_122 wi_X5_append wl_X5_append wz_X5 wc_X5_append hd_X5_append ⟨rfl, rfl⟩ ⟨Nat.le_of_ble_eq_true rfl, Nat.le_of_ble_eq_true rfl⟩ (q0 := 0) (ci := 5) rfl rfl rfl rfl hl.1 rfl (Nat.le_of_ble_eq_true rfl) dX8_say_19 ⟨Nat.zero_le _, Nat.zero_le _⟩) hP hD hS hA [1, 2] hC [(false, 0), (true, 0), (true, 1)] (ws' := vw7 cyI cyJ cyZ cyO a q2.2.1 q2.2.2) rfl rfl rfl (fun H locs hP hD hS => ?_)
      refine lv_if_eq (tgt := 35) hx hb dX8_say_22 (by decide) (fun cc => ?_) (fun cc => ?_)
      · replace hf := if_t cc hf
        refine lv_bipush (v := (-4)) hx hb dX8_say_35 (by decide) ?_
        cases Option.some.inj hf
        exact W.iret hx hb hr (fun t ht hW => ⟨⟨_, (), rfl, rfl, by show va_P D vwCl _ t.heap; rw [ht]; exact hP⟩, hS.F ht⟩) hS.2.2 dX8_say_37
      · replace hf := if_f cc hf
        refine lv_aload_n hx hb dX8_say_25 rfl (lv_at hl 0 rfl) ?_
        refine va_get (ci := 8) (v := .ref ((a 5) 0)) (C := RX8) (T := TX8) (N := 11) hx hb hT hin_X8 hown hK hP 0 rfl rfl 4 (by decide) (hT _ wf_X8_30) (fun _ h9 => h9) rfl dX8_say_26 ?_
        refine va_get (ci := 5) (v := .int q2.2.2) (C := RX5) (T := TX5) (N := 2) hx hb hT hin_X5 hown hK hP 1 rfl rfl 1 (by decide) (hT _ wf_X8_125) (fun _ h9 => h9) rfl dX8_say_29 ?_
        refine lv_goto (tgt := 37) hx hb dX8_say_32 (by decide) ?_
        cases Option.some.inj hf
        exact W.iret hx hb hr (fun t ht hW => ⟨⟨_, (), rfl, rfl, by show va_P D vwCl _ t.heap; rw [ht]; exact hP⟩, hS.F ht⟩) hS.2.2 dX8_say_37
    · replace hf := if_t cc hf
      refine lv_bipush (v := (-2)) hx hb dX8_say_11 (by decide) ?_
      cases Option.some.inj hf
      exact W.iret hx hb hr (fun t ht hW => ⟨⟨_, (), rfl, rfl, by show va_P D vwCl _ t.heap; rw [ht]; exact hP⟩, hS.F ht⟩) hS.2.2 dX8_say_13
  have hl := lv_entry ([.ref (a 0 0), .int p1]) (n := 2) (Nat.le_of_ble_eq_true rfl)
  rw [lg_entry_eq]
  exact main s.heap [] _ hP hD hS hl
theorem hd_X8_wipe : yX8_wipe.cls = RX8 ∧ yX8_wipe.cls ≠ "java/lang/invoke/MethodHandle" ∧ yX8_wipe.cls ≠ "java/lang/invoke/VarHandle" ∧ (parseMethodDescriptor yX8_wipe.desc).map (fun d => d.parameters.length) = some 0 := by decide +kernel
set_option maxHeartbeats 4000000 in
set_option maxRecDepth 100000 in
theorem c_X8_wipe (l : Launch) (D : va_G) (cyI cyJ cyZ cyO : ClassId) (a : Nat → Nat → Nat) (sz : Nat) (p_signs : Nat → Int32) (p_size : Int32) (nf : Nat) (q : Int32 × Int32) (hf : g_X8_wipe nf p_size = some q) : Met l yX8_wipe (Cond.code yX8_wipe cX8_wipe 1 (some .int) :: tbG) ({ frames := 1, cells := 0, slots := 0, locals := 21 } : Room) (va_Pc [.ref (a 0 0)] (pcB D (ty4 cyI cyJ cyZ cyO) sz (vw7 cyI cyJ cyZ cyO a p_signs p_size))) (qI D (vw7 cyI cyJ cyZ cyO a p_signs q.2) q.1 (va_A (vw7 cyI cyJ cyZ cyO a p_signs p_size) sz)) 0 0 (va_A (vw7 cyI cyJ cyZ cyO a p_signs p_size) sz) := by
  refine Met.ofW (cc := cX8_wipe) (maxL := 1) (ret := (some .int)) (by decide) rfl ?_
  intro p e s m args below meth c s₁ B hml hv
  obtain ⟨rfl, hsz, hP, hK, hD0, hN⟩ := hv
  have hx := B.exec
  have hb := B.bytes
  have hr := B.returns
  have hT : ∀ w ∈ tbG, w.before ([.ref (a 0 0)] : List Value).toArray s = true := fun w h => atoms_spec (ws := (Cond.code yX8_wipe cX8_wipe 1 (some .int) :: tbG)) B.pre w (List.mem_cons_of_mem _ h)
  have hown : s.vm.findClass RX8 = some m.cls := findClass_of_methodNamed B.named
  have hlocks := B.notSynchronized
  subst hsz
  have hD := hD0.self (sz := s.heap.size)
  generalize hAe : va_A (vw7 cyI cyJ cyZ cyO a p_signs p_size) s.heap.size = A at hD ⊢
  have hA : ∀ q : Nat, s.heap.size ≤ q → A q := fun q h => by rw [← hAe]; exact Or.inr h
  have hS : va_S A s.heap s.heap [] := va_S.rf
  show W p l e ({ frames := 1, cells := 0, slots := 0, locals := 21 } : Room) s m ([.ref (a 0 0)] : List Value).toArray below meth c s.heap [] 0 0 (MQ below (qI D (vw7 cyI cyJ cyZ cyO a p_signs q.2) q.1 A) ([.ref (a 0 0)] : List Value).toArray s 0 0 A) _
  have main : ∀ (H : Heap) (locs : List Loc) (ls : Array Slot), va_P D vwCl (vw7 cyI cyJ cyZ cyO a p_signs p_size) H → va_D A (vw7 cyI cyJ cyZ cyO a p_signs p_size) → va_S A s.heap H locs → lv_has ls 1 [(0, .ref (a 0 0))] → W p l e ({ frames := 1, cells := 0, slots := 0, locals := 21 } : Room) s m ([.ref (a 0 0)] : List Value).toArray below meth c H locs 0 0 (MQ below (qI D (vw7 cyI cyJ cyZ cyO a p_signs q.2) q.1 A) ([.ref (a 0 0)] : List Value).toArray s 0 0 A) (F0 m 0 ls []) := by
    intro H locs ls hP hD hS hl
    unfold g_X8_wipe at hf
    refine lv_aload_n hx hb dX8_wipe_0 rfl (lv_at hl 0 rfl) ?_
    refine va_get (ci := 8) (v := .ref ((a 5) 0)) (C := RX8) (T := TX8) (N := 11) hx hb hT hin_X8 hown hK hP 0 rfl rfl 4 (by decide) (hT _ wf_X8_30) (fun _ h9 => h9) rfl dX8_wipe_1 ?_
    obtain ⟨q1, hq1, hf⟩ := bd_some hf
    have hC : [1, 2].map (fun i => (vw7 cyI cyJ cyZ cyO a p_signs p_size)[i]?) = (wX5 cyI cyJ cyZ cyO (a 5) p_signs p_size).map some := rfl
    refine cl_i (rn_V (As := []) (rest := []) (C := RX5) hx hb hml hown hT hK hN hP hD [1, 2] hC rfl (c_X5_clear l D cyI cyJ cyZ cyO (a 5) H.size p_signs p_size nf q1 hq1) wm_X8_129 wi_X5_clear wl_X5_clear wz_X5 wc_X5_clear hd_X5_clear ⟨rfl, rfl⟩ ⟨Nat.le_of_ble_eq_true rfl, Nat.le_of_ble_eq_true rfl⟩ (q0 := 0) (ci := 5) rfl rfl rfl rfl hl.1 rfl (Nat.le_of_ble_eq_true rfl) dX8_wipe_4 ⟨Nat.zero_le _, Nat.zero_le _⟩) hP hD hS hA [1, 2] hC [(false, 0), (true, 0), (true, 1)] (ws' := vw7 cyI cyJ cyZ cyO a p_signs q1.2) rfl rfl rfl (fun H locs hP hD hS => ?_)
    cases Option.some.inj hf
    exact W.iret hx hb hr (fun t ht hW => ⟨⟨_, (), rfl, rfl, by show va_P D vwCl _ t.heap; rw [ht]; exact hP⟩, hS.F ht⟩) hS.2.2 dX8_wipe_7
  have hl := lv_entry ([.ref (a 0 0)]) (n := 1) (Nat.le_of_ble_eq_true rfl)
  rw [lg_entry_eq]
  exact main s.heap [] _ hP hD hS hl
theorem hd_X8_fault : yX8_fault.cls = RX8 ∧ yX8_fault.cls ≠ "java/lang/invoke/MethodHandle" ∧ yX8_fault.cls ≠ "java/lang/invoke/VarHandle" ∧ (parseMethodDescriptor yX8_fault.desc).map (fun d => d.parameters.length) = some 0 := by decide +kernel
set_option maxHeartbeats 4000000 in
set_option maxRecDepth 100000 in
theorem c_X8_fault (l : Launch) (D : va_G) (cyI cyJ cyZ cyO : ClassId) (a : Nat → Nat → Nat) (sz : Nat) (p_signs : Nat → Int32) (p_size : Int32) (nf : Nat) (q : Int32) (hf : g_X8_fault nf p_signs p_size = some q) : Met l yX8_fault (Cond.code yX8_fault cX8_fault 1 (some .int) :: tbG) ({ frames := 4, cells := 0, slots := 0, locals := 85 } : Room) (va_Pc [.ref (a 0 0)] (pcB D (ty4 cyI cyJ cyZ cyO) sz (vw7 cyI cyJ cyZ cyO a p_signs p_size))) (qI D (vw7 cyI cyJ cyZ cyO a p_signs p_size) q (va_A (vw7 cyI cyJ cyZ cyO a p_signs p_size) sz)) 0 0 (va_A (vw7 cyI cyJ cyZ cyO a p_signs p_size) sz) := by
  refine Met.ofW (cc := cX8_fault) (maxL := 1) (ret := (some .int)) (by decide) rfl ?_
  intro p e s m args below meth c s₁ B hml hv
  obtain ⟨rfl, hsz, hP, hK, hD0, hN⟩ := hv
  have hx := B.exec
  have hb := B.bytes
  have hr := B.returns
  have hT : ∀ w ∈ tbG, w.before ([.ref (a 0 0)] : List Value).toArray s = true := fun w h => atoms_spec (ws := (Cond.code yX8_fault cX8_fault 1 (some .int) :: tbG)) B.pre w (List.mem_cons_of_mem _ h)
  have hown : s.vm.findClass RX8 = some m.cls := findClass_of_methodNamed B.named
  have hlocks := B.notSynchronized
  subst hsz
  have hD := hD0.self (sz := s.heap.size)
  generalize hAe : va_A (vw7 cyI cyJ cyZ cyO a p_signs p_size) s.heap.size = A at hD ⊢
  have hA : ∀ q : Nat, s.heap.size ≤ q → A q := fun q h => by rw [← hAe]; exact Or.inr h
  have hS : va_S A s.heap s.heap [] := va_S.rf
  show W p l e ({ frames := 4, cells := 0, slots := 0, locals := 85 } : Room) s m ([.ref (a 0 0)] : List Value).toArray below meth c s.heap [] 0 0 (MQ below (qI D (vw7 cyI cyJ cyZ cyO a p_signs p_size) q A) ([.ref (a 0 0)] : List Value).toArray s 0 0 A) _
  have main : ∀ (H : Heap) (locs : List Loc) (ls : Array Slot), va_P D vwCl (vw7 cyI cyJ cyZ cyO a p_signs p_size) H → va_D A (vw7 cyI cyJ cyZ cyO a p_signs p_size) → va_S A s.heap H locs → lv_has ls 1 [(0, .ref (a 0 0))] → W p l e ({ frames := 4, cells := 0, slots := 0, locals := 85 } : Room) s m ([.ref (a 0 0)] : List Value).toArray below meth c H locs 0 0 (MQ below (qI D (vw7 cyI cyJ cyZ cyO a p_signs p_size) q A) ([.ref (a 0 0)] : List Value).toArray s 0 0 A) (F0 m 0 ls []) := by
    intro H locs ls hP hD hS hl
    unfold g_X8_fault at hf
    refine lv_aload_n hx hb dX8_fault_0 rfl (lv_at hl 0 rfl) ?_
    refine va_get (ci := 8) (v := .ref ((a 5) 0)) (C := RX8) (T := TX8) (N := 11) hx hb hT hin_X8 hown hK hP 0 rfl rfl 4 (by decide) (hT _ wf_X8_30) (fun _ h9 => h9) rfl dX8_fault_1 ?_
    obtain ⟨q1, hq1, hf⟩ := bd_some hf
    have hC : [1, 2].map (fun i => (vw7 cyI cyJ cyZ cyO a p_signs p_size)[i]?) = (wX5 cyI cyJ cyZ cyO (a 5) p_signs p_size).map some := rfl
    refine cl_i (rn_V (As := []) (rest := []) (C := RX5) hx hb hml hown hT hK hN hP hD [1, 2] hC rfl (c_X5_firstWrong l D cyI cyJ cyZ cyO (a 5) H.size p_signs p_size nf q1 hq1) wm_X8_132 wi_X5_firstWrong wl_X5_firstWrong wz_X5 wc_X5_firstWrong hd_X5_firstWrong ⟨rfl, rfl⟩ ⟨Nat.le_of_ble_eq_true rfl, Nat.le_of_ble_eq_true rfl⟩ (q0 := 0) (ci := 5) rfl rfl rfl rfl hl.1 rfl (Nat.le_of_ble_eq_true rfl) dX8_fault_4 ⟨Nat.zero_le _, Nat.zero_le _⟩) hP hD hS hA [1, 2] hC [(false, 0), (true, 0), (true, 1)] (ws' := vw7 cyI cyJ cyZ cyO a p_signs p_size) rfl rfl rfl (fun H locs hP hD hS => ?_)
    cases Option.some.inj hf
    exact W.iret hx hb hr (fun t ht hW => ⟨⟨_, (), rfl, rfl, by show va_P D vwCl _ t.heap; rw [ht]; exact hP⟩, hS.F ht⟩) hS.2.2 dX8_fault_7
  have hl := lv_entry ([.ref (a 0 0)]) (n := 1) (Nat.le_of_ble_eq_true rfl)
  rw [lg_entry_eq]
  exact main s.heap [] _ hP hD hS hl
theorem hd_X8_judge : yX8_judge.cls = RX8 ∧ yX8_judge.cls ≠ "java/lang/invoke/MethodHandle" ∧ yX8_judge.cls ≠ "java/lang/invoke/VarHandle" ∧ (parseMethodDescriptor yX8_judge.desc).map (fun d => d.parameters.length) = some 1 := by decide +kernel
set_option maxHeartbeats 4000000 in
set_option maxRecDepth 100000 in
theorem c_X8_judge (l : Launch) (D : va_G) (cyI cyJ cyZ cyO : ClassId) (a : Nat → Nat → Nat) (sz : Nat) (n_lands : Nat → Int32) (n_camphors : Nat → Int32) (n_there : Nat → Int32) (n_mothCells : Nat → Int32) (n_mothHeads : Nat → Int32) (n_threads : Nat → Int32) (n_sightNights : Nat → Int32) (n_sightCells : Nat → Int32) (n_sights : Int32) (n_night : Int32) (n_eaten : Int32) (p_signs : Nat → Int32) (p_size : Int32) (c_acts : Int32) (c_why : Int32) (c_passed : Int32) (c_townNight : Int32) (c_town : Int32) (f_lands : Nat → Int32) (f_camphors : Nat → Int32) (f_there : Nat → Int32) (f_mothCells : Nat → Int32) (f_mothHeads : Nat → Int32) (f_threads : Nat → Int32) (f_sightNights : Nat → Int32) (f_sightCells : Nat → Int32) (f_sights : Int32) (f_night : Int32) (f_eaten : Int32) (p1 : Int32) (nf : Nat) (q : Int32 × Int32 × Int32 × Int32 × Int32 × Int32 × (Nat → Int32) × (Nat → Int32) × (Nat → Int32) × (Nat → Int32) × (Nat → Int32) × (Nat → Int32) × (Nat → Int32) × (Nat → Int32) × Int32 × Int32 × Int32) (hf : g_X8_judge nf p1 n_lands n_camphors n_there n_mothCells n_mothHeads n_threads n_sightNights n_sightCells n_sights n_night p_signs p_size c_acts c_why c_passed c_townNight c_town f_lands f_camphors f_there f_mothCells f_mothHeads f_threads f_sightNights f_sightCells f_sights f_night f_eaten = some q) : Met l yX8_judge (Cond.code yX8_judge cX8_judge 2 (some .int) :: tbG) ({ frames := 5, cells := 0, slots := 0, locals := 114 } : Room) (va_Pc [.ref (a 0 0), .int p1] (pcB D (ty4 cyI cyJ cyZ cyO) sz (vw8 cyI cyJ cyZ cyO a n_lands n_camphors n_there n_mothCells n_mothHeads n_threads n_sightNights n_sightCells n_sights n_night n_eaten p_signs p_size c_acts c_why c_passed c_townNight c_town f_lands f_camphors f_there f_mothCells f_mothHeads f_threads f_sightNights f_sightCells f_sights f_night f_eaten))) (qI D (vw8 cyI cyJ cyZ cyO a n_lands n_camphors n_there n_mothCells n_mothHeads n_threads n_sightNights n_sightCells n_sights n_night n_eaten p_signs p_size q.2.1 q.2.2.1 q.2.2.2.1 q.2.2.2.2.1 q.2.2.2.2.2.1 q.2.2.2.2.2.2.1 q.2.2.2.2.2.2.2.1 q.2.2.2.2.2.2.2.2.1 q.2.2.2.2.2.2.2.2.2.1 q.2.2.2.2.2.2.2.2.2.2.1 q.2.2.2.2.2.2.2.2.2.2.2.1 q.2.2.2.2.2.2.2.2.2.2.2.2.1 q.2.2.2.2.2.2.2.2.2.2.2.2.2.1 q.2.2.2.2.2.2.2.2.2.2.2.2.2.2.1 q.2.2.2.2.2.2.2.2.2.2.2.2.2.2.2.1 q.2.2.2.2.2.2.2.2.2.2.2.2.2.2.2.2) q.1 (va_A (vw8 cyI cyJ cyZ cyO a n_lands n_camphors n_there n_mothCells n_mothHeads n_threads n_sightNights n_sightCells n_sights n_night n_eaten p_signs p_size c_acts c_why c_passed c_townNight c_town f_lands f_camphors f_there f_mothCells f_mothHeads f_threads f_sightNights f_sightCells f_sights f_night f_eaten) sz)) 0 0 (va_A (vw8 cyI cyJ cyZ cyO a n_lands n_camphors n_there n_mothCells n_mothHeads n_threads n_sightNights n_sightCells n_sights n_night n_eaten p_signs p_size c_acts c_why c_passed c_townNight c_town f_lands f_camphors f_there f_mothCells f_mothHeads f_threads f_sightNights f_sightCells f_sights f_night f_eaten) sz) := by
  refine Met.ofW (cc := cX8_judge) (maxL := 2) (ret := (some .int)) (by decide) rfl ?_
  intro p e s m args below meth c s₁ B hml hv
  obtain ⟨rfl, hsz, hP, hK, hD0, hN⟩ := hv
  have hx := B.exec
  have hb := B.bytes
  have hr := B.returns
  have hT : ∀ w ∈ tbG, w.before ([.ref (a 0 0), .int p1] : List Value).toArray s = true := fun w h => atoms_spec (ws := (Cond.code yX8_judge cX8_judge 2 (some .int) :: tbG)) B.pre w (List.mem_cons_of_mem _ h)
  have hown : s.vm.findClass RX8 = some m.cls := findClass_of_methodNamed B.named
  have hlocks := B.notSynchronized
  subst hsz
  have hD := hD0.self (sz := s.heap.size)
  generalize hAe : va_A (vw8 cyI cyJ cyZ cyO a n_lands n_camphors n_there n_mothCells n_mothHeads n_threads n_sightNights n_sightCells n_sights n_night n_eaten p_signs p_size c_acts c_why c_passed c_townNight c_town f_lands f_camphors f_there f_mothCells f_mothHeads f_threads f_sightNights f_sightCells f_sights f_night f_eaten) s.heap.size = A at hD ⊢
  have hA : ∀ q : Nat, s.heap.size ≤ q → A q := fun q h => by rw [← hAe]; exact Or.inr h
  have hS : va_S A s.heap s.heap [] := va_S.rf
  show W p l e ({ frames := 5, cells := 0, slots := 0, locals := 114 } : Room) s m ([.ref (a 0 0), .int p1] : List Value).toArray below meth c s.heap [] 0 0 (MQ below (qI D (vw8 cyI cyJ cyZ cyO a n_lands n_camphors n_there n_mothCells n_mothHeads n_threads n_sightNights n_sightCells n_sights n_night n_eaten p_signs p_size q.2.1 q.2.2.1 q.2.2.2.1 q.2.2.2.2.1 q.2.2.2.2.2.1 q.2.2.2.2.2.2.1 q.2.2.2.2.2.2.2.1 q.2.2.2.2.2.2.2.2.1 q.2.2.2.2.2.2.2.2.2.1 q.2.2.2.2.2.2.2.2.2.2.1 q.2.2.2.2.2.2.2.2.2.2.2.1 q.2.2.2.2.2.2.2.2.2.2.2.2.1 q.2.2.2.2.2.2.2.2.2.2.2.2.2.1 q.2.2.2.2.2.2.2.2.2.2.2.2.2.2.1 q.2.2.2.2.2.2.2.2.2.2.2.2.2.2.2.1 q.2.2.2.2.2.2.2.2.2.2.2.2.2.2.2.2) q.1 A) ([.ref (a 0 0), .int p1] : List Value).toArray s 0 0 A) _
  have main : ∀ (H : Heap) (locs : List Loc) (ls : Array Slot), va_P D vwCl (vw8 cyI cyJ cyZ cyO a n_lands n_camphors n_there n_mothCells n_mothHeads n_threads n_sightNights n_sightCells n_sights n_night n_eaten p_signs p_size c_acts c_why c_passed c_townNight c_town f_lands f_camphors f_there f_mothCells f_mothHeads f_threads f_sightNights f_sightCells f_sights f_night f_eaten) H → va_D A (vw8 cyI cyJ cyZ cyO a n_lands n_camphors n_there n_mothCells n_mothHeads n_threads n_sightNights n_sightCells n_sights n_night n_eaten p_signs p_size c_acts c_why c_passed c_townNight c_town f_lands f_camphors f_there f_mothCells f_mothHeads f_threads f_sightNights f_sightCells f_sights f_night f_eaten) → va_S A s.heap H locs → lv_has ls 2 [(0, .ref (a 0 0)), (1, .int p1)] → W p l e ({ frames := 5, cells := 0, slots := 0, locals := 114 } : Room) s m ([.ref (a 0 0), .int p1] : List Value).toArray below meth c H locs 0 0 (MQ below (qI D (vw8 cyI cyJ cyZ cyO a n_lands n_camphors n_there n_mothCells n_mothHeads n_threads n_sightNights n_sightCells n_sights n_night n_eaten p_signs p_size q.2.1 q.2.2.1 q.2.2.2.1 q.2.2.2.2.1 q.2.2.2.2.2.1 q.2.2.2.2.2.2.1 q.2.2.2.2.2.2.2.1 q.2.2.2.2.2.2.2.2.1 q.2.2.2.2.2.2.2.2.2.1 q.2.2.2.2.2.2.2.2.2.2.1 q.2.2.2.2.2.2.2.2.2.2.2.1 q.2.2.2.2.2.2.2.2.2.2.2.2.1 q.2.2.2.2.2.2.2.2.2.2.2.2.2.1 q.2.2.2.2.2.2.2.2.2.2.2.2.2.2.1 q.2.2.2.2.2.2.2.2.2.2.2.2.2.2.2.1 q.2.2.2.2.2.2.2.2.2.2.2.2.2.2.2.2) q.1 A) ([.ref (a 0 0), .int p1] : List Value).toArray s 0 0 A) (F0 m 0 ls []) := by
    intro H locs ls hP hD hS hl
    unfold g_X8_judge at hf
    refine lv_iload_n hx hb dX8_judge_0 rfl (lv_at hl 1 rfl) ?_
    refine lv_iconst (v := 0) hx hb dX8_judge_1 (by decide) ?_
    refine lv_iconst (v := 1) hx hb dX8_judge_2 (by decide) ?_
    obtain ⟨q1, hq1, hf⟩ := bd_some hf
    have hC : ([] : List Nat).map (fun i => (vw8 cyI cyJ cyZ cyO a n_lands n_camphors n_there n_mothCells n_mothHeads n_threads n_sightNights n_sightCells n_sights n_night n_eaten p_signs p_size c_acts c_why c_passed c_townNight c_town f_lands f_camphors f_there f_mothCells f_mothHeads f_threads f_sightNights f_sightCells f_sights f_night f_eaten)[i]?) = ([] : va_W).map some := rfl
    refine cl_i (rn_S (As := [.int p1, .int 0, .int 1]) (rest := []) hx hb hml hown hT hK hN hP hD [] hC rfl (c_X8_within l D cyI cyJ cyZ cyO H.size p1 0 1 nf q1 hq1) wm_X8_80 wt_X8_within wz_X8 wc_X8_within hd_X8_within ⟨rfl, rfl⟩ ⟨Nat.le_of_ble_eq_true rfl, Nat.le_of_ble_eq_true rfl⟩ rfl hl.1 rfl (Nat.le_of_ble_eq_true rfl) dX8_judge_3 ⟨Nat.zero_le _, Nat.zero_le _⟩) hP hD hS hA [] hC [(false, 0), (false, 1), (false, 2), (false, 3), (false, 4), (false, 5), (false, 6), (false, 7), (false, 8), (false, 9), (false, 10), (false, 11), (false, 12), (false, 13), (false, 14), (false, 15), (false, 16), (false, 17), (false, 18), (false, 19), (false, 20), (false, 21)] (ws' := vw8 cyI cyJ cyZ cyO a n_lands n_camphors n_there n_mothCells n_mothHeads n_threads n_sightNights n_sightCells n_sights n_night n_eaten p_signs p_size c_acts c_why c_passed c_townNight c_town f_lands f_camphors f_there f_mothCells f_mothHeads f_threads f_sightNights f_sightCells f_sights f_night f_eaten) rfl rfl rfl (fun H locs hP hD hS => ?_)
    refine lv_if_ne (tgt := 12) hx hb dX8_judge_6 (by decide) (fun cc => ?_) (fun cc => ?_)
    · replace hf := if_f cc hf
      refine lv_aload_n hx hb dX8_judge_12 rfl (lv_at hl 0 rfl) ?_
      refine va_get (ci := 8) (v := .ref ((a 5) 0)) (C := RX8) (T := TX8) (N := 11) hx hb hT hin_X8 hown hK hP 0 rfl rfl 4 (by decide) (hT _ wf_X8_30) (fun _ h9 => h9) rfl dX8_judge_13 ?_
      obtain ⟨q2, hq2, hf⟩ := bd_some hf
      have hC : [10, 11].map (fun i => (vw8 cyI cyJ cyZ cyO a n_lands n_camphors n_there n_mothCells n_mothHeads n_threads n_sightNights n_sightCells n_sights n_night n_eaten p_signs p_size c_acts c_why c_passed c_townNight c_town f_lands f_camphors f_there f_mothCells f_mothHeads f_threads f_sightNights f_sightCells f_sights f_night f_eaten)[i]?) = (wX5 cyI cyJ cyZ cyO (a 5) p_signs p_size).map some := rfl
      refine cl_i (rn_V (As := []) (rest := []) (C := RX5) hx hb hml hown hT hK hN hP hD [10, 11] hC rfl (c_X5_firstWrong l D cyI cyJ cyZ cyO (a 5) H.size p_signs p_size nf q2 hq2) wm_X8_132 wi_X5_firstWrong wl_X5_firstWrong wz_X5 wc_X5_firstWrong hd_X5_firstWrong ⟨rfl, rfl⟩ ⟨Nat.le_of_ble_eq_true rfl, Nat.le_of_ble_eq_true rfl⟩ (q0 := 0) (ci := 5) rfl rfl rfl rfl hl.1 rfl (Nat.le_of_ble_eq_true rfl) dX8_judge_16 ⟨Nat.zero_le _, Nat.zero_le _⟩) hP hD hS hA [10, 11] hC [(false, 0), (false, 1), (false, 2), (false, 3), (false, 4), (false, 5), (false, 6), (false, 7), (false, 8), (false, 9), (true, 0), (true, 1), (false, 12), (false, 13), (false, 14), (false, 15), (false, 16), (false, 17), (false, 18), (false, 19), (false, 20), (false, 21)] (ws' := vw8 cyI cyJ cyZ cyO a n_lands n_camphors n_there n_mothCells n_mothHeads n_threads n_sightNights n_sightCells n_sights n_night n_eaten p_signs p_size c_acts c_why c_passed c_townNight c_town f_lands f_camphors f_there f_mothCells f_mothHeads f_threads f_sightNights f_sightCells f_sights f_night f_eaten) rfl rfl rfl (fun H locs hP hD hS => ?_)
      refine lv_bipush (v := (-6)) hx hb dX8_judge_19 (by decide) ?_
      refine lv_icmp_eq (tgt := 27) hx hb dX8_judge_21 (by decide) (fun cc => ?_) (fun cc => ?_)
      · replace hf := if_t cc hf
        refine lv_aload_n hx hb dX8_judge_27 rfl (lv_at hl 0 rfl) ?_
        refine va_get (ci := 8) (v := .ref (a 6 0)) (C := RX8) (T := TX8) (N := 11) hx hb hT hin_X8 hown hK hP 0 rfl rfl 5 (by decide) (hT _ wf_X8_37) (fun _ h9 => h9) rfl dX8_judge_28 ?_
        refine lv_aload_n hx hb dX8_judge_31 rfl (lv_at hl 0 rfl) ?_
        refine va_get (ci := 8) (v := .ref ((a 5) 0)) (C := RX8) (T := TX8) (N := 11) hx hb hT hin_X8 hown hK hP 0 rfl rfl 4 (by decide) (hT _ wf_X8_30) (fun _ h9 => h9) rfl dX8_judge_32 ?_
        refine lv_aload_n hx hb dX8_judge_35 rfl (lv_at hl 0 rfl) ?_
        refine va_get (ci := 8) (v := .ref ((a 1) 0)) (C := RX8) (T := TX8) (N := 11) hx hb hT hin_X8 hown hK hP 0 rfl rfl 0 (by decide) (hT _ wf_X8_10) (fun _ h9 => h9) rfl dX8_judge_36 ?_
        obtain ⟨q3, hq3, hf⟩ := bd_some hf
        have hC : [12, 13, 14, 15, 16, 17, 18, 19, 20, 21, 10, 11, 1, 2, 3, 4, 5, 6, 7, 8, 9].map (fun i => (vw8 cyI cyJ cyZ cyO a n_lands n_camphors n_there n_mothCells n_mothHeads n_threads n_sightNights n_sightCells n_sights n_night n_eaten p_signs p_size c_acts c_why c_passed c_townNight c_town f_lands f_camphors f_there f_mothCells f_mothHeads f_threads f_sightNights f_sightCells f_sights f_night f_eaten)[i]?) = (vw3 cyI cyJ cyZ cyO (a 6) (a 7) (a 5) (a 1) c_acts c_why c_passed c_townNight c_town f_lands f_camphors f_there f_mothCells f_mothHeads f_threads f_sightNights f_sightCells f_sights f_night f_eaten p_signs p_size n_lands n_camphors n_there n_mothCells n_mothHeads n_threads n_sightNights n_sightCells n_sights n_night n_eaten).map some := rfl
        refine cl_v (rn_V (As := [.ref ((a 5) 0), .ref ((a 1) 0)]) (rest := []) (C := RX4) hx hb hml hown hT hK hN hP hD [12, 13, 14, 15, 16, 17, 18, 19, 20, 21, 10, 11, 1, 2, 3, 4, 5, 6, 7, 8, 9] hC rfl (c_X4_tell l D cyI cyJ cyZ cyO (a 6) (a 7) (a 5) (a 1) H.size c_acts c_why c_passed c_townNight c_town f_lands f_camphors f_there f_mothCells f_mothHeads f_threads f_sightNights f_sightCells f_sights f_night f_eaten p_signs p_size n_lands n_camphors n_there n_mothCells n_mothHeads n_threads n_sightNights n_sightCells n_sights n_night n_eaten nf q3 hq3) wm_X8_135 wi_X4_tell wl_X4_tell wz_X4 wc_X4_tell hd_X4_tell ⟨rfl, rfl⟩ ⟨Nat.le_of_ble_eq_true rfl, Nat.le_of_ble_eq_true rfl⟩ (q0 := 0) (ci := 4) rfl rfl rfl rfl hl.1 rfl (Nat.le_of_ble_eq_true rfl) dX8_judge_39 ⟨Nat.zero_le _, Nat.zero_le _⟩) hP hD hS hA [12, 13, 14, 15, 16, 17, 18, 19, 20, 21, 10, 11, 1, 2, 3, 4, 5, 6, 7, 8, 9] hC [(false, 0), (true, 12), (true, 13), (true, 14), (true, 15), (true, 16), (true, 17), (true, 18), (true, 19), (true, 20), (true, 10), (true, 11), (true, 0), (true, 1), (true, 2), (true, 3), (true, 4), (true, 5), (true, 6), (true, 7), (true, 8), (true, 9)] (ws' := vw8 cyI cyJ cyZ cyO a n_lands n_camphors n_there n_mothCells n_mothHeads n_threads n_sightNights n_sightCells n_sights n_night n_eaten p_signs p_size q3.1 q3.2.1 q3.2.2.1 q3.2.2.2.1 q3.2.2.2.2.1 q3.2.2.2.2.2.1 q3.2.2.2.2.2.2.1 q3.2.2.2.2.2.2.2.1 q3.2.2.2.2.2.2.2.2.1 q3.2.2.2.2.2.2.2.2.2.1 q3.2.2.2.2.2.2.2.2.2.2.1 q3.2.2.2.2.2.2.2.2.2.2.2.1 q3.2.2.2.2.2.2.2.2.2.2.2.2.1 q3.2.2.2.2.2.2.2.2.2.2.2.2.2.1 q3.2.2.2.2.2.2.2.2.2.2.2.2.2.2.1 q3.2.2.2.2.2.2.2.2.2.2.2.2.2.2.2) rfl rfl rfl (fun H locs hP hD hS => ?_)
        refine lv_aload_n hx hb dX8_judge_42 rfl (lv_at hl 0 rfl) ?_
        refine va_get (ci := 8) (v := .ref (a 6 0)) (C := RX8) (T := TX8) (N := 11) hx hb hT hin_X8 hown hK hP 0 rfl rfl 5 (by decide) (hT _ wf_X8_37) (fun _ h9 => h9) rfl dX8_judge_43 ?_
        refine va_get (ci := 4) (v := .int q3.2.1) (C := RX4) (T := TX4) (N := 6) hx hb hT hin_X4 hown hK hP 12 rfl rfl 2 (by decide) (hT _ wf_X8_139) (fun _ h9 => h9) rfl dX8_judge_46 ?_
        refine lv_if_ne (tgt := 55) hx hb dX8_judge_49 (by decide) (fun cc => ?_) (fun cc => ?_)
        · replace hf := if_f cc hf
          refine lv_iload_n hx hb dX8_judge_55 rfl (lv_at hl 1 rfl) ?_
          refine lv_if_ne (tgt := 69) hx hb dX8_judge_56 (by decide) (fun cc => ?_) (fun cc => ?_)
          · replace hf := if_f cc hf
            refine lv_aload_n hx hb dX8_judge_69 rfl (lv_at hl 0 rfl) ?_
            refine va_get (ci := 8) (v := .ref (a 6 0)) (C := RX8) (T := TX8) (N := 11) hx hb hT hin_X8 hown hK hP 0 rfl rfl 5 (by decide) (hT _ wf_X8_37) (fun _ h9 => h9) rfl dX8_judge_70 ?_
            refine va_get (ci := 4) (v := .int q3.2.1) (C := RX4) (T := TX4) (N := 6) hx hb hT hin_X4 hown hK hP 12 rfl rfl 2 (by decide) (hT _ wf_X8_139) (fun _ h9 => h9) rfl dX8_judge_73 ?_
            cases Option.some.inj hf
            exact W.iret hx hb hr (fun t ht hW => ⟨⟨_, (), rfl, rfl, by show va_P D vwCl _ t.heap; rw [ht]; exact hP⟩, hS.F ht⟩) hS.2.2 dX8_judge_76
          · replace hf := if_t cc hf
            refine lv_aload_n hx hb dX8_judge_59 rfl (lv_at hl 0 rfl) ?_
            refine va_get (ci := 8) (v := .ref (a 6 0)) (C := RX8) (T := TX8) (N := 11) hx hb hT hin_X8 hown hK hP 0 rfl rfl 5 (by decide) (hT _ wf_X8_37) (fun _ h9 => h9) rfl dX8_judge_60 ?_
            refine va_get (ci := 4) (v := .int q3.1) (C := RX4) (T := TX4) (N := 6) hx hb hT hin_X4 hown hK hP 12 rfl rfl 1 (by decide) (hT _ wf_X8_142) (fun _ h9 => h9) rfl dX8_judge_63 ?_
            refine lv_goto (tgt := 76) hx hb dX8_judge_66 (by decide) ?_
            cases Option.some.inj hf
            exact W.iret hx hb hr (fun t ht hW => ⟨⟨_, (), rfl, rfl, by show va_P D vwCl _ t.heap; rw [ht]; exact hP⟩, hS.F ht⟩) hS.2.2 dX8_judge_76
        · replace hf := if_t cc hf
          refine lv_bipush (v := (-6)) hx hb dX8_judge_52 (by decide) ?_
          cases Option.some.inj hf
          exact W.iret hx hb hr (fun t ht hW => ⟨⟨_, (), rfl, rfl, by show va_P D vwCl _ t.heap; rw [ht]; exact hP⟩, hS.F ht⟩) hS.2.2 dX8_judge_54
      · replace hf := if_f cc hf
        refine lv_bipush (v := (-5)) hx hb dX8_judge_24 (by decide) ?_
        cases Option.some.inj hf
        exact W.iret hx hb hr (fun t ht hW => ⟨⟨_, (), rfl, rfl, by show va_P D vwCl _ t.heap; rw [ht]; exact hP⟩, hS.F ht⟩) hS.2.2 dX8_judge_26
    · replace hf := if_t cc hf
      refine lv_bipush (v := (-2)) hx hb dX8_judge_9 (by decide) ?_
      cases Option.some.inj hf
      exact W.iret hx hb hr (fun t ht hW => ⟨⟨_, (), rfl, rfl, by show va_P D vwCl _ t.heap; rw [ht]; exact hP⟩, hS.F ht⟩) hS.2.2 dX8_judge_11
  have hl := lv_entry ([.ref (a 0 0), .int p1]) (n := 2) (Nat.le_of_ble_eq_true rfl)
  rw [lg_entry_eq]
  exact main s.heap [] _ hP hD hS hl
theorem hd_X8_nightsCanBe : yX8_nightsCanBe.cls = RX8 ∧ yX8_nightsCanBe.cls ≠ "java/lang/invoke/MethodHandle" ∧ yX8_nightsCanBe.cls ≠ "java/lang/invoke/VarHandle" ∧ (parseMethodDescriptor yX8_nightsCanBe.desc).map (fun d => d.parameters.length) = some 0 := by decide +kernel
set_option maxHeartbeats 4000000 in
set_option maxRecDepth 100000 in
theorem c_X8_nightsCanBe (l : Launch) (D : va_G) (cyI cyJ cyZ cyO : ClassId) (a : Nat → Nat → Nat) (sz : Nat) (n_lands : Nat → Int32) (n_camphors : Nat → Int32) (n_there : Nat → Int32) (n_mothCells : Nat → Int32) (n_mothHeads : Nat → Int32) (n_threads : Nat → Int32) (n_sightNights : Nat → Int32) (n_sightCells : Nat → Int32) (n_sights : Int32) (n_night : Int32) (n_eaten : Int32) (p_signs : Nat → Int32) (p_size : Int32) (c_acts : Int32) (c_why : Int32) (c_passed : Int32) (c_townNight : Int32) (c_town : Int32) (f_lands : Nat → Int32) (f_camphors : Nat → Int32) (f_there : Nat → Int32) (f_mothCells : Nat → Int32) (f_mothHeads : Nat → Int32) (f_threads : Nat → Int32) (f_sightNights : Nat → Int32) (f_sightCells : Nat → Int32) (f_sights : Int32) (f_night : Int32) (f_eaten : Int32) (nf : Nat) (q : Int32 × Int32 × Int32 × Int32 × Int32 × Int32 × (Nat → Int32) × (Nat → Int32) × (Nat → Int32) × (Nat → Int32) × (Nat → Int32) × (Nat → Int32) × (Nat → Int32) × (Nat → Int32) × Int32 × Int32 × Int32) (hf : g_X8_nightsCanBe nf n_lands n_camphors n_there n_mothCells n_mothHeads n_threads n_sightNights n_sightCells n_sights n_night p_signs p_size c_acts c_why c_passed c_townNight c_town f_lands f_camphors f_there f_mothCells f_mothHeads f_threads f_sightNights f_sightCells f_sights f_night f_eaten = some q) : Met l yX8_nightsCanBe (Cond.code yX8_nightsCanBe cX8_nightsCanBe 1 (some .boolean) :: tbG) ({ frames := 5, cells := 0, slots := 0, locals := 114 } : Room) (va_Pc [.ref (a 0 0)] (pcB D (ty4 cyI cyJ cyZ cyO) sz (vw8 cyI cyJ cyZ cyO a n_lands n_camphors n_there n_mothCells n_mothHeads n_threads n_sightNights n_sightCells n_sights n_night n_eaten p_signs p_size c_acts c_why c_passed c_townNight c_town f_lands f_camphors f_there f_mothCells f_mothHeads f_threads f_sightNights f_sightCells f_sights f_night f_eaten))) (qI D (vw8 cyI cyJ cyZ cyO a n_lands n_camphors n_there n_mothCells n_mothHeads n_threads n_sightNights n_sightCells n_sights n_night n_eaten p_signs p_size q.2.1 q.2.2.1 q.2.2.2.1 q.2.2.2.2.1 q.2.2.2.2.2.1 q.2.2.2.2.2.2.1 q.2.2.2.2.2.2.2.1 q.2.2.2.2.2.2.2.2.1 q.2.2.2.2.2.2.2.2.2.1 q.2.2.2.2.2.2.2.2.2.2.1 q.2.2.2.2.2.2.2.2.2.2.2.1 q.2.2.2.2.2.2.2.2.2.2.2.2.1 q.2.2.2.2.2.2.2.2.2.2.2.2.2.1 q.2.2.2.2.2.2.2.2.2.2.2.2.2.2.1 q.2.2.2.2.2.2.2.2.2.2.2.2.2.2.2.1 q.2.2.2.2.2.2.2.2.2.2.2.2.2.2.2.2) q.1 (va_A (vw8 cyI cyJ cyZ cyO a n_lands n_camphors n_there n_mothCells n_mothHeads n_threads n_sightNights n_sightCells n_sights n_night n_eaten p_signs p_size c_acts c_why c_passed c_townNight c_town f_lands f_camphors f_there f_mothCells f_mothHeads f_threads f_sightNights f_sightCells f_sights f_night f_eaten) sz)) 0 0 (va_A (vw8 cyI cyJ cyZ cyO a n_lands n_camphors n_there n_mothCells n_mothHeads n_threads n_sightNights n_sightCells n_sights n_night n_eaten p_signs p_size c_acts c_why c_passed c_townNight c_town f_lands f_camphors f_there f_mothCells f_mothHeads f_threads f_sightNights f_sightCells f_sights f_night f_eaten) sz) := by
  refine Met.ofW (cc := cX8_nightsCanBe) (maxL := 1) (ret := (some .boolean)) (by decide) rfl ?_
  intro p e s m args below meth c s₁ B hml hv
  obtain ⟨rfl, hsz, hP, hK, hD0, hN⟩ := hv
  have hx := B.exec
  have hb := B.bytes
  have hr := B.returns
  have hT : ∀ w ∈ tbG, w.before ([.ref (a 0 0)] : List Value).toArray s = true := fun w h => atoms_spec (ws := (Cond.code yX8_nightsCanBe cX8_nightsCanBe 1 (some .boolean) :: tbG)) B.pre w (List.mem_cons_of_mem _ h)
  have hown : s.vm.findClass RX8 = some m.cls := findClass_of_methodNamed B.named
  have hlocks := B.notSynchronized
  subst hsz
  have hD := hD0.self (sz := s.heap.size)
  generalize hAe : va_A (vw8 cyI cyJ cyZ cyO a n_lands n_camphors n_there n_mothCells n_mothHeads n_threads n_sightNights n_sightCells n_sights n_night n_eaten p_signs p_size c_acts c_why c_passed c_townNight c_town f_lands f_camphors f_there f_mothCells f_mothHeads f_threads f_sightNights f_sightCells f_sights f_night f_eaten) s.heap.size = A at hD ⊢
  have hA : ∀ q : Nat, s.heap.size ≤ q → A q := fun q h => by rw [← hAe]; exact Or.inr h
  have hS : va_S A s.heap s.heap [] := va_S.rf
  show W p l e ({ frames := 5, cells := 0, slots := 0, locals := 114 } : Room) s m ([.ref (a 0 0)] : List Value).toArray below meth c s.heap [] 0 0 (MQ below (qI D (vw8 cyI cyJ cyZ cyO a n_lands n_camphors n_there n_mothCells n_mothHeads n_threads n_sightNights n_sightCells n_sights n_night n_eaten p_signs p_size q.2.1 q.2.2.1 q.2.2.2.1 q.2.2.2.2.1 q.2.2.2.2.2.1 q.2.2.2.2.2.2.1 q.2.2.2.2.2.2.2.1 q.2.2.2.2.2.2.2.2.1 q.2.2.2.2.2.2.2.2.2.1 q.2.2.2.2.2.2.2.2.2.2.1 q.2.2.2.2.2.2.2.2.2.2.2.1 q.2.2.2.2.2.2.2.2.2.2.2.2.1 q.2.2.2.2.2.2.2.2.2.2.2.2.2.1 q.2.2.2.2.2.2.2.2.2.2.2.2.2.2.1 q.2.2.2.2.2.2.2.2.2.2.2.2.2.2.2.1 q.2.2.2.2.2.2.2.2.2.2.2.2.2.2.2.2) q.1 A) ([.ref (a 0 0)] : List Value).toArray s 0 0 A) _
  have main : ∀ (H : Heap) (locs : List Loc) (ls : Array Slot), va_P D vwCl (vw8 cyI cyJ cyZ cyO a n_lands n_camphors n_there n_mothCells n_mothHeads n_threads n_sightNights n_sightCells n_sights n_night n_eaten p_signs p_size c_acts c_why c_passed c_townNight c_town f_lands f_camphors f_there f_mothCells f_mothHeads f_threads f_sightNights f_sightCells f_sights f_night f_eaten) H → va_D A (vw8 cyI cyJ cyZ cyO a n_lands n_camphors n_there n_mothCells n_mothHeads n_threads n_sightNights n_sightCells n_sights n_night n_eaten p_signs p_size c_acts c_why c_passed c_townNight c_town f_lands f_camphors f_there f_mothCells f_mothHeads f_threads f_sightNights f_sightCells f_sights f_night f_eaten) → va_S A s.heap H locs → lv_has ls 1 [(0, .ref (a 0 0))] → W p l e ({ frames := 5, cells := 0, slots := 0, locals := 114 } : Room) s m ([.ref (a 0 0)] : List Value).toArray below meth c H locs 0 0 (MQ below (qI D (vw8 cyI cyJ cyZ cyO a n_lands n_camphors n_there n_mothCells n_mothHeads n_threads n_sightNights n_sightCells n_sights n_night n_eaten p_signs p_size q.2.1 q.2.2.1 q.2.2.2.1 q.2.2.2.2.1 q.2.2.2.2.2.1 q.2.2.2.2.2.2.1 q.2.2.2.2.2.2.2.1 q.2.2.2.2.2.2.2.2.1 q.2.2.2.2.2.2.2.2.2.1 q.2.2.2.2.2.2.2.2.2.2.1 q.2.2.2.2.2.2.2.2.2.2.2.1 q.2.2.2.2.2.2.2.2.2.2.2.2.1 q.2.2.2.2.2.2.2.2.2.2.2.2.2.1 q.2.2.2.2.2.2.2.2.2.2.2.2.2.2.1 q.2.2.2.2.2.2.2.2.2.2.2.2.2.2.2.1 q.2.2.2.2.2.2.2.2.2.2.2.2.2.2.2.2) q.1 A) ([.ref (a 0 0)] : List Value).toArray s 0 0 A) (F0 m 0 ls []) := by
    intro H locs ls hP hD hS hl
    unfold g_X8_nightsCanBe at hf
    refine lv_aload_n hx hb dX8_nightsCanBe_0 rfl (lv_at hl 0 rfl) ?_
    refine va_get (ci := 8) (v := .ref ((a 5) 0)) (C := RX8) (T := TX8) (N := 11) hx hb hT hin_X8 hown hK hP 0 rfl rfl 4 (by decide) (hT _ wf_X8_30) (fun _ h9 => h9) rfl dX8_nightsCanBe_1 ?_
    obtain ⟨q1, hq1, hf⟩ := bd_some hf
    have hC : [10, 11].map (fun i => (vw8 cyI cyJ cyZ cyO a n_lands n_camphors n_there n_mothCells n_mothHeads n_threads n_sightNights n_sightCells n_sights n_night n_eaten p_signs p_size c_acts c_why c_passed c_townNight c_town f_lands f_camphors f_there f_mothCells f_mothHeads f_threads f_sightNights f_sightCells f_sights f_night f_eaten)[i]?) = (wX5 cyI cyJ cyZ cyO (a 5) p_signs p_size).map some := rfl
    refine cl_i (rn_V (As := []) (rest := []) (C := RX5) hx hb hml hown hT hK hN hP hD [10, 11] hC rfl (c_X5_firstWrong l D cyI cyJ cyZ cyO (a 5) H.size p_signs p_size nf q1 hq1) wm_X8_132 wi_X5_firstWrong wl_X5_firstWrong wz_X5 wc_X5_firstWrong hd_X5_firstWrong ⟨rfl, rfl⟩ ⟨Nat.le_of_ble_eq_true rfl, Nat.le_of_ble_eq_true rfl⟩ (q0 := 0) (ci := 5) rfl rfl rfl rfl hl.1 rfl (Nat.le_of_ble_eq_true rfl) dX8_nightsCanBe_4 ⟨Nat.zero_le _, Nat.zero_le _⟩) hP hD hS hA [10, 11] hC [(false, 0), (false, 1), (false, 2), (false, 3), (false, 4), (false, 5), (false, 6), (false, 7), (false, 8), (false, 9), (true, 0), (true, 1), (false, 12), (false, 13), (false, 14), (false, 15), (false, 16), (false, 17), (false, 18), (false, 19), (false, 20), (false, 21)] (ws' := vw8 cyI cyJ cyZ cyO a n_lands n_camphors n_there n_mothCells n_mothHeads n_threads n_sightNights n_sightCells n_sights n_night n_eaten p_signs p_size c_acts c_why c_passed c_townNight c_town f_lands f_camphors f_there f_mothCells f_mothHeads f_threads f_sightNights f_sightCells f_sights f_night f_eaten) rfl rfl rfl (fun H locs hP hD hS => ?_)
    refine lv_bipush (v := (-6)) hx hb dX8_nightsCanBe_7 (by decide) ?_
    refine lv_icmp_eq (tgt := 14) hx hb dX8_nightsCanBe_9 (by decide) (fun cc => ?_) (fun cc => ?_)
    · replace hf := if_t cc hf
      refine lv_aload_n hx hb dX8_nightsCanBe_14 rfl (lv_at hl 0 rfl) ?_
      refine va_get (ci := 8) (v := .ref (a 6 0)) (C := RX8) (T := TX8) (N := 11) hx hb hT hin_X8 hown hK hP 0 rfl rfl 5 (by decide) (hT _ wf_X8_37) (fun _ h9 => h9) rfl dX8_nightsCanBe_15 ?_
      refine lv_aload_n hx hb dX8_nightsCanBe_18 rfl (lv_at hl 0 rfl) ?_
      refine va_get (ci := 8) (v := .ref ((a 5) 0)) (C := RX8) (T := TX8) (N := 11) hx hb hT hin_X8 hown hK hP 0 rfl rfl 4 (by decide) (hT _ wf_X8_30) (fun _ h9 => h9) rfl dX8_nightsCanBe_19 ?_
      refine lv_aload_n hx hb dX8_nightsCanBe_22 rfl (lv_at hl 0 rfl) ?_
      refine va_get (ci := 8) (v := .ref ((a 1) 0)) (C := RX8) (T := TX8) (N := 11) hx hb hT hin_X8 hown hK hP 0 rfl rfl 0 (by decide) (hT _ wf_X8_10) (fun _ h9 => h9) rfl dX8_nightsCanBe_23 ?_
      obtain ⟨q2, hq2, hf⟩ := bd_some hf
      have hC : [12, 13, 14, 15, 16, 17, 18, 19, 20, 21, 10, 11, 1, 2, 3, 4, 5, 6, 7, 8, 9].map (fun i => (vw8 cyI cyJ cyZ cyO a n_lands n_camphors n_there n_mothCells n_mothHeads n_threads n_sightNights n_sightCells n_sights n_night n_eaten p_signs p_size c_acts c_why c_passed c_townNight c_town f_lands f_camphors f_there f_mothCells f_mothHeads f_threads f_sightNights f_sightCells f_sights f_night f_eaten)[i]?) = (vw3 cyI cyJ cyZ cyO (a 6) (a 7) (a 5) (a 1) c_acts c_why c_passed c_townNight c_town f_lands f_camphors f_there f_mothCells f_mothHeads f_threads f_sightNights f_sightCells f_sights f_night f_eaten p_signs p_size n_lands n_camphors n_there n_mothCells n_mothHeads n_threads n_sightNights n_sightCells n_sights n_night n_eaten).map some := rfl
      refine cl_v (rn_V (As := [.ref ((a 5) 0), .ref ((a 1) 0)]) (rest := []) (C := RX4) hx hb hml hown hT hK hN hP hD [12, 13, 14, 15, 16, 17, 18, 19, 20, 21, 10, 11, 1, 2, 3, 4, 5, 6, 7, 8, 9] hC rfl (c_X4_tell l D cyI cyJ cyZ cyO (a 6) (a 7) (a 5) (a 1) H.size c_acts c_why c_passed c_townNight c_town f_lands f_camphors f_there f_mothCells f_mothHeads f_threads f_sightNights f_sightCells f_sights f_night f_eaten p_signs p_size n_lands n_camphors n_there n_mothCells n_mothHeads n_threads n_sightNights n_sightCells n_sights n_night n_eaten nf q2 hq2) wm_X8_135 wi_X4_tell wl_X4_tell wz_X4 wc_X4_tell hd_X4_tell ⟨rfl, rfl⟩ ⟨Nat.le_of_ble_eq_true rfl, Nat.le_of_ble_eq_true rfl⟩ (q0 := 0) (ci := 4) rfl rfl rfl rfl hl.1 rfl (Nat.le_of_ble_eq_true rfl) dX8_nightsCanBe_26 ⟨Nat.zero_le _, Nat.zero_le _⟩) hP hD hS hA [12, 13, 14, 15, 16, 17, 18, 19, 20, 21, 10, 11, 1, 2, 3, 4, 5, 6, 7, 8, 9] hC [(false, 0), (true, 12), (true, 13), (true, 14), (true, 15), (true, 16), (true, 17), (true, 18), (true, 19), (true, 20), (true, 10), (true, 11), (true, 0), (true, 1), (true, 2), (true, 3), (true, 4), (true, 5), (true, 6), (true, 7), (true, 8), (true, 9)] (ws' := vw8 cyI cyJ cyZ cyO a n_lands n_camphors n_there n_mothCells n_mothHeads n_threads n_sightNights n_sightCells n_sights n_night n_eaten p_signs p_size q2.1 q2.2.1 q2.2.2.1 q2.2.2.2.1 q2.2.2.2.2.1 q2.2.2.2.2.2.1 q2.2.2.2.2.2.2.1 q2.2.2.2.2.2.2.2.1 q2.2.2.2.2.2.2.2.2.1 q2.2.2.2.2.2.2.2.2.2.1 q2.2.2.2.2.2.2.2.2.2.2.1 q2.2.2.2.2.2.2.2.2.2.2.2.1 q2.2.2.2.2.2.2.2.2.2.2.2.2.1 q2.2.2.2.2.2.2.2.2.2.2.2.2.2.1 q2.2.2.2.2.2.2.2.2.2.2.2.2.2.2.1 q2.2.2.2.2.2.2.2.2.2.2.2.2.2.2.2) rfl rfl rfl (fun H locs hP hD hS => ?_)
      refine lv_aload_n hx hb dX8_nightsCanBe_29 rfl (lv_at hl 0 rfl) ?_
      refine va_get (ci := 8) (v := .ref (a 6 0)) (C := RX8) (T := TX8) (N := 11) hx hb hT hin_X8 hown hK hP 0 rfl rfl 5 (by decide) (hT _ wf_X8_37) (fun _ h9 => h9) rfl dX8_nightsCanBe_30 ?_
      refine va_get (ci := 4) (v := .int q2.2.1) (C := RX4) (T := TX4) (N := 6) hx hb hT hin_X4 hown hK hP 12 rfl rfl 2 (by decide) (hT _ wf_X8_139) (fun _ h9 => h9) rfl dX8_nightsCanBe_33 ?_
      refine lv_if_ne (tgt := 43) hx hb dX8_nightsCanBe_36 (by decide) (fun cc => ?_) (fun cc => ?_)
      · replace hf := if_f cc hf
        refine lv_iconst (v := 0) hx hb dX8_nightsCanBe_43 (by decide) ?_
        obtain ⟨hz, hf⟩ := bz_some hf
        cases Option.some.inj hf
        exact W.zret hx hb hr (bz_nar hz).2 (fun t ht hW => ⟨⟨_, (), rfl, rfl, by show va_P D vwCl _ t.heap; rw [ht]; exact hP⟩, hS.F ht⟩) hS.2.2 dX8_nightsCanBe_44
      · replace hf := if_t cc hf
        refine lv_iconst (v := 1) hx hb dX8_nightsCanBe_39 (by decide) ?_
        refine lv_goto (tgt := 44) hx hb dX8_nightsCanBe_40 (by decide) ?_
        obtain ⟨hz, hf⟩ := bz_some hf
        cases Option.some.inj hf
        exact W.zret hx hb hr (bz_nar hz).2 (fun t ht hW => ⟨⟨_, (), rfl, rfl, by show va_P D vwCl _ t.heap; rw [ht]; exact hP⟩, hS.F ht⟩) hS.2.2 dX8_nightsCanBe_44
    · replace hf := if_f cc hf
      refine lv_iconst (v := 0) hx hb dX8_nightsCanBe_12 (by decide) ?_
      obtain ⟨hz, hf⟩ := bz_some hf
      cases Option.some.inj hf
      exact W.zret hx hb hr (bz_nar hz).2 (fun t ht hW => ⟨⟨_, (), rfl, rfl, by show va_P D vwCl _ t.heap; rw [ht]; exact hP⟩, hS.F ht⟩) hS.2.2 dX8_nightsCanBe_13
  have hl := lv_entry ([.ref (a 0 0)]) (n := 1) (Nat.le_of_ble_eq_true rfl)
  rw [lg_entry_eq]
  exact main s.heap [] _ hP hD hS hl
theorem hd_X8_done : yX8_done.cls = RX8 ∧ yX8_done.cls ≠ "java/lang/invoke/MethodHandle" ∧ yX8_done.cls ≠ "java/lang/invoke/VarHandle" ∧ (parseMethodDescriptor yX8_done.desc).map (fun d => d.parameters.length) = some 0 := by decide +kernel
set_option maxHeartbeats 4000000 in
set_option maxRecDepth 100000 in
theorem c_X8_done (l : Launch) (D : va_G) (cyI cyJ cyZ cyO : ClassId) (a : Nat → Nat → Nat) (sz : Nat) (n_lands : Nat → Int32) (n_camphors : Nat → Int32) (n_there : Nat → Int32) (n_mothCells : Nat → Int32) (n_mothHeads : Nat → Int32) (n_threads : Nat → Int32) (n_sightNights : Nat → Int32) (n_sightCells : Nat → Int32) (n_sights : Int32) (n_night : Int32) (n_eaten : Int32) (p_signs : Nat → Int32) (p_size : Int32) (c_acts : Int32) (c_why : Int32) (c_passed : Int32) (c_townNight : Int32) (c_town : Int32) (f_lands : Nat → Int32) (f_camphors : Nat → Int32) (f_there : Nat → Int32) (f_mothCells : Nat → Int32) (f_mothHeads : Nat → Int32) (f_threads : Nat → Int32) (f_sightNights : Nat → Int32) (f_sightCells : Nat → Int32) (f_sights : Int32) (f_night : Int32) (f_eaten : Int32) (nf : Nat) (q : Int32 × (Nat → Int32) × (Nat → Int32) × (Nat → Int32) × (Nat → Int32) × (Nat → Int32) × (Nat → Int32) × (Nat → Int32) × (Nat → Int32) × Int32 × Int32 × Int32 × Int32 × Int32 × Int32 × Int32 × Int32 × (Nat → Int32) × (Nat → Int32) × (Nat → Int32) × (Nat → Int32) × (Nat → Int32) × (Nat → Int32) × (Nat → Int32) × (Nat → Int32) × Int32 × Int32 × Int32) (hf : g_X8_done nf n_lands n_camphors n_there n_mothCells n_mothHeads n_threads n_sightNights n_sightCells n_sights n_night p_signs p_size c_acts c_why c_passed c_townNight c_town f_lands f_camphors f_there f_mothCells f_mothHeads f_threads f_sightNights f_sightCells f_sights f_night f_eaten = some q) : Met l yX8_done (Cond.code yX8_done cX8_done 1 (some .int) :: tbG) ({ frames := 6, cells := 0, slots := 0, locals := 134 } : Room) (va_Pc [.ref (a 0 0)] (pcB D (ty4 cyI cyJ cyZ cyO) sz (vw8 cyI cyJ cyZ cyO a n_lands n_camphors n_there n_mothCells n_mothHeads n_threads n_sightNights n_sightCells n_sights n_night n_eaten p_signs p_size c_acts c_why c_passed c_townNight c_town f_lands f_camphors f_there f_mothCells f_mothHeads f_threads f_sightNights f_sightCells f_sights f_night f_eaten))) (qI D (vw8 cyI cyJ cyZ cyO a q.2.1 q.2.2.1 q.2.2.2.1 q.2.2.2.2.1 q.2.2.2.2.2.1 q.2.2.2.2.2.2.1 q.2.2.2.2.2.2.2.1 q.2.2.2.2.2.2.2.2.1 q.2.2.2.2.2.2.2.2.2.1 q.2.2.2.2.2.2.2.2.2.2.1 n_eaten p_signs q.2.2.2.2.2.2.2.2.2.2.2.1 q.2.2.2.2.2.2.2.2.2.2.2.2.1 q.2.2.2.2.2.2.2.2.2.2.2.2.2.1 q.2.2.2.2.2.2.2.2.2.2.2.2.2.2.1 q.2.2.2.2.2.2.2.2.2.2.2.2.2.2.2.1 q.2.2.2.2.2.2.2.2.2.2.2.2.2.2.2.2.1 q.2.2.2.2.2.2.2.2.2.2.2.2.2.2.2.2.2.1 q.2.2.2.2.2.2.2.2.2.2.2.2.2.2.2.2.2.2.1 q.2.2.2.2.2.2.2.2.2.2.2.2.2.2.2.2.2.2.2.1 q.2.2.2.2.2.2.2.2.2.2.2.2.2.2.2.2.2.2.2.2.1 q.2.2.2.2.2.2.2.2.2.2.2.2.2.2.2.2.2.2.2.2.2.1 q.2.2.2.2.2.2.2.2.2.2.2.2.2.2.2.2.2.2.2.2.2.2.1 q.2.2.2.2.2.2.2.2.2.2.2.2.2.2.2.2.2.2.2.2.2.2.2.1 q.2.2.2.2.2.2.2.2.2.2.2.2.2.2.2.2.2.2.2.2.2.2.2.2.1 q.2.2.2.2.2.2.2.2.2.2.2.2.2.2.2.2.2.2.2.2.2.2.2.2.2.1 q.2.2.2.2.2.2.2.2.2.2.2.2.2.2.2.2.2.2.2.2.2.2.2.2.2.2.1 q.2.2.2.2.2.2.2.2.2.2.2.2.2.2.2.2.2.2.2.2.2.2.2.2.2.2.2) q.1 (va_A (vw8 cyI cyJ cyZ cyO a n_lands n_camphors n_there n_mothCells n_mothHeads n_threads n_sightNights n_sightCells n_sights n_night n_eaten p_signs p_size c_acts c_why c_passed c_townNight c_town f_lands f_camphors f_there f_mothCells f_mothHeads f_threads f_sightNights f_sightCells f_sights f_night f_eaten) sz)) 0 0 (va_A (vw8 cyI cyJ cyZ cyO a n_lands n_camphors n_there n_mothCells n_mothHeads n_threads n_sightNights n_sightCells n_sights n_night n_eaten p_signs p_size c_acts c_why c_passed c_townNight c_town f_lands f_camphors f_there f_mothCells f_mothHeads f_threads f_sightNights f_sightCells f_sights f_night f_eaten) sz) := by
  refine Met.ofW (cc := cX8_done) (maxL := 1) (ret := (some .int)) (by decide) rfl ?_
  intro p e s m args below meth c s₁ B hml hv
  obtain ⟨rfl, hsz, hP, hK, hD0, hN⟩ := hv
  have hx := B.exec
  have hb := B.bytes
  have hr := B.returns
  have hT : ∀ w ∈ tbG, w.before ([.ref (a 0 0)] : List Value).toArray s = true := fun w h => atoms_spec (ws := (Cond.code yX8_done cX8_done 1 (some .int) :: tbG)) B.pre w (List.mem_cons_of_mem _ h)
  have hown : s.vm.findClass RX8 = some m.cls := findClass_of_methodNamed B.named
  have hlocks := B.notSynchronized
  subst hsz
  have hD := hD0.self (sz := s.heap.size)
  generalize hAe : va_A (vw8 cyI cyJ cyZ cyO a n_lands n_camphors n_there n_mothCells n_mothHeads n_threads n_sightNights n_sightCells n_sights n_night n_eaten p_signs p_size c_acts c_why c_passed c_townNight c_town f_lands f_camphors f_there f_mothCells f_mothHeads f_threads f_sightNights f_sightCells f_sights f_night f_eaten) s.heap.size = A at hD ⊢
  have hA : ∀ q : Nat, s.heap.size ≤ q → A q := fun q h => by rw [← hAe]; exact Or.inr h
  have hS : va_S A s.heap s.heap [] := va_S.rf
  show W p l e ({ frames := 6, cells := 0, slots := 0, locals := 134 } : Room) s m ([.ref (a 0 0)] : List Value).toArray below meth c s.heap [] 0 0 (MQ below (qI D (vw8 cyI cyJ cyZ cyO a q.2.1 q.2.2.1 q.2.2.2.1 q.2.2.2.2.1 q.2.2.2.2.2.1 q.2.2.2.2.2.2.1 q.2.2.2.2.2.2.2.1 q.2.2.2.2.2.2.2.2.1 q.2.2.2.2.2.2.2.2.2.1 q.2.2.2.2.2.2.2.2.2.2.1 n_eaten p_signs q.2.2.2.2.2.2.2.2.2.2.2.1 q.2.2.2.2.2.2.2.2.2.2.2.2.1 q.2.2.2.2.2.2.2.2.2.2.2.2.2.1 q.2.2.2.2.2.2.2.2.2.2.2.2.2.2.1 q.2.2.2.2.2.2.2.2.2.2.2.2.2.2.2.1 q.2.2.2.2.2.2.2.2.2.2.2.2.2.2.2.2.1 q.2.2.2.2.2.2.2.2.2.2.2.2.2.2.2.2.2.1 q.2.2.2.2.2.2.2.2.2.2.2.2.2.2.2.2.2.2.1 q.2.2.2.2.2.2.2.2.2.2.2.2.2.2.2.2.2.2.2.1 q.2.2.2.2.2.2.2.2.2.2.2.2.2.2.2.2.2.2.2.2.1 q.2.2.2.2.2.2.2.2.2.2.2.2.2.2.2.2.2.2.2.2.2.1 q.2.2.2.2.2.2.2.2.2.2.2.2.2.2.2.2.2.2.2.2.2.2.1 q.2.2.2.2.2.2.2.2.2.2.2.2.2.2.2.2.2.2.2.2.2.2.2.1 q.2.2.2.2.2.2.2.2.2.2.2.2.2.2.2.2.2.2.2.2.2.2.2.2.1 q.2.2.2.2.2.2.2.2.2.2.2.2.2.2.2.2.2.2.2.2.2.2.2.2.2.1 q.2.2.2.2.2.2.2.2.2.2.2.2.2.2.2.2.2.2.2.2.2.2.2.2.2.2.1 q.2.2.2.2.2.2.2.2.2.2.2.2.2.2.2.2.2.2.2.2.2.2.2.2.2.2.2) q.1 A) ([.ref (a 0 0)] : List Value).toArray s 0 0 A) _
  have main : ∀ (H : Heap) (locs : List Loc) (ls : Array Slot), va_P D vwCl (vw8 cyI cyJ cyZ cyO a n_lands n_camphors n_there n_mothCells n_mothHeads n_threads n_sightNights n_sightCells n_sights n_night n_eaten p_signs p_size c_acts c_why c_passed c_townNight c_town f_lands f_camphors f_there f_mothCells f_mothHeads f_threads f_sightNights f_sightCells f_sights f_night f_eaten) H → va_D A (vw8 cyI cyJ cyZ cyO a n_lands n_camphors n_there n_mothCells n_mothHeads n_threads n_sightNights n_sightCells n_sights n_night n_eaten p_signs p_size c_acts c_why c_passed c_townNight c_town f_lands f_camphors f_there f_mothCells f_mothHeads f_threads f_sightNights f_sightCells f_sights f_night f_eaten) → va_S A s.heap H locs → lv_has ls 1 [(0, .ref (a 0 0))] → W p l e ({ frames := 6, cells := 0, slots := 0, locals := 134 } : Room) s m ([.ref (a 0 0)] : List Value).toArray below meth c H locs 0 0 (MQ below (qI D (vw8 cyI cyJ cyZ cyO a q.2.1 q.2.2.1 q.2.2.2.1 q.2.2.2.2.1 q.2.2.2.2.2.1 q.2.2.2.2.2.2.1 q.2.2.2.2.2.2.2.1 q.2.2.2.2.2.2.2.2.1 q.2.2.2.2.2.2.2.2.2.1 q.2.2.2.2.2.2.2.2.2.2.1 n_eaten p_signs q.2.2.2.2.2.2.2.2.2.2.2.1 q.2.2.2.2.2.2.2.2.2.2.2.2.1 q.2.2.2.2.2.2.2.2.2.2.2.2.2.1 q.2.2.2.2.2.2.2.2.2.2.2.2.2.2.1 q.2.2.2.2.2.2.2.2.2.2.2.2.2.2.2.1 q.2.2.2.2.2.2.2.2.2.2.2.2.2.2.2.2.1 q.2.2.2.2.2.2.2.2.2.2.2.2.2.2.2.2.2.1 q.2.2.2.2.2.2.2.2.2.2.2.2.2.2.2.2.2.2.1 q.2.2.2.2.2.2.2.2.2.2.2.2.2.2.2.2.2.2.2.1 q.2.2.2.2.2.2.2.2.2.2.2.2.2.2.2.2.2.2.2.2.1 q.2.2.2.2.2.2.2.2.2.2.2.2.2.2.2.2.2.2.2.2.2.1 q.2.2.2.2.2.2.2.2.2.2.2.2.2.2.2.2.2.2.2.2.2.2.1 q.2.2.2.2.2.2.2.2.2.2.2.2.2.2.2.2.2.2.2.2.2.2.2.1 q.2.2.2.2.2.2.2.2.2.2.2.2.2.2.2.2.2.2.2.2.2.2.2.2.1 q.2.2.2.2.2.2.2.2.2.2.2.2.2.2.2.2.2.2.2.2.2.2.2.2.2.1 q.2.2.2.2.2.2.2.2.2.2.2.2.2.2.2.2.2.2.2.2.2.2.2.2.2.2.1 q.2.2.2.2.2.2.2.2.2.2.2.2.2.2.2.2.2.2.2.2.2.2.2.2.2.2.2) q.1 A) ([.ref (a 0 0)] : List Value).toArray s 0 0 A) (F0 m 0 ls []) := by
    intro H locs ls hP hD hS hl
    unfold g_X8_done at hf
    refine lv_aload_n hx hb dX8_done_0 rfl (lv_at hl 0 rfl) ?_
    obtain ⟨q1, hq1, hf⟩ := bd_some hf
    have hC : [0, 1, 2, 3, 4, 5, 6, 7, 8, 9, 10, 11, 12, 13, 14, 15, 16, 17, 18, 19, 20, 21].map (fun i => (vw8 cyI cyJ cyZ cyO a n_lands n_camphors n_there n_mothCells n_mothHeads n_threads n_sightNights n_sightCells n_sights n_night n_eaten p_signs p_size c_acts c_why c_passed c_townNight c_town f_lands f_camphors f_there f_mothCells f_mothHeads f_threads f_sightNights f_sightCells f_sights f_night f_eaten)[i]?) = (vw8 cyI cyJ cyZ cyO a n_lands n_camphors n_there n_mothCells n_mothHeads n_threads n_sightNights n_sightCells n_sights n_night n_eaten p_signs p_size c_acts c_why c_passed c_townNight c_town f_lands f_camphors f_there f_mothCells f_mothHeads f_threads f_sightNights f_sightCells f_sights f_night f_eaten).map some := rfl
    refine cl_i (rn_V (As := []) (rest := []) (C := RX8) hx hb hml hown hT hK hN hP hD [0, 1, 2, 3, 4, 5, 6, 7, 8, 9, 10, 11, 12, 13, 14, 15, 16, 17, 18, 19, 20, 21] hC rfl (c_X8_nightsCanBe l D cyI cyJ cyZ cyO a H.size n_lands n_camphors n_there n_mothCells n_mothHeads n_threads n_sightNights n_sightCells n_sights n_night n_eaten p_signs p_size c_acts c_why c_passed c_townNight c_town f_lands f_camphors f_there f_mothCells f_mothHeads f_threads f_sightNights f_sightCells f_sights f_night f_eaten nf q1 hq1) wm_X8_145 wi_X8_nightsCanBe wl_X8_nightsCanBe wz_X8 wc_X8_nightsCanBe hd_X8_nightsCanBe ⟨rfl, rfl⟩ ⟨Nat.le_of_ble_eq_true rfl, Nat.le_of_ble_eq_true rfl⟩ (q0 := 0) (ci := 8) rfl rfl rfl rfl hl.1 rfl (Nat.le_of_ble_eq_true rfl) dX8_done_1 ⟨Nat.zero_le _, Nat.zero_le _⟩) hP hD hS hA [0, 1, 2, 3, 4, 5, 6, 7, 8, 9, 10, 11, 12, 13, 14, 15, 16, 17, 18, 19, 20, 21] hC [(true, 0), (true, 1), (true, 2), (true, 3), (true, 4), (true, 5), (true, 6), (true, 7), (true, 8), (true, 9), (true, 10), (true, 11), (true, 12), (true, 13), (true, 14), (true, 15), (true, 16), (true, 17), (true, 18), (true, 19), (true, 20), (true, 21)] (ws' := vw8 cyI cyJ cyZ cyO a n_lands n_camphors n_there n_mothCells n_mothHeads n_threads n_sightNights n_sightCells n_sights n_night n_eaten p_signs p_size q1.2.1 q1.2.2.1 q1.2.2.2.1 q1.2.2.2.2.1 q1.2.2.2.2.2.1 q1.2.2.2.2.2.2.1 q1.2.2.2.2.2.2.2.1 q1.2.2.2.2.2.2.2.2.1 q1.2.2.2.2.2.2.2.2.2.1 q1.2.2.2.2.2.2.2.2.2.2.1 q1.2.2.2.2.2.2.2.2.2.2.2.1 q1.2.2.2.2.2.2.2.2.2.2.2.2.1 q1.2.2.2.2.2.2.2.2.2.2.2.2.2.1 q1.2.2.2.2.2.2.2.2.2.2.2.2.2.2.1 q1.2.2.2.2.2.2.2.2.2.2.2.2.2.2.2.1 q1.2.2.2.2.2.2.2.2.2.2.2.2.2.2.2.2) rfl rfl rfl (fun H locs hP hD hS => ?_)
    refine lv_if_ne (tgt := 10) hx hb dX8_done_4 (by decide) (fun cc => ?_) (fun cc => ?_)
    · replace hf := if_f cc hf
      refine lv_aload_n hx hb dX8_done_10 rfl (lv_at hl 0 rfl) ?_
      refine va_get (ci := 8) (v := .ref ((a 1) 0)) (C := RX8) (T := TX8) (N := 11) hx hb hT hin_X8 hown hK hP 0 rfl rfl 0 (by decide) (hT _ wf_X8_10) (fun _ h9 => h9) rfl dX8_done_11 ?_
      refine lv_aload_n hx hb dX8_done_14 rfl (lv_at hl 0 rfl) ?_
      refine va_get (ci := 8) (v := .ref (a 6 0)) (C := RX8) (T := TX8) (N := 11) hx hb hT hin_X8 hown hK hP 0 rfl rfl 5 (by decide) (hT _ wf_X8_37) (fun _ h9 => h9) rfl dX8_done_15 ?_
      refine va_get (ci := 4) (v := .ref ((a 7) 0)) (C := RX4) (T := TX4) (N := 6) hx hb hT hin_X4 hown hK hP 12 rfl rfl 0 (by decide) (hT _ wf_X8_149) (fun _ h9 => h9) rfl dX8_done_18 ?_
      obtain ⟨q2, hq2, hf⟩ := bd_some hf
      have hC : [1, 2, 3, 4, 5, 6, 7, 8, 9, 13, 14, 15, 16, 17, 18, 19, 20, 21].map (fun i => (vw8 cyI cyJ cyZ cyO a n_lands n_camphors n_there n_mothCells n_mothHeads n_threads n_sightNights n_sightCells n_sights n_night n_eaten p_signs p_size q1.2.1 q1.2.2.1 q1.2.2.2.1 q1.2.2.2.2.1 q1.2.2.2.2.2.1 q1.2.2.2.2.2.2.1 q1.2.2.2.2.2.2.2.1 q1.2.2.2.2.2.2.2.2.1 q1.2.2.2.2.2.2.2.2.2.1 q1.2.2.2.2.2.2.2.2.2.2.1 q1.2.2.2.2.2.2.2.2.2.2.2.1 q1.2.2.2.2.2.2.2.2.2.2.2.2.1 q1.2.2.2.2.2.2.2.2.2.2.2.2.2.1 q1.2.2.2.2.2.2.2.2.2.2.2.2.2.2.1 q1.2.2.2.2.2.2.2.2.2.2.2.2.2.2.2.1 q1.2.2.2.2.2.2.2.2.2.2.2.2.2.2.2.2)[i]?) = (vw1 cyI cyJ cyZ cyO (a 1) (a 7) n_lands n_camphors n_there n_mothCells n_mothHeads n_threads n_sightNights n_sightCells n_sights n_night n_eaten q1.2.2.2.2.2.2.1 q1.2.2.2.2.2.2.2.1 q1.2.2.2.2.2.2.2.2.1 q1.2.2.2.2.2.2.2.2.2.1 q1.2.2.2.2.2.2.2.2.2.2.1 q1.2.2.2.2.2.2.2.2.2.2.2.1 q1.2.2.2.2.2.2.2.2.2.2.2.2.1 q1.2.2.2.2.2.2.2.2.2.2.2.2.2.1 q1.2.2.2.2.2.2.2.2.2.2.2.2.2.2.1 q1.2.2.2.2.2.2.2.2.2.2.2.2.2.2.2.1 q1.2.2.2.2.2.2.2.2.2.2.2.2.2.2.2.2).map some := rfl
      refine cl_v (rn_V (As := [.ref ((a 7) 0)]) (rest := []) (C := RX1) hx hb hml hown hT hK hN hP hD [1, 2, 3, 4, 5, 6, 7, 8, 9, 13, 14, 15, 16, 17, 18, 19, 20, 21] hC rfl (c_X1_become l D cyI cyJ cyZ cyO (a 1) (a 7) H.size n_lands n_camphors n_there n_mothCells n_mothHeads n_threads n_sightNights n_sightCells n_sights n_night n_eaten q1.2.2.2.2.2.2.1 q1.2.2.2.2.2.2.2.1 q1.2.2.2.2.2.2.2.2.1 q1.2.2.2.2.2.2.2.2.2.1 q1.2.2.2.2.2.2.2.2.2.2.1 q1.2.2.2.2.2.2.2.2.2.2.2.1 q1.2.2.2.2.2.2.2.2.2.2.2.2.1 q1.2.2.2.2.2.2.2.2.2.2.2.2.2.1 q1.2.2.2.2.2.2.2.2.2.2.2.2.2.2.1 q1.2.2.2.2.2.2.2.2.2.2.2.2.2.2.2.1 q1.2.2.2.2.2.2.2.2.2.2.2.2.2.2.2.2 nf q2 hq2) wm_X8_152 wi_X1_become wl_X1_become wz_X1 wc_X1_become hd_X1_become ⟨rfl, rfl⟩ ⟨Nat.le_of_ble_eq_true rfl, Nat.le_of_ble_eq_true rfl⟩ (q0 := 0) (ci := 1) rfl rfl rfl rfl hl.1 rfl (Nat.le_of_ble_eq_true rfl) dX8_done_21 ⟨Nat.zero_le _, Nat.zero_le _⟩) hP hD hS hA [1, 2, 3, 4, 5, 6, 7, 8, 9, 13, 14, 15, 16, 17, 18, 19, 20, 21] hC [(false, 0), (true, 0), (true, 1), (true, 2), (true, 3), (true, 4), (true, 5), (true, 6), (true, 7), (true, 8), (false, 10), (false, 11), (false, 12), (true, 9), (true, 10), (true, 11), (true, 12), (true, 13), (true, 14), (true, 15), (true, 16), (true, 17)] (ws' := vw8 cyI cyJ cyZ cyO a q2.1 q2.2.1 q2.2.2.1 q2.2.2.2.1 q2.2.2.2.2.1 q2.2.2.2.2.2.1 q2.2.2.2.2.2.2.1 q2.2.2.2.2.2.2.2.1 q2.2.2.2.2.2.2.2.2.1 q2.2.2.2.2.2.2.2.2.2 n_eaten p_signs p_size q1.2.1 q1.2.2.1 q1.2.2.2.1 q1.2.2.2.2.1 q1.2.2.2.2.2.1 q1.2.2.2.2.2.2.1 q1.2.2.2.2.2.2.2.1 q1.2.2.2.2.2.2.2.2.1 q1.2.2.2.2.2.2.2.2.2.1 q1.2.2.2.2.2.2.2.2.2.2.1 q1.2.2.2.2.2.2.2.2.2.2.2.1 q1.2.2.2.2.2.2.2.2.2.2.2.2.1 q1.2.2.2.2.2.2.2.2.2.2.2.2.2.1 q1.2.2.2.2.2.2.2.2.2.2.2.2.2.2.1 q1.2.2.2.2.2.2.2.2.2.2.2.2.2.2.2.1 q1.2.2.2.2.2.2.2.2.2.2.2.2.2.2.2.2) rfl rfl rfl (fun H locs hP hD hS => ?_)
      refine lv_aload_n hx hb dX8_done_24 rfl (lv_at hl 0 rfl) ?_
      refine va_get (ci := 8) (v := .ref ((a 5) 0)) (C := RX8) (T := TX8) (N := 11) hx hb hT hin_X8 hown hK hP 0 rfl rfl 4 (by decide) (hT _ wf_X8_30) (fun _ h9 => h9) rfl dX8_done_25 ?_
      obtain ⟨q3, hq3, hf⟩ := bd_some hf
      have hC : [10, 11].map (fun i => (vw8 cyI cyJ cyZ cyO a q2.1 q2.2.1 q2.2.2.1 q2.2.2.2.1 q2.2.2.2.2.1 q2.2.2.2.2.2.1 q2.2.2.2.2.2.2.1 q2.2.2.2.2.2.2.2.1 q2.2.2.2.2.2.2.2.2.1 q2.2.2.2.2.2.2.2.2.2 n_eaten p_signs p_size q1.2.1 q1.2.2.1 q1.2.2.2.1 q1.2.2.2.2.1 q1.2.2.2.2.2.1 q1.2.2.2.2.2.2.1 q1.2.2.2.2.2.2.2.1 q1.2.2.2.2.2.2.2.2.1 q1.2.2.2.2.2.2.2.2.2.1 q1.2.2.2.2.2.2.2.2.2.2.1 q1.2.2.2.2.2.2.2.2.2.2.2.1 q1.2.2.2.2.2.2.2.2.2.2.2.2.1 q1.2.2.2.2.2.2.2.2.2.2.2.2.2.1 q1.2.2.2.2.2.2.2.2.2.2.2.2.2.2.1 q1.2.2.2.2.2.2.2.2.2.2.2.2.2.2.2.1 q1.2.2.2.2.2.2.2.2.2.2.2.2.2.2.2.2)[i]?) = (wX5 cyI cyJ cyZ cyO (a 5) p_signs p_size).map some := rfl
      refine cl_i (rn_V (As := []) (rest := []) (C := RX5) hx hb hml hown hT hK hN hP hD [10, 11] hC rfl (c_X5_clear l D cyI cyJ cyZ cyO (a 5) H.size p_signs p_size nf q3 hq3) wm_X8_129 wi_X5_clear wl_X5_clear wz_X5 wc_X5_clear hd_X5_clear ⟨rfl, rfl⟩ ⟨Nat.le_of_ble_eq_true rfl, Nat.le_of_ble_eq_true rfl⟩ (q0 := 0) (ci := 5) rfl rfl rfl rfl hl.1 rfl (Nat.le_of_ble_eq_true rfl) dX8_done_28 ⟨Nat.zero_le _, Nat.zero_le _⟩) hP hD hS hA [10, 11] hC [(false, 0), (false, 1), (false, 2), (false, 3), (false, 4), (false, 5), (false, 6), (false, 7), (false, 8), (false, 9), (true, 0), (true, 1), (false, 12), (false, 13), (false, 14), (false, 15), (false, 16), (false, 17), (false, 18), (false, 19), (false, 20), (false, 21)] (ws' := vw8 cyI cyJ cyZ cyO a q2.1 q2.2.1 q2.2.2.1 q2.2.2.2.1 q2.2.2.2.2.1 q2.2.2.2.2.2.1 q2.2.2.2.2.2.2.1 q2.2.2.2.2.2.2.2.1 q2.2.2.2.2.2.2.2.2.1 q2.2.2.2.2.2.2.2.2.2 n_eaten p_signs q3.2 q1.2.1 q1.2.2.1 q1.2.2.2.1 q1.2.2.2.2.1 q1.2.2.2.2.2.1 q1.2.2.2.2.2.2.1 q1.2.2.2.2.2.2.2.1 q1.2.2.2.2.2.2.2.2.1 q1.2.2.2.2.2.2.2.2.2.1 q1.2.2.2.2.2.2.2.2.2.2.1 q1.2.2.2.2.2.2.2.2.2.2.2.1 q1.2.2.2.2.2.2.2.2.2.2.2.2.1 q1.2.2.2.2.2.2.2.2.2.2.2.2.2.1 q1.2.2.2.2.2.2.2.2.2.2.2.2.2.2.1 q1.2.2.2.2.2.2.2.2.2.2.2.2.2.2.2.1 q1.2.2.2.2.2.2.2.2.2.2.2.2.2.2.2.2) rfl rfl rfl (fun H locs hP hD hS => ?_)
      refine lv_pop hx hb dX8_done_31 rfl ?_
      refine lv_aload_n hx hb dX8_done_32 rfl (lv_at hl 0 rfl) ?_
      refine va_get (ci := 8) (v := .ref (a 6 0)) (C := RX8) (T := TX8) (N := 11) hx hb hT hin_X8 hown hK hP 0 rfl rfl 5 (by decide) (hT _ wf_X8_37) (fun _ h9 => h9) rfl dX8_done_33 ?_
      refine va_get (ci := 4) (v := .int q1.2.1) (C := RX4) (T := TX4) (N := 6) hx hb hT hin_X4 hown hK hP 12 rfl rfl 1 (by decide) (hT _ wf_X8_142) (fun _ h9 => h9) rfl dX8_done_36 ?_
      cases Option.some.inj hf
      exact W.iret hx hb hr (fun t ht hW => ⟨⟨_, (), rfl, rfl, by show va_P D vwCl _ t.heap; rw [ht]; exact hP⟩, hS.F ht⟩) hS.2.2 dX8_done_39
    · replace hf := if_t cc hf
      refine lv_bipush (v := (-5)) hx hb dX8_done_7 (by decide) ?_
      cases Option.some.inj hf
      exact W.iret hx hb hr (fun t ht hW => ⟨⟨_, (), rfl, rfl, by show va_P D vwCl _ t.heap; rw [ht]; exact hP⟩, hS.F ht⟩) hS.2.2 dX8_done_9
  have hl := lv_entry ([.ref (a 0 0)]) (n := 1) (Nat.le_of_ble_eq_true rfl)
  rw [lg_entry_eq]
  exact main s.heap [] _ hP hD hS hl
theorem hd_X8_behind : yX8_behind.cls = RX8 ∧ yX8_behind.cls ≠ "java/lang/invoke/MethodHandle" ∧ yX8_behind.cls ≠ "java/lang/invoke/VarHandle" ∧ (parseMethodDescriptor yX8_behind.desc).map (fun d => d.parameters.length) = some 2 := by decide +kernel
set_option maxHeartbeats 4000000 in
set_option maxRecDepth 100000 in
theorem c_X8_behind (l : Launch) (D : va_G) (cyI cyJ cyZ cyO : ClassId) (a : Nat → Nat → Nat) (sz : Nat) (n_lands : Nat → Int32) (n_camphors : Nat → Int32) (n_there : Nat → Int32) (n_mothCells : Nat → Int32) (n_mothHeads : Nat → Int32) (n_threads : Nat → Int32) (n_sightNights : Nat → Int32) (n_sightCells : Nat → Int32) (n_sights : Int32) (n_night : Int32) (n_eaten : Int32) (p_signs : Nat → Int32) (p_size : Int32) (c_acts : Int32) (c_why : Int32) (c_passed : Int32) (c_townNight : Int32) (c_town : Int32) (f_lands : Nat → Int32) (f_camphors : Nat → Int32) (f_there : Nat → Int32) (f_mothCells : Nat → Int32) (f_mothHeads : Nat → Int32) (f_threads : Nat → Int32) (f_sightNights : Nat → Int32) (f_sightCells : Nat → Int32) (f_sights : Int32) (f_night : Int32) (f_eaten : Int32) (p1 : Int32) (p2 : Int32) (nf : Nat) (q : Int32 × Int32 × Int32 × Int32 × Int32 × Int32 × (Nat → Int32) × (Nat → Int32) × (Nat → Int32) × (Nat → Int32) × (Nat → Int32) × (Nat → Int32) × (Nat → Int32) × (Nat → Int32) × Int32 × Int32 × Int32) (hf : g_X8_behind nf p1 p2 n_lands n_camphors n_there n_mothCells n_mothHeads n_threads n_sightNights n_sightCells n_sights n_night p_signs p_size c_acts c_why c_passed c_townNight c_town f_lands f_camphors f_there f_mothCells f_mothHeads f_threads f_sightNights f_sightCells f_sights f_night f_eaten = some q) : Met l yX8_behind (Cond.code yX8_behind cX8_behind 3 (some .int) :: tbG) ({ frames := 6, cells := 0, slots := 0, locals := 134 } : Room) (va_Pc [.ref (a 0 0), .int p1, .int p2] (pcB D (ty4 cyI cyJ cyZ cyO) sz (vw8 cyI cyJ cyZ cyO a n_lands n_camphors n_there n_mothCells n_mothHeads n_threads n_sightNights n_sightCells n_sights n_night n_eaten p_signs p_size c_acts c_why c_passed c_townNight c_town f_lands f_camphors f_there f_mothCells f_mothHeads f_threads f_sightNights f_sightCells f_sights f_night f_eaten))) (qI D (vw8 cyI cyJ cyZ cyO a n_lands n_camphors n_there n_mothCells n_mothHeads n_threads n_sightNights n_sightCells n_sights n_night n_eaten p_signs p_size q.2.1 q.2.2.1 q.2.2.2.1 q.2.2.2.2.1 q.2.2.2.2.2.1 q.2.2.2.2.2.2.1 q.2.2.2.2.2.2.2.1 q.2.2.2.2.2.2.2.2.1 q.2.2.2.2.2.2.2.2.2.1 q.2.2.2.2.2.2.2.2.2.2.1 q.2.2.2.2.2.2.2.2.2.2.2.1 q.2.2.2.2.2.2.2.2.2.2.2.2.1 q.2.2.2.2.2.2.2.2.2.2.2.2.2.1 q.2.2.2.2.2.2.2.2.2.2.2.2.2.2.1 q.2.2.2.2.2.2.2.2.2.2.2.2.2.2.2.1 q.2.2.2.2.2.2.2.2.2.2.2.2.2.2.2.2) q.1 (va_A (vw8 cyI cyJ cyZ cyO a n_lands n_camphors n_there n_mothCells n_mothHeads n_threads n_sightNights n_sightCells n_sights n_night n_eaten p_signs p_size c_acts c_why c_passed c_townNight c_town f_lands f_camphors f_there f_mothCells f_mothHeads f_threads f_sightNights f_sightCells f_sights f_night f_eaten) sz)) 0 0 (va_A (vw8 cyI cyJ cyZ cyO a n_lands n_camphors n_there n_mothCells n_mothHeads n_threads n_sightNights n_sightCells n_sights n_night n_eaten p_signs p_size c_acts c_why c_passed c_townNight c_town f_lands f_camphors f_there f_mothCells f_mothHeads f_threads f_sightNights f_sightCells f_sights f_night f_eaten) sz) := by
  refine Met.ofW (cc := cX8_behind) (maxL := 3) (ret := (some .int)) (by decide) rfl ?_
  intro p e s m args below meth c s₁ B hml hv
  obtain ⟨rfl, hsz, hP, hK, hD0, hN⟩ := hv
  have hx := B.exec
  have hb := B.bytes
  have hr := B.returns
  have hT : ∀ w ∈ tbG, w.before ([.ref (a 0 0), .int p1, .int p2] : List Value).toArray s = true := fun w h => atoms_spec (ws := (Cond.code yX8_behind cX8_behind 3 (some .int) :: tbG)) B.pre w (List.mem_cons_of_mem _ h)
  have hown : s.vm.findClass RX8 = some m.cls := findClass_of_methodNamed B.named
  have hlocks := B.notSynchronized
  subst hsz
  have hD := hD0.self (sz := s.heap.size)
  generalize hAe : va_A (vw8 cyI cyJ cyZ cyO a n_lands n_camphors n_there n_mothCells n_mothHeads n_threads n_sightNights n_sightCells n_sights n_night n_eaten p_signs p_size c_acts c_why c_passed c_townNight c_town f_lands f_camphors f_there f_mothCells f_mothHeads f_threads f_sightNights f_sightCells f_sights f_night f_eaten) s.heap.size = A at hD ⊢
  have hA : ∀ q : Nat, s.heap.size ≤ q → A q := fun q h => by rw [← hAe]; exact Or.inr h
  have hS : va_S A s.heap s.heap [] := va_S.rf
  show W p l e ({ frames := 6, cells := 0, slots := 0, locals := 134 } : Room) s m ([.ref (a 0 0), .int p1, .int p2] : List Value).toArray below meth c s.heap [] 0 0 (MQ below (qI D (vw8 cyI cyJ cyZ cyO a n_lands n_camphors n_there n_mothCells n_mothHeads n_threads n_sightNights n_sightCells n_sights n_night n_eaten p_signs p_size q.2.1 q.2.2.1 q.2.2.2.1 q.2.2.2.2.1 q.2.2.2.2.2.1 q.2.2.2.2.2.2.1 q.2.2.2.2.2.2.2.1 q.2.2.2.2.2.2.2.2.1 q.2.2.2.2.2.2.2.2.2.1 q.2.2.2.2.2.2.2.2.2.2.1 q.2.2.2.2.2.2.2.2.2.2.2.1 q.2.2.2.2.2.2.2.2.2.2.2.2.1 q.2.2.2.2.2.2.2.2.2.2.2.2.2.1 q.2.2.2.2.2.2.2.2.2.2.2.2.2.2.1 q.2.2.2.2.2.2.2.2.2.2.2.2.2.2.2.1 q.2.2.2.2.2.2.2.2.2.2.2.2.2.2.2.2) q.1 A) ([.ref (a 0 0), .int p1, .int p2] : List Value).toArray s 0 0 A) _
  have main : ∀ (H : Heap) (locs : List Loc) (ls : Array Slot), va_P D vwCl (vw8 cyI cyJ cyZ cyO a n_lands n_camphors n_there n_mothCells n_mothHeads n_threads n_sightNights n_sightCells n_sights n_night n_eaten p_signs p_size c_acts c_why c_passed c_townNight c_town f_lands f_camphors f_there f_mothCells f_mothHeads f_threads f_sightNights f_sightCells f_sights f_night f_eaten) H → va_D A (vw8 cyI cyJ cyZ cyO a n_lands n_camphors n_there n_mothCells n_mothHeads n_threads n_sightNights n_sightCells n_sights n_night n_eaten p_signs p_size c_acts c_why c_passed c_townNight c_town f_lands f_camphors f_there f_mothCells f_mothHeads f_threads f_sightNights f_sightCells f_sights f_night f_eaten) → va_S A s.heap H locs → lv_has ls 3 [(0, .ref (a 0 0)), (1, .int p1), (2, .int p2)] → W p l e ({ frames := 6, cells := 0, slots := 0, locals := 134 } : Room) s m ([.ref (a 0 0), .int p1, .int p2] : List Value).toArray below meth c H locs 0 0 (MQ below (qI D (vw8 cyI cyJ cyZ cyO a n_lands n_camphors n_there n_mothCells n_mothHeads n_threads n_sightNights n_sightCells n_sights n_night n_eaten p_signs p_size q.2.1 q.2.2.1 q.2.2.2.1 q.2.2.2.2.1 q.2.2.2.2.2.1 q.2.2.2.2.2.2.1 q.2.2.2.2.2.2.2.1 q.2.2.2.2.2.2.2.2.1 q.2.2.2.2.2.2.2.2.2.1 q.2.2.2.2.2.2.2.2.2.2.1 q.2.2.2.2.2.2.2.2.2.2.2.1 q.2.2.2.2.2.2.2.2.2.2.2.2.1 q.2.2.2.2.2.2.2.2.2.2.2.2.2.1 q.2.2.2.2.2.2.2.2.2.2.2.2.2.2.1 q.2.2.2.2.2.2.2.2.2.2.2.2.2.2.2.1 q.2.2.2.2.2.2.2.2.2.2.2.2.2.2.2.2) q.1 A) ([.ref (a 0 0), .int p1, .int p2] : List Value).toArray s 0 0 A) (F0 m 0 ls []) := by
    intro H locs ls hP hD hS hl
    unfold g_X8_behind at hf
    refine lv_iload_n hx hb dX8_behind_0 rfl (lv_at hl 1 rfl) ?_
    obtain ⟨q1, hq1, hf⟩ := bd_some hf
    have hC : ([] : List Nat).map (fun i => (vw8 cyI cyJ cyZ cyO a n_lands n_camphors n_there n_mothCells n_mothHeads n_threads n_sightNights n_sightCells n_sights n_night n_eaten p_signs p_size c_acts c_why c_passed c_townNight c_town f_lands f_camphors f_there f_mothCells f_mothHeads f_threads f_sightNights f_sightCells f_sights f_night f_eaten)[i]?) = ([] : va_W).map some := rfl
    refine cl_i (rn_S (As := [.int p1]) (rest := []) hx hb hml hown hT hK hN hP hD [] hC rfl (c_X8_isCell l D cyI cyJ cyZ cyO H.size p1 nf q1 hq1) wm_X8_76 wt_X8_isCell wz_X8 wc_X8_isCell hd_X8_isCell ⟨rfl, rfl⟩ ⟨Nat.le_of_ble_eq_true rfl, Nat.le_of_ble_eq_true rfl⟩ rfl hl.1 rfl (Nat.le_of_ble_eq_true rfl) dX8_behind_1 ⟨Nat.zero_le _, Nat.zero_le _⟩) hP hD hS hA [] hC [(false, 0), (false, 1), (false, 2), (false, 3), (false, 4), (false, 5), (false, 6), (false, 7), (false, 8), (false, 9), (false, 10), (false, 11), (false, 12), (false, 13), (false, 14), (false, 15), (false, 16), (false, 17), (false, 18), (false, 19), (false, 20), (false, 21)] (ws' := vw8 cyI cyJ cyZ cyO a n_lands n_camphors n_there n_mothCells n_mothHeads n_threads n_sightNights n_sightCells n_sights n_night n_eaten p_signs p_size c_acts c_why c_passed c_townNight c_town f_lands f_camphors f_there f_mothCells f_mothHeads f_threads f_sightNights f_sightCells f_sights f_night f_eaten) rfl rfl rfl (fun H locs hP hD hS => ?_)
    refine lv_if_ne (tgt := 9) hx hb dX8_behind_4 (by decide) (fun cc => ?_) (fun cc => ?_)
    · replace hf := if_f cc hf
      refine lv_iload_n hx hb dX8_behind_9 rfl (lv_at hl 2 rfl) ?_
      refine lv_iconst (v := 0) hx hb dX8_behind_10 (by decide) ?_
      refine lv_iconst (v := 1) hx hb dX8_behind_11 (by decide) ?_
      obtain ⟨q2, hq2, hf⟩ := bd_some hf
      have hC : ([] : List Nat).map (fun i => (vw8 cyI cyJ cyZ cyO a n_lands n_camphors n_there n_mothCells n_mothHeads n_threads n_sightNights n_sightCells n_sights n_night n_eaten p_signs p_size c_acts c_why c_passed c_townNight c_town f_lands f_camphors f_there f_mothCells f_mothHeads f_threads f_sightNights f_sightCells f_sights f_night f_eaten)[i]?) = ([] : va_W).map some := rfl
      refine cl_i (rn_S (As := [.int p2, .int 0, .int 1]) (rest := []) hx hb hml hown hT hK hN hP hD [] hC rfl (c_X8_within l D cyI cyJ cyZ cyO H.size p2 0 1 nf q2 hq2) wm_X8_80 wt_X8_within wz_X8 wc_X8_within hd_X8_within ⟨rfl, rfl⟩ ⟨Nat.le_of_ble_eq_true rfl, Nat.le_of_ble_eq_true rfl⟩ rfl hl.1 rfl (Nat.le_of_ble_eq_true rfl) dX8_behind_12 ⟨Nat.zero_le _, Nat.zero_le _⟩) hP hD hS hA [] hC [(false, 0), (false, 1), (false, 2), (false, 3), (false, 4), (false, 5), (false, 6), (false, 7), (false, 8), (false, 9), (false, 10), (false, 11), (false, 12), (false, 13), (false, 14), (false, 15), (false, 16), (false, 17), (false, 18), (false, 19), (false, 20), (false, 21)] (ws' := vw8 cyI cyJ cyZ cyO a n_lands n_camphors n_there n_mothCells n_mothHeads n_threads n_sightNights n_sightCells n_sights n_night n_eaten p_signs p_size c_acts c_why c_passed c_townNight c_town f_lands f_camphors f_there f_mothCells f_mothHeads f_threads f_sightNights f_sightCells f_sights f_night f_eaten) rfl rfl rfl (fun H locs hP hD hS => ?_)
      refine lv_if_ne (tgt := 21) hx hb dX8_behind_15 (by decide) (fun cc => ?_) (fun cc => ?_)
      · replace hf := if_f cc hf
        refine lv_aload_n hx hb dX8_behind_21 rfl (lv_at hl 0 rfl) ?_
        obtain ⟨q3, hq3, hf⟩ := bd_some hf
        have hC : [0, 1, 2, 3, 4, 5, 6, 7, 8, 9, 10, 11, 12, 13, 14, 15, 16, 17, 18, 19, 20, 21].map (fun i => (vw8 cyI cyJ cyZ cyO a n_lands n_camphors n_there n_mothCells n_mothHeads n_threads n_sightNights n_sightCells n_sights n_night n_eaten p_signs p_size c_acts c_why c_passed c_townNight c_town f_lands f_camphors f_there f_mothCells f_mothHeads f_threads f_sightNights f_sightCells f_sights f_night f_eaten)[i]?) = (vw8 cyI cyJ cyZ cyO a n_lands n_camphors n_there n_mothCells n_mothHeads n_threads n_sightNights n_sightCells n_sights n_night n_eaten p_signs p_size c_acts c_why c_passed c_townNight c_town f_lands f_camphors f_there f_mothCells f_mothHeads f_threads f_sightNights f_sightCells f_sights f_night f_eaten).map some := rfl
        refine cl_i (rn_V (As := []) (rest := []) (C := RX8) hx hb hml hown hT hK hN hP hD [0, 1, 2, 3, 4, 5, 6, 7, 8, 9, 10, 11, 12, 13, 14, 15, 16, 17, 18, 19, 20, 21] hC rfl (c_X8_nightsCanBe l D cyI cyJ cyZ cyO a H.size n_lands n_camphors n_there n_mothCells n_mothHeads n_threads n_sightNights n_sightCells n_sights n_night n_eaten p_signs p_size c_acts c_why c_passed c_townNight c_town f_lands f_camphors f_there f_mothCells f_mothHeads f_threads f_sightNights f_sightCells f_sights f_night f_eaten nf q3 hq3) wm_X8_145 wi_X8_nightsCanBe wl_X8_nightsCanBe wz_X8 wc_X8_nightsCanBe hd_X8_nightsCanBe ⟨rfl, rfl⟩ ⟨Nat.le_of_ble_eq_true rfl, Nat.le_of_ble_eq_true rfl⟩ (q0 := 0) (ci := 8) rfl rfl rfl rfl hl.1 rfl (Nat.le_of_ble_eq_true rfl) dX8_behind_22 ⟨Nat.zero_le _, Nat.zero_le _⟩) hP hD hS hA [0, 1, 2, 3, 4, 5, 6, 7, 8, 9, 10, 11, 12, 13, 14, 15, 16, 17, 18, 19, 20, 21] hC [(true, 0), (true, 1), (true, 2), (true, 3), (true, 4), (true, 5), (true, 6), (true, 7), (true, 8), (true, 9), (true, 10), (true, 11), (true, 12), (true, 13), (true, 14), (true, 15), (true, 16), (true, 17), (true, 18), (true, 19), (true, 20), (true, 21)] (ws' := vw8 cyI cyJ cyZ cyO a n_lands n_camphors n_there n_mothCells n_mothHeads n_threads n_sightNights n_sightCells n_sights n_night n_eaten p_signs p_size q3.2.1 q3.2.2.1 q3.2.2.2.1 q3.2.2.2.2.1 q3.2.2.2.2.2.1 q3.2.2.2.2.2.2.1 q3.2.2.2.2.2.2.2.1 q3.2.2.2.2.2.2.2.2.1 q3.2.2.2.2.2.2.2.2.2.1 q3.2.2.2.2.2.2.2.2.2.2.1 q3.2.2.2.2.2.2.2.2.2.2.2.1 q3.2.2.2.2.2.2.2.2.2.2.2.2.1 q3.2.2.2.2.2.2.2.2.2.2.2.2.2.1 q3.2.2.2.2.2.2.2.2.2.2.2.2.2.2.1 q3.2.2.2.2.2.2.2.2.2.2.2.2.2.2.2.1 q3.2.2.2.2.2.2.2.2.2.2.2.2.2.2.2.2) rfl rfl rfl (fun H locs hP hD hS => ?_)
        refine lv_if_ne (tgt := 31) hx hb dX8_behind_25 (by decide) (fun cc => ?_) (fun cc => ?_)
        · replace hf := if_f cc hf
          refine lv_iload_n hx hb dX8_behind_31 rfl (lv_at hl 2 rfl) ?_
          refine lv_if_ne (tgt := 50) hx hb dX8_behind_32 (by decide) (fun cc => ?_) (fun cc => ?_)
          · replace hf := if_f cc hf
            refine lv_aload_n hx hb dX8_behind_50 rfl (lv_at hl 0 rfl) ?_
            refine va_get (ci := 8) (v := .ref (a 6 0)) (C := RX8) (T := TX8) (N := 11) hx hb hT hin_X8 hown hK hP 0 rfl rfl 5 (by decide) (hT _ wf_X8_37) (fun _ h9 => h9) rfl dX8_behind_51 ?_
            refine va_get (ci := 4) (v := .ref ((a 7) 0)) (C := RX4) (T := TX4) (N := 6) hx hb hT hin_X4 hown hK hP 12 rfl rfl 0 (by decide) (hT _ wf_X8_149) (fun _ h9 => h9) rfl dX8_behind_54 ?_
            refine va_get (ci := 1) (v := .ref ((a 7) 2)) (C := RX1) (T := TX1) (N := 11) hx hb hT hin_X1 hown hK hP 13 rfl rfl 1 (by decide) (hT _ wf_X8_88) (fun _ h9 => h9) rfl dX8_behind_57 ?_
            refine lv_iload_n hx hb dX8_behind_60 rfl (lv_at hl 1 rfl) ?_
            obtain ⟨hi, hf⟩ := ck_some hf
            refine va_iald hx hb hK hP 15 0 rfl rfl hi dX8_behind_61 ?_
            cases Option.some.inj hf
            exact W.iret hx hb hr (fun t ht hW => ⟨⟨_, (), rfl, rfl, by show va_P D vwCl _ t.heap; rw [ht]; exact hP⟩, hS.F ht⟩) hS.2.2 dX8_behind_62
          · replace hf := if_t cc hf
            refine lv_aload_n hx hb dX8_behind_35 rfl (lv_at hl 0 rfl) ?_
            refine va_get (ci := 8) (v := .ref (a 6 0)) (C := RX8) (T := TX8) (N := 11) hx hb hT hin_X8 hown hK hP 0 rfl rfl 5 (by decide) (hT _ wf_X8_37) (fun _ h9 => h9) rfl dX8_behind_36 ?_
            refine va_get (ci := 4) (v := .ref ((a 7) 0)) (C := RX4) (T := TX4) (N := 6) hx hb hT hin_X4 hown hK hP 12 rfl rfl 0 (by decide) (hT _ wf_X8_149) (fun _ h9 => h9) rfl dX8_behind_39 ?_
            refine va_get (ci := 1) (v := .ref ((a 7) 1)) (C := RX1) (T := TX1) (N := 11) hx hb hT hin_X1 hown hK hP 13 rfl rfl 0 (by decide) (hT _ wf_X8_84) (fun _ h9 => h9) rfl dX8_behind_42 ?_
            refine lv_iload_n hx hb dX8_behind_45 rfl (lv_at hl 1 rfl) ?_
            obtain ⟨hi, hf⟩ := ck_some hf
            refine va_iald hx hb hK hP 14 0 rfl rfl hi dX8_behind_46 ?_
            refine lv_goto (tgt := 62) hx hb dX8_behind_47 (by decide) ?_
            cases Option.some.inj hf
            exact W.iret hx hb hr (fun t ht hW => ⟨⟨_, (), rfl, rfl, by show va_P D vwCl _ t.heap; rw [ht]; exact hP⟩, hS.F ht⟩) hS.2.2 dX8_behind_62
        · replace hf := if_t cc hf
          refine lv_bipush (v := (-5)) hx hb dX8_behind_28 (by decide) ?_
          cases Option.some.inj hf
          exact W.iret hx hb hr (fun t ht hW => ⟨⟨_, (), rfl, rfl, by show va_P D vwCl _ t.heap; rw [ht]; exact hP⟩, hS.F ht⟩) hS.2.2 dX8_behind_30
      · replace hf := if_t cc hf
        refine lv_bipush (v := (-2)) hx hb dX8_behind_18 (by decide) ?_
        cases Option.some.inj hf
        exact W.iret hx hb hr (fun t ht hW => ⟨⟨_, (), rfl, rfl, by show va_P D vwCl _ t.heap; rw [ht]; exact hP⟩, hS.F ht⟩) hS.2.2 dX8_behind_20
    · replace hf := if_t cc hf
      refine lv_iconst (v := (-1)) hx hb dX8_behind_7 (by decide) ?_
      cases Option.some.inj hf
      exact W.iret hx hb hr (fun t ht hW => ⟨⟨_, (), rfl, rfl, by show va_P D vwCl _ t.heap; rw [ht]; exact hP⟩, hS.F ht⟩) hS.2.2 dX8_behind_8
  have hl := lv_entry ([.ref (a 0 0), .int p1, .int p2]) (n := 3) (Nat.le_of_ble_eq_true rfl)
  rw [lg_entry_eq]
  exact main s.heap [] _ hP hD hS hl
theorem hd_X8_flies : yX8_flies.cls = RX8 ∧ yX8_flies.cls ≠ "java/lang/invoke/MethodHandle" ∧ yX8_flies.cls ≠ "java/lang/invoke/VarHandle" ∧ (parseMethodDescriptor yX8_flies.desc).map (fun d => d.parameters.length) = some 2 := by decide +kernel
set_option maxHeartbeats 4000000 in
set_option maxRecDepth 100000 in
theorem c_X8_flies (l : Launch) (D : va_G) (cyI cyJ cyZ cyO : ClassId) (a : Nat → Nat → Nat) (sz : Nat) (n_lands : Nat → Int32) (n_camphors : Nat → Int32) (n_there : Nat → Int32) (n_mothCells : Nat → Int32) (n_mothHeads : Nat → Int32) (n_threads : Nat → Int32) (n_sightNights : Nat → Int32) (n_sightCells : Nat → Int32) (n_sights : Int32) (n_night : Int32) (n_eaten : Int32) (p_signs : Nat → Int32) (p_size : Int32) (c_acts : Int32) (c_why : Int32) (c_passed : Int32) (c_townNight : Int32) (c_town : Int32) (f_lands : Nat → Int32) (f_camphors : Nat → Int32) (f_there : Nat → Int32) (f_mothCells : Nat → Int32) (f_mothHeads : Nat → Int32) (f_threads : Nat → Int32) (f_sightNights : Nat → Int32) (f_sightCells : Nat → Int32) (f_sights : Int32) (f_night : Int32) (f_eaten : Int32) (p1 : Int32) (p2 : Int32) (nf : Nat) (q : Int32 × Int32 × Int32 × Int32 × Int32 × Int32 × (Nat → Int32) × (Nat → Int32) × (Nat → Int32) × (Nat → Int32) × (Nat → Int32) × (Nat → Int32) × (Nat → Int32) × (Nat → Int32) × Int32 × Int32 × Int32) (hf : g_X8_flies nf p1 p2 n_lands n_camphors n_there n_mothCells n_mothHeads n_threads n_sightNights n_sightCells n_sights n_night p_signs p_size c_acts c_why c_passed c_townNight c_town f_lands f_camphors f_there f_mothCells f_mothHeads f_threads f_sightNights f_sightCells f_sights f_night f_eaten = some q) : Met l yX8_flies (Cond.code yX8_flies cX8_flies 3 (some .int) :: tbG) ({ frames := 6, cells := 0, slots := 0, locals := 134 } : Room) (va_Pc [.ref (a 0 0), .int p1, .int p2] (pcB D (ty4 cyI cyJ cyZ cyO) sz (vw8 cyI cyJ cyZ cyO a n_lands n_camphors n_there n_mothCells n_mothHeads n_threads n_sightNights n_sightCells n_sights n_night n_eaten p_signs p_size c_acts c_why c_passed c_townNight c_town f_lands f_camphors f_there f_mothCells f_mothHeads f_threads f_sightNights f_sightCells f_sights f_night f_eaten))) (qI D (vw8 cyI cyJ cyZ cyO a n_lands n_camphors n_there n_mothCells n_mothHeads n_threads n_sightNights n_sightCells n_sights n_night n_eaten p_signs p_size q.2.1 q.2.2.1 q.2.2.2.1 q.2.2.2.2.1 q.2.2.2.2.2.1 q.2.2.2.2.2.2.1 q.2.2.2.2.2.2.2.1 q.2.2.2.2.2.2.2.2.1 q.2.2.2.2.2.2.2.2.2.1 q.2.2.2.2.2.2.2.2.2.2.1 q.2.2.2.2.2.2.2.2.2.2.2.1 q.2.2.2.2.2.2.2.2.2.2.2.2.1 q.2.2.2.2.2.2.2.2.2.2.2.2.2.1 q.2.2.2.2.2.2.2.2.2.2.2.2.2.2.1 q.2.2.2.2.2.2.2.2.2.2.2.2.2.2.2.1 q.2.2.2.2.2.2.2.2.2.2.2.2.2.2.2.2) q.1 (va_A (vw8 cyI cyJ cyZ cyO a n_lands n_camphors n_there n_mothCells n_mothHeads n_threads n_sightNights n_sightCells n_sights n_night n_eaten p_signs p_size c_acts c_why c_passed c_townNight c_town f_lands f_camphors f_there f_mothCells f_mothHeads f_threads f_sightNights f_sightCells f_sights f_night f_eaten) sz)) 0 0 (va_A (vw8 cyI cyJ cyZ cyO a n_lands n_camphors n_there n_mothCells n_mothHeads n_threads n_sightNights n_sightCells n_sights n_night n_eaten p_signs p_size c_acts c_why c_passed c_townNight c_town f_lands f_camphors f_there f_mothCells f_mothHeads f_threads f_sightNights f_sightCells f_sights f_night f_eaten) sz) := by
  refine Met.ofW (cc := cX8_flies) (maxL := 3) (ret := (some .int)) (by decide) rfl ?_
  intro p e s m args below meth c s₁ B hml hv
  obtain ⟨rfl, hsz, hP, hK, hD0, hN⟩ := hv
  have hx := B.exec
  have hb := B.bytes
  have hr := B.returns
  have hT : ∀ w ∈ tbG, w.before ([.ref (a 0 0), .int p1, .int p2] : List Value).toArray s = true := fun w h => atoms_spec (ws := (Cond.code yX8_flies cX8_flies 3 (some .int) :: tbG)) B.pre w (List.mem_cons_of_mem _ h)
  have hown : s.vm.findClass RX8 = some m.cls := findClass_of_methodNamed B.named
  have hlocks := B.notSynchronized
  subst hsz
  have hD := hD0.self (sz := s.heap.size)
  generalize hAe : va_A (vw8 cyI cyJ cyZ cyO a n_lands n_camphors n_there n_mothCells n_mothHeads n_threads n_sightNights n_sightCells n_sights n_night n_eaten p_signs p_size c_acts c_why c_passed c_townNight c_town f_lands f_camphors f_there f_mothCells f_mothHeads f_threads f_sightNights f_sightCells f_sights f_night f_eaten) s.heap.size = A at hD ⊢
  have hA : ∀ q : Nat, s.heap.size ≤ q → A q := fun q h => by rw [← hAe]; exact Or.inr h
  have hS : va_S A s.heap s.heap [] := va_S.rf
  show W p l e ({ frames := 6, cells := 0, slots := 0, locals := 134 } : Room) s m ([.ref (a 0 0), .int p1, .int p2] : List Value).toArray below meth c s.heap [] 0 0 (MQ below (qI D (vw8 cyI cyJ cyZ cyO a n_lands n_camphors n_there n_mothCells n_mothHeads n_threads n_sightNights n_sightCells n_sights n_night n_eaten p_signs p_size q.2.1 q.2.2.1 q.2.2.2.1 q.2.2.2.2.1 q.2.2.2.2.2.1 q.2.2.2.2.2.2.1 q.2.2.2.2.2.2.2.1 q.2.2.2.2.2.2.2.2.1 q.2.2.2.2.2.2.2.2.2.1 q.2.2.2.2.2.2.2.2.2.2.1 q.2.2.2.2.2.2.2.2.2.2.2.1 q.2.2.2.2.2.2.2.2.2.2.2.2.1 q.2.2.2.2.2.2.2.2.2.2.2.2.2.1 q.2.2.2.2.2.2.2.2.2.2.2.2.2.2.1 q.2.2.2.2.2.2.2.2.2.2.2.2.2.2.2.1 q.2.2.2.2.2.2.2.2.2.2.2.2.2.2.2.2) q.1 A) ([.ref (a 0 0), .int p1, .int p2] : List Value).toArray s 0 0 A) _
  have main : ∀ (H : Heap) (locs : List Loc) (ls : Array Slot), va_P D vwCl (vw8 cyI cyJ cyZ cyO a n_lands n_camphors n_there n_mothCells n_mothHeads n_threads n_sightNights n_sightCells n_sights n_night n_eaten p_signs p_size c_acts c_why c_passed c_townNight c_town f_lands f_camphors f_there f_mothCells f_mothHeads f_threads f_sightNights f_sightCells f_sights f_night f_eaten) H → va_D A (vw8 cyI cyJ cyZ cyO a n_lands n_camphors n_there n_mothCells n_mothHeads n_threads n_sightNights n_sightCells n_sights n_night n_eaten p_signs p_size c_acts c_why c_passed c_townNight c_town f_lands f_camphors f_there f_mothCells f_mothHeads f_threads f_sightNights f_sightCells f_sights f_night f_eaten) → va_S A s.heap H locs → lv_has ls 3 [(0, .ref (a 0 0)), (1, .int p1), (2, .int p2)] → W p l e ({ frames := 6, cells := 0, slots := 0, locals := 134 } : Room) s m ([.ref (a 0 0), .int p1, .int p2] : List Value).toArray below meth c H locs 0 0 (MQ below (qI D (vw8 cyI cyJ cyZ cyO a n_lands n_camphors n_there n_mothCells n_mothHeads n_threads n_sightNights n_sightCells n_sights n_night n_eaten p_signs p_size q.2.1 q.2.2.1 q.2.2.2.1 q.2.2.2.2.1 q.2.2.2.2.2.1 q.2.2.2.2.2.2.1 q.2.2.2.2.2.2.2.1 q.2.2.2.2.2.2.2.2.1 q.2.2.2.2.2.2.2.2.2.1 q.2.2.2.2.2.2.2.2.2.2.1 q.2.2.2.2.2.2.2.2.2.2.2.1 q.2.2.2.2.2.2.2.2.2.2.2.2.1 q.2.2.2.2.2.2.2.2.2.2.2.2.2.1 q.2.2.2.2.2.2.2.2.2.2.2.2.2.2.1 q.2.2.2.2.2.2.2.2.2.2.2.2.2.2.2.1 q.2.2.2.2.2.2.2.2.2.2.2.2.2.2.2.2) q.1 A) ([.ref (a 0 0), .int p1, .int p2] : List Value).toArray s 0 0 A) (F0 m 0 ls []) := by
    intro H locs ls hP hD hS hl
    unfold g_X8_flies at hf
    refine lv_aload_n hx hb dX8_flies_0 rfl (lv_at hl 0 rfl) ?_
    refine va_get (ci := 8) (v := .ref ((a 1) 0)) (C := RX8) (T := TX8) (N := 11) hx hb hT hin_X8 hown hK hP 0 rfl rfl 0 (by decide) (hT _ wf_X8_10) (fun _ h9 => h9) rfl dX8_flies_1 ?_
    refine lv_iload_n hx hb dX8_flies_4 rfl (lv_at hl 1 rfl) ?_
    obtain ⟨q1, hq1, hf⟩ := bd_some hf
    have hC : [1, 2, 3, 4, 5, 6, 7, 8, 9].map (fun i => (vw8 cyI cyJ cyZ cyO a n_lands n_camphors n_there n_mothCells n_mothHeads n_threads n_sightNights n_sightCells n_sights n_night n_eaten p_signs p_size c_acts c_why c_passed c_townNight c_town f_lands f_camphors f_there f_mothCells f_mothHeads f_threads f_sightNights f_sightCells f_sights f_night f_eaten)[i]?) = (wX1 cyI cyJ cyZ cyO (a 1) n_lands n_camphors n_there n_mothCells n_mothHeads n_threads n_sightNights n_sightCells n_sights n_night n_eaten).map some := rfl
    refine cl_i (rn_V (As := [.int p1]) (rest := []) (C := RX1) hx hb hml hown hT hK hN hP hD [1, 2, 3, 4, 5, 6, 7, 8, 9] hC rfl (c_X1_isThere l D cyI cyJ cyZ cyO (a 1) H.size n_lands n_camphors n_there n_mothCells n_mothHeads n_threads n_sightNights n_sightCells n_sights n_night n_eaten p1 nf q1 hq1) wm_X8_156 wi_X1_isThere wl_X1_isThere wz_X1 wc_X1_isThere hd_X1_isThere ⟨rfl, rfl⟩ ⟨Nat.le_of_ble_eq_true rfl, Nat.le_of_ble_eq_true rfl⟩ (q0 := 0) (ci := 1) rfl rfl rfl rfl hl.1 rfl (Nat.le_of_ble_eq_true rfl) dX8_flies_5 ⟨Nat.zero_le _, Nat.zero_le _⟩) hP hD hS hA [1, 2, 3, 4, 5, 6, 7, 8, 9] hC [(false, 0), (true, 0), (true, 1), (true, 2), (true, 3), (true, 4), (true, 5), (true, 6), (true, 7), (true, 8), (false, 10), (false, 11), (false, 12), (false, 13), (false, 14), (false, 15), (false, 16), (false, 17), (false, 18), (false, 19), (false, 20), (false, 21)] (ws' := vw8 cyI cyJ cyZ cyO a n_lands n_camphors n_there n_mothCells n_mothHeads n_threads n_sightNights n_sightCells n_sights n_night n_eaten p_signs p_size c_acts c_why c_passed c_townNight c_town f_lands f_camphors f_there f_mothCells f_mothHeads f_threads f_sightNights f_sightCells f_sights f_night f_eaten) rfl rfl rfl (fun H locs hP hD hS => ?_)
    refine lv_if_ne (tgt := 13) hx hb dX8_flies_8 (by decide) (fun cc => ?_) (fun cc => ?_)
    · replace hf := if_f cc hf
      refine lv_iload_n hx hb dX8_flies_13 rfl (lv_at hl 2 rfl) ?_
      refine lv_iconst (v := 0) hx hb dX8_flies_14 (by decide) ?_
      refine lv_iconst (v := 1) hx hb dX8_flies_15 (by decide) ?_
      obtain ⟨q2, hq2, hf⟩ := bd_some hf
      have hC : ([] : List Nat).map (fun i => (vw8 cyI cyJ cyZ cyO a n_lands n_camphors n_there n_mothCells n_mothHeads n_threads n_sightNights n_sightCells n_sights n_night n_eaten p_signs p_size c_acts c_why c_passed c_townNight c_town f_lands f_camphors f_there f_mothCells f_mothHeads f_threads f_sightNights f_sightCells f_sights f_night f_eaten)[i]?) = ([] : va_W).map some := rfl
      refine cl_i (rn_S (As := [.int p2, .int 0, .int 1]) (rest := []) hx hb hml hown hT hK hN hP hD [] hC rfl (c_X8_within l D cyI cyJ cyZ cyO H.size p2 0 1 nf q2 hq2) wm_X8_80 wt_X8_within wz_X8 wc_X8_within hd_X8_within ⟨rfl, rfl⟩ ⟨Nat.le_of_ble_eq_true rfl, Nat.le_of_ble_eq_true rfl⟩ rfl hl.1 rfl (Nat.le_of_ble_eq_true rfl) dX8_flies_16 ⟨Nat.zero_le _, Nat.zero_le _⟩) hP hD hS hA [] hC [(false, 0), (false, 1), (false, 2), (false, 3), (false, 4), (false, 5), (false, 6), (false, 7), (false, 8), (false, 9), (false, 10), (false, 11), (false, 12), (false, 13), (false, 14), (false, 15), (false, 16), (false, 17), (false, 18), (false, 19), (false, 20), (false, 21)] (ws' := vw8 cyI cyJ cyZ cyO a n_lands n_camphors n_there n_mothCells n_mothHeads n_threads n_sightNights n_sightCells n_sights n_night n_eaten p_signs p_size c_acts c_why c_passed c_townNight c_town f_lands f_camphors f_there f_mothCells f_mothHeads f_threads f_sightNights f_sightCells f_sights f_night f_eaten) rfl rfl rfl (fun H locs hP hD hS => ?_)
      refine lv_if_ne (tgt := 25) hx hb dX8_flies_19 (by decide) (fun cc => ?_) (fun cc => ?_)
      · replace hf := if_f cc hf
        refine lv_aload_n hx hb dX8_flies_25 rfl (lv_at hl 0 rfl) ?_
        obtain ⟨q3, hq3, hf⟩ := bd_some hf
        have hC : [0, 1, 2, 3, 4, 5, 6, 7, 8, 9, 10, 11, 12, 13, 14, 15, 16, 17, 18, 19, 20, 21].map (fun i => (vw8 cyI cyJ cyZ cyO a n_lands n_camphors n_there n_mothCells n_mothHeads n_threads n_sightNights n_sightCells n_sights n_night n_eaten p_signs p_size c_acts c_why c_passed c_townNight c_town f_lands f_camphors f_there f_mothCells f_mothHeads f_threads f_sightNights f_sightCells f_sights f_night f_eaten)[i]?) = (vw8 cyI cyJ cyZ cyO a n_lands n_camphors n_there n_mothCells n_mothHeads n_threads n_sightNights n_sightCells n_sights n_night n_eaten p_signs p_size c_acts c_why c_passed c_townNight c_town f_lands f_camphors f_there f_mothCells f_mothHeads f_threads f_sightNights f_sightCells f_sights f_night f_eaten).map some := rfl
        refine cl_i (rn_V (As := []) (rest := []) (C := RX8) hx hb hml hown hT hK hN hP hD [0, 1, 2, 3, 4, 5, 6, 7, 8, 9, 10, 11, 12, 13, 14, 15, 16, 17, 18, 19, 20, 21] hC rfl (c_X8_nightsCanBe l D cyI cyJ cyZ cyO a H.size n_lands n_camphors n_there n_mothCells n_mothHeads n_threads n_sightNights n_sightCells n_sights n_night n_eaten p_signs p_size c_acts c_why c_passed c_townNight c_town f_lands f_camphors f_there f_mothCells f_mothHeads f_threads f_sightNights f_sightCells f_sights f_night f_eaten nf q3 hq3) wm_X8_145 wi_X8_nightsCanBe wl_X8_nightsCanBe wz_X8 wc_X8_nightsCanBe hd_X8_nightsCanBe ⟨rfl, rfl⟩ ⟨Nat.le_of_ble_eq_true rfl, Nat.le_of_ble_eq_true rfl⟩ (q0 := 0) (ci := 8) rfl rfl rfl rfl hl.1 rfl (Nat.le_of_ble_eq_true rfl) dX8_flies_26 ⟨Nat.zero_le _, Nat.zero_le _⟩) hP hD hS hA [0, 1, 2, 3, 4, 5, 6, 7, 8, 9, 10, 11, 12, 13, 14, 15, 16, 17, 18, 19, 20, 21] hC [(true, 0), (true, 1), (true, 2), (true, 3), (true, 4), (true, 5), (true, 6), (true, 7), (true, 8), (true, 9), (true, 10), (true, 11), (true, 12), (true, 13), (true, 14), (true, 15), (true, 16), (true, 17), (true, 18), (true, 19), (true, 20), (true, 21)] (ws' := vw8 cyI cyJ cyZ cyO a n_lands n_camphors n_there n_mothCells n_mothHeads n_threads n_sightNights n_sightCells n_sights n_night n_eaten p_signs p_size q3.2.1 q3.2.2.1 q3.2.2.2.1 q3.2.2.2.2.1 q3.2.2.2.2.2.1 q3.2.2.2.2.2.2.1 q3.2.2.2.2.2.2.2.1 q3.2.2.2.2.2.2.2.2.1 q3.2.2.2.2.2.2.2.2.2.1 q3.2.2.2.2.2.2.2.2.2.2.1 q3.2.2.2.2.2.2.2.2.2.2.2.1 q3.2.2.2.2.2.2.2.2.2.2.2.2.1 q3.2.2.2.2.2.2.2.2.2.2.2.2.2.1 q3.2.2.2.2.2.2.2.2.2.2.2.2.2.2.1 q3.2.2.2.2.2.2.2.2.2.2.2.2.2.2.2.1 q3.2.2.2.2.2.2.2.2.2.2.2.2.2.2.2.2) rfl rfl rfl (fun H locs hP hD hS => ?_)
        refine lv_if_ne (tgt := 35) hx hb dX8_flies_29 (by decide) (fun cc => ?_) (fun cc => ?_)
        · replace hf := if_f cc hf
          refine lv_aload_n hx hb dX8_flies_35 rfl (lv_at hl 0 rfl) ?_
          refine va_get (ci := 8) (v := .ref (a 6 0)) (C := RX8) (T := TX8) (N := 11) hx hb hT hin_X8 hown hK hP 0 rfl rfl 5 (by decide) (hT _ wf_X8_37) (fun _ h9 => h9) rfl dX8_flies_36 ?_
          refine va_get (ci := 4) (v := .ref ((a 7) 0)) (C := RX4) (T := TX4) (N := 6) hx hb hT hin_X4 hown hK hP 12 rfl rfl 0 (by decide) (hT _ wf_X8_149) (fun _ h9 => h9) rfl dX8_flies_39 ?_
          refine lv_iload_n hx hb dX8_flies_42 rfl (lv_at hl 1 rfl) ?_
          obtain ⟨q4, hq4, hf⟩ := bd_some hf
          have hC : [13, 14, 15, 16, 17, 18, 19, 20, 21].map (fun i => (vw8 cyI cyJ cyZ cyO a n_lands n_camphors n_there n_mothCells n_mothHeads n_threads n_sightNights n_sightCells n_sights n_night n_eaten p_signs p_size q3.2.1 q3.2.2.1 q3.2.2.2.1 q3.2.2.2.2.1 q3.2.2.2.2.2.1 q3.2.2.2.2.2.2.1 q3.2.2.2.2.2.2.2.1 q3.2.2.2.2.2.2.2.2.1 q3.2.2.2.2.2.2.2.2.2.1 q3.2.2.2.2.2.2.2.2.2.2.1 q3.2.2.2.2.2.2.2.2.2.2.2.1 q3.2.2.2.2.2.2.2.2.2.2.2.2.1 q3.2.2.2.2.2.2.2.2.2.2.2.2.2.1 q3.2.2.2.2.2.2.2.2.2.2.2.2.2.2.1 q3.2.2.2.2.2.2.2.2.2.2.2.2.2.2.2.1 q3.2.2.2.2.2.2.2.2.2.2.2.2.2.2.2.2)[i]?) = (wX1 cyI cyJ cyZ cyO (a 7) q3.2.2.2.2.2.2.1 q3.2.2.2.2.2.2.2.1 q3.2.2.2.2.2.2.2.2.1 q3.2.2.2.2.2.2.2.2.2.1 q3.2.2.2.2.2.2.2.2.2.2.1 q3.2.2.2.2.2.2.2.2.2.2.2.1 q3.2.2.2.2.2.2.2.2.2.2.2.2.1 q3.2.2.2.2.2.2.2.2.2.2.2.2.2.1 q3.2.2.2.2.2.2.2.2.2.2.2.2.2.2.1 q3.2.2.2.2.2.2.2.2.2.2.2.2.2.2.2.1 q3.2.2.2.2.2.2.2.2.2.2.2.2.2.2.2.2).map some := rfl
          refine cl_i (rn_V (As := [.int p1]) (rest := []) (C := RX1) hx hb hml hown hT hK hN hP hD [13, 14, 15, 16, 17, 18, 19, 20, 21] hC rfl (c_X1_isThere l D cyI cyJ cyZ cyO (a 7) H.size q3.2.2.2.2.2.2.1 q3.2.2.2.2.2.2.2.1 q3.2.2.2.2.2.2.2.2.1 q3.2.2.2.2.2.2.2.2.2.1 q3.2.2.2.2.2.2.2.2.2.2.1 q3.2.2.2.2.2.2.2.2.2.2.2.1 q3.2.2.2.2.2.2.2.2.2.2.2.2.1 q3.2.2.2.2.2.2.2.2.2.2.2.2.2.1 q3.2.2.2.2.2.2.2.2.2.2.2.2.2.2.1 q3.2.2.2.2.2.2.2.2.2.2.2.2.2.2.2.1 q3.2.2.2.2.2.2.2.2.2.2.2.2.2.2.2.2 p1 nf q4 hq4) wm_X8_156 wi_X1_isThere wl_X1_isThere wz_X1 wc_X1_isThere hd_X1_isThere ⟨rfl, rfl⟩ ⟨Nat.le_of_ble_eq_true rfl, Nat.le_of_ble_eq_true rfl⟩ (q0 := 0) (ci := 1) rfl rfl rfl rfl hl.1 rfl (Nat.le_of_ble_eq_true rfl) dX8_flies_43 ⟨Nat.zero_le _, Nat.zero_le _⟩) hP hD hS hA [13, 14, 15, 16, 17, 18, 19, 20, 21] hC [(false, 0), (false, 1), (false, 2), (false, 3), (false, 4), (false, 5), (false, 6), (false, 7), (false, 8), (false, 9), (false, 10), (false, 11), (false, 12), (true, 0), (true, 1), (true, 2), (true, 3), (true, 4), (true, 5), (true, 6), (true, 7), (true, 8)] (ws' := vw8 cyI cyJ cyZ cyO a n_lands n_camphors n_there n_mothCells n_mothHeads n_threads n_sightNights n_sightCells n_sights n_night n_eaten p_signs p_size q3.2.1 q3.2.2.1 q3.2.2.2.1 q3.2.2.2.2.1 q3.2.2.2.2.2.1 q3.2.2.2.2.2.2.1 q3.2.2.2.2.2.2.2.1 q3.2.2.2.2.2.2.2.2.1 q3.2.2.2.2.2.2.2.2.2.1 q3.2.2.2.2.2.2.2.2.2.2.1 q3.2.2.2.2.2.2.2.2.2.2.2.1 q3.2.2.2.2.2.2.2.2.2.2.2.2.1 q3.2.2.2.2.2.2.2.2.2.2.2.2.2.1 q3.2.2.2.2.2.2.2.2.2.2.2.2.2.2.1 q3.2.2.2.2.2.2.2.2.2.2.2.2.2.2.2.1 q3.2.2.2.2.2.2.2.2.2.2.2.2.2.2.2.2) rfl rfl rfl (fun H locs hP hD hS => ?_)
          refine lv_if_ne (tgt := 52) hx hb dX8_flies_46 (by decide) (fun cc => ?_) (fun cc => ?_)
          · replace hf := if_f cc hf
            refine lv_iload_n hx hb dX8_flies_52 rfl (lv_at hl 2 rfl) ?_
            refine lv_if_ne (tgt := 71) hx hb dX8_flies_53 (by decide) (fun cc => ?_) (fun cc => ?_)
            · replace hf := if_f cc hf
              refine lv_aload_n hx hb dX8_flies_71 rfl (lv_at hl 0 rfl) ?_
              refine va_get (ci := 8) (v := .ref (a 6 0)) (C := RX8) (T := TX8) (N := 11) hx hb hT hin_X8 hown hK hP 0 rfl rfl 5 (by decide) (hT _ wf_X8_37) (fun _ h9 => h9) rfl dX8_flies_72 ?_
              refine va_get (ci := 4) (v := .ref ((a 7) 0)) (C := RX4) (T := TX4) (N := 6) hx hb hT hin_X4 hown hK hP 12 rfl rfl 0 (by decide) (hT _ wf_X8_149) (fun _ h9 => h9) rfl dX8_flies_75 ?_
              refine va_get (ci := 1) (v := .ref ((a 7) 5)) (C := RX1) (T := TX1) (N := 11) hx hb hT hin_X1 hown hK hP 13 rfl rfl 4 (by decide) (hT _ wf_X8_103) (fun _ h9 => h9) rfl dX8_flies_78 ?_
              refine lv_iload_n hx hb dX8_flies_81 rfl (lv_at hl 1 rfl) ?_
              obtain ⟨hi, hf⟩ := ck_some hf
              refine va_iald hx hb hK hP 18 0 rfl rfl hi dX8_flies_82 ?_
              cases Option.some.inj hf
              exact W.iret hx hb hr (fun t ht hW => ⟨⟨_, (), rfl, rfl, by show va_P D vwCl _ t.heap; rw [ht]; exact hP⟩, hS.F ht⟩) hS.2.2 dX8_flies_83
            · replace hf := if_t cc hf
              refine lv_aload_n hx hb dX8_flies_56 rfl (lv_at hl 0 rfl) ?_
              refine va_get (ci := 8) (v := .ref (a 6 0)) (C := RX8) (T := TX8) (N := 11) hx hb hT hin_X8 hown hK hP 0 rfl rfl 5 (by decide) (hT _ wf_X8_37) (fun _ h9 => h9) rfl dX8_flies_57 ?_
              refine va_get (ci := 4) (v := .ref ((a 7) 0)) (C := RX4) (T := TX4) (N := 6) hx hb hT hin_X4 hown hK hP 12 rfl rfl 0 (by decide) (hT _ wf_X8_149) (fun _ h9 => h9) rfl dX8_flies_60 ?_
              refine va_get (ci := 1) (v := .ref ((a 7) 4)) (C := RX1) (T := TX1) (N := 11) hx hb hT hin_X1 hown hK hP 13 rfl rfl 3 (by decide) (hT _ wf_X8_100) (fun _ h9 => h9) rfl dX8_flies_63 ?_
              refine lv_iload_n hx hb dX8_flies_66 rfl (lv_at hl 1 rfl) ?_
              obtain ⟨hi, hf⟩ := ck_some hf
              refine va_iald hx hb hK hP 17 0 rfl rfl hi dX8_flies_67 ?_
              refine lv_goto (tgt := 83) hx hb dX8_flies_68 (by decide) ?_
              cases Option.some.inj hf
              exact W.iret hx hb hr (fun t ht hW => ⟨⟨_, (), rfl, rfl, by show va_P D vwCl _ t.heap; rw [ht]; exact hP⟩, hS.F ht⟩) hS.2.2 dX8_flies_83
          · replace hf := if_t cc hf
            refine lv_bipush (v := (-6)) hx hb dX8_flies_49 (by decide) ?_
            cases Option.some.inj hf
            exact W.iret hx hb hr (fun t ht hW => ⟨⟨_, (), rfl, rfl, by show va_P D vwCl _ t.heap; rw [ht]; exact hP⟩, hS.F ht⟩) hS.2.2 dX8_flies_51
        · replace hf := if_t cc hf
          refine lv_bipush (v := (-5)) hx hb dX8_flies_32 (by decide) ?_
          cases Option.some.inj hf
          exact W.iret hx hb hr (fun t ht hW => ⟨⟨_, (), rfl, rfl, by show va_P D vwCl _ t.heap; rw [ht]; exact hP⟩, hS.F ht⟩) hS.2.2 dX8_flies_34
      · replace hf := if_t cc hf
        refine lv_bipush (v := (-2)) hx hb dX8_flies_22 (by decide) ?_
        cases Option.some.inj hf
        exact W.iret hx hb hr (fun t ht hW => ⟨⟨_, (), rfl, rfl, by show va_P D vwCl _ t.heap; rw [ht]; exact hP⟩, hS.F ht⟩) hS.2.2 dX8_flies_24
    · replace hf := if_t cc hf
      refine lv_iconst (v := (-1)) hx hb dX8_flies_11 (by decide) ?_
      cases Option.some.inj hf
      exact W.iret hx hb hr (fun t ht hW => ⟨⟨_, (), rfl, rfl, by show va_P D vwCl _ t.heap; rw [ht]; exact hP⟩, hS.F ht⟩) hS.2.2 dX8_flies_12
  have hl := lv_entry ([.ref (a 0 0), .int p1, .int p2]) (n := 3) (Nat.le_of_ble_eq_true rfl)
  rw [lg_entry_eq]
  exact main s.heap [] _ hP hD hS hl
theorem hd_X8_then : yX8_then.cls = RX8 ∧ yX8_then.cls ≠ "java/lang/invoke/MethodHandle" ∧ yX8_then.cls ≠ "java/lang/invoke/VarHandle" ∧ (parseMethodDescriptor yX8_then.desc).map (fun d => d.parameters.length) = some 1 := by decide +kernel
set_option maxHeartbeats 4000000 in
set_option maxRecDepth 100000 in
theorem c_X8_then (l : Launch) (D : va_G) (cyI cyJ cyZ cyO : ClassId) (a : Nat → Nat → Nat) (sz : Nat) (n_lands : Nat → Int32) (n_camphors : Nat → Int32) (n_there : Nat → Int32) (n_mothCells : Nat → Int32) (n_mothHeads : Nat → Int32) (n_threads : Nat → Int32) (n_sightNights : Nat → Int32) (n_sightCells : Nat → Int32) (n_sights : Int32) (n_night : Int32) (n_eaten : Int32) (p_signs : Nat → Int32) (p_size : Int32) (c_acts : Int32) (c_why : Int32) (c_passed : Int32) (c_townNight : Int32) (c_town : Int32) (f_lands : Nat → Int32) (f_camphors : Nat → Int32) (f_there : Nat → Int32) (f_mothCells : Nat → Int32) (f_mothHeads : Nat → Int32) (f_threads : Nat → Int32) (f_sightNights : Nat → Int32) (f_sightCells : Nat → Int32) (f_sights : Int32) (f_night : Int32) (f_eaten : Int32) (p1 : Int32) (nf : Nat) (q : Int32 × Int32 × Int32 × Int32 × Int32 × Int32 × (Nat → Int32) × (Nat → Int32) × (Nat → Int32) × (Nat → Int32) × (Nat → Int32) × (Nat → Int32) × (Nat → Int32) × (Nat → Int32) × Int32 × Int32 × Int32) (hf : g_X8_then nf p1 n_lands n_camphors n_there n_mothCells n_mothHeads n_threads n_sightNights n_sightCells n_sights n_night p_signs p_size c_acts c_why c_passed c_townNight c_town f_lands f_camphors f_there f_mothCells f_mothHeads f_threads f_sightNights f_sightCells f_sights f_night f_eaten = some q) : Met l yX8_then (Cond.code yX8_then cX8_then 2 (some .int) :: tbG) ({ frames := 6, cells := 0, slots := 0, locals := 134 } : Room) (va_Pc [.ref (a 0 0), .int p1] (pcB D (ty4 cyI cyJ cyZ cyO) sz (vw8 cyI cyJ cyZ cyO a n_lands n_camphors n_there n_mothCells n_mothHeads n_threads n_sightNights n_sightCells n_sights n_night n_eaten p_signs p_size c_acts c_why c_passed c_townNight c_town f_lands f_camphors f_there f_mothCells f_mothHeads f_threads f_sightNights f_sightCells f_sights f_night f_eaten))) (qI D (vw8 cyI cyJ cyZ cyO a n_lands n_camphors n_there n_mothCells n_mothHeads n_threads n_sightNights n_sightCells n_sights n_night n_eaten p_signs p_size q.2.1 q.2.2.1 q.2.2.2.1 q.2.2.2.2.1 q.2.2.2.2.2.1 q.2.2.2.2.2.2.1 q.2.2.2.2.2.2.2.1 q.2.2.2.2.2.2.2.2.1 q.2.2.2.2.2.2.2.2.2.1 q.2.2.2.2.2.2.2.2.2.2.1 q.2.2.2.2.2.2.2.2.2.2.2.1 q.2.2.2.2.2.2.2.2.2.2.2.2.1 q.2.2.2.2.2.2.2.2.2.2.2.2.2.1 q.2.2.2.2.2.2.2.2.2.2.2.2.2.2.1 q.2.2.2.2.2.2.2.2.2.2.2.2.2.2.2.1 q.2.2.2.2.2.2.2.2.2.2.2.2.2.2.2.2) q.1 (va_A (vw8 cyI cyJ cyZ cyO a n_lands n_camphors n_there n_mothCells n_mothHeads n_threads n_sightNights n_sightCells n_sights n_night n_eaten p_signs p_size c_acts c_why c_passed c_townNight c_town f_lands f_camphors f_there f_mothCells f_mothHeads f_threads f_sightNights f_sightCells f_sights f_night f_eaten) sz)) 0 0 (va_A (vw8 cyI cyJ cyZ cyO a n_lands n_camphors n_there n_mothCells n_mothHeads n_threads n_sightNights n_sightCells n_sights n_night n_eaten p_signs p_size c_acts c_why c_passed c_townNight c_town f_lands f_camphors f_there f_mothCells f_mothHeads f_threads f_sightNights f_sightCells f_sights f_night f_eaten) sz) := by
  refine Met.ofW (cc := cX8_then) (maxL := 2) (ret := (some .int)) (by decide) rfl ?_
  intro p e s m args below meth c s₁ B hml hv
  obtain ⟨rfl, hsz, hP, hK, hD0, hN⟩ := hv
  have hx := B.exec
  have hb := B.bytes
  have hr := B.returns
  have hT : ∀ w ∈ tbG, w.before ([.ref (a 0 0), .int p1] : List Value).toArray s = true := fun w h => atoms_spec (ws := (Cond.code yX8_then cX8_then 2 (some .int) :: tbG)) B.pre w (List.mem_cons_of_mem _ h)
  have hown : s.vm.findClass RX8 = some m.cls := findClass_of_methodNamed B.named
  have hlocks := B.notSynchronized
  subst hsz
  have hD := hD0.self (sz := s.heap.size)
  generalize hAe : va_A (vw8 cyI cyJ cyZ cyO a n_lands n_camphors n_there n_mothCells n_mothHeads n_threads n_sightNights n_sightCells n_sights n_night n_eaten p_signs p_size c_acts c_why c_passed c_townNight c_town f_lands f_camphors f_there f_mothCells f_mothHeads f_threads f_sightNights f_sightCells f_sights f_night f_eaten) s.heap.size = A at hD ⊢
  have hA : ∀ q : Nat, s.heap.size ≤ q → A q := fun q h => by rw [← hAe]; exact Or.inr h
  have hS : va_S A s.heap s.heap [] := va_S.rf
  show W p l e ({ frames := 6, cells := 0, slots := 0, locals := 134 } : Room) s m ([.ref (a 0 0), .int p1] : List Value).toArray below meth c s.heap [] 0 0 (MQ below (qI D (vw8 cyI cyJ cyZ cyO a n_lands n_camphors n_there n_mothCells n_mothHeads n_threads n_sightNights n_sightCells n_sights n_night n_eaten p_signs p_size q.2.1 q.2.2.1 q.2.2.2.1 q.2.2.2.2.1 q.2.2.2.2.2.1 q.2.2.2.2.2.2.1 q.2.2.2.2.2.2.2.1 q.2.2.2.2.2.2.2.2.1 q.2.2.2.2.2.2.2.2.2.1 q.2.2.2.2.2.2.2.2.2.2.1 q.2.2.2.2.2.2.2.2.2.2.2.1 q.2.2.2.2.2.2.2.2.2.2.2.2.1 q.2.2.2.2.2.2.2.2.2.2.2.2.2.1 q.2.2.2.2.2.2.2.2.2.2.2.2.2.2.1 q.2.2.2.2.2.2.2.2.2.2.2.2.2.2.2.1 q.2.2.2.2.2.2.2.2.2.2.2.2.2.2.2.2) q.1 A) ([.ref (a 0 0), .int p1] : List Value).toArray s 0 0 A) _
  have main : ∀ (H : Heap) (locs : List Loc) (ls : Array Slot), va_P D vwCl (vw8 cyI cyJ cyZ cyO a n_lands n_camphors n_there n_mothCells n_mothHeads n_threads n_sightNights n_sightCells n_sights n_night n_eaten p_signs p_size c_acts c_why c_passed c_townNight c_town f_lands f_camphors f_there f_mothCells f_mothHeads f_threads f_sightNights f_sightCells f_sights f_night f_eaten) H → va_D A (vw8 cyI cyJ cyZ cyO a n_lands n_camphors n_there n_mothCells n_mothHeads n_threads n_sightNights n_sightCells n_sights n_night n_eaten p_signs p_size c_acts c_why c_passed c_townNight c_town f_lands f_camphors f_there f_mothCells f_mothHeads f_threads f_sightNights f_sightCells f_sights f_night f_eaten) → va_S A s.heap H locs → lv_has ls 2 [(0, .ref (a 0 0)), (1, .int p1)] → W p l e ({ frames := 6, cells := 0, slots := 0, locals := 134 } : Room) s m ([.ref (a 0 0), .int p1] : List Value).toArray below meth c H locs 0 0 (MQ below (qI D (vw8 cyI cyJ cyZ cyO a n_lands n_camphors n_there n_mothCells n_mothHeads n_threads n_sightNights n_sightCells n_sights n_night n_eaten p_signs p_size q.2.1 q.2.2.1 q.2.2.2.1 q.2.2.2.2.1 q.2.2.2.2.2.1 q.2.2.2.2.2.2.1 q.2.2.2.2.2.2.2.1 q.2.2.2.2.2.2.2.2.1 q.2.2.2.2.2.2.2.2.2.1 q.2.2.2.2.2.2.2.2.2.2.1 q.2.2.2.2.2.2.2.2.2.2.2.1 q.2.2.2.2.2.2.2.2.2.2.2.2.1 q.2.2.2.2.2.2.2.2.2.2.2.2.2.1 q.2.2.2.2.2.2.2.2.2.2.2.2.2.2.1 q.2.2.2.2.2.2.2.2.2.2.2.2.2.2.2.1 q.2.2.2.2.2.2.2.2.2.2.2.2.2.2.2.2) q.1 A) ([.ref (a 0 0), .int p1] : List Value).toArray s 0 0 A) (F0 m 0 ls []) := by
    intro H locs ls hP hD hS hl
    unfold g_X8_then at hf
    refine lv_iload_n hx hb dX8_then_0 rfl (lv_at hl 1 rfl) ?_
    refine lv_iconst (v := 0) hx hb dX8_then_1 (by decide) ?_
    refine lv_iconst (v := 4) hx hb dX8_then_2 (by decide) ?_
    obtain ⟨q1, hq1, hf⟩ := bd_some hf
    have hC : ([] : List Nat).map (fun i => (vw8 cyI cyJ cyZ cyO a n_lands n_camphors n_there n_mothCells n_mothHeads n_threads n_sightNights n_sightCells n_sights n_night n_eaten p_signs p_size c_acts c_why c_passed c_townNight c_town f_lands f_camphors f_there f_mothCells f_mothHeads f_threads f_sightNights f_sightCells f_sights f_night f_eaten)[i]?) = ([] : va_W).map some := rfl
    refine cl_i (rn_S (As := [.int p1, .int 0, .int 4]) (rest := []) hx hb hml hown hT hK hN hP hD [] hC rfl (c_X8_within l D cyI cyJ cyZ cyO H.size p1 0 4 nf q1 hq1) wm_X8_80 wt_X8_within wz_X8 wc_X8_within hd_X8_within ⟨rfl, rfl⟩ ⟨Nat.le_of_ble_eq_true rfl, Nat.le_of_ble_eq_true rfl⟩ rfl hl.1 rfl (Nat.le_of_ble_eq_true rfl) dX8_then_3 ⟨Nat.zero_le _, Nat.zero_le _⟩) hP hD hS hA [] hC [(false, 0), (false, 1), (false, 2), (false, 3), (false, 4), (false, 5), (false, 6), (false, 7), (false, 8), (false, 9), (false, 10), (false, 11), (false, 12), (false, 13), (false, 14), (false, 15), (false, 16), (false, 17), (false, 18), (false, 19), (false, 20), (false, 21)] (ws' := vw8 cyI cyJ cyZ cyO a n_lands n_camphors n_there n_mothCells n_mothHeads n_threads n_sightNights n_sightCells n_sights n_night n_eaten p_signs p_size c_acts c_why c_passed c_townNight c_town f_lands f_camphors f_there f_mothCells f_mothHeads f_threads f_sightNights f_sightCells f_sights f_night f_eaten) rfl rfl rfl (fun H locs hP hD hS => ?_)
    refine lv_if_ne (tgt := 12) hx hb dX8_then_6 (by decide) (fun cc => ?_) (fun cc => ?_)
    · replace hf := if_f cc hf
      refine lv_aload_n hx hb dX8_then_12 rfl (lv_at hl 0 rfl) ?_
      obtain ⟨q2, hq2, hf⟩ := bd_some hf
      have hC : [0, 1, 2, 3, 4, 5, 6, 7, 8, 9, 10, 11, 12, 13, 14, 15, 16, 17, 18, 19, 20, 21].map (fun i => (vw8 cyI cyJ cyZ cyO a n_lands n_camphors n_there n_mothCells n_mothHeads n_threads n_sightNights n_sightCells n_sights n_night n_eaten p_signs p_size c_acts c_why c_passed c_townNight c_town f_lands f_camphors f_there f_mothCells f_mothHeads f_threads f_sightNights f_sightCells f_sights f_night f_eaten)[i]?) = (vw8 cyI cyJ cyZ cyO a n_lands n_camphors n_there n_mothCells n_mothHeads n_threads n_sightNights n_sightCells n_sights n_night n_eaten p_signs p_size c_acts c_why c_passed c_townNight c_town f_lands f_camphors f_there f_mothCells f_mothHeads f_threads f_sightNights f_sightCells f_sights f_night f_eaten).map some := rfl
      refine cl_i (rn_V (As := []) (rest := []) (C := RX8) hx hb hml hown hT hK hN hP hD [0, 1, 2, 3, 4, 5, 6, 7, 8, 9, 10, 11, 12, 13, 14, 15, 16, 17, 18, 19, 20, 21] hC rfl (c_X8_nightsCanBe l D cyI cyJ cyZ cyO a H.size n_lands n_camphors n_there n_mothCells n_mothHeads n_threads n_sightNights n_sightCells n_sights n_night n_eaten p_signs p_size c_acts c_why c_passed c_townNight c_town f_lands f_camphors f_there f_mothCells f_mothHeads f_threads f_sightNights f_sightCells f_sights f_night f_eaten nf q2 hq2) wm_X8_145 wi_X8_nightsCanBe wl_X8_nightsCanBe wz_X8 wc_X8_nightsCanBe hd_X8_nightsCanBe ⟨rfl, rfl⟩ ⟨Nat.le_of_ble_eq_true rfl, Nat.le_of_ble_eq_true rfl⟩ (q0 := 0) (ci := 8) rfl rfl rfl rfl hl.1 rfl (Nat.le_of_ble_eq_true rfl) dX8_then_13 ⟨Nat.zero_le _, Nat.zero_le _⟩) hP hD hS hA [0, 1, 2, 3, 4, 5, 6, 7, 8, 9, 10, 11, 12, 13, 14, 15, 16, 17, 18, 19, 20, 21] hC [(true, 0), (true, 1), (true, 2), (true, 3), (true, 4), (true, 5), (true, 6), (true, 7), (true, 8), (true, 9), (true, 10), (true, 11), (true, 12), (true, 13), (true, 14), (true, 15), (true, 16), (true, 17), (true, 18), (true, 19), (true, 20), (true, 21)] (ws' := vw8 cyI cyJ cyZ cyO a n_lands n_camphors n_there n_mothCells n_mothHeads n_threads n_sightNights n_sightCells n_sights n_night n_eaten p_signs p_size q2.2.1 q2.2.2.1 q2.2.2.2.1 q2.2.2.2.2.1 q2.2.2.2.2.2.1 q2.2.2.2.2.2.2.1 q2.2.2.2.2.2.2.2.1 q2.2.2.2.2.2.2.2.2.1 q2.2.2.2.2.2.2.2.2.2.1 q2.2.2.2.2.2.2.2.2.2.2.1 q2.2.2.2.2.2.2.2.2.2.2.2.1 q2.2.2.2.2.2.2.2.2.2.2.2.2.1 q2.2.2.2.2.2.2.2.2.2.2.2.2.2.1 q2.2.2.2.2.2.2.2.2.2.2.2.2.2.2.1 q2.2.2.2.2.2.2.2.2.2.2.2.2.2.2.2.1 q2.2.2.2.2.2.2.2.2.2.2.2.2.2.2.2.2) rfl rfl rfl (fun H locs hP hD hS => ?_)
      refine lv_if_ne (tgt := 22) hx hb dX8_then_16 (by decide) (fun cc => ?_) (fun cc => ?_)
      · replace hf := if_f cc hf
        refine lv_iload_n hx hb dX8_then_22 rfl (lv_at hl 1 rfl) ?_
        by_cases c0 : p1 = 0
        · replace hf := if_t c0 hf
          refine lv_tableIn (off := 29) (tgt := 52) hx hb dX8_then_23 (by rw [c0]; decide) (by rw [c0]; decide) (by rw [c0]; decide) (by decide) ?_
          refine lv_aload_n hx hb dX8_then_52 rfl (lv_at hl 0 rfl) ?_
          refine va_get (ci := 8) (v := .ref (a 6 0)) (C := RX8) (T := TX8) (N := 11) hx hb hT hin_X8 hown hK hP 0 rfl rfl 5 (by decide) (hT _ wf_X8_37) (fun _ h9 => h9) rfl dX8_then_53 ?_
          refine va_get (ci := 4) (v := .ref ((a 7) 0)) (C := RX4) (T := TX4) (N := 6) hx hb hT hin_X4 hown hK hP 12 rfl rfl 0 (by decide) (hT _ wf_X8_149) (fun _ h9 => h9) rfl dX8_then_56 ?_
          refine lv_iconst (v := 0) hx hb dX8_then_59 (by decide) ?_
          obtain ⟨q3, hq3, hf⟩ := bd_some hf
          have hC : [13, 14, 15, 16, 17, 18, 19, 20, 21].map (fun i => (vw8 cyI cyJ cyZ cyO a n_lands n_camphors n_there n_mothCells n_mothHeads n_threads n_sightNights n_sightCells n_sights n_night n_eaten p_signs p_size q2.2.1 q2.2.2.1 q2.2.2.2.1 q2.2.2.2.2.1 q2.2.2.2.2.2.1 q2.2.2.2.2.2.2.1 q2.2.2.2.2.2.2.2.1 q2.2.2.2.2.2.2.2.2.1 q2.2.2.2.2.2.2.2.2.2.1 q2.2.2.2.2.2.2.2.2.2.2.1 q2.2.2.2.2.2.2.2.2.2.2.2.1 q2.2.2.2.2.2.2.2.2.2.2.2.2.1 q2.2.2.2.2.2.2.2.2.2.2.2.2.2.1 q2.2.2.2.2.2.2.2.2.2.2.2.2.2.2.1 q2.2.2.2.2.2.2.2.2.2.2.2.2.2.2.2.1 q2.2.2.2.2.2.2.2.2.2.2.2.2.2.2.2.2)[i]?) = (wX1 cyI cyJ cyZ cyO (a 7) q2.2.2.2.2.2.2.1 q2.2.2.2.2.2.2.2.1 q2.2.2.2.2.2.2.2.2.1 q2.2.2.2.2.2.2.2.2.2.1 q2.2.2.2.2.2.2.2.2.2.2.1 q2.2.2.2.2.2.2.2.2.2.2.2.1 q2.2.2.2.2.2.2.2.2.2.2.2.2.1 q2.2.2.2.2.2.2.2.2.2.2.2.2.2.1 q2.2.2.2.2.2.2.2.2.2.2.2.2.2.2.1 q2.2.2.2.2.2.2.2.2.2.2.2.2.2.2.2.1 q2.2.2.2.2.2.2.2.2.2.2.2.2.2.2.2.2).map some := rfl
          refine cl_i (rn_V (As := [.int 0]) (rest := []) (C := RX1) hx hb hml hown hT hK hN hP hD [13, 14, 15, 16, 17, 18, 19, 20, 21] hC rfl (c_X1_countOf l D cyI cyJ cyZ cyO (a 7) H.size q2.2.2.2.2.2.2.1 q2.2.2.2.2.2.2.2.1 q2.2.2.2.2.2.2.2.2.1 q2.2.2.2.2.2.2.2.2.2.1 q2.2.2.2.2.2.2.2.2.2.2.1 q2.2.2.2.2.2.2.2.2.2.2.2.1 q2.2.2.2.2.2.2.2.2.2.2.2.2.1 q2.2.2.2.2.2.2.2.2.2.2.2.2.2.1 q2.2.2.2.2.2.2.2.2.2.2.2.2.2.2.1 q2.2.2.2.2.2.2.2.2.2.2.2.2.2.2.2.1 q2.2.2.2.2.2.2.2.2.2.2.2.2.2.2.2.2 0 nf q3 hq3) wm_X8_159 wi_X1_countOf wl_X1_countOf wz_X1 wc_X1_countOf hd_X1_countOf ⟨rfl, rfl⟩ ⟨Nat.le_of_ble_eq_true rfl, Nat.le_of_ble_eq_true rfl⟩ (q0 := 0) (ci := 1) rfl rfl rfl rfl hl.1 rfl (Nat.le_of_ble_eq_true rfl) dX8_then_60 ⟨Nat.zero_le _, Nat.zero_le _⟩) hP hD hS hA [13, 14, 15, 16, 17, 18, 19, 20, 21] hC [(false, 0), (false, 1), (false, 2), (false, 3), (false, 4), (false, 5), (false, 6), (false, 7), (false, 8), (false, 9), (false, 10), (false, 11), (false, 12), (true, 0), (true, 1), (true, 2), (true, 3), (true, 4), (true, 5), (true, 6), (true, 7), (true, 8)] (ws' := vw8 cyI cyJ cyZ cyO a n_lands n_camphors n_there n_mothCells n_mothHeads n_threads n_sightNights n_sightCells n_sights n_night n_eaten p_signs p_size q2.2.1 q2.2.2.1 q2.2.2.2.1 q2.2.2.2.2.1 q2.2.2.2.2.2.1 q2.2.2.2.2.2.2.1 q2.2.2.2.2.2.2.2.1 q2.2.2.2.2.2.2.2.2.1 q2.2.2.2.2.2.2.2.2.2.1 q2.2.2.2.2.2.2.2.2.2.2.1 q2.2.2.2.2.2.2.2.2.2.2.2.1 q2.2.2.2.2.2.2.2.2.2.2.2.2.1 q2.2.2.2.2.2.2.2.2.2.2.2.2.2.1 q2.2.2.2.2.2.2.2.2.2.2.2.2.2.2.1 q2.2.2.2.2.2.2.2.2.2.2.2.2.2.2.2.1 q2.2.2.2.2.2.2.2.2.2.2.2.2.2.2.2.2) rfl rfl rfl (fun H locs hP hD hS => ?_)
          cases Option.some.inj hf
          exact W.iret hx hb hr (fun t ht hW => ⟨⟨_, (), rfl, rfl, by show va_P D vwCl _ t.heap; rw [ht]; exact hP⟩, hS.F ht⟩) hS.2.2 dX8_then_63
        · replace hf := if_f c0 hf
          by_cases c1 : p1 = 1
          · replace hf := if_t c1 hf
            refine lv_tableIn (off := 41) (tgt := 64) hx hb dX8_then_23 (by rw [c1]; decide) (by rw [c1]; decide) (by rw [c1]; decide) (by decide) ?_
            refine lv_aload_n hx hb dX8_then_64 rfl (lv_at hl 0 rfl) ?_
            refine va_get (ci := 8) (v := .ref (a 6 0)) (C := RX8) (T := TX8) (N := 11) hx hb hT hin_X8 hown hK hP 0 rfl rfl 5 (by decide) (hT _ wf_X8_37) (fun _ h9 => h9) rfl dX8_then_65 ?_
            refine va_get (ci := 4) (v := .ref ((a 7) 0)) (C := RX4) (T := TX4) (N := 6) hx hb hT hin_X4 hown hK hP 12 rfl rfl 0 (by decide) (hT _ wf_X8_149) (fun _ h9 => h9) rfl dX8_then_68 ?_
            obtain ⟨q4, hq4, hf⟩ := bd_some hf
            have hC : [13, 14, 15, 16, 17, 18, 19, 20, 21].map (fun i => (vw8 cyI cyJ cyZ cyO a n_lands n_camphors n_there n_mothCells n_mothHeads n_threads n_sightNights n_sightCells n_sights n_night n_eaten p_signs p_size q2.2.1 q2.2.2.1 q2.2.2.2.1 q2.2.2.2.2.1 q2.2.2.2.2.2.1 q2.2.2.2.2.2.2.1 q2.2.2.2.2.2.2.2.1 q2.2.2.2.2.2.2.2.2.1 q2.2.2.2.2.2.2.2.2.2.1 q2.2.2.2.2.2.2.2.2.2.2.1 q2.2.2.2.2.2.2.2.2.2.2.2.1 q2.2.2.2.2.2.2.2.2.2.2.2.2.1 q2.2.2.2.2.2.2.2.2.2.2.2.2.2.1 q2.2.2.2.2.2.2.2.2.2.2.2.2.2.2.1 q2.2.2.2.2.2.2.2.2.2.2.2.2.2.2.2.1 q2.2.2.2.2.2.2.2.2.2.2.2.2.2.2.2.2)[i]?) = (wX1 cyI cyJ cyZ cyO (a 7) q2.2.2.2.2.2.2.1 q2.2.2.2.2.2.2.2.1 q2.2.2.2.2.2.2.2.2.1 q2.2.2.2.2.2.2.2.2.2.1 q2.2.2.2.2.2.2.2.2.2.2.1 q2.2.2.2.2.2.2.2.2.2.2.2.1 q2.2.2.2.2.2.2.2.2.2.2.2.2.1 q2.2.2.2.2.2.2.2.2.2.2.2.2.2.1 q2.2.2.2.2.2.2.2.2.2.2.2.2.2.2.1 q2.2.2.2.2.2.2.2.2.2.2.2.2.2.2.2.1 q2.2.2.2.2.2.2.2.2.2.2.2.2.2.2.2.2).map some := rfl
            refine cl_i (rn_V (As := []) (rest := []) (C := RX1) hx hb hml hown hT hK hN hP hD [13, 14, 15, 16, 17, 18, 19, 20, 21] hC rfl (c_X1_threadsInAll l D cyI cyJ cyZ cyO (a 7) H.size q2.2.2.2.2.2.2.1 q2.2.2.2.2.2.2.2.1 q2.2.2.2.2.2.2.2.2.1 q2.2.2.2.2.2.2.2.2.2.1 q2.2.2.2.2.2.2.2.2.2.2.1 q2.2.2.2.2.2.2.2.2.2.2.2.1 q2.2.2.2.2.2.2.2.2.2.2.2.2.1 q2.2.2.2.2.2.2.2.2.2.2.2.2.2.1 q2.2.2.2.2.2.2.2.2.2.2.2.2.2.2.1 q2.2.2.2.2.2.2.2.2.2.2.2.2.2.2.2.1 q2.2.2.2.2.2.2.2.2.2.2.2.2.2.2.2.2 nf q4 hq4) wm_X8_162 wi_X1_threadsInAll wl_X1_threadsInAll wz_X1 wc_X1_threadsInAll hd_X1_threadsInAll ⟨rfl, rfl⟩ ⟨Nat.le_of_ble_eq_true rfl, Nat.le_of_ble_eq_true rfl⟩ (q0 := 0) (ci := 1) rfl rfl rfl rfl hl.1 rfl (Nat.le_of_ble_eq_true rfl) dX8_then_71 ⟨Nat.zero_le _, Nat.zero_le _⟩) hP hD hS hA [13, 14, 15, 16, 17, 18, 19, 20, 21] hC [(false, 0), (false, 1), (false, 2), (false, 3), (false, 4), (false, 5), (false, 6), (false, 7), (false, 8), (false, 9), (false, 10), (false, 11), (false, 12), (true, 0), (true, 1), (true, 2), (true, 3), (true, 4), (true, 5), (true, 6), (true, 7), (true, 8)] (ws' := vw8 cyI cyJ cyZ cyO a n_lands n_camphors n_there n_mothCells n_mothHeads n_threads n_sightNights n_sightCells n_sights n_night n_eaten p_signs p_size q2.2.1 q2.2.2.1 q2.2.2.2.1 q2.2.2.2.2.1 q2.2.2.2.2.2.1 q2.2.2.2.2.2.2.1 q2.2.2.2.2.2.2.2.1 q2.2.2.2.2.2.2.2.2.1 q2.2.2.2.2.2.2.2.2.2.1 q2.2.2.2.2.2.2.2.2.2.2.1 q2.2.2.2.2.2.2.2.2.2.2.2.1 q2.2.2.2.2.2.2.2.2.2.2.2.2.1 q2.2.2.2.2.2.2.2.2.2.2.2.2.2.1 q2.2.2.2.2.2.2.2.2.2.2.2.2.2.2.1 q2.2.2.2.2.2.2.2.2.2.2.2.2.2.2.2.1 q2.2.2.2.2.2.2.2.2.2.2.2.2.2.2.2.2) rfl rfl rfl (fun H locs hP hD hS => ?_)
            cases Option.some.inj hf
            exact W.iret hx hb hr (fun t ht hW => ⟨⟨_, (), rfl, rfl, by show va_P D vwCl _ t.heap; rw [ht]; exact hP⟩, hS.F ht⟩) hS.2.2 dX8_then_74
          · replace hf := if_f c1 hf
            by_cases c2 : p1 = 2
            · replace hf := if_t c2 hf
              refine lv_tableIn (off := 52) (tgt := 75) hx hb dX8_then_23 (by rw [c2]; decide) (by rw [c2]; decide) (by rw [c2]; decide) (by decide) ?_
              refine lv_aload_n hx hb dX8_then_75 rfl (lv_at hl 0 rfl) ?_
              refine va_get (ci := 8) (v := .ref (a 6 0)) (C := RX8) (T := TX8) (N := 11) hx hb hT hin_X8 hown hK hP 0 rfl rfl 5 (by decide) (hT _ wf_X8_37) (fun _ h9 => h9) rfl dX8_then_76 ?_
              refine va_get (ci := 4) (v := .ref ((a 7) 0)) (C := RX4) (T := TX4) (N := 6) hx hb hT hin_X4 hown hK hP 12 rfl rfl 0 (by decide) (hT _ wf_X8_149) (fun _ h9 => h9) rfl dX8_then_79 ?_
              refine va_get (ci := 1) (v := .int q2.2.2.2.2.2.2.2.2.2.2.2.2.2.2.2.1) (C := RX1) (T := TX1) (N := 11) hx hb hT hin_X1 hown hK hP 13 rfl rfl 9 (by decide) (hT _ wf_X8_165) (fun _ h9 => h9) rfl dX8_then_82 ?_
              cases Option.some.inj hf
              exact W.iret hx hb hr (fun t ht hW => ⟨⟨_, (), rfl, rfl, by show va_P D vwCl _ t.heap; rw [ht]; exact hP⟩, hS.F ht⟩) hS.2.2 dX8_then_85
            · replace hf := if_f c2 hf
              by_cases c3 : p1 = 3
              · replace hf := if_t c3 hf
                refine lv_tableIn (off := 63) (tgt := 86) hx hb dX8_then_23 (by rw [c3]; decide) (by rw [c3]; decide) (by rw [c3]; decide) (by decide) ?_
                refine lv_aload_n hx hb dX8_then_86 rfl (lv_at hl 0 rfl) ?_
                refine va_get (ci := 8) (v := .ref (a 6 0)) (C := RX8) (T := TX8) (N := 11) hx hb hT hin_X8 hown hK hP 0 rfl rfl 5 (by decide) (hT _ wf_X8_37) (fun _ h9 => h9) rfl dX8_then_87 ?_
                refine va_get (ci := 4) (v := .int q2.2.2.2.2.1) (C := RX4) (T := TX4) (N := 6) hx hb hT hin_X4 hown hK hP 12 rfl rfl 4 (by decide) (hT _ wf_X8_168) (fun _ h9 => h9) rfl dX8_then_90 ?_
                cases Option.some.inj hf
                exact W.iret hx hb hr (fun t ht hW => ⟨⟨_, (), rfl, rfl, by show va_P D vwCl _ t.heap; rw [ht]; exact hP⟩, hS.F ht⟩) hS.2.2 dX8_then_93
              · replace hf := if_f c3 hf
                refine lv_tableOut (tgt := 94) hx hb dX8_then_23 (by have z0 := lv_neT c0 (show (0 : Int32).toInt = 0 by decide); have z1 := lv_neT c1 (show (1 : Int32).toInt = 1 by decide); have z2 := lv_neT c2 (show (2 : Int32).toInt = 2 by decide); have z3 := lv_neT c3 (show (3 : Int32).toInt = 3 by decide); omega) (by decide) ?_
                refine lv_aload_n hx hb dX8_then_94 rfl (lv_at hl 0 rfl) ?_
                refine va_get (ci := 8) (v := .ref (a 6 0)) (C := RX8) (T := TX8) (N := 11) hx hb hT hin_X8 hown hK hP 0 rfl rfl 5 (by decide) (hT _ wf_X8_37) (fun _ h9 => h9) rfl dX8_then_95 ?_
                refine va_get (ci := 4) (v := .int q2.2.2.2.2.2.1) (C := RX4) (T := TX4) (N := 6) hx hb hT hin_X4 hown hK hP 12 rfl rfl 5 (by decide) (hT _ wf_X8_171) (fun _ h9 => h9) rfl dX8_then_98 ?_
                cases Option.some.inj hf
                exact W.iret hx hb hr (fun t ht hW => ⟨⟨_, (), rfl, rfl, by show va_P D vwCl _ t.heap; rw [ht]; exact hP⟩, hS.F ht⟩) hS.2.2 dX8_then_101
      · replace hf := if_t cc hf
        refine lv_bipush (v := (-5)) hx hb dX8_then_19 (by decide) ?_
        cases Option.some.inj hf
        exact W.iret hx hb hr (fun t ht hW => ⟨⟨_, (), rfl, rfl, by show va_P D vwCl _ t.heap; rw [ht]; exact hP⟩, hS.F ht⟩) hS.2.2 dX8_then_21
    · replace hf := if_t cc hf
      refine lv_bipush (v := (-2)) hx hb dX8_then_9 (by decide) ?_
      cases Option.some.inj hf
      exact W.iret hx hb hr (fun t ht hW => ⟨⟨_, (), rfl, rfl, by show va_P D vwCl _ t.heap; rw [ht]; exact hP⟩, hS.F ht⟩) hS.2.2 dX8_then_11
  have hl := lv_entry ([.ref (a 0 0), .int p1]) (n := 2) (Nat.le_of_ble_eq_true rfl)
  rw [lg_entry_eq]
  exact main s.heap [] _ hP hD hS hl
theorem hd_X8_road : yX8_road.cls = RX8 ∧ yX8_road.cls ≠ "java/lang/invoke/MethodHandle" ∧ yX8_road.cls ≠ "java/lang/invoke/VarHandle" ∧ (parseMethodDescriptor yX8_road.desc).map (fun d => d.parameters.length) = some 2 := by decide +kernel
set_option maxHeartbeats 4000000 in
set_option maxRecDepth 100000 in
theorem c_X8_road (l : Launch) (D : va_G) (cyI cyJ cyZ cyO : ClassId) (a : Nat → Nat → Nat) (sz : Nat) (n_lands : Nat → Int32) (n_camphors : Nat → Int32) (n_there : Nat → Int32) (n_mothCells : Nat → Int32) (n_mothHeads : Nat → Int32) (n_threads : Nat → Int32) (n_sightNights : Nat → Int32) (n_sightCells : Nat → Int32) (n_sights : Int32) (n_night : Int32) (n_eaten : Int32) (r_costs : Nat → Int32) (r_settled : Nat → Int32) (p1 : Int32) (p2 : Int32) (nf : Nat) (q : Int32 × (Nat → Int32) × (Nat → Int32)) (hf : g_X8_road nf p1 p2 n_lands r_costs r_settled = some q) : Met l yX8_road (Cond.code yX8_road cX8_road 4 (some .int) :: tbG) ({ frames := 3, cells := 0, slots := 0, locals := 89 } : Room) (va_Pc [.ref (a 0 0), .int p1, .int p2] (pcB D (ty4 cyI cyJ cyZ cyO) sz (vw9 cyI cyJ cyZ cyO a n_lands n_camphors n_there n_mothCells n_mothHeads n_threads n_sightNights n_sightCells n_sights n_night n_eaten r_costs r_settled))) (qI D (vw9 cyI cyJ cyZ cyO a n_lands n_camphors n_there n_mothCells n_mothHeads n_threads n_sightNights n_sightCells n_sights n_night n_eaten q.2.1 q.2.2) q.1 (va_A (vw9 cyI cyJ cyZ cyO a n_lands n_camphors n_there n_mothCells n_mothHeads n_threads n_sightNights n_sightCells n_sights n_night n_eaten r_costs r_settled) sz)) 0 0 (va_A (vw9 cyI cyJ cyZ cyO a n_lands n_camphors n_there n_mothCells n_mothHeads n_threads n_sightNights n_sightCells n_sights n_night n_eaten r_costs r_settled) sz) := by
  refine Met.ofW (cc := cX8_road) (maxL := 4) (ret := (some .int)) (by decide) rfl ?_
  intro p e s m args below meth c s₁ B hml hv
  obtain ⟨rfl, hsz, hP, hK, hD0, hN⟩ := hv
  have hx := B.exec
  have hb := B.bytes
  have hr := B.returns
  have hT : ∀ w ∈ tbG, w.before ([.ref (a 0 0), .int p1, .int p2] : List Value).toArray s = true := fun w h => atoms_spec (ws := (Cond.code yX8_road cX8_road 4 (some .int) :: tbG)) B.pre w (List.mem_cons_of_mem _ h)
  have hown : s.vm.findClass RX8 = some m.cls := findClass_of_methodNamed B.named
  have hlocks := B.notSynchronized
  subst hsz
  have hD := hD0.self (sz := s.heap.size)
  generalize hAe : va_A (vw9 cyI cyJ cyZ cyO a n_lands n_camphors n_there n_mothCells n_mothHeads n_threads n_sightNights n_sightCells n_sights n_night n_eaten r_costs r_settled) s.heap.size = A at hD ⊢
  have hA : ∀ q : Nat, s.heap.size ≤ q → A q := fun q h => by rw [← hAe]; exact Or.inr h
  have hS : va_S A s.heap s.heap [] := va_S.rf
  show W p l e ({ frames := 3, cells := 0, slots := 0, locals := 89 } : Room) s m ([.ref (a 0 0), .int p1, .int p2] : List Value).toArray below meth c s.heap [] 0 0 (MQ below (qI D (vw9 cyI cyJ cyZ cyO a n_lands n_camphors n_there n_mothCells n_mothHeads n_threads n_sightNights n_sightCells n_sights n_night n_eaten q.2.1 q.2.2) q.1 A) ([.ref (a 0 0), .int p1, .int p2] : List Value).toArray s 0 0 A) _
  have main : ∀ (H : Heap) (locs : List Loc) (ls : Array Slot), va_P D vwCl (vw9 cyI cyJ cyZ cyO a n_lands n_camphors n_there n_mothCells n_mothHeads n_threads n_sightNights n_sightCells n_sights n_night n_eaten r_costs r_settled) H → va_D A (vw9 cyI cyJ cyZ cyO a n_lands n_camphors n_there n_mothCells n_mothHeads n_threads n_sightNights n_sightCells n_sights n_night n_eaten r_costs r_settled) → va_S A s.heap H locs → lv_has ls 4 [(0, .ref (a 0 0)), (1, .int p1), (2, .int p2)] → W p l e ({ frames := 3, cells := 0, slots := 0, locals := 89 } : Room) s m ([.ref (a 0 0), .int p1, .int p2] : List Value).toArray below meth c H locs 0 0 (MQ below (qI D (vw9 cyI cyJ cyZ cyO a n_lands n_camphors n_there n_mothCells n_mothHeads n_threads n_sightNights n_sightCells n_sights n_night n_eaten q.2.1 q.2.2) q.1 A) ([.ref (a 0 0), .int p1, .int p2] : List Value).toArray s 0 0 A) (F0 m 0 ls []) := by
    intro H locs ls hP hD hS hl
    unfold g_X8_road at hf
    refine lv_iload_n hx hb dX8_road_0 rfl (lv_at hl 1 rfl) ?_
    obtain ⟨q1, hq1, hf⟩ := bd_some hf
    have hC : ([] : List Nat).map (fun i => (vw9 cyI cyJ cyZ cyO a n_lands n_camphors n_there n_mothCells n_mothHeads n_threads n_sightNights n_sightCells n_sights n_night n_eaten r_costs r_settled)[i]?) = ([] : va_W).map some := rfl
    refine cl_i (rn_S (As := [.int p1]) (rest := []) hx hb hml hown hT hK hN hP hD [] hC rfl (c_X8_isCell l D cyI cyJ cyZ cyO H.size p1 nf q1 hq1) wm_X8_76 wt_X8_isCell wz_X8 wc_X8_isCell hd_X8_isCell ⟨rfl, rfl⟩ ⟨Nat.le_of_ble_eq_true rfl, Nat.le_of_ble_eq_true rfl⟩ rfl hl.1 rfl (Nat.le_of_ble_eq_true rfl) dX8_road_1 ⟨Nat.zero_le _, Nat.zero_le _⟩) hP hD hS hA [] hC [(false, 0), (false, 1), (false, 2), (false, 3), (false, 4), (false, 5), (false, 6), (false, 7), (false, 8), (false, 9), (false, 10), (false, 11), (false, 12)] (ws' := vw9 cyI cyJ cyZ cyO a n_lands n_camphors n_there n_mothCells n_mothHeads n_threads n_sightNights n_sightCells n_sights n_night n_eaten r_costs r_settled) rfl rfl rfl (fun H locs hP hD hS => ?_)
    refine lv_if_eq (tgt := 14) hx hb dX8_road_4 (by decide) (fun cc => ?_) (fun cc => ?_)
    · replace hf := if_t cc hf
      refine lv_iconst (v := (-1)) hx hb dX8_road_14 (by decide) ?_
      cases Option.some.inj hf
      exact W.iret hx hb hr (fun t ht hW => ⟨⟨_, (), rfl, rfl, by show va_P D vwCl _ t.heap; rw [ht]; exact hP⟩, hS.F ht⟩) hS.2.2 dX8_road_15
    · replace hf := if_f cc hf
      refine lv_iload_n hx hb dX8_road_7 rfl (lv_at hl 2 rfl) ?_
      obtain ⟨q2, hq2, hf⟩ := bd_some hf
      have hC : ([] : List Nat).map (fun i => (vw9 cyI cyJ cyZ cyO a n_lands n_camphors n_there n_mothCells n_mothHeads n_threads n_sightNights n_sightCells n_sights n_night n_eaten r_costs r_settled)[i]?) = ([] : va_W).map some := rfl
      refine cl_i (rn_S (As := [.int p2]) (rest := []) hx hb hml hown hT hK hN hP hD [] hC rfl (c_X8_isCell l D cyI cyJ cyZ cyO H.size p2 nf q2 hq2) wm_X8_76 wt_X8_isCell wz_X8 wc_X8_isCell hd_X8_isCell ⟨rfl, rfl⟩ ⟨Nat.le_of_ble_eq_true rfl, Nat.le_of_ble_eq_true rfl⟩ rfl hl.1 rfl (Nat.le_of_ble_eq_true rfl) dX8_road_8 ⟨Nat.zero_le _, Nat.zero_le _⟩) hP hD hS hA [] hC [(false, 0), (false, 1), (false, 2), (false, 3), (false, 4), (false, 5), (false, 6), (false, 7), (false, 8), (false, 9), (false, 10), (false, 11), (false, 12)] (ws' := vw9 cyI cyJ cyZ cyO a n_lands n_camphors n_there n_mothCells n_mothHeads n_threads n_sightNights n_sightCells n_sights n_night n_eaten r_costs r_settled) rfl rfl rfl (fun H locs hP hD hS => ?_)
      refine lv_if_ne (tgt := 16) hx hb dX8_road_11 (by decide) (fun cc => ?_) (fun cc => ?_)
      · replace hf := if_f cc hf
        refine lv_aload_n hx hb dX8_road_16 rfl (lv_at hl 0 rfl) ?_
        refine va_get (ci := 8) (v := .ref ((a 8) 0)) (C := RX8) (T := TX8) (N := 11) hx hb hT hin_X8 hown hK hP 0 rfl rfl 6 (by decide) (hT _ wf_X8_44) (fun _ h9 => h9) rfl dX8_road_17 ?_
        refine lv_aload_n hx hb dX8_road_20 rfl (lv_at hl 0 rfl) ?_
        refine va_get (ci := 8) (v := .ref ((a 1) 0)) (C := RX8) (T := TX8) (N := 11) hx hb hT hin_X8 hown hK hP 0 rfl rfl 0 (by decide) (hT _ wf_X8_10) (fun _ h9 => h9) rfl dX8_road_21 ?_
        refine va_get (ci := 1) (v := .ref ((a 1) 1)) (C := RX1) (T := TX1) (N := 11) hx hb hT hin_X1 hown hK hP 1 rfl rfl 0 (by decide) (hT _ wf_X8_84) (fun _ h9 => h9) rfl dX8_road_24 ?_
        refine lv_iload_n hx hb dX8_road_27 rfl (lv_at hl 1 rfl) ?_
        refine lv_iload_n hx hb dX8_road_28 rfl (lv_at hl 2 rfl) ?_
        obtain ⟨q3, hq3, hf⟩ := bd_some hf
        have hC : [10, 11, 12, 2].map (fun i => (vw9 cyI cyJ cyZ cyO a n_lands n_camphors n_there n_mothCells n_mothHeads n_threads n_sightNights n_sightCells n_sights n_night n_eaten r_costs r_settled)[i]?) = (vw4 cyI cyJ cyZ cyO (a 8) ((a 1) 1) r_costs r_settled n_lands).map some := rfl
        refine cl_i (rn_V (As := [.ref ((a 1) 1), .int p1, .int p2]) (rest := []) (C := RX6) hx hb hml hown hT hK hN hP hD [10, 11, 12, 2] hC rfl (c_X6_leastCost l D cyI cyJ cyZ cyO (a 8) ((a 1) 1) H.size r_costs r_settled n_lands p1 p2 nf q3 hq3) wm_X8_174 wi_X6_leastCost wl_X6_leastCost wz_X6 wc_X6_leastCost hd_X6_leastCost ⟨rfl, rfl⟩ ⟨Nat.le_of_ble_eq_true rfl, Nat.le_of_ble_eq_true rfl⟩ (q0 := 0) (ci := 6) rfl rfl rfl rfl hl.1 rfl (Nat.le_of_ble_eq_true rfl) dX8_road_29 ⟨Nat.zero_le _, Nat.zero_le _⟩) hP hD hS hA [10, 11, 12, 2] hC [(false, 0), (false, 1), (true, 3), (false, 3), (false, 4), (false, 5), (false, 6), (false, 7), (false, 8), (false, 9), (true, 0), (true, 1), (true, 2)] (ws' := vw9 cyI cyJ cyZ cyO a n_lands n_camphors n_there n_mothCells n_mothHeads n_threads n_sightNights n_sightCells n_sights n_night n_eaten q3.2.1 q3.2.2) rfl rfl rfl (fun H locs hP hD hS => ?_)
        refine lv_istore_n (lv' := [(3, .int q3.1), (0, .ref (a 0 0)), (1, .int p1), (2, .int p2)]) hx hb dX8_road_32 rfl hl (by decide) rfl (fun ls hl => ?_)
        refine lv_iload_n hx hb dX8_road_33 rfl (lv_at hl 0 rfl) ?_
        refine lv_bipush (v := 100) hx hb dX8_road_34 (by decide) ?_
        refine lv_icmp_ge (tgt := 43) hx hb dX8_road_36 (by decide) (fun cc => ?_) (fun cc => ?_)
        · replace hf := if_t cc hf
          refine lv_bipush (v := (-6)) hx hb dX8_road_43 (by decide) ?_
          cases Option.some.inj hf
          exact W.iret hx hb hr (fun t ht hW => ⟨⟨_, (), rfl, rfl, by show va_P D vwCl _ t.heap; rw [ht]; exact hP⟩, hS.F ht⟩) hS.2.2 dX8_road_45
        · replace hf := if_f cc hf
          refine lv_iload_n hx hb dX8_road_39 rfl (lv_at hl 0 rfl) ?_
          refine lv_goto (tgt := 45) hx hb dX8_road_40 (by decide) ?_
          cases Option.some.inj hf
          exact W.iret hx hb hr (fun t ht hW => ⟨⟨_, (), rfl, rfl, by show va_P D vwCl _ t.heap; rw [ht]; exact hP⟩, hS.F ht⟩) hS.2.2 dX8_road_45
      · replace hf := if_t cc hf
        refine lv_iconst (v := (-1)) hx hb dX8_road_14 (by decide) ?_
        cases Option.some.inj hf
        exact W.iret hx hb hr (fun t ht hW => ⟨⟨_, (), rfl, rfl, by show va_P D vwCl _ t.heap; rw [ht]; exact hP⟩, hS.F ht⟩) hS.2.2 dX8_road_15
  have hl := lv_entry ([.ref (a 0 0), .int p1, .int p2]) (n := 4) (Nat.le_of_ble_eq_true rfl)
  rw [lg_entry_eq]
  exact main s.heap [] _ hP hD hS hl
theorem hd_X8_whole : yX8_whole.cls = RX8 ∧ yX8_whole.cls ≠ "java/lang/invoke/MethodHandle" ∧ yX8_whole.cls ≠ "java/lang/invoke/VarHandle" ∧ (parseMethodDescriptor yX8_whole.desc).map (fun d => d.parameters.length) = some 3 := by decide +kernel
set_option maxHeartbeats 4000000 in
set_option maxRecDepth 100000 in
theorem c_X8_whole (l : Launch) (D : va_G) (cyI cyJ cyZ cyO : ClassId) (a : Nat → Nat → Nat) (sz : Nat) (n_lands : Nat → Int32) (n_camphors : Nat → Int32) (n_there : Nat → Int32) (n_mothCells : Nat → Int32) (n_mothHeads : Nat → Int32) (n_threads : Nat → Int32) (n_sightNights : Nat → Int32) (n_sightCells : Nat → Int32) (n_sights : Int32) (n_night : Int32) (n_eaten : Int32) (r_costs : Nat → Int32) (r_settled : Nat → Int32) (p1 : Int32) (p2 : Int32) (p3 : Int32) (nf : Nat) (q : Int32 × (Nat → Int32) × (Nat → Int32)) (hf : g_X8_whole nf p1 p2 p3 n_lands r_costs r_settled = some q) : Met l yX8_whole (Cond.code yX8_whole cX8_whole 5 (some .int) :: tbG) ({ frames := 3, cells := 0, slots := 0, locals := 89 } : Room) (va_Pc [.ref (a 0 0), .int p1, .int p2, .int p3] (pcB D (ty4 cyI cyJ cyZ cyO) sz (vw9 cyI cyJ cyZ cyO a n_lands n_camphors n_there n_mothCells n_mothHeads n_threads n_sightNights n_sightCells n_sights n_night n_eaten r_costs r_settled))) (qI D (vw9 cyI cyJ cyZ cyO a n_lands n_camphors n_there n_mothCells n_mothHeads n_threads n_sightNights n_sightCells n_sights n_night n_eaten q.2.1 q.2.2) q.1 (va_A (vw9 cyI cyJ cyZ cyO a n_lands n_camphors n_there n_mothCells n_mothHeads n_threads n_sightNights n_sightCells n_sights n_night n_eaten r_costs r_settled) sz)) 0 0 (va_A (vw9 cyI cyJ cyZ cyO a n_lands n_camphors n_there n_mothCells n_mothHeads n_threads n_sightNights n_sightCells n_sights n_night n_eaten r_costs r_settled) sz) := by
  refine Met.ofW (cc := cX8_whole) (maxL := 5) (ret := (some .int)) (by decide) rfl ?_
  intro p e s m args below meth c s₁ B hml hv
  obtain ⟨rfl, hsz, hP, hK, hD0, hN⟩ := hv
  have hx := B.exec
  have hb := B.bytes
  have hr := B.returns
  have hT : ∀ w ∈ tbG, w.before ([.ref (a 0 0), .int p1, .int p2, .int p3] : List Value).toArray s = true := fun w h => atoms_spec (ws := (Cond.code yX8_whole cX8_whole 5 (some .int) :: tbG)) B.pre w (List.mem_cons_of_mem _ h)
  have hown : s.vm.findClass RX8 = some m.cls := findClass_of_methodNamed B.named
  have hlocks := B.notSynchronized
  subst hsz
  have hD := hD0.self (sz := s.heap.size)
  generalize hAe : va_A (vw9 cyI cyJ cyZ cyO a n_lands n_camphors n_there n_mothCells n_mothHeads n_threads n_sightNights n_sightCells n_sights n_night n_eaten r_costs r_settled) s.heap.size = A at hD ⊢
  have hA : ∀ q : Nat, s.heap.size ≤ q → A q := fun q h => by rw [← hAe]; exact Or.inr h
  have hS : va_S A s.heap s.heap [] := va_S.rf
  show W p l e ({ frames := 3, cells := 0, slots := 0, locals := 89 } : Room) s m ([.ref (a 0 0), .int p1, .int p2, .int p3] : List Value).toArray below meth c s.heap [] 0 0 (MQ below (qI D (vw9 cyI cyJ cyZ cyO a n_lands n_camphors n_there n_mothCells n_mothHeads n_threads n_sightNights n_sightCells n_sights n_night n_eaten q.2.1 q.2.2) q.1 A) ([.ref (a 0 0), .int p1, .int p2, .int p3] : List Value).toArray s 0 0 A) _
  have main : ∀ (H : Heap) (locs : List Loc) (ls : Array Slot), va_P D vwCl (vw9 cyI cyJ cyZ cyO a n_lands n_camphors n_there n_mothCells n_mothHeads n_threads n_sightNights n_sightCells n_sights n_night n_eaten r_costs r_settled) H → va_D A (vw9 cyI cyJ cyZ cyO a n_lands n_camphors n_there n_mothCells n_mothHeads n_threads n_sightNights n_sightCells n_sights n_night n_eaten r_costs r_settled) → va_S A s.heap H locs → lv_has ls 5 [(0, .ref (a 0 0)), (1, .int p1), (2, .int p2), (3, .int p3)] → W p l e ({ frames := 3, cells := 0, slots := 0, locals := 89 } : Room) s m ([.ref (a 0 0), .int p1, .int p2, .int p3] : List Value).toArray below meth c H locs 0 0 (MQ below (qI D (vw9 cyI cyJ cyZ cyO a n_lands n_camphors n_there n_mothCells n_mothHeads n_threads n_sightNights n_sightCells n_sights n_night n_eaten q.2.1 q.2.2) q.1 A) ([.ref (a 0 0), .int p1, .int p2, .int p3] : List Value).toArray s 0 0 A) (F0 m 0 ls []) := by
    intro H locs ls hP hD hS hl
    unfold g_X8_whole at hf
    refine lv_iload_n hx hb dX8_whole_0 rfl (lv_at hl 1 rfl) ?_
    obtain ⟨q1, hq1, hf⟩ := bd_some hf
    have hC : ([] : List Nat).map (fun i => (vw9 cyI cyJ cyZ cyO a n_lands n_camphors n_there n_mothCells n_mothHeads n_threads n_sightNights n_sightCells n_sights n_night n_eaten r_costs r_settled)[i]?) = ([] : va_W).map some := rfl
    refine cl_i (rn_S (As := [.int p1]) (rest := []) hx hb hml hown hT hK hN hP hD [] hC rfl (c_X8_isCell l D cyI cyJ cyZ cyO H.size p1 nf q1 hq1) wm_X8_76 wt_X8_isCell wz_X8 wc_X8_isCell hd_X8_isCell ⟨rfl, rfl⟩ ⟨Nat.le_of_ble_eq_true rfl, Nat.le_of_ble_eq_true rfl⟩ rfl hl.1 rfl (Nat.le_of_ble_eq_true rfl) dX8_whole_1 ⟨Nat.zero_le _, Nat.zero_le _⟩) hP hD hS hA [] hC [(false, 0), (false, 1), (false, 2), (false, 3), (false, 4), (false, 5), (false, 6), (false, 7), (false, 8), (false, 9), (false, 10), (false, 11), (false, 12)] (ws' := vw9 cyI cyJ cyZ cyO a n_lands n_camphors n_there n_mothCells n_mothHeads n_threads n_sightNights n_sightCells n_sights n_night n_eaten r_costs r_settled) rfl rfl rfl (fun H locs hP hD hS => ?_)
    refine lv_if_eq (tgt := 14) hx hb dX8_whole_4 (by decide) (fun cc => ?_) (fun cc => ?_)
    · replace hf := if_t cc hf
      refine lv_iconst (v := (-1)) hx hb dX8_whole_14 (by decide) ?_
      cases Option.some.inj hf
      exact W.iret hx hb hr (fun t ht hW => ⟨⟨_, (), rfl, rfl, by show va_P D vwCl _ t.heap; rw [ht]; exact hP⟩, hS.F ht⟩) hS.2.2 dX8_whole_15
    · replace hf := if_f cc hf
      refine lv_iload_n hx hb dX8_whole_7 rfl (lv_at hl 2 rfl) ?_
      obtain ⟨q2, hq2, hf⟩ := bd_some hf
      have hC : ([] : List Nat).map (fun i => (vw9 cyI cyJ cyZ cyO a n_lands n_camphors n_there n_mothCells n_mothHeads n_threads n_sightNights n_sightCells n_sights n_night n_eaten r_costs r_settled)[i]?) = ([] : va_W).map some := rfl
      refine cl_i (rn_S (As := [.int p2]) (rest := []) hx hb hml hown hT hK hN hP hD [] hC rfl (c_X8_isCell l D cyI cyJ cyZ cyO H.size p2 nf q2 hq2) wm_X8_76 wt_X8_isCell wz_X8 wc_X8_isCell hd_X8_isCell ⟨rfl, rfl⟩ ⟨Nat.le_of_ble_eq_true rfl, Nat.le_of_ble_eq_true rfl⟩ rfl hl.1 rfl (Nat.le_of_ble_eq_true rfl) dX8_whole_8 ⟨Nat.zero_le _, Nat.zero_le _⟩) hP hD hS hA [] hC [(false, 0), (false, 1), (false, 2), (false, 3), (false, 4), (false, 5), (false, 6), (false, 7), (false, 8), (false, 9), (false, 10), (false, 11), (false, 12)] (ws' := vw9 cyI cyJ cyZ cyO a n_lands n_camphors n_there n_mothCells n_mothHeads n_threads n_sightNights n_sightCells n_sights n_night n_eaten r_costs r_settled) rfl rfl rfl (fun H locs hP hD hS => ?_)
      refine lv_if_ne (tgt := 16) hx hb dX8_whole_11 (by decide) (fun cc => ?_) (fun cc => ?_)
      · replace hf := if_f cc hf
        refine lv_iload_n hx hb dX8_whole_16 rfl (lv_at hl 3 rfl) ?_
        refine lv_iconst (v := 0) hx hb dX8_whole_17 (by decide) ?_
        refine lv_iconst (v := 1) hx hb dX8_whole_18 (by decide) ?_
        obtain ⟨q3, hq3, hf⟩ := bd_some hf
        have hC : ([] : List Nat).map (fun i => (vw9 cyI cyJ cyZ cyO a n_lands n_camphors n_there n_mothCells n_mothHeads n_threads n_sightNights n_sightCells n_sights n_night n_eaten r_costs r_settled)[i]?) = ([] : va_W).map some := rfl
        refine cl_i (rn_S (As := [.int p3, .int 0, .int 1]) (rest := []) hx hb hml hown hT hK hN hP hD [] hC rfl (c_X8_within l D cyI cyJ cyZ cyO H.size p3 0 1 nf q3 hq3) wm_X8_80 wt_X8_within wz_X8 wc_X8_within hd_X8_within ⟨rfl, rfl⟩ ⟨Nat.le_of_ble_eq_true rfl, Nat.le_of_ble_eq_true rfl⟩ rfl hl.1 rfl (Nat.le_of_ble_eq_true rfl) dX8_whole_19 ⟨Nat.zero_le _, Nat.zero_le _⟩) hP hD hS hA [] hC [(false, 0), (false, 1), (false, 2), (false, 3), (false, 4), (false, 5), (false, 6), (false, 7), (false, 8), (false, 9), (false, 10), (false, 11), (false, 12)] (ws' := vw9 cyI cyJ cyZ cyO a n_lands n_camphors n_there n_mothCells n_mothHeads n_threads n_sightNights n_sightCells n_sights n_night n_eaten r_costs r_settled) rfl rfl rfl (fun H locs hP hD hS => ?_)
        refine lv_if_ne (tgt := 28) hx hb dX8_whole_22 (by decide) (fun cc => ?_) (fun cc => ?_)
        · replace hf := if_f cc hf
          refine lv_aload_n hx hb dX8_whole_28 rfl (lv_at hl 0 rfl) ?_
          refine va_get (ci := 8) (v := .ref ((a 8) 0)) (C := RX8) (T := TX8) (N := 11) hx hb hT hin_X8 hown hK hP 0 rfl rfl 6 (by decide) (hT _ wf_X8_44) (fun _ h9 => h9) rfl dX8_whole_29 ?_
          refine lv_aload_n hx hb dX8_whole_32 rfl (lv_at hl 0 rfl) ?_
          refine va_get (ci := 8) (v := .ref ((a 1) 0)) (C := RX8) (T := TX8) (N := 11) hx hb hT hin_X8 hown hK hP 0 rfl rfl 0 (by decide) (hT _ wf_X8_10) (fun _ h9 => h9) rfl dX8_whole_33 ?_
          refine va_get (ci := 1) (v := .ref ((a 1) 1)) (C := RX1) (T := TX1) (N := 11) hx hb hT hin_X1 hown hK hP 1 rfl rfl 0 (by decide) (hT _ wf_X8_84) (fun _ h9 => h9) rfl dX8_whole_36 ?_
          refine lv_iload_n hx hb dX8_whole_39 rfl (lv_at hl 1 rfl) ?_
          refine lv_iload_n hx hb dX8_whole_40 rfl (lv_at hl 2 rfl) ?_
          obtain ⟨q4, hq4, hf⟩ := bd_some hf
          have hC : [10, 11, 12, 2].map (fun i => (vw9 cyI cyJ cyZ cyO a n_lands n_camphors n_there n_mothCells n_mothHeads n_threads n_sightNights n_sightCells n_sights n_night n_eaten r_costs r_settled)[i]?) = (vw4 cyI cyJ cyZ cyO (a 8) ((a 1) 1) r_costs r_settled n_lands).map some := rfl
          refine cl_i (rn_V (As := [.ref ((a 1) 1), .int p1, .int p2]) (rest := []) (C := RX6) hx hb hml hown hT hK hN hP hD [10, 11, 12, 2] hC rfl (c_X6_leastCost l D cyI cyJ cyZ cyO (a 8) ((a 1) 1) H.size r_costs r_settled n_lands p1 p2 nf q4 hq4) wm_X8_174 wi_X6_leastCost wl_X6_leastCost wz_X6 wc_X6_leastCost hd_X6_leastCost ⟨rfl, rfl⟩ ⟨Nat.le_of_ble_eq_true rfl, Nat.le_of_ble_eq_true rfl⟩ (q0 := 0) (ci := 6) rfl rfl rfl rfl hl.1 rfl (Nat.le_of_ble_eq_true rfl) dX8_whole_41 ⟨Nat.zero_le _, Nat.zero_le _⟩) hP hD hS hA [10, 11, 12, 2] hC [(false, 0), (false, 1), (true, 3), (false, 3), (false, 4), (false, 5), (false, 6), (false, 7), (false, 8), (false, 9), (true, 0), (true, 1), (true, 2)] (ws' := vw9 cyI cyJ cyZ cyO a n_lands n_camphors n_there n_mothCells n_mothHeads n_threads n_sightNights n_sightCells n_sights n_night n_eaten q4.2.1 q4.2.2) rfl rfl rfl (fun H locs hP hD hS => ?_)
          refine lv_istore (lv' := [(4, .int q4.1), (0, .ref (a 0 0)), (1, .int p1), (2, .int p2), (3, .int p3)]) hx hb dX8_whole_44 hl (by decide) rfl (fun ls hl => ?_)
          refine lv_iload hx hb dX8_whole_46 (lv_at hl 0 rfl) ?_
          refine lv_ldc (v := 1000000) hx hb hown (hT _ wk_X8_178) dX8_whole_48 ?_
          refine lv_icmp_lt (tgt := 56) hx hb dX8_whole_50 (by decide) (fun cc => ?_) (fun cc => ?_)
          · replace hf := if_t cc hf
            refine lv_iload_n hx hb dX8_whole_56 rfl (lv_at hl 4 rfl) ?_
            refine lv_if_ne (tgt := 68) hx hb dX8_whole_57 (by decide) (fun cc => ?_) (fun cc => ?_)
            · replace hf := if_f cc hf
              refine lv_iload hx hb dX8_whole_68 (lv_at hl 0 rfl) ?_
              refine lv_bipush (v := 100) hx hb dX8_whole_70 (by decide) ?_
              refine lv_irem hx hb dX8_whole_72 (by decide) ?_
              cases Option.some.inj hf
              exact W.iret hx hb hr (fun t ht hW => ⟨⟨_, (), rfl, rfl, by show va_P D vwCl _ t.heap; rw [ht]; exact hP⟩, hS.F ht⟩) hS.2.2 dX8_whole_73
            · replace hf := if_t cc hf
              refine lv_iload hx hb dX8_whole_60 (lv_at hl 0 rfl) ?_
              refine lv_bipush (v := 100) hx hb dX8_whole_62 (by decide) ?_
              refine lv_idiv hx hb dX8_whole_64 (by decide) ?_
              refine lv_goto (tgt := 73) hx hb dX8_whole_65 (by decide) ?_
              cases Option.some.inj hf
              exact W.iret hx hb hr (fun t ht hW => ⟨⟨_, (), rfl, rfl, by show va_P D vwCl _ t.heap; rw [ht]; exact hP⟩, hS.F ht⟩) hS.2.2 dX8_whole_73
          · replace hf := if_f cc hf
            refine lv_bipush (v := (-6)) hx hb dX8_whole_53 (by decide) ?_
            cases Option.some.inj hf
            exact W.iret hx hb hr (fun t ht hW => ⟨⟨_, (), rfl, rfl, by show va_P D vwCl _ t.heap; rw [ht]; exact hP⟩, hS.F ht⟩) hS.2.2 dX8_whole_55
        · replace hf := if_t cc hf
          refine lv_bipush (v := (-2)) hx hb dX8_whole_25 (by decide) ?_
          cases Option.some.inj hf
          exact W.iret hx hb hr (fun t ht hW => ⟨⟨_, (), rfl, rfl, by show va_P D vwCl _ t.heap; rw [ht]; exact hP⟩, hS.F ht⟩) hS.2.2 dX8_whole_27
      · replace hf := if_t cc hf
        refine lv_iconst (v := (-1)) hx hb dX8_whole_14 (by decide) ?_
        cases Option.some.inj hf
        exact W.iret hx hb hr (fun t ht hW => ⟨⟨_, (), rfl, rfl, by show va_P D vwCl _ t.heap; rw [ht]; exact hP⟩, hS.F ht⟩) hS.2.2 dX8_whole_15
  have hl := lv_entry ([.ref (a 0 0), .int p1, .int p2, .int p3]) (n := 5) (Nat.le_of_ble_eq_true rfl)
  rw [lg_entry_eq]
  exact main s.heap [] _ hP hD hS hl
theorem hd_X8_camphored : yX8_camphored.cls = RX8 ∧ yX8_camphored.cls ≠ "java/lang/invoke/MethodHandle" ∧ yX8_camphored.cls ≠ "java/lang/invoke/VarHandle" ∧ (parseMethodDescriptor yX8_camphored.desc).map (fun d => d.parameters.length) = some 2 := by decide +kernel
set_option maxHeartbeats 4000000 in
set_option maxRecDepth 100000 in
theorem c_X8_camphored (l : Launch) (D : va_G) (cyI cyJ cyZ cyO : ClassId) (a : Nat → Nat → Nat) (sz : Nat) (n_lands : Nat → Int32) (n_camphors : Nat → Int32) (n_there : Nat → Int32) (n_mothCells : Nat → Int32) (n_mothHeads : Nat → Int32) (n_threads : Nat → Int32) (n_sightNights : Nat → Int32) (n_sightCells : Nat → Int32) (n_sights : Int32) (n_night : Int32) (n_eaten : Int32) (y_rings : Nat → Int32) (y_moths : Int32) (y_harbour : Int32) (y_best : Int32) (p1 : Int32) (p2 : Int32) (nf : Nat) (q : Int32 × (Nat → Int32) × Int32 × Int32 × Int32) (hf : g_X8_camphored nf p1 p2 n_there n_mothCells y_rings y_moths y_harbour y_best = some q) : Met l yX8_camphored (Cond.code yX8_camphored cX8_camphored 4 (some .int) :: tbG) ({ frames := 11, cells := 0, slots := 0, locals := 283 } : Room) (va_Pc [.ref (a 0 0), .int p1, .int p2] (pcB D (ty4 cyI cyJ cyZ cyO) sz (vw10 cyI cyJ cyZ cyO a n_lands n_camphors n_there n_mothCells n_mothHeads n_threads n_sightNights n_sightCells n_sights n_night n_eaten y_rings y_moths y_harbour y_best))) (qI D (vw10 cyI cyJ cyZ cyO a n_lands n_camphors n_there n_mothCells n_mothHeads n_threads n_sightNights n_sightCells n_sights n_night n_eaten q.2.1 q.2.2.1 q.2.2.2.1 q.2.2.2.2) q.1 (va_A (vw10 cyI cyJ cyZ cyO a n_lands n_camphors n_there n_mothCells n_mothHeads n_threads n_sightNights n_sightCells n_sights n_night n_eaten y_rings y_moths y_harbour y_best) sz)) 0 0 (va_A (vw10 cyI cyJ cyZ cyO a n_lands n_camphors n_there n_mothCells n_mothHeads n_threads n_sightNights n_sightCells n_sights n_night n_eaten y_rings y_moths y_harbour y_best) sz) := by
  refine Met.ofW (cc := cX8_camphored) (maxL := 4) (ret := (some .int)) (by decide) rfl ?_
  intro p e s m args below meth c s₁ B hml hv
  obtain ⟨rfl, hsz, hP, hK, hD0, hN⟩ := hv
  have hx := B.exec
  have hb := B.bytes
  have hr := B.returns
  have hT : ∀ w ∈ tbG, w.before ([.ref (a 0 0), .int p1, .int p2] : List Value).toArray s = true := fun w h => atoms_spec (ws := (Cond.code yX8_camphored cX8_camphored 4 (some .int) :: tbG)) B.pre w (List.mem_cons_of_mem _ h)
  have hown : s.vm.findClass RX8 = some m.cls := findClass_of_methodNamed B.named
  have hlocks := B.notSynchronized
  subst hsz
  have hD := hD0.self (sz := s.heap.size)
  generalize hAe : va_A (vw10 cyI cyJ cyZ cyO a n_lands n_camphors n_there n_mothCells n_mothHeads n_threads n_sightNights n_sightCells n_sights n_night n_eaten y_rings y_moths y_harbour y_best) s.heap.size = A at hD ⊢
  have hA : ∀ q : Nat, s.heap.size ≤ q → A q := fun q h => by rw [← hAe]; exact Or.inr h
  have hS : va_S A s.heap s.heap [] := va_S.rf
  show W p l e ({ frames := 11, cells := 0, slots := 0, locals := 283 } : Room) s m ([.ref (a 0 0), .int p1, .int p2] : List Value).toArray below meth c s.heap [] 0 0 (MQ below (qI D (vw10 cyI cyJ cyZ cyO a n_lands n_camphors n_there n_mothCells n_mothHeads n_threads n_sightNights n_sightCells n_sights n_night n_eaten q.2.1 q.2.2.1 q.2.2.2.1 q.2.2.2.2) q.1 A) ([.ref (a 0 0), .int p1, .int p2] : List Value).toArray s 0 0 A) _
  have main : ∀ (H : Heap) (locs : List Loc) (ls : Array Slot), va_P D vwCl (vw10 cyI cyJ cyZ cyO a n_lands n_camphors n_there n_mothCells n_mothHeads n_threads n_sightNights n_sightCells n_sights n_night n_eaten y_rings y_moths y_harbour y_best) H → va_D A (vw10 cyI cyJ cyZ cyO a n_lands n_camphors n_there n_mothCells n_mothHeads n_threads n_sightNights n_sightCells n_sights n_night n_eaten y_rings y_moths y_harbour y_best) → va_S A s.heap H locs → lv_has ls 4 [(0, .ref (a 0 0)), (1, .int p1), (2, .int p2)] → W p l e ({ frames := 11, cells := 0, slots := 0, locals := 283 } : Room) s m ([.ref (a 0 0), .int p1, .int p2] : List Value).toArray below meth c H locs 0 0 (MQ below (qI D (vw10 cyI cyJ cyZ cyO a n_lands n_camphors n_there n_mothCells n_mothHeads n_threads n_sightNights n_sightCells n_sights n_night n_eaten q.2.1 q.2.2.1 q.2.2.2.1 q.2.2.2.2) q.1 A) ([.ref (a 0 0), .int p1, .int p2] : List Value).toArray s 0 0 A) (F0 m 0 ls []) := by
    intro H locs ls hP hD hS hl
    unfold g_X8_camphored at hf
    refine lv_iload_n hx hb dX8_camphored_0 rfl (lv_at hl 1 rfl) ?_
    obtain ⟨q1, hq1, hf⟩ := bd_some hf
    have hC : ([] : List Nat).map (fun i => (vw10 cyI cyJ cyZ cyO a n_lands n_camphors n_there n_mothCells n_mothHeads n_threads n_sightNights n_sightCells n_sights n_night n_eaten y_rings y_moths y_harbour y_best)[i]?) = ([] : va_W).map some := rfl
    refine cl_i (rn_S (As := [.int p1]) (rest := []) hx hb hml hown hT hK hN hP hD [] hC rfl (c_X8_isCell l D cyI cyJ cyZ cyO H.size p1 nf q1 hq1) wm_X8_76 wt_X8_isCell wz_X8 wc_X8_isCell hd_X8_isCell ⟨rfl, rfl⟩ ⟨Nat.le_of_ble_eq_true rfl, Nat.le_of_ble_eq_true rfl⟩ rfl hl.1 rfl (Nat.le_of_ble_eq_true rfl) dX8_camphored_1 ⟨Nat.zero_le _, Nat.zero_le _⟩) hP hD hS hA [] hC [(false, 0), (false, 1), (false, 2), (false, 3), (false, 4), (false, 5), (false, 6), (false, 7), (false, 8), (false, 9), (false, 10), (false, 11)] (ws' := vw10 cyI cyJ cyZ cyO a n_lands n_camphors n_there n_mothCells n_mothHeads n_threads n_sightNights n_sightCells n_sights n_night n_eaten y_rings y_moths y_harbour y_best) rfl rfl rfl (fun H locs hP hD hS => ?_)
    refine lv_if_ne (tgt := 9) hx hb dX8_camphored_4 (by decide) (fun cc => ?_) (fun cc => ?_)
    · replace hf := if_f cc hf
      refine lv_iload_n hx hb dX8_camphored_9 rfl (lv_at hl 2 rfl) ?_
      refine lv_iconst (v := 0) hx hb dX8_camphored_10 (by decide) ?_
      refine lv_iconst (v := 1) hx hb dX8_camphored_11 (by decide) ?_
      obtain ⟨q2, hq2, hf⟩ := bd_some hf
      have hC : ([] : List Nat).map (fun i => (vw10 cyI cyJ cyZ cyO a n_lands n_camphors n_there n_mothCells n_mothHeads n_threads n_sightNights n_sightCells n_sights n_night n_eaten y_rings y_moths y_harbour y_best)[i]?) = ([] : va_W).map some := rfl
      refine cl_i (rn_S (As := [.int p2, .int 0, .int 1]) (rest := []) hx hb hml hown hT hK hN hP hD [] hC rfl (c_X8_within l D cyI cyJ cyZ cyO H.size p2 0 1 nf q2 hq2) wm_X8_80 wt_X8_within wz_X8 wc_X8_within hd_X8_within ⟨rfl, rfl⟩ ⟨Nat.le_of_ble_eq_true rfl, Nat.le_of_ble_eq_true rfl⟩ rfl hl.1 rfl (Nat.le_of_ble_eq_true rfl) dX8_camphored_12 ⟨Nat.zero_le _, Nat.zero_le _⟩) hP hD hS hA [] hC [(false, 0), (false, 1), (false, 2), (false, 3), (false, 4), (false, 5), (false, 6), (false, 7), (false, 8), (false, 9), (false, 10), (false, 11)] (ws' := vw10 cyI cyJ cyZ cyO a n_lands n_camphors n_there n_mothCells n_mothHeads n_threads n_sightNights n_sightCells n_sights n_night n_eaten y_rings y_moths y_harbour y_best) rfl rfl rfl (fun H locs hP hD hS => ?_)
      refine lv_if_ne (tgt := 21) hx hb dX8_camphored_15 (by decide) (fun cc => ?_) (fun cc => ?_)
      · replace hf := if_f cc hf
        refine lv_aload_n hx hb dX8_camphored_21 rfl (lv_at hl 0 rfl) ?_
        refine va_get (ci := 8) (v := .ref ((a 9) 0)) (C := RX8) (T := TX8) (N := 11) hx hb hT hin_X8 hown hK hP 0 rfl rfl 7 (by decide) (hT _ wf_X8_51) (fun _ h9 => h9) rfl dX8_camphored_22 ?_
        refine lv_aload_n hx hb dX8_camphored_25 rfl (lv_at hl 0 rfl) ?_
        refine va_get (ci := 8) (v := .ref ((a 1) 0)) (C := RX8) (T := TX8) (N := 11) hx hb hT hin_X8 hown hK hP 0 rfl rfl 0 (by decide) (hT _ wf_X8_10) (fun _ h9 => h9) rfl dX8_camphored_26 ?_
        obtain ⟨q3, hq3, hf⟩ := bd_some hf
        have hC : [1, 2, 3, 4, 5, 6, 7, 8, 9].map (fun i => (vw10 cyI cyJ cyZ cyO a n_lands n_camphors n_there n_mothCells n_mothHeads n_threads n_sightNights n_sightCells n_sights n_night n_eaten y_rings y_moths y_harbour y_best)[i]?) = (wX1 cyI cyJ cyZ cyO (a 1) n_lands n_camphors n_there n_mothCells n_mothHeads n_threads n_sightNights n_sightCells n_sights n_night n_eaten).map some := rfl
        refine cl_i (rn_V (As := []) (rest := [.ref ((a 9) 0)]) (C := RX1) hx hb hml hown hT hK hN hP hD [1, 2, 3, 4, 5, 6, 7, 8, 9] hC rfl (c_X1_mothCellBits l D cyI cyJ cyZ cyO (a 1) H.size n_lands n_camphors n_there n_mothCells n_mothHeads n_threads n_sightNights n_sightCells n_sights n_night n_eaten nf q3 hq3) wm_X8_179 wi_X1_mothCellBits wl_X1_mothCellBits wz_X1 wc_X1_mothCellBits hd_X1_mothCellBits ⟨rfl, rfl⟩ ⟨Nat.le_of_ble_eq_true rfl, Nat.le_of_ble_eq_true rfl⟩ (q0 := 0) (ci := 1) rfl rfl rfl rfl hl.1 rfl (Nat.le_of_ble_eq_true rfl) dX8_camphored_29 ⟨Nat.zero_le _, Nat.zero_le _⟩) hP hD hS hA [1, 2, 3, 4, 5, 6, 7, 8, 9] hC [(false, 0), (true, 0), (true, 1), (true, 2), (true, 3), (true, 4), (true, 5), (true, 6), (true, 7), (true, 8), (false, 10), (false, 11)] (ws' := vw10 cyI cyJ cyZ cyO a n_lands n_camphors n_there n_mothCells n_mothHeads n_threads n_sightNights n_sightCells n_sights n_night n_eaten y_rings y_moths y_harbour y_best) rfl rfl rfl (fun H locs hP hD hS => ?_)
        refine lv_iconst (v := 1) hx hb dX8_camphored_32 (by decide) ?_
        refine lv_iload_n hx hb dX8_camphored_33 rfl (lv_at hl 1 rfl) ?_
        refine lv_ishl hx hb dX8_camphored_34 ?_
        obtain ⟨q4, hq4, hf⟩ := bd_some hf
        have hC : [10, 11].map (fun i => (vw10 cyI cyJ cyZ cyO a n_lands n_camphors n_there n_mothCells n_mothHeads n_threads n_sightNights n_sightCells n_sights n_night n_eaten y_rings y_moths y_harbour y_best)[i]?) = (wX3 cyI cyJ cyZ cyO (a 9) y_rings y_moths y_harbour y_best).map some := rfl
        refine cl_i (rn_V (As := [.int q3, .int ((1 : Int32) <<< (p1 &&& 31))]) (rest := []) (C := RX3) hx hb hml hown hT hK hN hP hD [10, 11] hC rfl (c_X3_leastCells l D cyI cyJ cyZ cyO (a 9) H.size y_rings y_moths y_harbour y_best q3 ((1 : Int32) <<< (p1 &&& 31)) nf q4 hq4) wm_X8_182 wi_X3_leastCells wl_X3_leastCells wz_X3 wc_X3_leastCells hd_X3_leastCells ⟨rfl, rfl⟩ ⟨Nat.le_of_ble_eq_true rfl, Nat.le_of_ble_eq_true rfl⟩ (q0 := 0) (ci := 3) rfl rfl rfl rfl hl.1 rfl (Nat.le_of_ble_eq_true rfl) dX8_camphored_35 ⟨Nat.zero_le _, Nat.zero_le _⟩) hP hD hS hA [10, 11] hC [(false, 0), (false, 1), (false, 2), (false, 3), (false, 4), (false, 5), (false, 6), (false, 7), (false, 8), (false, 9), (true, 0), (true, 1)] (ws' := vw10 cyI cyJ cyZ cyO a n_lands n_camphors n_there n_mothCells n_mothHeads n_threads n_sightNights n_sightCells n_sights n_night n_eaten q4.2.1 q4.2.2.1 q4.2.2.2.1 q4.2.2.2.2) rfl rfl rfl (fun H locs hP hD hS => ?_)
        refine lv_istore_n (lv' := [(3, .int q4.1), (0, .ref (a 0 0)), (1, .int p1), (2, .int p2)]) hx hb dX8_camphored_38 rfl hl (by decide) rfl (fun ls hl => ?_)
        refine lv_iload_n hx hb dX8_camphored_39 rfl (lv_at hl 0 rfl) ?_
        refine lv_bipush (v := (-6)) hx hb dX8_camphored_40 (by decide) ?_
        refine lv_icmp_ne (tgt := 48) hx hb dX8_camphored_42 (by decide) (fun cc => ?_) (fun cc => ?_)
        · replace hf := if_f cc hf
          refine lv_iload_n hx hb dX8_camphored_48 rfl (lv_at hl 3 rfl) ?_
          refine lv_if_ne (tgt := 59) hx hb dX8_camphored_49 (by decide) (fun cc => ?_) (fun cc => ?_)
          · replace hf := if_f cc hf
            refine lv_iload_n hx hb dX8_camphored_59 rfl (lv_at hl 0 rfl) ?_
            cases Option.some.inj hf
            exact W.iret hx hb hr (fun t ht hW => ⟨⟨_, (), rfl, rfl, by show va_P D vwCl _ t.heap; rw [ht]; exact hP⟩, hS.F ht⟩) hS.2.2 dX8_camphored_60
          · replace hf := if_t cc hf
            refine lv_iload_n hx hb dX8_camphored_52 rfl (lv_at hl 0 rfl) ?_
            obtain ⟨q5, hq5, hf⟩ := bd_some hf
            have hC : ([] : List Nat).map (fun i => (vw10 cyI cyJ cyZ cyO a n_lands n_camphors n_there n_mothCells n_mothHeads n_threads n_sightNights n_sightCells n_sights n_night n_eaten q4.2.1 q4.2.2.1 q4.2.2.2.1 q4.2.2.2.2)[i]?) = ([] : va_W).map some := rfl
            refine cl_i (rn_S (As := [.int q4.1]) (rest := []) hx hb hml hown hT hK hN hP hD [] hC rfl (c_J6_bitCount_0f7a4 l D cyI cyJ cyZ cyO H.size q4.1 nf q5 hq5) wm_X8_110 wt_J6_bitCount_0f7a4 wz_J6 wc_J6_bitCount_0f7a4 hd_J6_bitCount_0f7a4 ⟨rfl, rfl⟩ ⟨Nat.le_of_ble_eq_true rfl, Nat.le_of_ble_eq_true rfl⟩ rfl hl.1 rfl (Nat.le_of_ble_eq_true rfl) dX8_camphored_53 ⟨Nat.zero_le _, Nat.zero_le _⟩) hP hD hS hA [] hC [(false, 0), (false, 1), (false, 2), (false, 3), (false, 4), (false, 5), (false, 6), (false, 7), (false, 8), (false, 9), (false, 10), (false, 11)] (ws' := vw10 cyI cyJ cyZ cyO a n_lands n_camphors n_there n_mothCells n_mothHeads n_threads n_sightNights n_sightCells n_sights n_night n_eaten q4.2.1 q4.2.2.1 q4.2.2.2.1 q4.2.2.2.2) rfl rfl rfl (fun H locs hP hD hS => ?_)
            refine lv_goto (tgt := 60) hx hb dX8_camphored_56 (by decide) ?_
            cases Option.some.inj hf
            exact W.iret hx hb hr (fun t ht hW => ⟨⟨_, (), rfl, rfl, by show va_P D vwCl _ t.heap; rw [ht]; exact hP⟩, hS.F ht⟩) hS.2.2 dX8_camphored_60
        · replace hf := if_t cc hf
          refine lv_bipush (v := (-6)) hx hb dX8_camphored_45 (by decide) ?_
          cases Option.some.inj hf
          exact W.iret hx hb hr (fun t ht hW => ⟨⟨_, (), rfl, rfl, by show va_P D vwCl _ t.heap; rw [ht]; exact hP⟩, hS.F ht⟩) hS.2.2 dX8_camphored_47
      · replace hf := if_t cc hf
        refine lv_bipush (v := (-2)) hx hb dX8_camphored_18 (by decide) ?_
        cases Option.some.inj hf
        exact W.iret hx hb hr (fun t ht hW => ⟨⟨_, (), rfl, rfl, by show va_P D vwCl _ t.heap; rw [ht]; exact hP⟩, hS.F ht⟩) hS.2.2 dX8_camphored_20
    · replace hf := if_t cc hf
      refine lv_iconst (v := (-1)) hx hb dX8_camphored_7 (by decide) ?_
      cases Option.some.inj hf
      exact W.iret hx hb hr (fun t ht hW => ⟨⟨_, (), rfl, rfl, by show va_P D vwCl _ t.heap; rw [ht]; exact hP⟩, hS.F ht⟩) hS.2.2 dX8_camphored_8
  have hl := lv_entry ([.ref (a 0 0), .int p1, .int p2]) (n := 4) (Nat.le_of_ble_eq_true rfl)
  rw [lg_entry_eq]
  exact main s.heap [] _ hP hD hS hl
theorem hd_X8_darned : yX8_darned.cls = RX8 ∧ yX8_darned.cls ≠ "java/lang/invoke/MethodHandle" ∧ yX8_darned.cls ≠ "java/lang/invoke/VarHandle" ∧ (parseMethodDescriptor yX8_darned.desc).map (fun d => d.parameters.length) = some 1 := by decide +kernel
set_option maxHeartbeats 4000000 in
set_option maxRecDepth 100000 in
theorem c_X8_darned (l : Launch) (D : va_G) (cyI cyJ cyZ cyO : ClassId) (a : Nat → Nat → Nat) (sz : Nat) (n_lands : Nat → Int32) (n_camphors : Nat → Int32) (n_there : Nat → Int32) (n_mothCells : Nat → Int32) (n_mothHeads : Nat → Int32) (n_threads : Nat → Int32) (n_sightNights : Nat → Int32) (n_sightCells : Nat → Int32) (n_sights : Int32) (n_night : Int32) (n_eaten : Int32) (d_woven : Nat → Int32) (d_tied : Nat → Int32) (d_ties : Int32) (d_holes : Int32) (d_byTowns : Int32) (d_ways : Int32) (d_first : Int32) (p1 : Int32) (nf : Nat) (q : Int32 × (Nat → Int32) × (Nat → Int32) × Int32 × Int32 × Int32 × Int32 × Int32) (hf : g_X8_darned nf p1 n_lands d_woven d_tied d_ties d_holes d_byTowns d_ways d_first = some q) : Met l yX8_darned (Cond.code yX8_darned cX8_darned 2 (some .int) :: tbG) ({ frames := 15, cells := 0, slots := 0, locals := 379 } : Room) (va_Pc [.ref (a 0 0), .int p1] (pcB D (ty4 cyI cyJ cyZ cyO) sz (vw11 cyI cyJ cyZ cyO a n_lands n_camphors n_there n_mothCells n_mothHeads n_threads n_sightNights n_sightCells n_sights n_night n_eaten d_woven d_tied d_ties d_holes d_byTowns d_ways d_first))) (qI D (vw11 cyI cyJ cyZ cyO a n_lands n_camphors n_there n_mothCells n_mothHeads n_threads n_sightNights n_sightCells n_sights n_night n_eaten q.2.1 q.2.2.1 q.2.2.2.1 q.2.2.2.2.1 q.2.2.2.2.2.1 q.2.2.2.2.2.2.1 q.2.2.2.2.2.2.2) q.1 (va_A (vw11 cyI cyJ cyZ cyO a n_lands n_camphors n_there n_mothCells n_mothHeads n_threads n_sightNights n_sightCells n_sights n_night n_eaten d_woven d_tied d_ties d_holes d_byTowns d_ways d_first) sz)) 0 0 (va_A (vw11 cyI cyJ cyZ cyO a n_lands n_camphors n_there n_mothCells n_mothHeads n_threads n_sightNights n_sightCells n_sights n_night n_eaten d_woven d_tied d_ties d_holes d_byTowns d_ways d_first) sz) := by
  refine Met.ofW (cc := cX8_darned) (maxL := 2) (ret := (some .int)) (by decide) rfl ?_
  intro p e s m args below meth c s₁ B hml hv
  obtain ⟨rfl, hsz, hP, hK, hD0, hN⟩ := hv
  have hx := B.exec
  have hb := B.bytes
  have hr := B.returns
  have hT : ∀ w ∈ tbG, w.before ([.ref (a 0 0), .int p1] : List Value).toArray s = true := fun w h => atoms_spec (ws := (Cond.code yX8_darned cX8_darned 2 (some .int) :: tbG)) B.pre w (List.mem_cons_of_mem _ h)
  have hown : s.vm.findClass RX8 = some m.cls := findClass_of_methodNamed B.named
  have hlocks := B.notSynchronized
  subst hsz
  have hD := hD0.self (sz := s.heap.size)
  generalize hAe : va_A (vw11 cyI cyJ cyZ cyO a n_lands n_camphors n_there n_mothCells n_mothHeads n_threads n_sightNights n_sightCells n_sights n_night n_eaten d_woven d_tied d_ties d_holes d_byTowns d_ways d_first) s.heap.size = A at hD ⊢
  have hA : ∀ q : Nat, s.heap.size ≤ q → A q := fun q h => by rw [← hAe]; exact Or.inr h
  have hS : va_S A s.heap s.heap [] := va_S.rf
  show W p l e ({ frames := 15, cells := 0, slots := 0, locals := 379 } : Room) s m ([.ref (a 0 0), .int p1] : List Value).toArray below meth c s.heap [] 0 0 (MQ below (qI D (vw11 cyI cyJ cyZ cyO a n_lands n_camphors n_there n_mothCells n_mothHeads n_threads n_sightNights n_sightCells n_sights n_night n_eaten q.2.1 q.2.2.1 q.2.2.2.1 q.2.2.2.2.1 q.2.2.2.2.2.1 q.2.2.2.2.2.2.1 q.2.2.2.2.2.2.2) q.1 A) ([.ref (a 0 0), .int p1] : List Value).toArray s 0 0 A) _
  have main : ∀ (H : Heap) (locs : List Loc) (ls : Array Slot), va_P D vwCl (vw11 cyI cyJ cyZ cyO a n_lands n_camphors n_there n_mothCells n_mothHeads n_threads n_sightNights n_sightCells n_sights n_night n_eaten d_woven d_tied d_ties d_holes d_byTowns d_ways d_first) H → va_D A (vw11 cyI cyJ cyZ cyO a n_lands n_camphors n_there n_mothCells n_mothHeads n_threads n_sightNights n_sightCells n_sights n_night n_eaten d_woven d_tied d_ties d_holes d_byTowns d_ways d_first) → va_S A s.heap H locs → lv_has ls 2 [(0, .ref (a 0 0)), (1, .int p1)] → W p l e ({ frames := 15, cells := 0, slots := 0, locals := 379 } : Room) s m ([.ref (a 0 0), .int p1] : List Value).toArray below meth c H locs 0 0 (MQ below (qI D (vw11 cyI cyJ cyZ cyO a n_lands n_camphors n_there n_mothCells n_mothHeads n_threads n_sightNights n_sightCells n_sights n_night n_eaten q.2.1 q.2.2.1 q.2.2.2.1 q.2.2.2.2.1 q.2.2.2.2.2.1 q.2.2.2.2.2.2.1 q.2.2.2.2.2.2.2) q.1 A) ([.ref (a 0 0), .int p1] : List Value).toArray s 0 0 A) (F0 m 0 ls []) := by
    intro H locs ls hP hD hS hl
    unfold g_X8_darned at hf
    refine lv_iload_n hx hb dX8_darned_0 rfl (lv_at hl 1 rfl) ?_
    refine lv_iconst (v := 0) hx hb dX8_darned_1 (by decide) ?_
    refine lv_iconst (v := 1) hx hb dX8_darned_2 (by decide) ?_
    obtain ⟨q1, hq1, hf⟩ := bd_some hf
    have hC : ([] : List Nat).map (fun i => (vw11 cyI cyJ cyZ cyO a n_lands n_camphors n_there n_mothCells n_mothHeads n_threads n_sightNights n_sightCells n_sights n_night n_eaten d_woven d_tied d_ties d_holes d_byTowns d_ways d_first)[i]?) = ([] : va_W).map some := rfl
    refine cl_i (rn_S (As := [.int p1, .int 0, .int 1]) (rest := []) hx hb hml hown hT hK hN hP hD [] hC rfl (c_X8_within l D cyI cyJ cyZ cyO H.size p1 0 1 nf q1 hq1) wm_X8_80 wt_X8_within wz_X8 wc_X8_within hd_X8_within ⟨rfl, rfl⟩ ⟨Nat.le_of_ble_eq_true rfl, Nat.le_of_ble_eq_true rfl⟩ rfl hl.1 rfl (Nat.le_of_ble_eq_true rfl) dX8_darned_3 ⟨Nat.zero_le _, Nat.zero_le _⟩) hP hD hS hA [] hC [(false, 0), (false, 1), (false, 2), (false, 3), (false, 4), (false, 5), (false, 6), (false, 7), (false, 8), (false, 9), (false, 10), (false, 11), (false, 12)] (ws' := vw11 cyI cyJ cyZ cyO a n_lands n_camphors n_there n_mothCells n_mothHeads n_threads n_sightNights n_sightCells n_sights n_night n_eaten d_woven d_tied d_ties d_holes d_byTowns d_ways d_first) rfl rfl rfl (fun H locs hP hD hS => ?_)
    refine lv_if_ne (tgt := 12) hx hb dX8_darned_6 (by decide) (fun cc => ?_) (fun cc => ?_)
    · replace hf := if_f cc hf
      refine lv_aload_n hx hb dX8_darned_12 rfl (lv_at hl 0 rfl) ?_
      refine va_get (ci := 8) (v := .ref ((a 1) 0)) (C := RX8) (T := TX8) (N := 11) hx hb hT hin_X8 hown hK hP 0 rfl rfl 0 (by decide) (hT _ wf_X8_10) (fun _ h9 => h9) rfl dX8_darned_13 ?_
      refine lv_iconst (v := 0) hx hb dX8_darned_16 (by decide) ?_
      obtain ⟨q2, hq2, hf⟩ := bd_some hf
      have hC : [1, 2, 3, 4, 5, 6, 7, 8, 9].map (fun i => (vw11 cyI cyJ cyZ cyO a n_lands n_camphors n_there n_mothCells n_mothHeads n_threads n_sightNights n_sightCells n_sights n_night n_eaten d_woven d_tied d_ties d_holes d_byTowns d_ways d_first)[i]?) = (wX1 cyI cyJ cyZ cyO (a 1) n_lands n_camphors n_there n_mothCells n_mothHeads n_threads n_sightNights n_sightCells n_sights n_night n_eaten).map some := rfl
      refine cl_i (rn_V (As := [.int 0]) (rest := []) (C := RX1) hx hb hml hown hT hK hN hP hD [1, 2, 3, 4, 5, 6, 7, 8, 9] hC rfl (c_X1_countOf l D cyI cyJ cyZ cyO (a 1) H.size n_lands n_camphors n_there n_mothCells n_mothHeads n_threads n_sightNights n_sightCells n_sights n_night n_eaten 0 nf q2 hq2) wm_X8_159 wi_X1_countOf wl_X1_countOf wz_X1 wc_X1_countOf hd_X1_countOf ⟨rfl, rfl⟩ ⟨Nat.le_of_ble_eq_true rfl, Nat.le_of_ble_eq_true rfl⟩ (q0 := 0) (ci := 1) rfl rfl rfl rfl hl.1 rfl (Nat.le_of_ble_eq_true rfl) dX8_darned_17 ⟨Nat.zero_le _, Nat.zero_le _⟩) hP hD hS hA [1, 2, 3, 4, 5, 6, 7, 8, 9] hC [(false, 0), (true, 0), (true, 1), (true, 2), (true, 3), (true, 4), (true, 5), (true, 6), (true, 7), (true, 8), (false, 10), (false, 11), (false, 12)] (ws' := vw11 cyI cyJ cyZ cyO a n_lands n_camphors n_there n_mothCells n_mothHeads n_threads n_sightNights n_sightCells n_sights n_night n_eaten d_woven d_tied d_ties d_holes d_byTowns d_ways d_first) rfl rfl rfl (fun H locs hP hD hS => ?_)
      refine lv_bipush (v := 9) hx hb dX8_darned_20 (by decide) ?_
      refine lv_icmp_le (tgt := 28) hx hb dX8_darned_22 (by decide) (fun cc => ?_) (fun cc => ?_)
      · replace hf := if_t cc hf
        refine lv_aload_n hx hb dX8_darned_28 rfl (lv_at hl 0 rfl) ?_
        refine va_get (ci := 8) (v := .ref ((a 10) 0)) (C := RX8) (T := TX8) (N := 11) hx hb hT hin_X8 hown hK hP 0 rfl rfl 8 (by decide) (hT _ wf_X8_58) (fun _ h9 => h9) rfl dX8_darned_29 ?_
        refine lv_aload_n hx hb dX8_darned_32 rfl (lv_at hl 0 rfl) ?_
        refine va_get (ci := 8) (v := .ref ((a 1) 0)) (C := RX8) (T := TX8) (N := 11) hx hb hT hin_X8 hown hK hP 0 rfl rfl 0 (by decide) (hT _ wf_X8_10) (fun _ h9 => h9) rfl dX8_darned_33 ?_
        refine lv_iconst (v := 0) hx hb dX8_darned_36 (by decide) ?_
        obtain ⟨q3, hq3, hf⟩ := bd_some hf
        have hC : [1, 2, 3, 4, 5, 6, 7, 8, 9].map (fun i => (vw11 cyI cyJ cyZ cyO a n_lands n_camphors n_there n_mothCells n_mothHeads n_threads n_sightNights n_sightCells n_sights n_night n_eaten d_woven d_tied d_ties d_holes d_byTowns d_ways d_first)[i]?) = (wX1 cyI cyJ cyZ cyO (a 1) n_lands n_camphors n_there n_mothCells n_mothHeads n_threads n_sightNights n_sightCells n_sights n_night n_eaten).map some := rfl
        refine cl_i (rn_V (As := [.int 0]) (rest := [.ref ((a 10) 0)]) (C := RX1) hx hb hml hown hT hK hN hP hD [1, 2, 3, 4, 5, 6, 7, 8, 9] hC rfl (c_X1_bitsOf l D cyI cyJ cyZ cyO (a 1) H.size n_lands n_camphors n_there n_mothCells n_mothHeads n_threads n_sightNights n_sightCells n_sights n_night n_eaten 0 nf q3 hq3) wm_X8_186 wi_X1_bitsOf wl_X1_bitsOf wz_X1 wc_X1_bitsOf hd_X1_bitsOf ⟨rfl, rfl⟩ ⟨Nat.le_of_ble_eq_true rfl, Nat.le_of_ble_eq_true rfl⟩ (q0 := 0) (ci := 1) rfl rfl rfl rfl hl.1 rfl (Nat.le_of_ble_eq_true rfl) dX8_darned_37 ⟨Nat.zero_le _, Nat.zero_le _⟩) hP hD hS hA [1, 2, 3, 4, 5, 6, 7, 8, 9] hC [(false, 0), (true, 0), (true, 1), (true, 2), (true, 3), (true, 4), (true, 5), (true, 6), (true, 7), (true, 8), (false, 10), (false, 11), (false, 12)] (ws' := vw11 cyI cyJ cyZ cyO a n_lands n_camphors n_there n_mothCells n_mothHeads n_threads n_sightNights n_sightCells n_sights n_night n_eaten d_woven d_tied d_ties d_holes d_byTowns d_ways d_first) rfl rfl rfl (fun H locs hP hD hS => ?_)
        refine lv_aload_n hx hb dX8_darned_40 rfl (lv_at hl 0 rfl) ?_
        refine va_get (ci := 8) (v := .ref ((a 1) 0)) (C := RX8) (T := TX8) (N := 11) hx hb hT hin_X8 hown hK hP 0 rfl rfl 0 (by decide) (hT _ wf_X8_10) (fun _ h9 => h9) rfl dX8_darned_41 ?_
        refine lv_iconst (v := 4) hx hb dX8_darned_44 (by decide) ?_
        obtain ⟨q4, hq4, hf⟩ := bd_some hf
        have hC : [1, 2, 3, 4, 5, 6, 7, 8, 9].map (fun i => (vw11 cyI cyJ cyZ cyO a n_lands n_camphors n_there n_mothCells n_mothHeads n_threads n_sightNights n_sightCells n_sights n_night n_eaten d_woven d_tied d_ties d_holes d_byTowns d_ways d_first)[i]?) = (wX1 cyI cyJ cyZ cyO (a 1) n_lands n_camphors n_there n_mothCells n_mothHeads n_threads n_sightNights n_sightCells n_sights n_night n_eaten).map some := rfl
        refine cl_i (rn_V (As := [.int 4]) (rest := [.int q3, .ref ((a 10) 0)]) (C := RX1) hx hb hml hown hT hK hN hP hD [1, 2, 3, 4, 5, 6, 7, 8, 9] hC rfl (c_X1_bitsOf l D cyI cyJ cyZ cyO (a 1) H.size n_lands n_camphors n_there n_mothCells n_mothHeads n_threads n_sightNights n_sightCells n_sights n_night n_eaten 4 nf q4 hq4) wm_X8_186 wi_X1_bitsOf wl_X1_bitsOf wz_X1 wc_X1_bitsOf hd_X1_bitsOf ⟨rfl, rfl⟩ ⟨Nat.le_of_ble_eq_true rfl, Nat.le_of_ble_eq_true rfl⟩ (q0 := 0) (ci := 1) rfl rfl rfl rfl hl.1 rfl (Nat.le_of_ble_eq_true rfl) dX8_darned_45 ⟨Nat.zero_le _, Nat.zero_le _⟩) hP hD hS hA [1, 2, 3, 4, 5, 6, 7, 8, 9] hC [(false, 0), (true, 0), (true, 1), (true, 2), (true, 3), (true, 4), (true, 5), (true, 6), (true, 7), (true, 8), (false, 10), (false, 11), (false, 12)] (ws' := vw11 cyI cyJ cyZ cyO a n_lands n_camphors n_there n_mothCells n_mothHeads n_threads n_sightNights n_sightCells n_sights n_night n_eaten d_woven d_tied d_ties d_holes d_byTowns d_ways d_first) rfl rfl rfl (fun H locs hP hD hS => ?_)
        obtain ⟨q5, hq5, hf⟩ := bd_some hf
        have hC : [10, 11, 12].map (fun i => (vw11 cyI cyJ cyZ cyO a n_lands n_camphors n_there n_mothCells n_mothHeads n_threads n_sightNights n_sightCells n_sights n_night n_eaten d_woven d_tied d_ties d_holes d_byTowns d_ways d_first)[i]?) = (wX0 cyI cyJ cyZ cyO (a 10) d_woven d_tied d_ties d_holes d_byTowns d_ways d_first).map some := rfl
        refine cl_v (rn_V (As := [.int q3, .int q4]) (rest := []) (C := RX0) hx hb hml hown hT hK hN hP hD [10, 11, 12] hC rfl (c_X0_darn l D cyI cyJ cyZ cyO (a 10) H.size d_woven d_tied d_ties d_holes d_byTowns d_ways d_first q3 q4 nf q5 hq5) wm_X8_189 wi_X0_darn wl_X0_darn wz_X0 wc_X0_darn hd_X0_darn ⟨rfl, rfl⟩ ⟨Nat.le_of_ble_eq_true rfl, Nat.le_of_ble_eq_true rfl⟩ (q0 := 0) (ci := 0) rfl rfl rfl rfl hl.1 rfl (Nat.le_of_ble_eq_true rfl) dX8_darned_48 ⟨Nat.zero_le _, Nat.zero_le _⟩) hP hD hS hA [10, 11, 12] hC [(false, 0), (false, 1), (false, 2), (false, 3), (false, 4), (false, 5), (false, 6), (false, 7), (false, 8), (false, 9), (true, 0), (true, 1), (true, 2)] (ws' := vw11 cyI cyJ cyZ cyO a n_lands n_camphors n_there n_mothCells n_mothHeads n_threads n_sightNights n_sightCells n_sights n_night n_eaten q5.1 q5.2.1 q5.2.2.1 q5.2.2.2.1 q5.2.2.2.2.1 q5.2.2.2.2.2.1 q5.2.2.2.2.2.2) rfl rfl rfl (fun H locs hP hD hS => ?_)
        refine lv_iload_n hx hb dX8_darned_51 rfl (lv_at hl 1 rfl) ?_
        refine lv_if_ne (tgt := 65) hx hb dX8_darned_52 (by decide) (fun cc => ?_) (fun cc => ?_)
        · replace hf := if_f cc hf
          refine lv_aload_n hx hb dX8_darned_65 rfl (lv_at hl 0 rfl) ?_
          refine va_get (ci := 8) (v := .ref ((a 10) 0)) (C := RX8) (T := TX8) (N := 11) hx hb hT hin_X8 hown hK hP 0 rfl rfl 8 (by decide) (hT _ wf_X8_58) (fun _ h9 => h9) rfl dX8_darned_66 ?_
          refine va_get (ci := 0) (v := .int q5.2.2.2.2.2.2) (C := RX0) (T := TX0) (N := 7) hx hb hT hin_X0 hown hK hP 10 rfl rfl 6 (by decide) (hT _ wf_X8_196) (fun _ h9 => h9) rfl dX8_darned_69 ?_
          cases Option.some.inj hf
          exact W.iret hx hb hr (fun t ht hW => ⟨⟨_, (), rfl, rfl, by show va_P D vwCl _ t.heap; rw [ht]; exact hP⟩, hS.F ht⟩) hS.2.2 dX8_darned_72
        · replace hf := if_t cc hf
          refine lv_aload_n hx hb dX8_darned_55 rfl (lv_at hl 0 rfl) ?_
          refine va_get (ci := 8) (v := .ref ((a 10) 0)) (C := RX8) (T := TX8) (N := 11) hx hb hT hin_X8 hown hK hP 0 rfl rfl 8 (by decide) (hT _ wf_X8_58) (fun _ h9 => h9) rfl dX8_darned_56 ?_
          refine va_get (ci := 0) (v := .int q5.2.2.2.2.2.1) (C := RX0) (T := TX0) (N := 7) hx hb hT hin_X0 hown hK hP 10 rfl rfl 5 (by decide) (hT _ wf_X8_193) (fun _ h9 => h9) rfl dX8_darned_59 ?_
          refine lv_goto (tgt := 72) hx hb dX8_darned_62 (by decide) ?_
          cases Option.some.inj hf
          exact W.iret hx hb hr (fun t ht hW => ⟨⟨_, (), rfl, rfl, by show va_P D vwCl _ t.heap; rw [ht]; exact hP⟩, hS.F ht⟩) hS.2.2 dX8_darned_72
      · replace hf := if_f cc hf
        refine lv_bipush (v := (-3)) hx hb dX8_darned_25 (by decide) ?_
        cases Option.some.inj hf
        exact W.iret hx hb hr (fun t ht hW => ⟨⟨_, (), rfl, rfl, by show va_P D vwCl _ t.heap; rw [ht]; exact hP⟩, hS.F ht⟩) hS.2.2 dX8_darned_27
    · replace hf := if_t cc hf
      refine lv_bipush (v := (-2)) hx hb dX8_darned_9 (by decide) ?_
      cases Option.some.inj hf
      exact W.iret hx hb hr (fun t ht hW => ⟨⟨_, (), rfl, rfl, by show va_P D vwCl _ t.heap; rw [ht]; exact hP⟩, hS.F ht⟩) hS.2.2 dX8_darned_11
  have hl := lv_entry ([.ref (a 0 0), .int p1]) (n := 2) (Nat.le_of_ble_eq_true rfl)
  rw [lg_entry_eq]
  exact main s.heap [] _ hP hD hS hl
theorem hd_X8_sheet : yX8_sheet.cls = RX8 ∧ yX8_sheet.cls ≠ "java/lang/invoke/MethodHandle" ∧ yX8_sheet.cls ≠ "java/lang/invoke/VarHandle" ∧ (parseMethodDescriptor yX8_sheet.desc).map (fun d => d.parameters.length) = some 2 := by decide +kernel
set_option maxHeartbeats 4000000 in
set_option maxRecDepth 100000 in
theorem c_X8_sheet (l : Launch) (D : va_G) (cyI cyJ cyZ cyO : ClassId) (a : Nat → Nat → Nat) (sz : Nat) (n_lands : Nat → Int32) (n_camphors : Nat → Int32) (n_there : Nat → Int32) (n_mothCells : Nat → Int32) (n_mothHeads : Nat → Int32) (n_threads : Nat → Int32) (n_sightNights : Nat → Int32) (n_sightCells : Nat → Int32) (n_sights : Int32) (n_night : Int32) (n_eaten : Int32) (p1 : Int32) (p2 : Int32) (nf : Nat) (q : Int32) (hf : g_X8_sheet nf p1 p2 n_lands = some q) : Met l yX8_sheet (Cond.code yX8_sheet cX8_sheet 6 (some .int) :: tbG) ({ frames := 2, cells := 0, slots := 0, locals := 44 } : Room) (va_Pc [.ref (a 0 0), .int p1, .int p2] (pcB D (ty4 cyI cyJ cyZ cyO) sz (vw6 cyI cyJ cyZ cyO a n_lands n_camphors n_there n_mothCells n_mothHeads n_threads n_sightNights n_sightCells n_sights n_night n_eaten))) (qI D (vw6 cyI cyJ cyZ cyO a n_lands n_camphors n_there n_mothCells n_mothHeads n_threads n_sightNights n_sightCells n_sights n_night n_eaten) q (va_A (vw6 cyI cyJ cyZ cyO a n_lands n_camphors n_there n_mothCells n_mothHeads n_threads n_sightNights n_sightCells n_sights n_night n_eaten) sz)) 0 0 (va_A (vw6 cyI cyJ cyZ cyO a n_lands n_camphors n_there n_mothCells n_mothHeads n_threads n_sightNights n_sightCells n_sights n_night n_eaten) sz) := by
  refine Met.ofW (cc := cX8_sheet) (maxL := 6) (ret := (some .int)) (by decide) rfl ?_
  intro p e s m args below meth c s₁ B hml hv
  obtain ⟨rfl, hsz, hP, hK, hD0, hN⟩ := hv
  have hx := B.exec
  have hb := B.bytes
  have hr := B.returns
  have hT : ∀ w ∈ tbG, w.before ([.ref (a 0 0), .int p1, .int p2] : List Value).toArray s = true := fun w h => atoms_spec (ws := (Cond.code yX8_sheet cX8_sheet 6 (some .int) :: tbG)) B.pre w (List.mem_cons_of_mem _ h)
  have hown : s.vm.findClass RX8 = some m.cls := findClass_of_methodNamed B.named
  have hlocks := B.notSynchronized
  subst hsz
  have hD := hD0.self (sz := s.heap.size)
  generalize hAe : va_A (vw6 cyI cyJ cyZ cyO a n_lands n_camphors n_there n_mothCells n_mothHeads n_threads n_sightNights n_sightCells n_sights n_night n_eaten) s.heap.size = A at hD ⊢
  have hA : ∀ q : Nat, s.heap.size ≤ q → A q := fun q h => by rw [← hAe]; exact Or.inr h
  have hS : va_S A s.heap s.heap [] := va_S.rf
  show W p l e ({ frames := 2, cells := 0, slots := 0, locals := 44 } : Room) s m ([.ref (a 0 0), .int p1, .int p2] : List Value).toArray below meth c s.heap [] 0 0 (MQ below (qI D (vw6 cyI cyJ cyZ cyO a n_lands n_camphors n_there n_mothCells n_mothHeads n_threads n_sightNights n_sightCells n_sights n_night n_eaten) q A) ([.ref (a 0 0), .int p1, .int p2] : List Value).toArray s 0 0 A) _
  have l28 : ∀ (n28 : Nat) (x1 : Int32) (x2 : Int32) (x3 : Int32) (x4 : Int32) (x5 : Int32) (n_lands : Nat → Int32) (H : Heap) (locs : List Loc) (ls : Array Slot), va_P D vwCl (vw6 cyI cyJ cyZ cyO a n_lands n_camphors n_there n_mothCells n_mothHeads n_threads n_sightNights n_sightCells n_sights n_night n_eaten) H → va_D A (vw6 cyI cyJ cyZ cyO a n_lands n_camphors n_there n_mothCells n_mothHeads n_threads n_sightNights n_sightCells n_sights n_night n_eaten) → va_S A s.heap H locs → lv_has ls 6 [(0, .ref (a 0 0)), (1, .int x1), (2, .int x2), (3, .int x3), (4, .int x4), (5, .int x5)] → g_X8_sheet_l28 nf n28 x1 x2 x3 x4 x5 n_lands = some q → W p l e ({ frames := 2, cells := 0, slots := 0, locals := 44 } : Room) s m ([.ref (a 0 0), .int p1, .int p2] : List Value).toArray below meth c H locs 0 0 (MQ below (qI D (vw6 cyI cyJ cyZ cyO a n_lands n_camphors n_there n_mothCells n_mothHeads n_threads n_sightNights n_sightCells n_sights n_night n_eaten) q A) ([.ref (a 0 0), .int p1, .int p2] : List Value).toArray s 0 0 A) (F0 m 28 ls []) := by
    intro n28
    induction n28 with
    | zero =>
      intro x1 x2 x3 x4 x5 n_lands H locs ls hP hD hS hl hf
      rw [g_X8_sheet_l28] at hf
      cases hf
    | succ n28 ih28 =>
      have b67 : ∀ (x1 : Int32) (x2 : Int32) (x3 : Int32) (x4 : Int32) (x5 : Int32) (n_lands : Nat → Int32) (H : Heap) (locs : List Loc) (ls : Array Slot), va_P D vwCl (vw6 cyI cyJ cyZ cyO a n_lands n_camphors n_there n_mothCells n_mothHeads n_threads n_sightNights n_sightCells n_sights n_night n_eaten) H → va_D A (vw6 cyI cyJ cyZ cyO a n_lands n_camphors n_there n_mothCells n_mothHeads n_threads n_sightNights n_sightCells n_sights n_night n_eaten) → va_S A s.heap H locs → lv_has ls 6 [(0, .ref (a 0 0)), (1, .int x1), (2, .int x2), (3, .int x3), (4, .int x4), (5, .int x5)] → g_X8_sheet_b67 nf (g_X8_sheet_l28 nf n28) x1 x2 x3 x4 x5 n_lands = some q → W p l e ({ frames := 2, cells := 0, slots := 0, locals := 44 } : Room) s m ([.ref (a 0 0), .int p1, .int p2] : List Value).toArray below meth c H locs 0 0 (MQ below (qI D (vw6 cyI cyJ cyZ cyO a n_lands n_camphors n_there n_mothCells n_mothHeads n_threads n_sightNights n_sightCells n_sights n_night n_eaten) q A) ([.ref (a 0 0), .int p1, .int p2] : List Value).toArray s 0 0 A) (F0 m 67 ls []) := by
        intro x1 x2 x3 x4 x5 n_lands H locs ls hP hD hS hl hf
        unfold g_X8_sheet_b67 at hf
        refine lv_iinc (v := (x5 + 1)) (lv' := [(5, .int (x5 + 1)), (0, .ref (a 0 0)), (1, .int x1), (2, .int x2), (3, .int x3), (4, .int x4)]) hx hb dX8_sheet_67 hl (k := 5) rfl rfl (by decide) rfl (fun ls hl => ?_)
        refine lv_goto (tgt := 28) hx hb dX8_sheet_70 (by decide) ?_
        exact ih28 x1 x2 x3 x4 (x5 + 1) n_lands H locs ls hP hD hS (lv_sub hl [1, 2, 3, 4, 5, 0] rfl) hf
      have b65 : ∀ (x1 : Int32) (x2 : Int32) (x3 : Int32) (x5 : Int32) (s0 : Int32) (n_lands : Nat → Int32) (H : Heap) (locs : List Loc) (ls : Array Slot), va_P D vwCl (vw6 cyI cyJ cyZ cyO a n_lands n_camphors n_there n_mothCells n_mothHeads n_threads n_sightNights n_sightCells n_sights n_night n_eaten) H → va_D A (vw6 cyI cyJ cyZ cyO a n_lands n_camphors n_there n_mothCells n_mothHeads n_threads n_sightNights n_sightCells n_sights n_night n_eaten) → va_S A s.heap H locs → lv_has ls 6 [(0, .ref (a 0 0)), (1, .int x1), (2, .int x2), (3, .int x3), (5, .int x5)] → g_X8_sheet_b65 nf (g_X8_sheet_l28 nf n28) x1 x2 x3 x5 s0 n_lands = some q → W p l e ({ frames := 2, cells := 0, slots := 0, locals := 44 } : Room) s m ([.ref (a 0 0), .int p1, .int p2] : List Value).toArray below meth c H locs 0 0 (MQ below (qI D (vw6 cyI cyJ cyZ cyO a n_lands n_camphors n_there n_mothCells n_mothHeads n_threads n_sightNights n_sightCells n_sights n_night n_eaten) q A) ([.ref (a 0 0), .int p1, .int p2] : List Value).toArray s 0 0 A) (F0 m 65 ls [.int s0]) := by
        intro x1 x2 x3 x5 s0 n_lands H locs ls hP hD hS hl hf
        unfold g_X8_sheet_b65 at hf
        refine lv_istore (lv' := [(4, .int s0), (0, .ref (a 0 0)), (1, .int x1), (2, .int x2), (3, .int x3), (5, .int x5)]) hx hb dX8_sheet_65 hl (by decide) rfl (fun ls hl => ?_)
        exact b67 x1 x2 x3 s0 x5 n_lands H locs ls hP hD hS (lv_sub hl [1, 2, 3, 4, 0, 5] rfl) hf
      intro x1 x2 x3 x4 x5 n_lands H locs ls hP hD hS hl hf
      rw [g_X8_sheet_l28] at hf
      refine lv_iload hx hb dX8_sheet_28 (lv_at hl 5 rfl) ?_
      refine lv_bipush (v := 25) hx hb dX8_sheet_30 (by decide) ?_
      refine lv_icmp_ge (tgt := 73) hx hb dX8_sheet_32 (by decide) (fun cc => ?_) (fun cc => ?_)
      · replace hf := if_t cc hf
        refine lv_iload_n hx hb dX8_sheet_73 rfl (lv_at hl 2 rfl) ?_
        refine lv_if_ne (tgt := 81) hx hb dX8_sheet_74 (by decide) (fun cc => ?_) (fun cc => ?_)
        · replace hf := if_f cc hf
          refine lv_iload hx hb dX8_sheet_81 (lv_at hl 4 rfl) ?_
          cases Option.some.inj hf
          exact W.iret hx hb hr (fun t ht hW => ⟨⟨_, (), rfl, rfl, by show va_P D vwCl _ t.heap; rw [ht]; exact hP⟩, hS.F ht⟩) hS.2.2 dX8_sheet_83
        · replace hf := if_t cc hf
          refine lv_iload_n hx hb dX8_sheet_77 rfl (lv_at hl 3 rfl) ?_
          refine lv_goto (tgt := 83) hx hb dX8_sheet_78 (by decide) ?_
          cases Option.some.inj hf
          exact W.iret hx hb hr (fun t ht hW => ⟨⟨_, (), rfl, rfl, by show va_P D vwCl _ t.heap; rw [ht]; exact hP⟩, hS.F ht⟩) hS.2.2 dX8_sheet_83
      · replace hf := if_f cc hf
        refine lv_aload_n hx hb dX8_sheet_35 rfl (lv_at hl 0 rfl) ?_
        refine va_get (ci := 8) (v := .ref ((a 1) 0)) (C := RX8) (T := TX8) (N := 11) hx hb hT hin_X8 hown hK hP 0 rfl rfl 0 (by decide) (hT _ wf_X8_10) (fun _ h9 => h9) rfl dX8_sheet_36 ?_
        refine lv_iload hx hb dX8_sheet_39 (lv_at hl 5 rfl) ?_
        obtain ⟨q1, hq1, hf⟩ := bd_some hf
        have hC : [1, 2, 3, 4, 5, 6, 7, 8, 9].map (fun i => (vw6 cyI cyJ cyZ cyO a n_lands n_camphors n_there n_mothCells n_mothHeads n_threads n_sightNights n_sightCells n_sights n_night n_eaten)[i]?) = (wX1 cyI cyJ cyZ cyO (a 1) n_lands n_camphors n_there n_mothCells n_mothHeads n_threads n_sightNights n_sightCells n_sights n_night n_eaten).map some := rfl
        refine cl_i (rn_V (As := [.int x5]) (rest := []) (C := RX1) hx hb hml hown hT hK hN hP hD [1, 2, 3, 4, 5, 6, 7, 8, 9] hC rfl (c_X1_fourLandsFrom l D cyI cyJ cyZ cyO (a 1) H.size n_lands n_camphors n_there n_mothCells n_mothHeads n_threads n_sightNights n_sightCells n_sights n_night n_eaten x5 nf q1 hq1) wm_X8_202 wi_X1_fourLandsFrom wl_X1_fourLandsFrom wz_X1 wc_X1_fourLandsFrom hd_X1_fourLandsFrom ⟨rfl, rfl⟩ ⟨Nat.le_of_ble_eq_true rfl, Nat.le_of_ble_eq_true rfl⟩ (q0 := 0) (ci := 1) rfl rfl rfl rfl hl.1 rfl (Nat.le_of_ble_eq_true rfl) dX8_sheet_41 ⟨Nat.zero_le _, Nat.zero_le _⟩) hP hD hS hA [1, 2, 3, 4, 5, 6, 7, 8, 9] hC [(false, 0), (true, 0), (true, 1), (true, 2), (true, 3), (true, 4), (true, 5), (true, 6), (true, 7), (true, 8)] (ws' := vw6 cyI cyJ cyZ cyO a n_lands n_camphors n_there n_mothCells n_mothHeads n_threads n_sightNights n_sightCells n_sights n_night n_eaten) rfl rfl rfl (fun H locs hP hD hS => ?_)
        refine lv_iload_n hx hb dX8_sheet_44 rfl (lv_at hl 1 rfl) ?_
        refine lv_icmp_ne (tgt := 67) hx hb dX8_sheet_45 (by decide) (fun cc => ?_) (fun cc => ?_)
        · replace hf := if_f cc hf
          exact b67 x1 x2 x3 x4 x5 n_lands H locs ls hP hD hS (lv_sub hl [0, 1, 2, 3, 4, 5] rfl) hf
        · replace hf := if_t cc hf
          refine lv_iinc (v := (x3 + 1)) (lv' := [(3, .int (x3 + 1)), (0, .ref (a 0 0)), (1, .int x1), (2, .int x2), (4, .int x4), (5, .int x5)]) hx hb dX8_sheet_48 hl (k := 3) rfl rfl (by decide) rfl (fun ls hl => ?_)
          refine lv_iload hx hb dX8_sheet_51 (lv_at hl 4 rfl) ?_
          refine lv_bipush (v := (-6)) hx hb dX8_sheet_53 (by decide) ?_
          refine lv_icmp_ne (tgt := 63) hx hb dX8_sheet_55 (by decide) (fun cc => ?_) (fun cc => ?_)
          · replace hf := if_f cc hf
            refine lv_iload hx hb dX8_sheet_63 (lv_at hl 4 rfl) ?_
            exact b65 x1 x2 (x3 + 1) x5 x4 n_lands H locs ls hP hD hS (lv_sub hl [1, 2, 3, 0, 5] rfl) hf
          · replace hf := if_t cc hf
            refine lv_iload hx hb dX8_sheet_58 (lv_at hl 5 rfl) ?_
            refine lv_goto (tgt := 65) hx hb dX8_sheet_60 (by decide) ?_
            exact b65 x1 x2 (x3 + 1) x5 x5 n_lands H locs ls hP hD hS (lv_sub hl [1, 2, 3, 0, 5] rfl) hf
  have main : ∀ (H : Heap) (locs : List Loc) (ls : Array Slot), va_P D vwCl (vw6 cyI cyJ cyZ cyO a n_lands n_camphors n_there n_mothCells n_mothHeads n_threads n_sightNights n_sightCells n_sights n_night n_eaten) H → va_D A (vw6 cyI cyJ cyZ cyO a n_lands n_camphors n_there n_mothCells n_mothHeads n_threads n_sightNights n_sightCells n_sights n_night n_eaten) → va_S A s.heap H locs → lv_has ls 6 [(0, .ref (a 0 0)), (1, .int p1), (2, .int p2)] → W p l e ({ frames := 2, cells := 0, slots := 0, locals := 44 } : Room) s m ([.ref (a 0 0), .int p1, .int p2] : List Value).toArray below meth c H locs 0 0 (MQ below (qI D (vw6 cyI cyJ cyZ cyO a n_lands n_camphors n_there n_mothCells n_mothHeads n_threads n_sightNights n_sightCells n_sights n_night n_eaten) q A) ([.ref (a 0 0), .int p1, .int p2] : List Value).toArray s 0 0 A) (F0 m 0 ls []) := by
    intro H locs ls hP hD hS hl
    unfold g_X8_sheet at hf
    refine lv_iload_n hx hb dX8_sheet_0 rfl (lv_at hl 1 rfl) ?_
    obtain ⟨q2, hq2, hf⟩ := bd_some hf
    have hC : ([] : List Nat).map (fun i => (vw6 cyI cyJ cyZ cyO a n_lands n_camphors n_there n_mothCells n_mothHeads n_threads n_sightNights n_sightCells n_sights n_night n_eaten)[i]?) = ([] : va_W).map some := rfl
    refine cl_i (rn_S (As := [.int p1]) (rest := []) hx hb hml hown hT hK hN hP hD [] hC rfl (c_X8_areFourLands l D cyI cyJ cyZ cyO H.size p1 nf q2 hq2) wm_X8_199 wt_X8_areFourLands wz_X8 wc_X8_areFourLands hd_X8_areFourLands ⟨rfl, rfl⟩ ⟨Nat.le_of_ble_eq_true rfl, Nat.le_of_ble_eq_true rfl⟩ rfl hl.1 rfl (Nat.le_of_ble_eq_true rfl) dX8_sheet_1 ⟨Nat.zero_le _, Nat.zero_le _⟩) hP hD hS hA [] hC [(false, 0), (false, 1), (false, 2), (false, 3), (false, 4), (false, 5), (false, 6), (false, 7), (false, 8), (false, 9)] (ws' := vw6 cyI cyJ cyZ cyO a n_lands n_camphors n_there n_mothCells n_mothHeads n_threads n_sightNights n_sightCells n_sights n_night n_eaten) rfl rfl rfl (fun H locs hP hD hS => ?_)
    refine lv_if_eq (tgt := 16) hx hb dX8_sheet_4 (by decide) (fun cc => ?_) (fun cc => ?_)
    · replace hf := if_t cc hf
      refine lv_bipush (v := (-2)) hx hb dX8_sheet_16 (by decide) ?_
      cases Option.some.inj hf
      exact W.iret hx hb hr (fun t ht hW => ⟨⟨_, (), rfl, rfl, by show va_P D vwCl _ t.heap; rw [ht]; exact hP⟩, hS.F ht⟩) hS.2.2 dX8_sheet_18
    · replace hf := if_f cc hf
      refine lv_iload_n hx hb dX8_sheet_7 rfl (lv_at hl 2 rfl) ?_
      refine lv_iconst (v := 0) hx hb dX8_sheet_8 (by decide) ?_
      refine lv_iconst (v := 1) hx hb dX8_sheet_9 (by decide) ?_
      obtain ⟨q3, hq3, hf⟩ := bd_some hf
      have hC : ([] : List Nat).map (fun i => (vw6 cyI cyJ cyZ cyO a n_lands n_camphors n_there n_mothCells n_mothHeads n_threads n_sightNights n_sightCells n_sights n_night n_eaten)[i]?) = ([] : va_W).map some := rfl
      refine cl_i (rn_S (As := [.int p2, .int 0, .int 1]) (rest := []) hx hb hml hown hT hK hN hP hD [] hC rfl (c_X8_within l D cyI cyJ cyZ cyO H.size p2 0 1 nf q3 hq3) wm_X8_80 wt_X8_within wz_X8 wc_X8_within hd_X8_within ⟨rfl, rfl⟩ ⟨Nat.le_of_ble_eq_true rfl, Nat.le_of_ble_eq_true rfl⟩ rfl hl.1 rfl (Nat.le_of_ble_eq_true rfl) dX8_sheet_10 ⟨Nat.zero_le _, Nat.zero_le _⟩) hP hD hS hA [] hC [(false, 0), (false, 1), (false, 2), (false, 3), (false, 4), (false, 5), (false, 6), (false, 7), (false, 8), (false, 9)] (ws' := vw6 cyI cyJ cyZ cyO a n_lands n_camphors n_there n_mothCells n_mothHeads n_threads n_sightNights n_sightCells n_sights n_night n_eaten) rfl rfl rfl (fun H locs hP hD hS => ?_)
      refine lv_if_ne (tgt := 19) hx hb dX8_sheet_13 (by decide) (fun cc => ?_) (fun cc => ?_)
      · replace hf := if_f cc hf
        refine lv_iconst (v := 0) hx hb dX8_sheet_19 (by decide) ?_
        refine lv_istore_n (lv' := [(3, .int 0), (0, .ref (a 0 0)), (1, .int p1), (2, .int p2)]) hx hb dX8_sheet_20 rfl hl (by decide) rfl (fun ls hl => ?_)
        refine lv_bipush (v := (-6)) hx hb dX8_sheet_21 (by decide) ?_
        refine lv_istore (lv' := [(4, .int (-6)), (3, .int 0), (0, .ref (a 0 0)), (1, .int p1), (2, .int p2)]) hx hb dX8_sheet_23 hl (by decide) rfl (fun ls hl => ?_)
        refine lv_iconst (v := 0) hx hb dX8_sheet_25 (by decide) ?_
        refine lv_istore (lv' := [(5, .int 0), (4, .int (-6)), (3, .int 0), (0, .ref (a 0 0)), (1, .int p1), (2, .int p2)]) hx hb dX8_sheet_26 hl (by decide) rfl (fun ls hl => ?_)
        exact l28 nf p1 p2 0 (-6) 0 n_lands H locs ls hP hD hS (lv_sub hl [3, 4, 5, 2, 1, 0] rfl) hf
      · replace hf := if_t cc hf
        refine lv_bipush (v := (-2)) hx hb dX8_sheet_16 (by decide) ?_
        cases Option.some.inj hf
        exact W.iret hx hb hr (fun t ht hW => ⟨⟨_, (), rfl, rfl, by show va_P D vwCl _ t.heap; rw [ht]; exact hP⟩, hS.F ht⟩) hS.2.2 dX8_sheet_18
  have hl := lv_entry ([.ref (a 0 0), .int p1, .int p2]) (n := 6) (Nat.le_of_ble_eq_true rfl)
  rw [lg_entry_eq]
  exact main s.heap [] _ hP hD hS hl
theorem hd_X8_seen : yX8_seen.cls = RX8 ∧ yX8_seen.cls ≠ "java/lang/invoke/MethodHandle" ∧ yX8_seen.cls ≠ "java/lang/invoke/VarHandle" ∧ (parseMethodDescriptor yX8_seen.desc).map (fun d => d.parameters.length) = some 2 := by decide +kernel
set_option maxHeartbeats 4000000 in
set_option maxRecDepth 100000 in
theorem c_X8_seen (l : Launch) (D : va_G) (cyI cyJ cyZ cyO : ClassId) (a : Nat → Nat → Nat) (sz : Nat) (n_lands : Nat → Int32) (n_camphors : Nat → Int32) (n_there : Nat → Int32) (n_mothCells : Nat → Int32) (n_mothHeads : Nat → Int32) (n_threads : Nat → Int32) (n_sightNights : Nat → Int32) (n_sightCells : Nat → Int32) (n_sights : Int32) (n_night : Int32) (n_eaten : Int32) (p1 : Int32) (p2 : Int32) (nf : Nat) (q : Int32 × (Nat → Int32) × (Nat → Int32) × Int32) (hf : g_X8_seen nf p1 p2 n_sightNights n_sightCells n_sights = some q) : Met l yX8_seen (Cond.code yX8_seen cX8_seen 3 (some .int) :: tbG) ({ frames := 1, cells := 0, slots := 0, locals := 22 } : Room) (va_Pc [.ref (a 0 0), .int p1, .int p2] (pcB D (ty4 cyI cyJ cyZ cyO) sz (vw6 cyI cyJ cyZ cyO a n_lands n_camphors n_there n_mothCells n_mothHeads n_threads n_sightNights n_sightCells n_sights n_night n_eaten))) (qI D (vw6 cyI cyJ cyZ cyO a n_lands n_camphors n_there n_mothCells n_mothHeads n_threads q.2.1 q.2.2.1 q.2.2.2 n_night n_eaten) q.1 (va_A (vw6 cyI cyJ cyZ cyO a n_lands n_camphors n_there n_mothCells n_mothHeads n_threads n_sightNights n_sightCells n_sights n_night n_eaten) sz)) 0 0 (va_A (vw6 cyI cyJ cyZ cyO a n_lands n_camphors n_there n_mothCells n_mothHeads n_threads n_sightNights n_sightCells n_sights n_night n_eaten) sz) := by
  refine Met.ofW (cc := cX8_seen) (maxL := 3) (ret := (some .int)) (by decide) rfl ?_
  intro p e s m args below meth c s₁ B hml hv
  obtain ⟨rfl, hsz, hP, hK, hD0, hN⟩ := hv
  have hx := B.exec
  have hb := B.bytes
  have hr := B.returns
  have hT : ∀ w ∈ tbG, w.before ([.ref (a 0 0), .int p1, .int p2] : List Value).toArray s = true := fun w h => atoms_spec (ws := (Cond.code yX8_seen cX8_seen 3 (some .int) :: tbG)) B.pre w (List.mem_cons_of_mem _ h)
  have hown : s.vm.findClass RX8 = some m.cls := findClass_of_methodNamed B.named
  have hlocks := B.notSynchronized
  subst hsz
  have hD := hD0.self (sz := s.heap.size)
  generalize hAe : va_A (vw6 cyI cyJ cyZ cyO a n_lands n_camphors n_there n_mothCells n_mothHeads n_threads n_sightNights n_sightCells n_sights n_night n_eaten) s.heap.size = A at hD ⊢
  have hA : ∀ q : Nat, s.heap.size ≤ q → A q := fun q h => by rw [← hAe]; exact Or.inr h
  have hS : va_S A s.heap s.heap [] := va_S.rf
  show W p l e ({ frames := 1, cells := 0, slots := 0, locals := 22 } : Room) s m ([.ref (a 0 0), .int p1, .int p2] : List Value).toArray below meth c s.heap [] 0 0 (MQ below (qI D (vw6 cyI cyJ cyZ cyO a n_lands n_camphors n_there n_mothCells n_mothHeads n_threads q.2.1 q.2.2.1 q.2.2.2 n_night n_eaten) q.1 A) ([.ref (a 0 0), .int p1, .int p2] : List Value).toArray s 0 0 A) _
  have main : ∀ (H : Heap) (locs : List Loc) (ls : Array Slot), va_P D vwCl (vw6 cyI cyJ cyZ cyO a n_lands n_camphors n_there n_mothCells n_mothHeads n_threads n_sightNights n_sightCells n_sights n_night n_eaten) H → va_D A (vw6 cyI cyJ cyZ cyO a n_lands n_camphors n_there n_mothCells n_mothHeads n_threads n_sightNights n_sightCells n_sights n_night n_eaten) → va_S A s.heap H locs → lv_has ls 3 [(0, .ref (a 0 0)), (1, .int p1), (2, .int p2)] → W p l e ({ frames := 1, cells := 0, slots := 0, locals := 22 } : Room) s m ([.ref (a 0 0), .int p1, .int p2] : List Value).toArray below meth c H locs 0 0 (MQ below (qI D (vw6 cyI cyJ cyZ cyO a n_lands n_camphors n_there n_mothCells n_mothHeads n_threads q.2.1 q.2.2.1 q.2.2.2 n_night n_eaten) q.1 A) ([.ref (a 0 0), .int p1, .int p2] : List Value).toArray s 0 0 A) (F0 m 0 ls []) := by
    intro H locs ls hP hD hS hl
    unfold g_X8_seen at hf
    refine lv_iload_n hx hb dX8_seen_0 rfl (lv_at hl 2 rfl) ?_
    obtain ⟨q1, hq1, hf⟩ := bd_some hf
    have hC : ([] : List Nat).map (fun i => (vw6 cyI cyJ cyZ cyO a n_lands n_camphors n_there n_mothCells n_mothHeads n_threads n_sightNights n_sightCells n_sights n_night n_eaten)[i]?) = ([] : va_W).map some := rfl
    refine cl_i (rn_S (As := [.int p2]) (rest := []) hx hb hml hown hT hK hN hP hD [] hC rfl (c_X8_isCell l D cyI cyJ cyZ cyO H.size p2 nf q1 hq1) wm_X8_76 wt_X8_isCell wz_X8 wc_X8_isCell hd_X8_isCell ⟨rfl, rfl⟩ ⟨Nat.le_of_ble_eq_true rfl, Nat.le_of_ble_eq_true rfl⟩ rfl hl.1 rfl (Nat.le_of_ble_eq_true rfl) dX8_seen_1 ⟨Nat.zero_le _, Nat.zero_le _⟩) hP hD hS hA [] hC [(false, 0), (false, 1), (false, 2), (false, 3), (false, 4), (false, 5), (false, 6), (false, 7), (false, 8), (false, 9)] (ws' := vw6 cyI cyJ cyZ cyO a n_lands n_camphors n_there n_mothCells n_mothHeads n_threads n_sightNights n_sightCells n_sights n_night n_eaten) rfl rfl rfl (fun H locs hP hD hS => ?_)
    refine lv_if_ne (tgt := 9) hx hb dX8_seen_4 (by decide) (fun cc => ?_) (fun cc => ?_)
    · replace hf := if_f cc hf
      refine lv_iload_n hx hb dX8_seen_9 rfl (lv_at hl 1 rfl) ?_
      refine lv_iconst (v := 0) hx hb dX8_seen_10 (by decide) ?_
      refine lv_bipush (v := 40) hx hb dX8_seen_11 (by decide) ?_
      obtain ⟨q2, hq2, hf⟩ := bd_some hf
      have hC : ([] : List Nat).map (fun i => (vw6 cyI cyJ cyZ cyO a n_lands n_camphors n_there n_mothCells n_mothHeads n_threads n_sightNights n_sightCells n_sights n_night n_eaten)[i]?) = ([] : va_W).map some := rfl
      refine cl_i (rn_S (As := [.int p1, .int 0, .int 40]) (rest := []) hx hb hml hown hT hK hN hP hD [] hC rfl (c_X8_within l D cyI cyJ cyZ cyO H.size p1 0 40 nf q2 hq2) wm_X8_80 wt_X8_within wz_X8 wc_X8_within hd_X8_within ⟨rfl, rfl⟩ ⟨Nat.le_of_ble_eq_true rfl, Nat.le_of_ble_eq_true rfl⟩ rfl hl.1 rfl (Nat.le_of_ble_eq_true rfl) dX8_seen_13 ⟨Nat.zero_le _, Nat.zero_le _⟩) hP hD hS hA [] hC [(false, 0), (false, 1), (false, 2), (false, 3), (false, 4), (false, 5), (false, 6), (false, 7), (false, 8), (false, 9)] (ws' := vw6 cyI cyJ cyZ cyO a n_lands n_camphors n_there n_mothCells n_mothHeads n_threads n_sightNights n_sightCells n_sights n_night n_eaten) rfl rfl rfl (fun H locs hP hD hS => ?_)
      refine lv_if_ne (tgt := 22) hx hb dX8_seen_16 (by decide) (fun cc => ?_) (fun cc => ?_)
      · replace hf := if_f cc hf
        refine lv_aload_n hx hb dX8_seen_22 rfl (lv_at hl 0 rfl) ?_
        refine va_get (ci := 8) (v := .ref ((a 1) 0)) (C := RX8) (T := TX8) (N := 11) hx hb hT hin_X8 hown hK hP 0 rfl rfl 0 (by decide) (hT _ wf_X8_10) (fun _ h9 => h9) rfl dX8_seen_23 ?_
        refine lv_iload_n hx hb dX8_seen_26 rfl (lv_at hl 1 rfl) ?_
        refine lv_iload_n hx hb dX8_seen_27 rfl (lv_at hl 2 rfl) ?_
        obtain ⟨q3, hq3, hf⟩ := bd_some hf
        have hC : [1, 2, 3, 4, 5, 6, 7, 8, 9].map (fun i => (vw6 cyI cyJ cyZ cyO a n_lands n_camphors n_there n_mothCells n_mothHeads n_threads n_sightNights n_sightCells n_sights n_night n_eaten)[i]?) = (wX1 cyI cyJ cyZ cyO (a 1) n_lands n_camphors n_there n_mothCells n_mothHeads n_threads n_sightNights n_sightCells n_sights n_night n_eaten).map some := rfl
        refine cl_i (rn_V (As := [.int p1, .int p2]) (rest := []) (C := RX1) hx hb hml hown hT hK hN hP hD [1, 2, 3, 4, 5, 6, 7, 8, 9] hC rfl (c_X1_addSight l D cyI cyJ cyZ cyO (a 1) H.size n_lands n_camphors n_there n_mothCells n_mothHeads n_threads n_sightNights n_sightCells n_sights n_night n_eaten p1 p2 nf q3 hq3) wm_X8_205 wi_X1_addSight wl_X1_addSight wz_X1 wc_X1_addSight hd_X1_addSight ⟨rfl, rfl⟩ ⟨Nat.le_of_ble_eq_true rfl, Nat.le_of_ble_eq_true rfl⟩ (q0 := 0) (ci := 1) rfl rfl rfl rfl hl.1 rfl (Nat.le_of_ble_eq_true rfl) dX8_seen_28 ⟨Nat.zero_le _, Nat.zero_le _⟩) hP hD hS hA [1, 2, 3, 4, 5, 6, 7, 8, 9] hC [(false, 0), (true, 0), (true, 1), (true, 2), (true, 3), (true, 4), (true, 5), (true, 6), (true, 7), (true, 8)] (ws' := vw6 cyI cyJ cyZ cyO a n_lands n_camphors n_there n_mothCells n_mothHeads n_threads q3.2.1 q3.2.2.1 q3.2.2.2 n_night n_eaten) rfl rfl rfl (fun H locs hP hD hS => ?_)
        refine lv_if_eq (tgt := 44) hx hb dX8_seen_31 (by decide) (fun cc => ?_) (fun cc => ?_)
        · replace hf := if_t cc hf
          refine lv_bipush (v := (-4)) hx hb dX8_seen_44 (by decide) ?_
          cases Option.some.inj hf
          exact W.iret hx hb hr (fun t ht hW => ⟨⟨_, (), rfl, rfl, by show va_P D vwCl _ t.heap; rw [ht]; exact hP⟩, hS.F ht⟩) hS.2.2 dX8_seen_46
        · replace hf := if_f cc hf
          refine lv_aload_n hx hb dX8_seen_34 rfl (lv_at hl 0 rfl) ?_
          refine va_get (ci := 8) (v := .ref ((a 1) 0)) (C := RX8) (T := TX8) (N := 11) hx hb hT hin_X8 hown hK hP 0 rfl rfl 0 (by decide) (hT _ wf_X8_10) (fun _ h9 => h9) rfl dX8_seen_35 ?_
          refine va_get (ci := 1) (v := .int q3.2.2.2) (C := RX1) (T := TX1) (N := 11) hx hb hT hin_X1 hown hK hP 1 rfl rfl 8 (by decide) (hT _ wf_X8_209) (fun _ h9 => h9) rfl dX8_seen_38 ?_
          refine lv_goto (tgt := 46) hx hb dX8_seen_41 (by decide) ?_
          cases Option.some.inj hf
          exact W.iret hx hb hr (fun t ht hW => ⟨⟨_, (), rfl, rfl, by show va_P D vwCl _ t.heap; rw [ht]; exact hP⟩, hS.F ht⟩) hS.2.2 dX8_seen_46
      · replace hf := if_t cc hf
        refine lv_bipush (v := (-2)) hx hb dX8_seen_19 (by decide) ?_
        cases Option.some.inj hf
        exact W.iret hx hb hr (fun t ht hW => ⟨⟨_, (), rfl, rfl, by show va_P D vwCl _ t.heap; rw [ht]; exact hP⟩, hS.F ht⟩) hS.2.2 dX8_seen_21
    · replace hf := if_t cc hf
      refine lv_iconst (v := (-1)) hx hb dX8_seen_7 (by decide) ?_
      cases Option.some.inj hf
      exact W.iret hx hb hr (fun t ht hW => ⟨⟨_, (), rfl, rfl, by show va_P D vwCl _ t.heap; rw [ht]; exact hP⟩, hS.F ht⟩) hS.2.2 dX8_seen_8
  have hl := lv_entry ([.ref (a 0 0), .int p1, .int p2]) (n := 3) (Nat.le_of_ble_eq_true rfl)
  rw [lg_entry_eq]
  exact main s.heap [] _ hP hD hS hl
theorem hd_X8_forget : yX8_forget.cls = RX8 ∧ yX8_forget.cls ≠ "java/lang/invoke/MethodHandle" ∧ yX8_forget.cls ≠ "java/lang/invoke/VarHandle" ∧ (parseMethodDescriptor yX8_forget.desc).map (fun d => d.parameters.length) = some 0 := by decide +kernel
set_option maxHeartbeats 4000000 in
set_option maxRecDepth 100000 in
theorem c_X8_forget (l : Launch) (D : va_G) (cyI cyJ cyZ cyO : ClassId) (a : Nat → Nat → Nat) (sz : Nat) (n_lands : Nat → Int32) (n_camphors : Nat → Int32) (n_there : Nat → Int32) (n_mothCells : Nat → Int32) (n_mothHeads : Nat → Int32) (n_threads : Nat → Int32) (n_sightNights : Nat → Int32) (n_sightCells : Nat → Int32) (n_sights : Int32) (n_night : Int32) (n_eaten : Int32) (nf : Nat) (q : Int32 × Int32) (hf : g_X8_forget nf n_sights = some q) : Met l yX8_forget (Cond.code yX8_forget cX8_forget 2 (some .int) :: tbG) ({ frames := 0, cells := 0, slots := 0, locals := 0 } : Room) (va_Pc [.ref (a 0 0)] (pcB D (ty4 cyI cyJ cyZ cyO) sz (vw6 cyI cyJ cyZ cyO a n_lands n_camphors n_there n_mothCells n_mothHeads n_threads n_sightNights n_sightCells n_sights n_night n_eaten))) (qI D (vw6 cyI cyJ cyZ cyO a n_lands n_camphors n_there n_mothCells n_mothHeads n_threads n_sightNights n_sightCells q.2 n_night n_eaten) q.1 (va_A (vw6 cyI cyJ cyZ cyO a n_lands n_camphors n_there n_mothCells n_mothHeads n_threads n_sightNights n_sightCells n_sights n_night n_eaten) sz)) 0 0 (va_A (vw6 cyI cyJ cyZ cyO a n_lands n_camphors n_there n_mothCells n_mothHeads n_threads n_sightNights n_sightCells n_sights n_night n_eaten) sz) := by
  refine Met.ofW (cc := cX8_forget) (maxL := 2) (ret := (some .int)) (by decide) rfl ?_
  intro p e s m args below meth c s₁ B hml hv
  obtain ⟨rfl, hsz, hP, hK, hD0, hN⟩ := hv
  have hx := B.exec
  have hb := B.bytes
  have hr := B.returns
  have hT : ∀ w ∈ tbG, w.before ([.ref (a 0 0)] : List Value).toArray s = true := fun w h => atoms_spec (ws := (Cond.code yX8_forget cX8_forget 2 (some .int) :: tbG)) B.pre w (List.mem_cons_of_mem _ h)
  have hown : s.vm.findClass RX8 = some m.cls := findClass_of_methodNamed B.named
  have hlocks := B.notSynchronized
  subst hsz
  have hD := hD0.self (sz := s.heap.size)
  generalize hAe : va_A (vw6 cyI cyJ cyZ cyO a n_lands n_camphors n_there n_mothCells n_mothHeads n_threads n_sightNights n_sightCells n_sights n_night n_eaten) s.heap.size = A at hD ⊢
  have hA : ∀ q : Nat, s.heap.size ≤ q → A q := fun q h => by rw [← hAe]; exact Or.inr h
  have hS : va_S A s.heap s.heap [] := va_S.rf
  show W p l e ({ frames := 0, cells := 0, slots := 0, locals := 0 } : Room) s m ([.ref (a 0 0)] : List Value).toArray below meth c s.heap [] 0 0 (MQ below (qI D (vw6 cyI cyJ cyZ cyO a n_lands n_camphors n_there n_mothCells n_mothHeads n_threads n_sightNights n_sightCells q.2 n_night n_eaten) q.1 A) ([.ref (a 0 0)] : List Value).toArray s 0 0 A) _
  have main : ∀ (H : Heap) (locs : List Loc) (ls : Array Slot), va_P D vwCl (vw6 cyI cyJ cyZ cyO a n_lands n_camphors n_there n_mothCells n_mothHeads n_threads n_sightNights n_sightCells n_sights n_night n_eaten) H → va_D A (vw6 cyI cyJ cyZ cyO a n_lands n_camphors n_there n_mothCells n_mothHeads n_threads n_sightNights n_sightCells n_sights n_night n_eaten) → va_S A s.heap H locs → lv_has ls 2 [(0, .ref (a 0 0))] → W p l e ({ frames := 0, cells := 0, slots := 0, locals := 0 } : Room) s m ([.ref (a 0 0)] : List Value).toArray below meth c H locs 0 0 (MQ below (qI D (vw6 cyI cyJ cyZ cyO a n_lands n_camphors n_there n_mothCells n_mothHeads n_threads n_sightNights n_sightCells q.2 n_night n_eaten) q.1 A) ([.ref (a 0 0)] : List Value).toArray s 0 0 A) (F0 m 0 ls []) := by
    intro H locs ls hP hD hS hl
    unfold g_X8_forget at hf
    refine lv_aload_n hx hb dX8_forget_0 rfl (lv_at hl 0 rfl) ?_
    refine va_get (ci := 8) (v := .ref ((a 1) 0)) (C := RX8) (T := TX8) (N := 11) hx hb hT hin_X8 hown hK hP 0 rfl rfl 0 (by decide) (hT _ wf_X8_10) (fun _ h9 => h9) rfl dX8_forget_1 ?_
    refine va_get (ci := 1) (v := .int n_sights) (C := RX1) (T := TX1) (N := 11) hx hb hT hin_X1 hown hK hP 1 rfl rfl 8 (by decide) (hT _ wf_X8_209) (fun _ h9 => h9) rfl dX8_forget_4 ?_
    refine lv_istore_n (lv' := [(1, .int n_sights), (0, .ref (a 0 0))]) hx hb dX8_forget_7 rfl hl (by decide) rfl (fun ls hl => ?_)
    refine lv_aload_n hx hb dX8_forget_8 rfl (lv_at hl 1 rfl) ?_
    refine va_get (ci := 8) (v := .ref ((a 1) 0)) (C := RX8) (T := TX8) (N := 11) hx hb hT hin_X8 hown hK hP 0 rfl rfl 0 (by decide) (hT _ wf_X8_10) (fun _ h9 => h9) rfl dX8_forget_9 ?_
    refine lv_iconst (v := 0) hx hb dX8_forget_12 (by decide) ?_
    refine va_put (ci := 1) (v := .int 0) (ty := .int) (C := RX1) (T := TX1) (N := 11) hx hb hT hin_X1 tyX1 tyX1_ok nmX1 hown hK hP hD hS 1 rfl rfl 8 (by decide) (hT _ wf_X8_209) (fun _ h9 => h9) rfl (tyX1_ok 8 (by decide)) rfl rfl (Nat.le_of_ble_eq_true rfl) dX8_forget_13 (fun H locs hP hD hS => ?_)
    have hP : va_P D vwCl (vw6 cyI cyJ cyZ cyO a n_lands n_camphors n_there n_mothCells n_mothHeads n_threads n_sightNights n_sightCells 0 n_night n_eaten) H := hP
    have hD : va_D A (vw6 cyI cyJ cyZ cyO a n_lands n_camphors n_there n_mothCells n_mothHeads n_threads n_sightNights n_sightCells 0 n_night n_eaten) := hD
    refine lv_iload_n hx hb dX8_forget_16 rfl (lv_at hl 0 rfl) ?_
    cases Option.some.inj hf
    exact W.iret hx hb hr (fun t ht hW => ⟨⟨_, (), rfl, rfl, by show va_P D vwCl _ t.heap; rw [ht]; exact hP⟩, hS.F ht⟩) hS.2.2 dX8_forget_17
  have hl := lv_entry ([.ref (a 0 0)]) (n := 2) (Nat.le_of_ble_eq_true rfl)
  rw [lg_entry_eq]
  exact main s.heap [] _ hP hD hS hl
theorem hd_X8_began : yX8_began.cls = RX8 ∧ yX8_began.cls ≠ "java/lang/invoke/MethodHandle" ∧ yX8_began.cls ≠ "java/lang/invoke/VarHandle" ∧ (parseMethodDescriptor yX8_began.desc).map (fun d => d.parameters.length) = some 1 := by decide +kernel
set_option maxHeartbeats 4000000 in
set_option maxRecDepth 100000 in
theorem c_X8_began (l : Launch) (D : va_G) (cyI cyJ cyZ cyO : ClassId) (a : Nat → Nat → Nat) (sz : Nat) (n_lands : Nat → Int32) (n_camphors : Nat → Int32) (n_there : Nat → Int32) (n_mothCells : Nat → Int32) (n_mothHeads : Nat → Int32) (n_threads : Nat → Int32) (n_sightNights : Nat → Int32) (n_sightCells : Nat → Int32) (n_sights : Int32) (n_night : Int32) (n_eaten : Int32) (t_next_ : Nat → Int32) (t_starts : Nat → Int32) (t_stands : Nat → Int32) (t_cellsSeen : Nat → Int32) (t_inCell : Nat → Int32) (t_fitting : Int32) (t_bestNight : Int32) (t_mostLeft : Int32) (p1 : Int32) (nf : Nat) (q : Int32 × (Nat → Int32) × (Nat → Int32) × Int32) (hf : g_X8_began nf p1 n_sightNights n_sightCells n_sights t_next_ t_starts t_cellsSeen t_fitting = some q) : Met l yX8_began (Cond.code yX8_began cX8_began 2 (some .int) :: tbG) ({ frames := 3, cells := 0, slots := 0, locals := 69 } : Room) (va_Pc [.ref (a 0 0), .int p1] (pcB D (ty4 cyI cyJ cyZ cyO) sz (vw12 cyI cyJ cyZ cyO a n_lands n_camphors n_there n_mothCells n_mothHeads n_threads n_sightNights n_sightCells n_sights n_night n_eaten t_next_ t_starts t_stands t_cellsSeen t_inCell t_fitting t_bestNight t_mostLeft))) (qI D (vw12 cyI cyJ cyZ cyO a n_lands n_camphors n_there n_mothCells n_mothHeads n_threads n_sightNights n_sightCells n_sights n_night n_eaten t_next_ q.2.1 t_stands q.2.2.1 t_inCell q.2.2.2 t_bestNight t_mostLeft) q.1 (va_A (vw12 cyI cyJ cyZ cyO a n_lands n_camphors n_there n_mothCells n_mothHeads n_threads n_sightNights n_sightCells n_sights n_night n_eaten t_next_ t_starts t_stands t_cellsSeen t_inCell t_fitting t_bestNight t_mostLeft) sz)) 0 0 (va_A (vw12 cyI cyJ cyZ cyO a n_lands n_camphors n_there n_mothCells n_mothHeads n_threads n_sightNights n_sightCells n_sights n_night n_eaten t_next_ t_starts t_stands t_cellsSeen t_inCell t_fitting t_bestNight t_mostLeft) sz) := by
  refine Met.ofW (cc := cX8_began) (maxL := 2) (ret := (some .int)) (by decide) rfl ?_
  intro p e s m args below meth c s₁ B hml hv
  obtain ⟨rfl, hsz, hP, hK, hD0, hN⟩ := hv
  have hx := B.exec
  have hb := B.bytes
  have hr := B.returns
  have hT : ∀ w ∈ tbG, w.before ([.ref (a 0 0), .int p1] : List Value).toArray s = true := fun w h => atoms_spec (ws := (Cond.code yX8_began cX8_began 2 (some .int) :: tbG)) B.pre w (List.mem_cons_of_mem _ h)
  have hown : s.vm.findClass RX8 = some m.cls := findClass_of_methodNamed B.named
  have hlocks := B.notSynchronized
  subst hsz
  have hD := hD0.self (sz := s.heap.size)
  generalize hAe : va_A (vw12 cyI cyJ cyZ cyO a n_lands n_camphors n_there n_mothCells n_mothHeads n_threads n_sightNights n_sightCells n_sights n_night n_eaten t_next_ t_starts t_stands t_cellsSeen t_inCell t_fitting t_bestNight t_mostLeft) s.heap.size = A at hD ⊢
  have hA : ∀ q : Nat, s.heap.size ≤ q → A q := fun q h => by rw [← hAe]; exact Or.inr h
  have hS : va_S A s.heap s.heap [] := va_S.rf
  show W p l e ({ frames := 3, cells := 0, slots := 0, locals := 69 } : Room) s m ([.ref (a 0 0), .int p1] : List Value).toArray below meth c s.heap [] 0 0 (MQ below (qI D (vw12 cyI cyJ cyZ cyO a n_lands n_camphors n_there n_mothCells n_mothHeads n_threads n_sightNights n_sightCells n_sights n_night n_eaten t_next_ q.2.1 t_stands q.2.2.1 t_inCell q.2.2.2 t_bestNight t_mostLeft) q.1 A) ([.ref (a 0 0), .int p1] : List Value).toArray s 0 0 A) _
  have main : ∀ (H : Heap) (locs : List Loc) (ls : Array Slot), va_P D vwCl (vw12 cyI cyJ cyZ cyO a n_lands n_camphors n_there n_mothCells n_mothHeads n_threads n_sightNights n_sightCells n_sights n_night n_eaten t_next_ t_starts t_stands t_cellsSeen t_inCell t_fitting t_bestNight t_mostLeft) H → va_D A (vw12 cyI cyJ cyZ cyO a n_lands n_camphors n_there n_mothCells n_mothHeads n_threads n_sightNights n_sightCells n_sights n_night n_eaten t_next_ t_starts t_stands t_cellsSeen t_inCell t_fitting t_bestNight t_mostLeft) → va_S A s.heap H locs → lv_has ls 2 [(0, .ref (a 0 0)), (1, .int p1)] → W p l e ({ frames := 3, cells := 0, slots := 0, locals := 69 } : Room) s m ([.ref (a 0 0), .int p1] : List Value).toArray below meth c H locs 0 0 (MQ below (qI D (vw12 cyI cyJ cyZ cyO a n_lands n_camphors n_there n_mothCells n_mothHeads n_threads n_sightNights n_sightCells n_sights n_night n_eaten t_next_ q.2.1 t_stands q.2.2.1 t_inCell q.2.2.2 t_bestNight t_mostLeft) q.1 A) ([.ref (a 0 0), .int p1] : List Value).toArray s 0 0 A) (F0 m 0 ls []) := by
    intro H locs ls hP hD hS hl
    unfold g_X8_began at hf
    refine lv_aload_n hx hb dX8_began_0 rfl (lv_at hl 0 rfl) ?_
    refine va_get (ci := 8) (v := .ref ((a 11) 0)) (C := RX8) (T := TX8) (N := 11) hx hb hT hin_X8 hown hK hP 0 rfl rfl 9 (by decide) (hT _ wf_X8_65) (fun _ h9 => h9) rfl dX8_began_1 ?_
    refine lv_aload_n hx hb dX8_began_4 rfl (lv_at hl 0 rfl) ?_
    refine va_get (ci := 8) (v := .ref ((a 1) 0)) (C := RX8) (T := TX8) (N := 11) hx hb hT hin_X8 hown hK hP 0 rfl rfl 0 (by decide) (hT _ wf_X8_10) (fun _ h9 => h9) rfl dX8_began_5 ?_
    obtain ⟨q1, hq1, hf⟩ := bd_some hf
    have hC : [10, 11, 12, 13, 14, 15, 1, 2, 3, 4, 5, 6, 7, 8, 9].map (fun i => (vw12 cyI cyJ cyZ cyO a n_lands n_camphors n_there n_mothCells n_mothHeads n_threads n_sightNights n_sightCells n_sights n_night n_eaten t_next_ t_starts t_stands t_cellsSeen t_inCell t_fitting t_bestNight t_mostLeft)[i]?) = (vw5 cyI cyJ cyZ cyO (a 11) (a 1) t_next_ t_starts t_stands t_cellsSeen t_inCell t_fitting t_bestNight t_mostLeft n_lands n_camphors n_there n_mothCells n_mothHeads n_threads n_sightNights n_sightCells n_sights n_night n_eaten).map some := rfl
    refine cl_v (rn_V (As := [.ref ((a 1) 0)]) (rest := []) (C := RX7) hx hb hml hown hT hK hN hP hD [10, 11, 12, 13, 14, 15, 1, 2, 3, 4, 5, 6, 7, 8, 9] hC rfl (c_X7_gather l D cyI cyJ cyZ cyO (a 11) (a 1) H.size t_next_ t_starts t_stands t_cellsSeen t_inCell t_fitting t_bestNight t_mostLeft n_lands n_camphors n_there n_mothCells n_mothHeads n_threads n_sightNights n_sightCells n_sights n_night n_eaten nf q1 hq1) wm_X8_212 wi_X7_gather wl_X7_gather wz_X7 wc_X7_gather hd_X7_gather ⟨rfl, rfl⟩ ⟨Nat.le_of_ble_eq_true rfl, Nat.le_of_ble_eq_true rfl⟩ (q0 := 0) (ci := 7) rfl rfl rfl rfl hl.1 rfl (Nat.le_of_ble_eq_true rfl) dX8_began_8 ⟨Nat.zero_le _, Nat.zero_le _⟩) hP hD hS hA [10, 11, 12, 13, 14, 15, 1, 2, 3, 4, 5, 6, 7, 8, 9] hC [(false, 0), (true, 6), (true, 7), (true, 8), (true, 9), (true, 10), (true, 11), (true, 12), (true, 13), (true, 14), (true, 0), (true, 1), (true, 2), (true, 3), (true, 4), (true, 5)] (ws' := vw12 cyI cyJ cyZ cyO a n_lands n_camphors n_there n_mothCells n_mothHeads n_threads n_sightNights n_sightCells n_sights n_night n_eaten t_next_ q1.1 t_stands q1.2.1 t_inCell q1.2.2 t_bestNight t_mostLeft) rfl rfl rfl (fun H locs hP hD hS => ?_)
    refine lv_iload_n hx hb dX8_began_11 rfl (lv_at hl 1 rfl) ?_
    refine lv_iconst (v := (-1)) hx hb dX8_began_12 (by decide) ?_
    refine lv_icmp_ne (tgt := 24) hx hb dX8_began_13 (by decide) (fun cc => ?_) (fun cc => ?_)
    · replace hf := if_f cc hf
      refine lv_iload_n hx hb dX8_began_24 rfl (lv_at hl 1 rfl) ?_
      refine lv_iconst (v := 0) hx hb dX8_began_25 (by decide) ?_
      refine lv_aload_n hx hb dX8_began_26 rfl (lv_at hl 0 rfl) ?_
      refine va_get (ci := 8) (v := .ref ((a 11) 0)) (C := RX8) (T := TX8) (N := 11) hx hb hT hin_X8 hown hK hP 0 rfl rfl 9 (by decide) (hT _ wf_X8_65) (fun _ h9 => h9) rfl dX8_began_27 ?_
      refine va_get (ci := 7) (v := .int q1.2.2) (C := RX7) (T := TX7) (N := 8) hx hb hT hin_X7 hown hK hP 10 rfl rfl 5 (by decide) (hT _ wf_X8_215) (fun _ h9 => h9) rfl dX8_began_30 ?_
      refine lv_iconst (v := 1) hx hb dX8_began_33 (by decide) ?_
      refine lv_isub hx hb dX8_began_34 ?_
      obtain ⟨q2, hq2, hf⟩ := bd_some hf
      have hC : ([] : List Nat).map (fun i => (vw12 cyI cyJ cyZ cyO a n_lands n_camphors n_there n_mothCells n_mothHeads n_threads n_sightNights n_sightCells n_sights n_night n_eaten t_next_ q1.1 t_stands q1.2.1 t_inCell q1.2.2 t_bestNight t_mostLeft)[i]?) = ([] : va_W).map some := rfl
      refine cl_i (rn_S (As := [.int p1, .int 0, .int (q1.2.2 - 1)]) (rest := []) hx hb hml hown hT hK hN hP hD [] hC rfl (c_X8_within l D cyI cyJ cyZ cyO H.size p1 0 (q1.2.2 - 1) nf q2 hq2) wm_X8_80 wt_X8_within wz_X8 wc_X8_within hd_X8_within ⟨rfl, rfl⟩ ⟨Nat.le_of_ble_eq_true rfl, Nat.le_of_ble_eq_true rfl⟩ rfl hl.1 rfl (Nat.le_of_ble_eq_true rfl) dX8_began_35 ⟨Nat.zero_le _, Nat.zero_le _⟩) hP hD hS hA [] hC [(false, 0), (false, 1), (false, 2), (false, 3), (false, 4), (false, 5), (false, 6), (false, 7), (false, 8), (false, 9), (false, 10), (false, 11), (false, 12), (false, 13), (false, 14), (false, 15)] (ws' := vw12 cyI cyJ cyZ cyO a n_lands n_camphors n_there n_mothCells n_mothHeads n_threads n_sightNights n_sightCells n_sights n_night n_eaten t_next_ q1.1 t_stands q1.2.1 t_inCell q1.2.2 t_bestNight t_mostLeft) rfl rfl rfl (fun H locs hP hD hS => ?_)
      refine lv_if_eq (tgt := 52) hx hb dX8_began_38 (by decide) (fun cc => ?_) (fun cc => ?_)
      · replace hf := if_t cc hf
        refine lv_bipush (v := (-6)) hx hb dX8_began_52 (by decide) ?_
        cases Option.some.inj hf
        exact W.iret hx hb hr (fun t ht hW => ⟨⟨_, (), rfl, rfl, by show va_P D vwCl _ t.heap; rw [ht]; exact hP⟩, hS.F ht⟩) hS.2.2 dX8_began_54
      · replace hf := if_f cc hf
        refine lv_aload_n hx hb dX8_began_41 rfl (lv_at hl 0 rfl) ?_
        refine va_get (ci := 8) (v := .ref ((a 11) 0)) (C := RX8) (T := TX8) (N := 11) hx hb hT hin_X8 hown hK hP 0 rfl rfl 9 (by decide) (hT _ wf_X8_65) (fun _ h9 => h9) rfl dX8_began_42 ?_
        refine lv_iload_n hx hb dX8_began_45 rfl (lv_at hl 1 rfl) ?_
        obtain ⟨q3, hq3, hf⟩ := bd_some hf
        have hC : [10, 11, 12, 13, 14, 15].map (fun i => (vw12 cyI cyJ cyZ cyO a n_lands n_camphors n_there n_mothCells n_mothHeads n_threads n_sightNights n_sightCells n_sights n_night n_eaten t_next_ q1.1 t_stands q1.2.1 t_inCell q1.2.2 t_bestNight t_mostLeft)[i]?) = (wX7 cyI cyJ cyZ cyO (a 11) t_next_ q1.1 t_stands q1.2.1 t_inCell q1.2.2 t_bestNight t_mostLeft).map some := rfl
        refine cl_i (rn_V (As := [.int p1]) (rest := []) (C := RX7) hx hb hml hown hT hK hN hP hD [10, 11, 12, 13, 14, 15] hC rfl (c_X7_toldStart l D cyI cyJ cyZ cyO (a 11) H.size t_next_ q1.1 t_stands q1.2.1 t_inCell q1.2.2 t_bestNight t_mostLeft p1 nf q3 hq3) wm_X8_218 wi_X7_toldStart wl_X7_toldStart wz_X7 wc_X7_toldStart hd_X7_toldStart ⟨rfl, rfl⟩ ⟨Nat.le_of_ble_eq_true rfl, Nat.le_of_ble_eq_true rfl⟩ (q0 := 0) (ci := 7) rfl rfl rfl rfl hl.1 rfl (Nat.le_of_ble_eq_true rfl) dX8_began_46 ⟨Nat.zero_le _, Nat.zero_le _⟩) hP hD hS hA [10, 11, 12, 13, 14, 15] hC [(false, 0), (false, 1), (false, 2), (false, 3), (false, 4), (false, 5), (false, 6), (false, 7), (false, 8), (false, 9), (true, 0), (true, 1), (true, 2), (true, 3), (true, 4), (true, 5)] (ws' := vw12 cyI cyJ cyZ cyO a n_lands n_camphors n_there n_mothCells n_mothHeads n_threads n_sightNights n_sightCells n_sights n_night n_eaten t_next_ q1.1 t_stands q1.2.1 t_inCell q1.2.2 t_bestNight t_mostLeft) rfl rfl rfl (fun H locs hP hD hS => ?_)
        refine lv_goto (tgt := 54) hx hb dX8_began_49 (by decide) ?_
        cases Option.some.inj hf
        exact W.iret hx hb hr (fun t ht hW => ⟨⟨_, (), rfl, rfl, by show va_P D vwCl _ t.heap; rw [ht]; exact hP⟩, hS.F ht⟩) hS.2.2 dX8_began_54
    · replace hf := if_t cc hf
      refine lv_aload_n hx hb dX8_began_16 rfl (lv_at hl 0 rfl) ?_
      refine va_get (ci := 8) (v := .ref ((a 11) 0)) (C := RX8) (T := TX8) (N := 11) hx hb hT hin_X8 hown hK hP 0 rfl rfl 9 (by decide) (hT _ wf_X8_65) (fun _ h9 => h9) rfl dX8_began_17 ?_
      refine va_get (ci := 7) (v := .int q1.2.2) (C := RX7) (T := TX7) (N := 8) hx hb hT hin_X7 hown hK hP 10 rfl rfl 5 (by decide) (hT _ wf_X8_215) (fun _ h9 => h9) rfl dX8_began_20 ?_
      cases Option.some.inj hf
      exact W.iret hx hb hr (fun t ht hW => ⟨⟨_, (), rfl, rfl, by show va_P D vwCl _ t.heap; rw [ht]; exact hP⟩, hS.F ht⟩) hS.2.2 dX8_began_23
  have hl := lv_entry ([.ref (a 0 0), .int p1]) (n := 2) (Nat.le_of_ble_eq_true rfl)
  rw [lg_entry_eq]
  exact main s.heap [] _ hP hD hS hl
theorem hd_X8_ask : yX8_ask.cls = RX8 ∧ yX8_ask.cls ≠ "java/lang/invoke/MethodHandle" ∧ yX8_ask.cls ≠ "java/lang/invoke/VarHandle" ∧ (parseMethodDescriptor yX8_ask.desc).map (fun d => d.parameters.length) = some 1 := by decide +kernel
set_option maxHeartbeats 4000000 in
set_option maxRecDepth 100000 in
theorem c_X8_ask (l : Launch) (D : va_G) (cyI cyJ cyZ cyO : ClassId) (a : Nat → Nat → Nat) (sz : Nat) (n_lands : Nat → Int32) (n_camphors : Nat → Int32) (n_there : Nat → Int32) (n_mothCells : Nat → Int32) (n_mothHeads : Nat → Int32) (n_threads : Nat → Int32) (n_sightNights : Nat → Int32) (n_sightCells : Nat → Int32) (n_sights : Int32) (n_night : Int32) (n_eaten : Int32) (t_next_ : Nat → Int32) (t_starts : Nat → Int32) (t_stands : Nat → Int32) (t_cellsSeen : Nat → Int32) (t_inCell : Nat → Int32) (t_fitting : Int32) (t_bestNight : Int32) (t_mostLeft : Int32) (p1 : Int32) (nf : Nat) (q : Int32 × (Nat → Int32) × (Nat → Int32) × (Nat → Int32) × (Nat → Int32) × Int32 × Int32 × Int32) (hf : g_X8_ask nf p1 n_sightNights n_sightCells n_sights t_next_ t_starts t_stands t_cellsSeen t_inCell t_fitting t_bestNight t_mostLeft = some q) : Met l yX8_ask (Cond.code yX8_ask cX8_ask 2 (some .int) :: tbG) ({ frames := 3, cells := 0, slots := 0, locals := 86 } : Room) (va_Pc [.ref (a 0 0), .int p1] (pcB D (ty4 cyI cyJ cyZ cyO) sz (vw12 cyI cyJ cyZ cyO a n_lands n_camphors n_there n_mothCells n_mothHeads n_threads n_sightNights n_sightCells n_sights n_night n_eaten t_next_ t_starts t_stands t_cellsSeen t_inCell t_fitting t_bestNight t_mostLeft))) (qI D (vw12 cyI cyJ cyZ cyO a n_lands n_camphors n_there n_mothCells n_mothHeads n_threads n_sightNights n_sightCells n_sights n_night n_eaten t_next_ q.2.1 q.2.2.1 q.2.2.2.1 q.2.2.2.2.1 q.2.2.2.2.2.1 q.2.2.2.2.2.2.1 q.2.2.2.2.2.2.2) q.1 (va_A (vw12 cyI cyJ cyZ cyO a n_lands n_camphors n_there n_mothCells n_mothHeads n_threads n_sightNights n_sightCells n_sights n_night n_eaten t_next_ t_starts t_stands t_cellsSeen t_inCell t_fitting t_bestNight t_mostLeft) sz)) 0 0 (va_A (vw12 cyI cyJ cyZ cyO a n_lands n_camphors n_there n_mothCells n_mothHeads n_threads n_sightNights n_sightCells n_sights n_night n_eaten t_next_ t_starts t_stands t_cellsSeen t_inCell t_fitting t_bestNight t_mostLeft) sz) := by
  refine Met.ofW (cc := cX8_ask) (maxL := 2) (ret := (some .int)) (by decide) rfl ?_
  intro p e s m args below meth c s₁ B hml hv
  obtain ⟨rfl, hsz, hP, hK, hD0, hN⟩ := hv
  have hx := B.exec
  have hb := B.bytes
  have hr := B.returns
  have hT : ∀ w ∈ tbG, w.before ([.ref (a 0 0), .int p1] : List Value).toArray s = true := fun w h => atoms_spec (ws := (Cond.code yX8_ask cX8_ask 2 (some .int) :: tbG)) B.pre w (List.mem_cons_of_mem _ h)
  have hown : s.vm.findClass RX8 = some m.cls := findClass_of_methodNamed B.named
  have hlocks := B.notSynchronized
  subst hsz
  have hD := hD0.self (sz := s.heap.size)
  generalize hAe : va_A (vw12 cyI cyJ cyZ cyO a n_lands n_camphors n_there n_mothCells n_mothHeads n_threads n_sightNights n_sightCells n_sights n_night n_eaten t_next_ t_starts t_stands t_cellsSeen t_inCell t_fitting t_bestNight t_mostLeft) s.heap.size = A at hD ⊢
  have hA : ∀ q : Nat, s.heap.size ≤ q → A q := fun q h => by rw [← hAe]; exact Or.inr h
  have hS : va_S A s.heap s.heap [] := va_S.rf
  show W p l e ({ frames := 3, cells := 0, slots := 0, locals := 86 } : Room) s m ([.ref (a 0 0), .int p1] : List Value).toArray below meth c s.heap [] 0 0 (MQ below (qI D (vw12 cyI cyJ cyZ cyO a n_lands n_camphors n_there n_mothCells n_mothHeads n_threads n_sightNights n_sightCells n_sights n_night n_eaten t_next_ q.2.1 q.2.2.1 q.2.2.2.1 q.2.2.2.2.1 q.2.2.2.2.2.1 q.2.2.2.2.2.2.1 q.2.2.2.2.2.2.2) q.1 A) ([.ref (a 0 0), .int p1] : List Value).toArray s 0 0 A) _
  have main : ∀ (H : Heap) (locs : List Loc) (ls : Array Slot), va_P D vwCl (vw12 cyI cyJ cyZ cyO a n_lands n_camphors n_there n_mothCells n_mothHeads n_threads n_sightNights n_sightCells n_sights n_night n_eaten t_next_ t_starts t_stands t_cellsSeen t_inCell t_fitting t_bestNight t_mostLeft) H → va_D A (vw12 cyI cyJ cyZ cyO a n_lands n_camphors n_there n_mothCells n_mothHeads n_threads n_sightNights n_sightCells n_sights n_night n_eaten t_next_ t_starts t_stands t_cellsSeen t_inCell t_fitting t_bestNight t_mostLeft) → va_S A s.heap H locs → lv_has ls 2 [(0, .ref (a 0 0)), (1, .int p1)] → W p l e ({ frames := 3, cells := 0, slots := 0, locals := 86 } : Room) s m ([.ref (a 0 0), .int p1] : List Value).toArray below meth c H locs 0 0 (MQ below (qI D (vw12 cyI cyJ cyZ cyO a n_lands n_camphors n_there n_mothCells n_mothHeads n_threads n_sightNights n_sightCells n_sights n_night n_eaten t_next_ q.2.1 q.2.2.1 q.2.2.2.1 q.2.2.2.2.1 q.2.2.2.2.2.1 q.2.2.2.2.2.2.1 q.2.2.2.2.2.2.2) q.1 A) ([.ref (a 0 0), .int p1] : List Value).toArray s 0 0 A) (F0 m 0 ls []) := by
    intro H locs ls hP hD hS hl
    unfold g_X8_ask at hf
    refine lv_iload_n hx hb dX8_ask_0 rfl (lv_at hl 1 rfl) ?_
    refine lv_iconst (v := 0) hx hb dX8_ask_1 (by decide) ?_
    refine lv_iconst (v := 1) hx hb dX8_ask_2 (by decide) ?_
    obtain ⟨q1, hq1, hf⟩ := bd_some hf
    have hC : ([] : List Nat).map (fun i => (vw12 cyI cyJ cyZ cyO a n_lands n_camphors n_there n_mothCells n_mothHeads n_threads n_sightNights n_sightCells n_sights n_night n_eaten t_next_ t_starts t_stands t_cellsSeen t_inCell t_fitting t_bestNight t_mostLeft)[i]?) = ([] : va_W).map some := rfl
    refine cl_i (rn_S (As := [.int p1, .int 0, .int 1]) (rest := []) hx hb hml hown hT hK hN hP hD [] hC rfl (c_X8_within l D cyI cyJ cyZ cyO H.size p1 0 1 nf q1 hq1) wm_X8_80 wt_X8_within wz_X8 wc_X8_within hd_X8_within ⟨rfl, rfl⟩ ⟨Nat.le_of_ble_eq_true rfl, Nat.le_of_ble_eq_true rfl⟩ rfl hl.1 rfl (Nat.le_of_ble_eq_true rfl) dX8_ask_3 ⟨Nat.zero_le _, Nat.zero_le _⟩) hP hD hS hA [] hC [(false, 0), (false, 1), (false, 2), (false, 3), (false, 4), (false, 5), (false, 6), (false, 7), (false, 8), (false, 9), (false, 10), (false, 11), (false, 12), (false, 13), (false, 14), (false, 15)] (ws' := vw12 cyI cyJ cyZ cyO a n_lands n_camphors n_there n_mothCells n_mothHeads n_threads n_sightNights n_sightCells n_sights n_night n_eaten t_next_ t_starts t_stands t_cellsSeen t_inCell t_fitting t_bestNight t_mostLeft) rfl rfl rfl (fun H locs hP hD hS => ?_)
    refine lv_if_ne (tgt := 12) hx hb dX8_ask_6 (by decide) (fun cc => ?_) (fun cc => ?_)
    · replace hf := if_f cc hf
      refine lv_aload_n hx hb dX8_ask_12 rfl (lv_at hl 0 rfl) ?_
      refine va_get (ci := 8) (v := .ref ((a 11) 0)) (C := RX8) (T := TX8) (N := 11) hx hb hT hin_X8 hown hK hP 0 rfl rfl 9 (by decide) (hT _ wf_X8_65) (fun _ h9 => h9) rfl dX8_ask_13 ?_
      refine lv_aload_n hx hb dX8_ask_16 rfl (lv_at hl 0 rfl) ?_
      refine va_get (ci := 8) (v := .ref ((a 1) 0)) (C := RX8) (T := TX8) (N := 11) hx hb hT hin_X8 hown hK hP 0 rfl rfl 0 (by decide) (hT _ wf_X8_10) (fun _ h9 => h9) rfl dX8_ask_17 ?_
      obtain ⟨q2, hq2, hf⟩ := bd_some hf
      have hC : [10, 11, 12, 13, 14, 15, 1, 2, 3, 4, 5, 6, 7, 8, 9].map (fun i => (vw12 cyI cyJ cyZ cyO a n_lands n_camphors n_there n_mothCells n_mothHeads n_threads n_sightNights n_sightCells n_sights n_night n_eaten t_next_ t_starts t_stands t_cellsSeen t_inCell t_fitting t_bestNight t_mostLeft)[i]?) = (vw5 cyI cyJ cyZ cyO (a 11) (a 1) t_next_ t_starts t_stands t_cellsSeen t_inCell t_fitting t_bestNight t_mostLeft n_lands n_camphors n_there n_mothCells n_mothHeads n_threads n_sightNights n_sightCells n_sights n_night n_eaten).map some := rfl
      refine cl_v (rn_V (As := [.ref ((a 1) 0)]) (rest := []) (C := RX7) hx hb hml hown hT hK hN hP hD [10, 11, 12, 13, 14, 15, 1, 2, 3, 4, 5, 6, 7, 8, 9] hC rfl (c_X7_gather l D cyI cyJ cyZ cyO (a 11) (a 1) H.size t_next_ t_starts t_stands t_cellsSeen t_inCell t_fitting t_bestNight t_mostLeft n_lands n_camphors n_there n_mothCells n_mothHeads n_threads n_sightNights n_sightCells n_sights n_night n_eaten nf q2 hq2) wm_X8_212 wi_X7_gather wl_X7_gather wz_X7 wc_X7_gather hd_X7_gather ⟨rfl, rfl⟩ ⟨Nat.le_of_ble_eq_true rfl, Nat.le_of_ble_eq_true rfl⟩ (q0 := 0) (ci := 7) rfl rfl rfl rfl hl.1 rfl (Nat.le_of_ble_eq_true rfl) dX8_ask_20 ⟨Nat.zero_le _, Nat.zero_le _⟩) hP hD hS hA [10, 11, 12, 13, 14, 15, 1, 2, 3, 4, 5, 6, 7, 8, 9] hC [(false, 0), (true, 6), (true, 7), (true, 8), (true, 9), (true, 10), (true, 11), (true, 12), (true, 13), (true, 14), (true, 0), (true, 1), (true, 2), (true, 3), (true, 4), (true, 5)] (ws' := vw12 cyI cyJ cyZ cyO a n_lands n_camphors n_there n_mothCells n_mothHeads n_threads n_sightNights n_sightCells n_sights n_night n_eaten t_next_ q2.1 t_stands q2.2.1 t_inCell q2.2.2 t_bestNight t_mostLeft) rfl rfl rfl (fun H locs hP hD hS => ?_)
      refine lv_aload_n hx hb dX8_ask_23 rfl (lv_at hl 0 rfl) ?_
      refine va_get (ci := 8) (v := .ref ((a 11) 0)) (C := RX8) (T := TX8) (N := 11) hx hb hT hin_X8 hown hK hP 0 rfl rfl 9 (by decide) (hT _ wf_X8_65) (fun _ h9 => h9) rfl dX8_ask_24 ?_
      refine va_get (ci := 7) (v := .int q2.2.2) (C := RX7) (T := TX7) (N := 8) hx hb hT hin_X7 hown hK hP 10 rfl rfl 5 (by decide) (hT _ wf_X8_215) (fun _ h9 => h9) rfl dX8_ask_27 ?_
      refine lv_if_ne (tgt := 36) hx hb dX8_ask_30 (by decide) (fun cc => ?_) (fun cc => ?_)
      · replace hf := if_f cc hf
        refine lv_aload_n hx hb dX8_ask_36 rfl (lv_at hl 0 rfl) ?_
        refine va_get (ci := 8) (v := .ref ((a 11) 0)) (C := RX8) (T := TX8) (N := 11) hx hb hT hin_X8 hown hK hP 0 rfl rfl 9 (by decide) (hT _ wf_X8_65) (fun _ h9 => h9) rfl dX8_ask_37 ?_
        obtain ⟨q3, hq3, hf⟩ := bd_some hf
        have hC : [10, 11, 12, 13, 14, 15].map (fun i => (vw12 cyI cyJ cyZ cyO a n_lands n_camphors n_there n_mothCells n_mothHeads n_threads n_sightNights n_sightCells n_sights n_night n_eaten t_next_ q2.1 t_stands q2.2.1 t_inCell q2.2.2 t_bestNight t_mostLeft)[i]?) = (wX7 cyI cyJ cyZ cyO (a 11) t_next_ q2.1 t_stands q2.2.1 t_inCell q2.2.2 t_bestNight t_mostLeft).map some := rfl
        refine cl_v (rn_V (As := []) (rest := []) (C := RX7) hx hb hml hown hT hK hN hP hD [10, 11, 12, 13, 14, 15] hC rfl (c_X7_chooseNight l D cyI cyJ cyZ cyO (a 11) H.size t_next_ q2.1 t_stands q2.2.1 t_inCell q2.2.2 t_bestNight t_mostLeft nf q3 hq3) wm_X8_221 wi_X7_chooseNight wl_X7_chooseNight wz_X7 wc_X7_chooseNight hd_X7_chooseNight ⟨rfl, rfl⟩ ⟨Nat.le_of_ble_eq_true rfl, Nat.le_of_ble_eq_true rfl⟩ (q0 := 0) (ci := 7) rfl rfl rfl rfl hl.1 rfl (Nat.le_of_ble_eq_true rfl) dX8_ask_40 ⟨Nat.zero_le _, Nat.zero_le _⟩) hP hD hS hA [10, 11, 12, 13, 14, 15] hC [(false, 0), (false, 1), (false, 2), (false, 3), (false, 4), (false, 5), (false, 6), (false, 7), (false, 8), (false, 9), (true, 0), (true, 1), (true, 2), (true, 3), (true, 4), (true, 5)] (ws' := vw12 cyI cyJ cyZ cyO a n_lands n_camphors n_there n_mothCells n_mothHeads n_threads n_sightNights n_sightCells n_sights n_night n_eaten t_next_ q2.1 q3.1 q2.2.1 q3.2.1 q2.2.2 q3.2.2.1 q3.2.2.2) rfl rfl rfl (fun H locs hP hD hS => ?_)
        refine lv_iload_n hx hb dX8_ask_43 rfl (lv_at hl 1 rfl) ?_
        refine lv_if_ne (tgt := 57) hx hb dX8_ask_44 (by decide) (fun cc => ?_) (fun cc => ?_)
        · replace hf := if_f cc hf
          refine lv_aload_n hx hb dX8_ask_57 rfl (lv_at hl 0 rfl) ?_
          refine va_get (ci := 8) (v := .ref ((a 11) 0)) (C := RX8) (T := TX8) (N := 11) hx hb hT hin_X8 hown hK hP 0 rfl rfl 9 (by decide) (hT _ wf_X8_65) (fun _ h9 => h9) rfl dX8_ask_58 ?_
          refine va_get (ci := 7) (v := .int q3.2.2.2) (C := RX7) (T := TX7) (N := 8) hx hb hT hin_X7 hown hK hP 10 rfl rfl 7 (by decide) (hT _ wf_X8_227) (fun _ h9 => h9) rfl dX8_ask_61 ?_
          cases Option.some.inj hf
          exact W.iret hx hb hr (fun t ht hW => ⟨⟨_, (), rfl, rfl, by show va_P D vwCl _ t.heap; rw [ht]; exact hP⟩, hS.F ht⟩) hS.2.2 dX8_ask_64
        · replace hf := if_t cc hf
          refine lv_aload_n hx hb dX8_ask_47 rfl (lv_at hl 0 rfl) ?_
          refine va_get (ci := 8) (v := .ref ((a 11) 0)) (C := RX8) (T := TX8) (N := 11) hx hb hT hin_X8 hown hK hP 0 rfl rfl 9 (by decide) (hT _ wf_X8_65) (fun _ h9 => h9) rfl dX8_ask_48 ?_
          refine va_get (ci := 7) (v := .int q3.2.2.1) (C := RX7) (T := TX7) (N := 8) hx hb hT hin_X7 hown hK hP 10 rfl rfl 6 (by decide) (hT _ wf_X8_224) (fun _ h9 => h9) rfl dX8_ask_51 ?_
          refine lv_goto (tgt := 64) hx hb dX8_ask_54 (by decide) ?_
          cases Option.some.inj hf
          exact W.iret hx hb hr (fun t ht hW => ⟨⟨_, (), rfl, rfl, by show va_P D vwCl _ t.heap; rw [ht]; exact hP⟩, hS.F ht⟩) hS.2.2 dX8_ask_64
      · replace hf := if_t cc hf
        refine lv_bipush (v := (-6)) hx hb dX8_ask_33 (by decide) ?_
        cases Option.some.inj hf
        exact W.iret hx hb hr (fun t ht hW => ⟨⟨_, (), rfl, rfl, by show va_P D vwCl _ t.heap; rw [ht]; exact hP⟩, hS.F ht⟩) hS.2.2 dX8_ask_35
    · replace hf := if_t cc hf
      refine lv_bipush (v := (-2)) hx hb dX8_ask_9 (by decide) ?_
      cases Option.some.inj hf
      exact W.iret hx hb hr (fun t ht hW => ⟨⟨_, (), rfl, rfl, by show va_P D vwCl _ t.heap; rw [ht]; exact hP⟩, hS.F ht⟩) hS.2.2 dX8_ask_11
  have hl := lv_entry ([.ref (a 0 0), .int p1]) (n := 2) (Nat.le_of_ble_eq_true rfl)
  rw [lg_entry_eq]
  exact main s.heap [] _ hP hD hS hl
theorem hd_X8_coffee : yX8_coffee.cls = RX8 ∧ yX8_coffee.cls ≠ "java/lang/invoke/MethodHandle" ∧ yX8_coffee.cls ≠ "java/lang/invoke/VarHandle" ∧ (parseMethodDescriptor yX8_coffee.desc).map (fun d => d.parameters.length) = some 7 := by decide +kernel
set_option maxHeartbeats 4000000 in
set_option maxRecDepth 100000 in
theorem c_X8_coffee (l : Launch) (D : va_G) (cyI cyJ cyZ cyO : ClassId) (a : Nat → Nat → Nat) (sz : Nat) (m_shares : Nat → Int64) (m_moved : Nat → Int64) (m_parts : Int64) (p1 : Int32) (p2 : Int32) (p3 : Int32) (p4 : Int32) (p5 : Int32) (p6 : Int32) (p7 : Int32) (nf : Nat) (q : Int64 × (Nat → Int64) × (Nat → Int64) × Int64) (hf : g_X8_coffee nf p1 p2 p3 p4 p5 p6 p7 m_shares m_moved m_parts = some q) : Met l yX8_coffee (Cond.code yX8_coffee cX8_coffee 14 (some .long) :: tbG) ({ frames := 2, cells := 0, slots := 0, locals := 64 } : Room) (va_Pc [.ref (a 0 0), .int p1, .int p2, .int p3, .int p4, .int p5, .int p6, .int p7] (pcB D (ty4 cyI cyJ cyZ cyO) sz (vw13 cyI cyJ cyZ cyO a m_shares m_moved m_parts))) (qL D (vw13 cyI cyJ cyZ cyO a q.2.1 q.2.2.1 q.2.2.2) q.1 (va_A (vw13 cyI cyJ cyZ cyO a m_shares m_moved m_parts) sz)) 0 0 (va_A (vw13 cyI cyJ cyZ cyO a m_shares m_moved m_parts) sz) := by
  refine Met.ofW (cc := cX8_coffee) (maxL := 14) (ret := (some .long)) (by decide) rfl ?_
  intro p e s m args below meth c s₁ B hml hv
  obtain ⟨rfl, hsz, hP, hK, hD0, hN⟩ := hv
  have hx := B.exec
  have hb := B.bytes
  have hr := B.returns
  have hT : ∀ w ∈ tbG, w.before ([.ref (a 0 0), .int p1, .int p2, .int p3, .int p4, .int p5, .int p6, .int p7] : List Value).toArray s = true := fun w h => atoms_spec (ws := (Cond.code yX8_coffee cX8_coffee 14 (some .long) :: tbG)) B.pre w (List.mem_cons_of_mem _ h)
  have hown : s.vm.findClass RX8 = some m.cls := findClass_of_methodNamed B.named
  have hlocks := B.notSynchronized
  subst hsz
  have hD := hD0.self (sz := s.heap.size)
  generalize hAe : va_A (vw13 cyI cyJ cyZ cyO a m_shares m_moved m_parts) s.heap.size = A at hD ⊢
  have hA : ∀ q : Nat, s.heap.size ≤ q → A q := fun q h => by rw [← hAe]; exact Or.inr h
  have hS : va_S A s.heap s.heap [] := va_S.rf
  show W p l e ({ frames := 2, cells := 0, slots := 0, locals := 64 } : Room) s m ([.ref (a 0 0), .int p1, .int p2, .int p3, .int p4, .int p5, .int p6, .int p7] : List Value).toArray below meth c s.heap [] 0 0 (MQ below (qL D (vw13 cyI cyJ cyZ cyO a q.2.1 q.2.2.1 q.2.2.2) q.1 A) ([.ref (a 0 0), .int p1, .int p2, .int p3, .int p4, .int p5, .int p6, .int p7] : List Value).toArray s 0 0 A) _
  have l112 : ∀ (n112 : Nat) (x1 : Int32) (x3 : Int32) (x4 : Int32) (x5 : Int32) (x6 : Int32) (x7 : Int32) (x10 : Int32) (m_shares : Nat → Int64) (m_moved : Nat → Int64) (m_parts : Int64) (H : Heap) (locs : List Loc) (ls : Array Slot), va_P D vwCl (vw13 cyI cyJ cyZ cyO a m_shares m_moved m_parts) H → va_D A (vw13 cyI cyJ cyZ cyO a m_shares m_moved m_parts) → va_S A s.heap H locs → lv_has ls 14 [(0, .ref (a 0 0)), (1, .int x1), (3, .int x3), (4, .int x4), (5, .int x5), (6, .int x6), (7, .int x7), (10, .int x10)] → g_X8_coffee_l112 nf n112 x1 x3 x4 x5 x6 x7 x10 m_shares m_moved m_parts = some q → W p l e ({ frames := 2, cells := 0, slots := 0, locals := 64 } : Room) s m ([.ref (a 0 0), .int p1, .int p2, .int p3, .int p4, .int p5, .int p6, .int p7] : List Value).toArray below meth c H locs 0 0 (MQ below (qL D (vw13 cyI cyJ cyZ cyO a q.2.1 q.2.2.1 q.2.2.2) q.1 A) ([.ref (a 0 0), .int p1, .int p2, .int p3, .int p4, .int p5, .int p6, .int p7] : List Value).toArray s 0 0 A) (F0 m 112 ls []) := by
    intro n112
    induction n112 with
    | zero =>
      intro x1 x3 x4 x5 x6 x7 x10 m_shares m_moved m_parts H locs ls hP hD hS hl hf
      rw [g_X8_coffee_l112] at hf
      cases hf
    | succ n112 ih112 =>
      intro x1 x3 x4 x5 x6 x7 x10 m_shares m_moved m_parts H locs ls hP hD hS hl hf
      rw [g_X8_coffee_l112] at hf
      refine lv_iload hx hb dX8_coffee_112 (lv_at hl 7 rfl) ?_
      refine lv_iload hx hb dX8_coffee_114 (lv_at hl 4 rfl) ?_
      refine lv_icmp_ge (tgt := 136) hx hb dX8_coffee_116 (by decide) (fun cc => ?_) (fun cc => ?_)
      · replace hf := if_t cc hf
        refine lv_aload_n hx hb dX8_coffee_136 rfl (lv_at hl 0 rfl) ?_
        refine va_get (ci := 8) (v := .ref ((a 12) 0)) (C := RX8) (T := TX8) (N := 11) hx hb hT hin_X8 hown hK hP 0 rfl rfl 10 (by decide) (hT _ wf_X8_72) (fun _ h9 => h9) rfl dX8_coffee_137 ?_
        refine lv_iload hx hb dX8_coffee_140 (lv_at hl 5 rfl) ?_
        obtain ⟨q6, hq6, hf⟩ := bd_some hf
        have hC : [1, 2, 3].map (fun i => (vw13 cyI cyJ cyZ cyO a m_shares m_moved m_parts)[i]?) = (wX2 cyI cyJ cyZ cyO (a 12) m_shares m_moved m_parts).map some := rfl
        refine cl_l (rn_V (As := [.int x6]) (rest := []) (C := RX2) hx hb hml hown hT hK hN hP hD [1, 2, 3] hC rfl (c_X2_share l D cyI cyJ cyZ cyO (a 12) H.size m_shares m_moved m_parts x6 nf q6 hq6) wm_X8_243 wi_X2_share wl_X2_share wz_X2 wc_X2_share hd_X2_share ⟨rfl, rfl⟩ ⟨Nat.le_of_ble_eq_true rfl, Nat.le_of_ble_eq_true rfl⟩ (q0 := 0) (ci := 2) rfl rfl rfl rfl hl.1 rfl (Nat.le_of_ble_eq_true rfl) dX8_coffee_142 ⟨Nat.zero_le _, Nat.zero_le _⟩) hP hD hS hA [1, 2, 3] hC [(false, 0), (true, 0), (true, 1), (true, 2)] (ws' := vw13 cyI cyJ cyZ cyO a m_shares m_moved m_parts) rfl rfl rfl (fun H locs hP hD hS => ?_)
        refine lv_lstore (lv' := [(10, .long q6), (0, .ref (a 0 0)), (1, .int x1), (3, .int x3), (4, .int x4), (5, .int x5), (6, .int x6), (7, .int x7)]) hx hb dX8_coffee_145 hl (by decide) rfl (fun ls hl => ?_)
        refine lv_aload_n hx hb dX8_coffee_147 rfl (lv_at hl 1 rfl) ?_
        refine va_get (ci := 8) (v := .ref ((a 12) 0)) (C := RX8) (T := TX8) (N := 11) hx hb hT hin_X8 hown hK hP 0 rfl rfl 10 (by decide) (hT _ wf_X8_72) (fun _ h9 => h9) rfl dX8_coffee_148 ?_
        refine va_get (ci := 2) (v := .long m_parts) (C := RX2) (T := TX2) (N := 3) hx hb hT hin_X2 hown hK hP 1 rfl rfl 2 (by decide) (hT _ wf_X8_247) (fun _ h9 => h9) rfl dX8_coffee_151 ?_
        refine lv_lload hx hb dX8_coffee_154 (lv_at hl 0 rfl) ?_
        obtain ⟨q7, hq7, hf⟩ := bd_some hf
        have hC : ([] : List Nat).map (fun i => (vw13 cyI cyJ cyZ cyO a m_shares m_moved m_parts)[i]?) = ([] : va_W).map some := rfl
        refine cl_l (rn_S (As := [.long m_parts, .long q6]) (rest := []) hx hb hml hown hT hK hN hP hD [] hC rfl (c_X8_greatestCommon l D cyI cyJ cyZ cyO H.size m_parts q6 nf q7 hq7) wm_X8_251 wt_X8_greatestCommon wz_X8 wc_X8_greatestCommon hd_X8_greatestCommon ⟨rfl, rfl⟩ ⟨Nat.le_of_ble_eq_true rfl, Nat.le_of_ble_eq_true rfl⟩ rfl hl.1 rfl (Nat.le_of_ble_eq_true rfl) dX8_coffee_156 ⟨Nat.zero_le _, Nat.zero_le _⟩) hP hD hS hA [] hC [(false, 0), (false, 1), (false, 2), (false, 3)] (ws' := vw13 cyI cyJ cyZ cyO a m_shares m_moved m_parts) rfl rfl rfl (fun H locs hP hD hS => ?_)
        refine lv_lstore (lv' := [(12, .long q7), (10, .long q6), (0, .ref (a 0 0)), (1, .int x1), (3, .int x3), (4, .int x4), (5, .int x5), (6, .int x6), (7, .int x7)]) hx hb dX8_coffee_159 hl (by decide) rfl (fun ls hl => ?_)
        refine lv_lload hx hb dX8_coffee_161 (lv_at hl 0 rfl) ?_
        refine lv_lconst (v := 0) hx hb dX8_coffee_163 (by decide) ?_
        refine W.lcmp hx hb dX8_coffee_164 ?_
        refine lv_if_ne (tgt := 172) hx hb dX8_coffee_165 (by decide) (fun cc => ?_) (fun cc => ?_)
        · replace hf := if_f cc hf
          refine lv_iload hx hb dX8_coffee_172 (lv_at hl 8 rfl) ?_
          refine lv_if_ne (tgt := 185) hx hb dX8_coffee_174 (by decide) (fun cc => ?_) (fun cc => ?_)
          · replace hf := if_f cc hf
            refine lv_aload_n hx hb dX8_coffee_185 rfl (lv_at hl 2 rfl) ?_
            refine va_get (ci := 8) (v := .ref ((a 12) 0)) (C := RX8) (T := TX8) (N := 11) hx hb hT hin_X8 hown hK hP 0 rfl rfl 10 (by decide) (hT _ wf_X8_72) (fun _ h9 => h9) rfl dX8_coffee_186 ?_
            refine va_get (ci := 2) (v := .long m_parts) (C := RX2) (T := TX2) (N := 3) hx hb hT hin_X2 hown hK hP 1 rfl rfl 2 (by decide) (hT _ wf_X8_247) (fun _ h9 => h9) rfl dX8_coffee_189 ?_
            refine lv_lload hx hb dX8_coffee_192 (lv_at hl 0 rfl) ?_
            obtain ⟨hz, hf⟩ := dz_some hf
            refine lv_ldiv hx hb dX8_coffee_194 hz ?_
            cases Option.some.inj hf
            exact W.lret hx hb hr (fun t ht hW => ⟨⟨_, (), rfl, rfl, by show va_P D vwCl _ t.heap; rw [ht]; exact hP⟩, hS.F ht⟩) hS.2.2 dX8_coffee_195
          · replace hf := if_t cc hf
            refine lv_lload hx hb dX8_coffee_177 (lv_at hl 1 rfl) ?_
            refine lv_lload hx hb dX8_coffee_179 (lv_at hl 0 rfl) ?_
            obtain ⟨hz, hf⟩ := dz_some hf
            refine lv_ldiv hx hb dX8_coffee_181 hz ?_
            refine lv_goto (tgt := 195) hx hb dX8_coffee_182 (by decide) ?_
            cases Option.some.inj hf
            exact W.lret hx hb hr (fun t ht hW => ⟨⟨_, (), rfl, rfl, by show va_P D vwCl _ t.heap; rw [ht]; exact hP⟩, hS.F ht⟩) hS.2.2 dX8_coffee_195
        · replace hf := if_t cc hf
          refine lv_ldc2 (v := (-1000000000000000002)) hx hb hown (hT _ wk_X8_233) dX8_coffee_168 ?_
          cases Option.some.inj hf
          exact W.lret hx hb hr (fun t ht hW => ⟨⟨_, (), rfl, rfl, by show va_P D vwCl _ t.heap; rw [ht]; exact hP⟩, hS.F ht⟩) hS.2.2 dX8_coffee_171
      · replace hf := if_f cc hf
        refine lv_aload_n hx hb dX8_coffee_119 rfl (lv_at hl 0 rfl) ?_
        refine va_get (ci := 8) (v := .ref ((a 12) 0)) (C := RX8) (T := TX8) (N := 11) hx hb hT hin_X8 hown hK hP 0 rfl rfl 10 (by decide) (hT _ wf_X8_72) (fun _ h9 => h9) rfl dX8_coffee_120 ?_
        refine lv_iload_n hx hb dX8_coffee_123 rfl (lv_at hl 1 rfl) ?_
        refine lv_iload_n hx hb dX8_coffee_124 rfl (lv_at hl 2 rfl) ?_
        refine lv_iload hx hb dX8_coffee_125 (lv_at hl 3 rfl) ?_
        obtain ⟨q8, hq8, hf⟩ := bd_some hf
        have hC : [1, 2, 3].map (fun i => (vw13 cyI cyJ cyZ cyO a m_shares m_moved m_parts)[i]?) = (wX2 cyI cyJ cyZ cyO (a 12) m_shares m_moved m_parts).map some := rfl
        refine cl_v (rn_V (As := [.int x1, .int x3, .int x4]) (rest := []) (C := RX2) hx hb hml hown hT hK hN hP hD [1, 2, 3] hC rfl (c_X2_move l D cyI cyJ cyZ cyO (a 12) H.size m_shares m_moved m_parts x1 x3 x4 nf q8 hq8) wm_X8_239 wi_X2_move wl_X2_move wz_X2 wc_X2_move hd_X2_move ⟨rfl, rfl⟩ ⟨Nat.le_of_ble_eq_true rfl, Nat.le_of_ble_eq_true rfl⟩ (q0 := 0) (ci := 2) rfl rfl rfl rfl hl.1 rfl (Nat.le_of_ble_eq_true rfl) dX8_coffee_127 ⟨Nat.zero_le _, Nat.zero_le _⟩) hP hD hS hA [1, 2, 3] hC [(false, 0), (true, 0), (true, 1), (true, 2)] (ws' := vw13 cyI cyJ cyZ cyO a q8.1 q8.2.1 q8.2.2) rfl rfl rfl (fun H locs hP hD hS => ?_)
        refine lv_iinc (v := (x10 + 1)) (lv' := [(10, .int (x10 + 1)), (0, .ref (a 0 0)), (1, .int x1), (3, .int x3), (4, .int x4), (5, .int x5), (6, .int x6), (7, .int x7)]) hx hb dX8_coffee_130 hl (k := 7) rfl rfl (by decide) rfl (fun ls hl => ?_)
        refine lv_goto (tgt := 112) hx hb dX8_coffee_133 (by decide) ?_
        exact ih112 x1 x3 x4 x5 x6 x7 (x10 + 1) q8.1 q8.2.1 q8.2.2 H locs ls hP hD hS (lv_sub hl [1, 2, 3, 4, 5, 6, 7, 0] rfl) hf
  have b64 : ∀ (x1 : Int32) (x2 : Int32) (x3 : Int32) (x4 : Int32) (x5 : Int32) (x6 : Int32) (x7 : Int32) (x8 : Int32) (s0 : Int32) (m_shares : Nat → Int64) (m_moved : Nat → Int64) (m_parts : Int64) (H : Heap) (locs : List Loc) (ls : Array Slot), va_P D vwCl (vw13 cyI cyJ cyZ cyO a m_shares m_moved m_parts) H → va_D A (vw13 cyI cyJ cyZ cyO a m_shares m_moved m_parts) → va_S A s.heap H locs → lv_has ls 14 [(0, .ref (a 0 0)), (1, .int x1), (2, .int x2), (3, .int x3), (4, .int x4), (5, .int x5), (6, .int x6), (7, .int x7), (8, .int x8)] → g_X8_coffee_b64 nf x1 x2 x3 x4 x5 x6 x7 x8 s0 m_shares m_moved m_parts = some q → W p l e ({ frames := 2, cells := 0, slots := 0, locals := 64 } : Room) s m ([.ref (a 0 0), .int p1, .int p2, .int p3, .int p4, .int p5, .int p6, .int p7] : List Value).toArray below meth c H locs 0 0 (MQ below (qL D (vw13 cyI cyJ cyZ cyO a q.2.1 q.2.2.1 q.2.2.2) q.1 A) ([.ref (a 0 0), .int p1, .int p2, .int p3, .int p4, .int p5, .int p6, .int p7] : List Value).toArray s 0 0 A) (F0 m 64 ls [.int s0]) := by
    intro x1 x2 x3 x4 x5 x6 x7 x8 s0 m_shares m_moved m_parts H locs ls hP hD hS hl hf
    unfold g_X8_coffee_b64 at hf
    refine lv_istore (lv' := [(9, .int s0), (0, .ref (a 0 0)), (1, .int x1), (2, .int x2), (3, .int x3), (4, .int x4), (5, .int x5), (6, .int x6), (7, .int x7), (8, .int x8)]) hx hb dX8_coffee_64 hl (by decide) rfl (fun ls hl => ?_)
    refine lv_iload hx hb dX8_coffee_66 (lv_at hl 9 rfl) ?_
    refine lv_if_eq (tgt := 97) hx hb dX8_coffee_68 (by decide) (fun cc => ?_) (fun cc => ?_)
    · replace hf := if_t cc hf
      refine lv_ldc2 (v := (-1000000000000000002)) hx hb hown (hT _ wk_X8_233) dX8_coffee_97 ?_
      cases Option.some.inj hf
      exact W.lret hx hb hr (fun t ht hW => ⟨⟨_, (), rfl, rfl, by show va_P D vwCl _ t.heap; rw [ht]; exact hP⟩, hS.F ht⟩) hS.2.2 dX8_coffee_100
    · replace hf := if_f cc hf
      refine lv_iload hx hb dX8_coffee_71 (lv_at hl 0 rfl) ?_
      refine lv_if_eq (tgt := 97) hx hb dX8_coffee_73 (by decide) (fun cc => ?_) (fun cc => ?_)
      · replace hf := if_t cc hf
        refine lv_ldc2 (v := (-1000000000000000002)) hx hb hown (hT _ wk_X8_233) dX8_coffee_97 ?_
        cases Option.some.inj hf
        exact W.lret hx hb hr (fun t ht hW => ⟨⟨_, (), rfl, rfl, by show va_P D vwCl _ t.heap; rw [ht]; exact hP⟩, hS.F ht⟩) hS.2.2 dX8_coffee_100
      · replace hf := if_f cc hf
        refine lv_iload hx hb dX8_coffee_76 (lv_at hl 6 rfl) ?_
        refine lv_iconst (v := 0) hx hb dX8_coffee_78 (by decide) ?_
        refine lv_bipush (v := 16) hx hb dX8_coffee_79 (by decide) ?_
        obtain ⟨q3, hq3, hf⟩ := bd_some hf
        have hC : ([] : List Nat).map (fun i => (vw13 cyI cyJ cyZ cyO a m_shares m_moved m_parts)[i]?) = ([] : va_W).map some := rfl
        refine cl_i (rn_S (As := [.int x5, .int 0, .int 16]) (rest := []) hx hb hml hown hT hK hN hP hD [] hC rfl (c_X8_within l D cyI cyJ cyZ cyO H.size x5 0 16 nf q3 hq3) wm_X8_80 wt_X8_within wz_X8 wc_X8_within hd_X8_within ⟨rfl, rfl⟩ ⟨Nat.le_of_ble_eq_true rfl, Nat.le_of_ble_eq_true rfl⟩ rfl hl.1 rfl (Nat.le_of_ble_eq_true rfl) dX8_coffee_81 ⟨Nat.zero_le _, Nat.zero_le _⟩) hP hD hS hA [] hC [(false, 0), (false, 1), (false, 2), (false, 3)] (ws' := vw13 cyI cyJ cyZ cyO a m_shares m_moved m_parts) rfl rfl rfl (fun H locs hP hD hS => ?_)
        refine lv_if_eq (tgt := 97) hx hb dX8_coffee_84 (by decide) (fun cc => ?_) (fun cc => ?_)
        · replace hf := if_t cc hf
          refine lv_ldc2 (v := (-1000000000000000002)) hx hb hown (hT _ wk_X8_233) dX8_coffee_97 ?_
          cases Option.some.inj hf
          exact W.lret hx hb hr (fun t ht hW => ⟨⟨_, (), rfl, rfl, by show va_P D vwCl _ t.heap; rw [ht]; exact hP⟩, hS.F ht⟩) hS.2.2 dX8_coffee_100
        · replace hf := if_f cc hf
          refine lv_iload hx hb dX8_coffee_87 (lv_at hl 8 rfl) ?_
          refine lv_iconst (v := 0) hx hb dX8_coffee_89 (by decide) ?_
          refine lv_iconst (v := 1) hx hb dX8_coffee_90 (by decide) ?_
          obtain ⟨q4, hq4, hf⟩ := bd_some hf
          have hC : ([] : List Nat).map (fun i => (vw13 cyI cyJ cyZ cyO a m_shares m_moved m_parts)[i]?) = ([] : va_W).map some := rfl
          refine cl_i (rn_S (As := [.int x7, .int 0, .int 1]) (rest := []) hx hb hml hown hT hK hN hP hD [] hC rfl (c_X8_within l D cyI cyJ cyZ cyO H.size x7 0 1 nf q4 hq4) wm_X8_80 wt_X8_within wz_X8 wc_X8_within hd_X8_within ⟨rfl, rfl⟩ ⟨Nat.le_of_ble_eq_true rfl, Nat.le_of_ble_eq_true rfl⟩ rfl hl.1 rfl (Nat.le_of_ble_eq_true rfl) dX8_coffee_91 ⟨Nat.zero_le _, Nat.zero_le _⟩) hP hD hS hA [] hC [(false, 0), (false, 1), (false, 2), (false, 3)] (ws' := vw13 cyI cyJ cyZ cyO a m_shares m_moved m_parts) rfl rfl rfl (fun H locs hP hD hS => ?_)
          refine lv_if_ne (tgt := 101) hx hb dX8_coffee_94 (by decide) (fun cc => ?_) (fun cc => ?_)
          · replace hf := if_f cc hf
            refine lv_aload_n hx hb dX8_coffee_101 rfl (lv_at hl 1 rfl) ?_
            refine va_get (ci := 8) (v := .ref ((a 12) 0)) (C := RX8) (T := TX8) (N := 11) hx hb hT hin_X8 hown hK hP 0 rfl rfl 10 (by decide) (hT _ wf_X8_72) (fun _ h9 => h9) rfl dX8_coffee_102 ?_
            refine lv_iload_n hx hb dX8_coffee_105 rfl (lv_at hl 3 rfl) ?_
            obtain ⟨q5, hq5, hf⟩ := bd_some hf
            have hC : [1, 2, 3].map (fun i => (vw13 cyI cyJ cyZ cyO a m_shares m_moved m_parts)[i]?) = (wX2 cyI cyJ cyZ cyO (a 12) m_shares m_moved m_parts).map some := rfl
            refine cl_v (rn_V (As := [.int x2]) (rest := []) (C := RX2) hx hb hml hown hT hK hN hP hD [1, 2, 3] hC rfl (c_X2_pour l D cyI cyJ cyZ cyO (a 12) H.size m_shares m_moved m_parts x2 nf q5 hq5) wm_X8_235 wi_X2_pour wl_X2_pour wz_X2 wc_X2_pour hd_X2_pour ⟨rfl, rfl⟩ ⟨Nat.le_of_ble_eq_true rfl, Nat.le_of_ble_eq_true rfl⟩ (q0 := 0) (ci := 2) rfl rfl rfl rfl hl.1 rfl (Nat.le_of_ble_eq_true rfl) dX8_coffee_106 ⟨Nat.zero_le _, Nat.zero_le _⟩) hP hD hS hA [1, 2, 3] hC [(false, 0), (true, 0), (true, 1), (true, 2)] (ws' := vw13 cyI cyJ cyZ cyO a q5.1 m_moved q5.2) rfl rfl rfl (fun H locs hP hD hS => ?_)
            refine lv_iconst (v := 0) hx hb dX8_coffee_109 (by decide) ?_
            refine lv_istore (lv' := [(10, .int 0), (9, .int s0), (0, .ref (a 0 0)), (1, .int x1), (2, .int x2), (3, .int x3), (4, .int x4), (5, .int x5), (6, .int x6), (7, .int x7), (8, .int x8)]) hx hb dX8_coffee_110 hl (by decide) rfl (fun ls hl => ?_)
            exact l112 nf x1 x3 x4 x5 x6 x7 0 q5.1 m_moved q5.2 H locs ls hP hD hS (lv_sub hl [2, 3, 5, 6, 7, 8, 9, 0] rfl) hf
          · replace hf := if_t cc hf
            refine lv_ldc2 (v := (-1000000000000000002)) hx hb hown (hT _ wk_X8_233) dX8_coffee_97 ?_
            cases Option.some.inj hf
            exact W.lret hx hb hr (fun t ht hW => ⟨⟨_, (), rfl, rfl, by show va_P D vwCl _ t.heap; rw [ht]; exact hP⟩, hS.F ht⟩) hS.2.2 dX8_coffee_100
  have b63 : ∀ (x1 : Int32) (x2 : Int32) (x3 : Int32) (x4 : Int32) (x5 : Int32) (x6 : Int32) (x7 : Int32) (x8 : Int32) (m_shares : Nat → Int64) (m_moved : Nat → Int64) (m_parts : Int64) (H : Heap) (locs : List Loc) (ls : Array Slot), va_P D vwCl (vw13 cyI cyJ cyZ cyO a m_shares m_moved m_parts) H → va_D A (vw13 cyI cyJ cyZ cyO a m_shares m_moved m_parts) → va_S A s.heap H locs → lv_has ls 14 [(0, .ref (a 0 0)), (1, .int x1), (2, .int x2), (3, .int x3), (4, .int x4), (5, .int x5), (6, .int x6), (7, .int x7), (8, .int x8)] → g_X8_coffee_b63 nf x1 x2 x3 x4 x5 x6 x7 x8 m_shares m_moved m_parts = some q → W p l e ({ frames := 2, cells := 0, slots := 0, locals := 64 } : Room) s m ([.ref (a 0 0), .int p1, .int p2, .int p3, .int p4, .int p5, .int p6, .int p7] : List Value).toArray below meth c H locs 0 0 (MQ below (qL D (vw13 cyI cyJ cyZ cyO a q.2.1 q.2.2.1 q.2.2.2) q.1 A) ([.ref (a 0 0), .int p1, .int p2, .int p3, .int p4, .int p5, .int p6, .int p7] : List Value).toArray s 0 0 A) (F0 m 63 ls []) := by
    intro x1 x2 x3 x4 x5 x6 x7 x8 m_shares m_moved m_parts H locs ls hP hD hS hl hf
    unfold g_X8_coffee_b63 at hf
    refine lv_iconst (v := 0) hx hb dX8_coffee_63 (by decide) ?_
    exact b64 x1 x2 x3 x4 x5 x6 x7 x8 0 m_shares m_moved m_parts H locs ls hP hD hS (lv_sub hl [0, 1, 2, 3, 4, 5, 6, 7, 8] rfl) hf
  have b34 : ∀ (x1 : Int32) (x2 : Int32) (x3 : Int32) (x4 : Int32) (x5 : Int32) (x6 : Int32) (x7 : Int32) (s0 : Int32) (m_shares : Nat → Int64) (m_moved : Nat → Int64) (m_parts : Int64) (H : Heap) (locs : List Loc) (ls : Array Slot), va_P D vwCl (vw13 cyI cyJ cyZ cyO a m_shares m_moved m_parts) H → va_D A (vw13 cyI cyJ cyZ cyO a m_shares m_moved m_parts) → va_S A s.heap H locs → lv_has ls 14 [(0, .ref (a 0 0)), (1, .int x1), (2, .int x2), (3, .int x3), (4, .int x4), (5, .int x5), (6, .int x6), (7, .int x7)] → g_X8_coffee_b34 nf x1 x2 x3 x4 x5 x6 x7 s0 m_shares m_moved m_parts = some q → W p l e ({ frames := 2, cells := 0, slots := 0, locals := 64 } : Room) s m ([.ref (a 0 0), .int p1, .int p2, .int p3, .int p4, .int p5, .int p6, .int p7] : List Value).toArray below meth c H locs 0 0 (MQ below (qL D (vw13 cyI cyJ cyZ cyO a q.2.1 q.2.2.1 q.2.2.2) q.1 A) ([.ref (a 0 0), .int p1, .int p2, .int p3, .int p4, .int p5, .int p6, .int p7] : List Value).toArray s 0 0 A) (F0 m 34 ls [.int s0]) := by
    intro x1 x2 x3 x4 x5 x6 x7 s0 m_shares m_moved m_parts H locs ls hP hD hS hl hf
    unfold g_X8_coffee_b34 at hf
    refine lv_istore (lv' := [(8, .int s0), (0, .ref (a 0 0)), (1, .int x1), (2, .int x2), (3, .int x3), (4, .int x4), (5, .int x5), (6, .int x6), (7, .int x7)]) hx hb dX8_coffee_34 hl (by decide) rfl (fun ls hl => ?_)
    refine lv_iload_n hx hb dX8_coffee_36 rfl (lv_at hl 4 rfl) ?_
    refine lv_iconst (v := 0) hx hb dX8_coffee_37 (by decide) ?_
    refine lv_bipush (v := 10) hx hb dX8_coffee_38 (by decide) ?_
    obtain ⟨q1, hq1, hf⟩ := bd_some hf
    have hC : ([] : List Nat).map (fun i => (vw13 cyI cyJ cyZ cyO a m_shares m_moved m_parts)[i]?) = ([] : va_W).map some := rfl
    refine cl_i (rn_S (As := [.int x3, .int 0, .int 10]) (rest := []) hx hb hml hown hT hK hN hP hD [] hC rfl (c_X8_within l D cyI cyJ cyZ cyO H.size x3 0 10 nf q1 hq1) wm_X8_80 wt_X8_within wz_X8 wc_X8_within hd_X8_within ⟨rfl, rfl⟩ ⟨Nat.le_of_ble_eq_true rfl, Nat.le_of_ble_eq_true rfl⟩ rfl hl.1 rfl (Nat.le_of_ble_eq_true rfl) dX8_coffee_40 ⟨Nat.zero_le _, Nat.zero_le _⟩) hP hD hS hA [] hC [(false, 0), (false, 1), (false, 2), (false, 3)] (ws' := vw13 cyI cyJ cyZ cyO a m_shares m_moved m_parts) rfl rfl rfl (fun H locs hP hD hS => ?_)
    refine lv_if_eq (tgt := 63) hx hb dX8_coffee_43 (by decide) (fun cc => ?_) (fun cc => ?_)
    · replace hf := if_t cc hf
      exact b63 x1 x2 x3 x4 x5 x6 x7 s0 m_shares m_moved m_parts H locs ls hP hD hS (lv_sub hl [1, 2, 3, 4, 5, 6, 7, 8, 0] rfl) hf
    · replace hf := if_f cc hf
      refine lv_iload hx hb dX8_coffee_46 (lv_at hl 5 rfl) ?_
      refine lv_iconst (v := 0) hx hb dX8_coffee_48 (by decide) ?_
      refine lv_bipush (v := 10) hx hb dX8_coffee_49 (by decide) ?_
      refine lv_iload_n hx hb dX8_coffee_51 rfl (lv_at hl 4 rfl) ?_
      refine lv_isub hx hb dX8_coffee_52 ?_
      obtain ⟨q2, hq2, hf⟩ := bd_some hf
      have hC : ([] : List Nat).map (fun i => (vw13 cyI cyJ cyZ cyO a m_shares m_moved m_parts)[i]?) = ([] : va_W).map some := rfl
      refine cl_i (rn_S (As := [.int x4, .int 0, .int (10 - x3)]) (rest := []) hx hb hml hown hT hK hN hP hD [] hC rfl (c_X8_within l D cyI cyJ cyZ cyO H.size x4 0 (10 - x3) nf q2 hq2) wm_X8_80 wt_X8_within wz_X8 wc_X8_within hd_X8_within ⟨rfl, rfl⟩ ⟨Nat.le_of_ble_eq_true rfl, Nat.le_of_ble_eq_true rfl⟩ rfl hl.1 rfl (Nat.le_of_ble_eq_true rfl) dX8_coffee_53 ⟨Nat.zero_le _, Nat.zero_le _⟩) hP hD hS hA [] hC [(false, 0), (false, 1), (false, 2), (false, 3)] (ws' := vw13 cyI cyJ cyZ cyO a m_shares m_moved m_parts) rfl rfl rfl (fun H locs hP hD hS => ?_)
      refine lv_if_eq (tgt := 63) hx hb dX8_coffee_56 (by decide) (fun cc => ?_) (fun cc => ?_)
      · replace hf := if_t cc hf
        exact b63 x1 x2 x3 x4 x5 x6 x7 s0 m_shares m_moved m_parts H locs ls hP hD hS (lv_sub hl [1, 2, 3, 4, 5, 6, 7, 8, 0] rfl) hf
      · replace hf := if_f cc hf
        refine lv_iconst (v := 1) hx hb dX8_coffee_59 (by decide) ?_
        refine lv_goto (tgt := 64) hx hb dX8_coffee_60 (by decide) ?_
        exact b64 x1 x2 x3 x4 x5 x6 x7 s0 1 m_shares m_moved m_parts H locs ls hP hD hS (lv_sub hl [1, 2, 3, 4, 5, 6, 7, 8, 0] rfl) hf
  have b33 : ∀ (x1 : Int32) (x2 : Int32) (x3 : Int32) (x4 : Int32) (x5 : Int32) (x6 : Int32) (x7 : Int32) (m_shares : Nat → Int64) (m_moved : Nat → Int64) (m_parts : Int64) (H : Heap) (locs : List Loc) (ls : Array Slot), va_P D vwCl (vw13 cyI cyJ cyZ cyO a m_shares m_moved m_parts) H → va_D A (vw13 cyI cyJ cyZ cyO a m_shares m_moved m_parts) → va_S A s.heap H locs → lv_has ls 14 [(0, .ref (a 0 0)), (1, .int x1), (2, .int x2), (3, .int x3), (4, .int x4), (5, .int x5), (6, .int x6), (7, .int x7)] → g_X8_coffee_b33 nf x1 x2 x3 x4 x5 x6 x7 m_shares m_moved m_parts = some q → W p l e ({ frames := 2, cells := 0, slots := 0, locals := 64 } : Room) s m ([.ref (a 0 0), .int p1, .int p2, .int p3, .int p4, .int p5, .int p6, .int p7] : List Value).toArray below meth c H locs 0 0 (MQ below (qL D (vw13 cyI cyJ cyZ cyO a q.2.1 q.2.2.1 q.2.2.2) q.1 A) ([.ref (a 0 0), .int p1, .int p2, .int p3, .int p4, .int p5, .int p6, .int p7] : List Value).toArray s 0 0 A) (F0 m 33 ls []) := by
    intro x1 x2 x3 x4 x5 x6 x7 m_shares m_moved m_parts H locs ls hP hD hS hl hf
    unfold g_X8_coffee_b33 at hf
    refine lv_iconst (v := 0) hx hb dX8_coffee_33 (by decide) ?_
    exact b34 x1 x2 x3 x4 x5 x6 x7 0 m_shares m_moved m_parts H locs ls hP hD hS (lv_sub hl [0, 1, 2, 3, 4, 5, 6, 7] rfl) hf
  have main : ∀ (H : Heap) (locs : List Loc) (ls : Array Slot), va_P D vwCl (vw13 cyI cyJ cyZ cyO a m_shares m_moved m_parts) H → va_D A (vw13 cyI cyJ cyZ cyO a m_shares m_moved m_parts) → va_S A s.heap H locs → lv_has ls 14 [(0, .ref (a 0 0)), (1, .int p1), (2, .int p2), (3, .int p3), (4, .int p4), (5, .int p5), (6, .int p6), (7, .int p7)] → W p l e ({ frames := 2, cells := 0, slots := 0, locals := 64 } : Room) s m ([.ref (a 0 0), .int p1, .int p2, .int p3, .int p4, .int p5, .int p6, .int p7] : List Value).toArray below meth c H locs 0 0 (MQ below (qL D (vw13 cyI cyJ cyZ cyO a q.2.1 q.2.2.1 q.2.2.2) q.1 A) ([.ref (a 0 0), .int p1, .int p2, .int p3, .int p4, .int p5, .int p6, .int p7] : List Value).toArray s 0 0 A) (F0 m 0 ls []) := by
    intro H locs ls hP hD hS hl
    unfold g_X8_coffee at hf
    refine lv_iload_n hx hb dX8_coffee_0 rfl (lv_at hl 1 rfl) ?_
    refine lv_iconst (v := 0) hx hb dX8_coffee_1 (by decide) ?_
    refine lv_bipush (v := 9) hx hb dX8_coffee_2 (by decide) ?_
    obtain ⟨q9, hq9, hf⟩ := bd_some hf
    have hC : ([] : List Nat).map (fun i => (vw13 cyI cyJ cyZ cyO a m_shares m_moved m_parts)[i]?) = ([] : va_W).map some := rfl
    refine cl_i (rn_S (As := [.int p1, .int 0, .int 9]) (rest := []) hx hb hml hown hT hK hN hP hD [] hC rfl (c_X8_within l D cyI cyJ cyZ cyO H.size p1 0 9 nf q9 hq9) wm_X8_80 wt_X8_within wz_X8 wc_X8_within hd_X8_within ⟨rfl, rfl⟩ ⟨Nat.le_of_ble_eq_true rfl, Nat.le_of_ble_eq_true rfl⟩ rfl hl.1 rfl (Nat.le_of_ble_eq_true rfl) dX8_coffee_4 ⟨Nat.zero_le _, Nat.zero_le _⟩) hP hD hS hA [] hC [(false, 0), (false, 1), (false, 2), (false, 3)] (ws' := vw13 cyI cyJ cyZ cyO a m_shares m_moved m_parts) rfl rfl rfl (fun H locs hP hD hS => ?_)
    refine lv_if_eq (tgt := 33) hx hb dX8_coffee_7 (by decide) (fun cc => ?_) (fun cc => ?_)
    · replace hf := if_t cc hf
      exact b33 p1 p2 p3 p4 p5 p6 p7 m_shares m_moved m_parts H locs ls hP hD hS (lv_sub hl [0, 1, 2, 3, 4, 5, 6, 7] rfl) hf
    · replace hf := if_f cc hf
      refine lv_iload_n hx hb dX8_coffee_10 rfl (lv_at hl 2 rfl) ?_
      refine lv_iconst (v := 0) hx hb dX8_coffee_11 (by decide) ?_
      refine lv_iload_n hx hb dX8_coffee_12 rfl (lv_at hl 1 rfl) ?_
      obtain ⟨q10, hq10, hf⟩ := bd_some hf
      have hC : ([] : List Nat).map (fun i => (vw13 cyI cyJ cyZ cyO a m_shares m_moved m_parts)[i]?) = ([] : va_W).map some := rfl
      refine cl_i (rn_S (As := [.int p2, .int 0, .int p1]) (rest := []) hx hb hml hown hT hK hN hP hD [] hC rfl (c_X8_within l D cyI cyJ cyZ cyO H.size p2 0 p1 nf q10 hq10) wm_X8_80 wt_X8_within wz_X8 wc_X8_within hd_X8_within ⟨rfl, rfl⟩ ⟨Nat.le_of_ble_eq_true rfl, Nat.le_of_ble_eq_true rfl⟩ rfl hl.1 rfl (Nat.le_of_ble_eq_true rfl) dX8_coffee_13 ⟨Nat.zero_le _, Nat.zero_le _⟩) hP hD hS hA [] hC [(false, 0), (false, 1), (false, 2), (false, 3)] (ws' := vw13 cyI cyJ cyZ cyO a m_shares m_moved m_parts) rfl rfl rfl (fun H locs hP hD hS => ?_)
      refine lv_if_eq (tgt := 33) hx hb dX8_coffee_16 (by decide) (fun cc => ?_) (fun cc => ?_)
      · replace hf := if_t cc hf
        exact b33 p1 p2 p3 p4 p5 p6 p7 m_shares m_moved m_parts H locs ls hP hD hS (lv_sub hl [0, 1, 2, 3, 4, 5, 6, 7] rfl) hf
      · replace hf := if_f cc hf
        refine lv_iload hx hb dX8_coffee_19 (lv_at hl 6 rfl) ?_
        refine lv_iconst (v := 0) hx hb dX8_coffee_21 (by decide) ?_
        refine lv_iload_n hx hb dX8_coffee_22 rfl (lv_at hl 1 rfl) ?_
        obtain ⟨q11, hq11, hf⟩ := bd_some hf
        have hC : ([] : List Nat).map (fun i => (vw13 cyI cyJ cyZ cyO a m_shares m_moved m_parts)[i]?) = ([] : va_W).map some := rfl
        refine cl_i (rn_S (As := [.int p6, .int 0, .int p1]) (rest := []) hx hb hml hown hT hK hN hP hD [] hC rfl (c_X8_within l D cyI cyJ cyZ cyO H.size p6 0 p1 nf q11 hq11) wm_X8_80 wt_X8_within wz_X8 wc_X8_within hd_X8_within ⟨rfl, rfl⟩ ⟨Nat.le_of_ble_eq_true rfl, Nat.le_of_ble_eq_true rfl⟩ rfl hl.1 rfl (Nat.le_of_ble_eq_true rfl) dX8_coffee_23 ⟨Nat.zero_le _, Nat.zero_le _⟩) hP hD hS hA [] hC [(false, 0), (false, 1), (false, 2), (false, 3)] (ws' := vw13 cyI cyJ cyZ cyO a m_shares m_moved m_parts) rfl rfl rfl (fun H locs hP hD hS => ?_)
        refine lv_if_eq (tgt := 33) hx hb dX8_coffee_26 (by decide) (fun cc => ?_) (fun cc => ?_)
        · replace hf := if_t cc hf
          exact b33 p1 p2 p3 p4 p5 p6 p7 m_shares m_moved m_parts H locs ls hP hD hS (lv_sub hl [0, 1, 2, 3, 4, 5, 6, 7] rfl) hf
        · replace hf := if_f cc hf
          refine lv_iconst (v := 1) hx hb dX8_coffee_29 (by decide) ?_
          refine lv_goto (tgt := 34) hx hb dX8_coffee_30 (by decide) ?_
          exact b34 p1 p2 p3 p4 p5 p6 p7 1 m_shares m_moved m_parts H locs ls hP hD hS (lv_sub hl [0, 1, 2, 3, 4, 5, 6, 7] rfl) hf
  have hl := lv_entry ([.ref (a 0 0), .int p1, .int p2, .int p3, .int p4, .int p5, .int p6, .int p7]) (n := 14) (Nat.le_of_ble_eq_true rfl)
  rw [lg_entry_eq]
  exact main s.heap [] _ hP hD hS hl
theorem hd_X8_year : yX8_year.cls = RX8 ∧ yX8_year.cls ≠ "java/lang/invoke/MethodHandle" ∧ yX8_year.cls ≠ "java/lang/invoke/VarHandle" ∧ (parseMethodDescriptor yX8_year.desc).map (fun d => d.parameters.length) = some 3 := by decide +kernel
set_option maxHeartbeats 4000000 in
set_option maxRecDepth 100000 in
theorem c_X8_year (l : Launch) (D : va_G) (cyI cyJ cyZ cyO : ClassId) (a : Nat → Nat → Nat) (sz : Nat) (n_lands : Nat → Int32) (n_camphors : Nat → Int32) (n_there : Nat → Int32) (n_mothCells : Nat → Int32) (n_mothHeads : Nat → Int32) (n_threads : Nat → Int32) (n_sightNights : Nat → Int32) (n_sightCells : Nat → Int32) (n_sights : Int32) (n_night : Int32) (n_eaten : Int32) (s_lands : Nat → Int32) (s_camphors : Nat → Int32) (s_there : Nat → Int32) (s_mothCells : Nat → Int32) (s_mothHeads : Nat → Int32) (s_threads : Nat → Int32) (s_sightNights : Nat → Int32) (s_sightCells : Nat → Int32) (s_sights : Int32) (s_night : Int32) (s_eaten : Int32) (p1 : Int32) (p2 : Int32) (p3 : Int32) (nf : Nat) (q : Int32 × (Nat → Int32) × (Nat → Int32) × (Nat → Int32) × (Nat → Int32) × (Nat → Int32) × (Nat → Int32) × (Nat → Int32) × (Nat → Int32) × Int32 × Int32 × Int32) (hf : g_X8_year nf p1 p2 p3 n_lands n_camphors n_there n_mothCells n_mothHeads n_threads n_sightNights n_sightCells n_sights n_night s_lands s_camphors s_there s_mothCells s_mothHeads s_threads s_sightNights s_sightCells s_sights s_night s_eaten = some q) : Met l yX8_year (Cond.code yX8_year cX8_year 6 (some .int) :: tbG) ({ frames := 4, cells := 0, slots := 0, locals := 88 } : Room) (va_Pc [.ref (a 0 0), .int p1, .int p2, .int p3] (pcB D (ty4 cyI cyJ cyZ cyO) sz (vw14 cyI cyJ cyZ cyO a n_lands n_camphors n_there n_mothCells n_mothHeads n_threads n_sightNights n_sightCells n_sights n_night n_eaten s_lands s_camphors s_there s_mothCells s_mothHeads s_threads s_sightNights s_sightCells s_sights s_night s_eaten))) (qI D (vw14 cyI cyJ cyZ cyO a n_lands n_camphors n_there n_mothCells n_mothHeads n_threads n_sightNights n_sightCells n_sights n_night n_eaten q.2.1 q.2.2.1 q.2.2.2.1 q.2.2.2.2.1 q.2.2.2.2.2.1 q.2.2.2.2.2.2.1 q.2.2.2.2.2.2.2.1 q.2.2.2.2.2.2.2.2.1 q.2.2.2.2.2.2.2.2.2.1 q.2.2.2.2.2.2.2.2.2.2.1 q.2.2.2.2.2.2.2.2.2.2.2) q.1 (va_A (vw14 cyI cyJ cyZ cyO a n_lands n_camphors n_there n_mothCells n_mothHeads n_threads n_sightNights n_sightCells n_sights n_night n_eaten s_lands s_camphors s_there s_mothCells s_mothHeads s_threads s_sightNights s_sightCells s_sights s_night s_eaten) sz)) 0 0 (va_A (vw14 cyI cyJ cyZ cyO a n_lands n_camphors n_there n_mothCells n_mothHeads n_threads n_sightNights n_sightCells n_sights n_night n_eaten s_lands s_camphors s_there s_mothCells s_mothHeads s_threads s_sightNights s_sightCells s_sights s_night s_eaten) sz) := by
  refine Met.ofW (cc := cX8_year) (maxL := 6) (ret := (some .int)) (by decide) rfl ?_
  intro p e s m args below meth c s₁ B hml hv
  obtain ⟨rfl, hsz, hP, hK, hD0, hN⟩ := hv
  have hx := B.exec
  have hb := B.bytes
  have hr := B.returns
  have hT : ∀ w ∈ tbG, w.before ([.ref (a 0 0), .int p1, .int p2, .int p3] : List Value).toArray s = true := fun w h => atoms_spec (ws := (Cond.code yX8_year cX8_year 6 (some .int) :: tbG)) B.pre w (List.mem_cons_of_mem _ h)
  have hown : s.vm.findClass RX8 = some m.cls := findClass_of_methodNamed B.named
  have hlocks := B.notSynchronized
  subst hsz
  have hD := hD0.self (sz := s.heap.size)
  generalize hAe : va_A (vw14 cyI cyJ cyZ cyO a n_lands n_camphors n_there n_mothCells n_mothHeads n_threads n_sightNights n_sightCells n_sights n_night n_eaten s_lands s_camphors s_there s_mothCells s_mothHeads s_threads s_sightNights s_sightCells s_sights s_night s_eaten) s.heap.size = A at hD ⊢
  have hA : ∀ q : Nat, s.heap.size ≤ q → A q := fun q h => by rw [← hAe]; exact Or.inr h
  have hS : va_S A s.heap s.heap [] := va_S.rf
  show W p l e ({ frames := 4, cells := 0, slots := 0, locals := 88 } : Room) s m ([.ref (a 0 0), .int p1, .int p2, .int p3] : List Value).toArray below meth c s.heap [] 0 0 (MQ below (qI D (vw14 cyI cyJ cyZ cyO a n_lands n_camphors n_there n_mothCells n_mothHeads n_threads n_sightNights n_sightCells n_sights n_night n_eaten q.2.1 q.2.2.1 q.2.2.2.1 q.2.2.2.2.1 q.2.2.2.2.2.1 q.2.2.2.2.2.2.1 q.2.2.2.2.2.2.2.1 q.2.2.2.2.2.2.2.2.1 q.2.2.2.2.2.2.2.2.2.1 q.2.2.2.2.2.2.2.2.2.2.1 q.2.2.2.2.2.2.2.2.2.2.2) q.1 A) ([.ref (a 0 0), .int p1, .int p2, .int p3] : List Value).toArray s 0 0 A) _
  have l50 : ∀ (n50 : Nat) (x2 : Int32) (x3 : Int32) (x4 : Int32) (x5 : Int32) (n_lands : Nat → Int32) (n_camphors : Nat → Int32) (n_there : Nat → Int32) (n_mothCells : Nat → Int32) (n_mothHeads : Nat → Int32) (n_threads : Nat → Int32) (n_sightNights : Nat → Int32) (n_sightCells : Nat → Int32) (n_sights : Int32) (n_night : Int32) (s_lands : Nat → Int32) (s_camphors : Nat → Int32) (s_there : Nat → Int32) (s_mothCells : Nat → Int32) (s_mothHeads : Nat → Int32) (s_threads : Nat → Int32) (s_sightNights : Nat → Int32) (s_sightCells : Nat → Int32) (s_sights : Int32) (s_night : Int32) (s_eaten : Int32) (H : Heap) (locs : List Loc) (ls : Array Slot), va_P D vwCl (vw14 cyI cyJ cyZ cyO a n_lands n_camphors n_there n_mothCells n_mothHeads n_threads n_sightNights n_sightCells n_sights n_night n_eaten s_lands s_camphors s_there s_mothCells s_mothHeads s_threads s_sightNights s_sightCells s_sights s_night s_eaten) H → va_D A (vw14 cyI cyJ cyZ cyO a n_lands n_camphors n_there n_mothCells n_mothHeads n_threads n_sightNights n_sightCells n_sights n_night n_eaten s_lands s_camphors s_there s_mothCells s_mothHeads s_threads s_sightNights s_sightCells s_sights s_night s_eaten) → va_S A s.heap H locs → lv_has ls 6 [(0, .ref (a 0 0)), (2, .int x2), (3, .int x3), (4, .int x4), (5, .int x5)] → g_X8_year_l50 nf n50 x2 x3 x4 x5 n_lands n_camphors n_there n_mothCells n_mothHeads n_threads n_sightNights n_sightCells n_sights n_night s_lands s_camphors s_there s_mothCells s_mothHeads s_threads s_sightNights s_sightCells s_sights s_night s_eaten = some q → W p l e ({ frames := 4, cells := 0, slots := 0, locals := 88 } : Room) s m ([.ref (a 0 0), .int p1, .int p2, .int p3] : List Value).toArray below meth c H locs 0 0 (MQ below (qI D (vw14 cyI cyJ cyZ cyO a n_lands n_camphors n_there n_mothCells n_mothHeads n_threads n_sightNights n_sightCells n_sights n_night n_eaten q.2.1 q.2.2.1 q.2.2.2.1 q.2.2.2.2.1 q.2.2.2.2.2.1 q.2.2.2.2.2.2.1 q.2.2.2.2.2.2.2.1 q.2.2.2.2.2.2.2.2.1 q.2.2.2.2.2.2.2.2.2.1 q.2.2.2.2.2.2.2.2.2.2.1 q.2.2.2.2.2.2.2.2.2.2.2) q.1 A) ([.ref (a 0 0), .int p1, .int p2, .int p3] : List Value).toArray s 0 0 A) (F0 m 50 ls []) := by
    intro n50
    induction n50 with
    | zero =>
      intro x2 x3 x4 x5 n_lands n_camphors n_there n_mothCells n_mothHeads n_threads n_sightNights n_sightCells n_sights n_night s_lands s_camphors s_there s_mothCells s_mothHeads s_threads s_sightNights s_sightCells s_sights s_night s_eaten H locs ls hP hD hS hl hf
      rw [g_X8_year_l50] at hf
      cases hf
    | succ n50 ih50 =>
      intro x2 x3 x4 x5 n_lands n_camphors n_there n_mothCells n_mothHeads n_threads n_sightNights n_sightCells n_sights n_night s_lands s_camphors s_there s_mothCells s_mothHeads s_threads s_sightNights s_sightCells s_sights s_night s_eaten H locs ls hP hD hS hl hf
      rw [g_X8_year_l50] at hf
      refine lv_iload hx hb dX8_year_50 (lv_at hl 4 rfl) ?_
      refine lv_iload_n hx hb dX8_year_52 rfl (lv_at hl 1 rfl) ?_
      refine lv_icmp_ge (tgt := 92) hx hb dX8_year_53 (by decide) (fun cc => ?_) (fun cc => ?_)
      · replace hf := if_t cc hf
        refine lv_iload_n hx hb dX8_year_92 rfl (lv_at hl 2 rfl) ?_
        by_cases c0 : x3 = 0
        · replace hf := if_t c0 hf
          refine lv_lookup (off := 27) (tgt := 120) hx hb dX8_year_93 (by decide) (by rw [c0]; decide) (by decide) ?_
          refine lv_aload_n hx hb dX8_year_120 rfl (lv_at hl 0 rfl) ?_
          refine va_get (ci := 8) (v := .ref ((a 2) 0)) (C := RX8) (T := TX8) (N := 11) hx hb hT hin_X8 hown hK hP 0 rfl rfl 1 (by decide) (hT _ wf_X8_16) (fun _ h9 => h9) rfl dX8_year_121 ?_
          refine lv_iconst (v := 0) hx hb dX8_year_124 (by decide) ?_
          obtain ⟨q1, hq1, hf⟩ := bd_some hf
          have hC : [10, 11, 12, 13, 14, 15, 16, 17, 18].map (fun i => (vw14 cyI cyJ cyZ cyO a n_lands n_camphors n_there n_mothCells n_mothHeads n_threads n_sightNights n_sightCells n_sights n_night n_eaten s_lands s_camphors s_there s_mothCells s_mothHeads s_threads s_sightNights s_sightCells s_sights s_night s_eaten)[i]?) = (wX1 cyI cyJ cyZ cyO (a 2) s_lands s_camphors s_there s_mothCells s_mothHeads s_threads s_sightNights s_sightCells s_sights s_night s_eaten).map some := rfl
          refine cl_i (rn_V (As := [.int 0]) (rest := []) (C := RX1) hx hb hml hown hT hK hN hP hD [10, 11, 12, 13, 14, 15, 16, 17, 18] hC rfl (c_X1_countOf l D cyI cyJ cyZ cyO (a 2) H.size s_lands s_camphors s_there s_mothCells s_mothHeads s_threads s_sightNights s_sightCells s_sights s_night s_eaten 0 nf q1 hq1) wm_X8_159 wi_X1_countOf wl_X1_countOf wz_X1 wc_X1_countOf hd_X1_countOf ⟨rfl, rfl⟩ ⟨Nat.le_of_ble_eq_true rfl, Nat.le_of_ble_eq_true rfl⟩ (q0 := 0) (ci := 1) rfl rfl rfl rfl hl.1 rfl (Nat.le_of_ble_eq_true rfl) dX8_year_125 ⟨Nat.zero_le _, Nat.zero_le _⟩) hP hD hS hA [10, 11, 12, 13, 14, 15, 16, 17, 18] hC [(false, 0), (false, 1), (false, 2), (false, 3), (false, 4), (false, 5), (false, 6), (false, 7), (false, 8), (false, 9), (true, 0), (true, 1), (true, 2), (true, 3), (true, 4), (true, 5), (true, 6), (true, 7), (true, 8)] (ws' := vw14 cyI cyJ cyZ cyO a n_lands n_camphors n_there n_mothCells n_mothHeads n_threads n_sightNights n_sightCells n_sights n_night n_eaten s_lands s_camphors s_there s_mothCells s_mothHeads s_threads s_sightNights s_sightCells s_sights s_night s_eaten) rfl rfl rfl (fun H locs hP hD hS => ?_)
          cases Option.some.inj hf
          exact W.iret hx hb hr (fun t ht hW => ⟨⟨_, (), rfl, rfl, by show va_P D vwCl _ t.heap; rw [ht]; exact hP⟩, hS.F ht⟩) hS.2.2 dX8_year_128
        · replace hf := if_f c0 hf
          by_cases c1 : x3 = 1
          · replace hf := if_t c1 hf
            refine lv_lookup (off := 36) (tgt := 129) hx hb dX8_year_93 (by decide) (by rw [c1]; decide) (by decide) ?_
            refine lv_aload_n hx hb dX8_year_129 rfl (lv_at hl 0 rfl) ?_
            refine va_get (ci := 8) (v := .ref ((a 2) 0)) (C := RX8) (T := TX8) (N := 11) hx hb hT hin_X8 hown hK hP 0 rfl rfl 1 (by decide) (hT _ wf_X8_16) (fun _ h9 => h9) rfl dX8_year_130 ?_
            obtain ⟨q2, hq2, hf⟩ := bd_some hf
            have hC : [10, 11, 12, 13, 14, 15, 16, 17, 18].map (fun i => (vw14 cyI cyJ cyZ cyO a n_lands n_camphors n_there n_mothCells n_mothHeads n_threads n_sightNights n_sightCells n_sights n_night n_eaten s_lands s_camphors s_there s_mothCells s_mothHeads s_threads s_sightNights s_sightCells s_sights s_night s_eaten)[i]?) = (wX1 cyI cyJ cyZ cyO (a 2) s_lands s_camphors s_there s_mothCells s_mothHeads s_threads s_sightNights s_sightCells s_sights s_night s_eaten).map some := rfl
            refine cl_i (rn_V (As := []) (rest := []) (C := RX1) hx hb hml hown hT hK hN hP hD [10, 11, 12, 13, 14, 15, 16, 17, 18] hC rfl (c_X1_threadsInAll l D cyI cyJ cyZ cyO (a 2) H.size s_lands s_camphors s_there s_mothCells s_mothHeads s_threads s_sightNights s_sightCells s_sights s_night s_eaten nf q2 hq2) wm_X8_162 wi_X1_threadsInAll wl_X1_threadsInAll wz_X1 wc_X1_threadsInAll hd_X1_threadsInAll ⟨rfl, rfl⟩ ⟨Nat.le_of_ble_eq_true rfl, Nat.le_of_ble_eq_true rfl⟩ (q0 := 0) (ci := 1) rfl rfl rfl rfl hl.1 rfl (Nat.le_of_ble_eq_true rfl) dX8_year_133 ⟨Nat.zero_le _, Nat.zero_le _⟩) hP hD hS hA [10, 11, 12, 13, 14, 15, 16, 17, 18] hC [(false, 0), (false, 1), (false, 2), (false, 3), (false, 4), (false, 5), (false, 6), (false, 7), (false, 8), (false, 9), (true, 0), (true, 1), (true, 2), (true, 3), (true, 4), (true, 5), (true, 6), (true, 7), (true, 8)] (ws' := vw14 cyI cyJ cyZ cyO a n_lands n_camphors n_there n_mothCells n_mothHeads n_threads n_sightNights n_sightCells n_sights n_night n_eaten s_lands s_camphors s_there s_mothCells s_mothHeads s_threads s_sightNights s_sightCells s_sights s_night s_eaten) rfl rfl rfl (fun H locs hP hD hS => ?_)
            cases Option.some.inj hf
            exact W.iret hx hb hr (fun t ht hW => ⟨⟨_, (), rfl, rfl, by show va_P D vwCl _ t.heap; rw [ht]; exact hP⟩, hS.F ht⟩) hS.2.2 dX8_year_136
          · replace hf := if_f c1 hf
            refine lv_lookup (off := 44) (tgt := 137) hx hb dX8_year_93 (by decide) (by show Op.lookupswitch.offset [(0, 27), (1, 36)] 44 _ = _; rw [lv_osw c0 (show (0 : Int32).toInt = 0 by decide), lv_osw c1 (show (1 : Int32).toInt = 1 by decide)]; rfl) (by decide) ?_
            refine lv_aload_n hx hb dX8_year_137 rfl (lv_at hl 0 rfl) ?_
            refine va_get (ci := 8) (v := .ref ((a 2) 0)) (C := RX8) (T := TX8) (N := 11) hx hb hT hin_X8 hown hK hP 0 rfl rfl 1 (by decide) (hT _ wf_X8_16) (fun _ h9 => h9) rfl dX8_year_138 ?_
            refine lv_iconst (v := 4) hx hb dX8_year_141 (by decide) ?_
            obtain ⟨q3, hq3, hf⟩ := bd_some hf
            have hC : [10, 11, 12, 13, 14, 15, 16, 17, 18].map (fun i => (vw14 cyI cyJ cyZ cyO a n_lands n_camphors n_there n_mothCells n_mothHeads n_threads n_sightNights n_sightCells n_sights n_night n_eaten s_lands s_camphors s_there s_mothCells s_mothHeads s_threads s_sightNights s_sightCells s_sights s_night s_eaten)[i]?) = (wX1 cyI cyJ cyZ cyO (a 2) s_lands s_camphors s_there s_mothCells s_mothHeads s_threads s_sightNights s_sightCells s_sights s_night s_eaten).map some := rfl
            refine cl_i (rn_V (As := [.int 4]) (rest := []) (C := RX1) hx hb hml hown hT hK hN hP hD [10, 11, 12, 13, 14, 15, 16, 17, 18] hC rfl (c_X1_countOf l D cyI cyJ cyZ cyO (a 2) H.size s_lands s_camphors s_there s_mothCells s_mothHeads s_threads s_sightNights s_sightCells s_sights s_night s_eaten 4 nf q3 hq3) wm_X8_159 wi_X1_countOf wl_X1_countOf wz_X1 wc_X1_countOf hd_X1_countOf ⟨rfl, rfl⟩ ⟨Nat.le_of_ble_eq_true rfl, Nat.le_of_ble_eq_true rfl⟩ (q0 := 0) (ci := 1) rfl rfl rfl rfl hl.1 rfl (Nat.le_of_ble_eq_true rfl) dX8_year_142 ⟨Nat.zero_le _, Nat.zero_le _⟩) hP hD hS hA [10, 11, 12, 13, 14, 15, 16, 17, 18] hC [(false, 0), (false, 1), (false, 2), (false, 3), (false, 4), (false, 5), (false, 6), (false, 7), (false, 8), (false, 9), (true, 0), (true, 1), (true, 2), (true, 3), (true, 4), (true, 5), (true, 6), (true, 7), (true, 8)] (ws' := vw14 cyI cyJ cyZ cyO a n_lands n_camphors n_there n_mothCells n_mothHeads n_threads n_sightNights n_sightCells n_sights n_night n_eaten s_lands s_camphors s_there s_mothCells s_mothHeads s_threads s_sightNights s_sightCells s_sights s_night s_eaten) rfl rfl rfl (fun H locs hP hD hS => ?_)
            cases Option.some.inj hf
            exact W.iret hx hb hr (fun t ht hW => ⟨⟨_, (), rfl, rfl, by show va_P D vwCl _ t.heap; rw [ht]; exact hP⟩, hS.F ht⟩) hS.2.2 dX8_year_145
      · replace hf := if_f cc hf
        refine lv_bipush (v := 75) hx hb dX8_year_56 (by decide) ?_
        refine lv_iload hx hb dX8_year_58 (lv_at hl 3 rfl) ?_
        refine lv_imul hx hb dX8_year_60 ?_
        refine lv_bipush (v := 74) hx hb dX8_year_61 (by decide) ?_
        refine lv_iadd hx hb dX8_year_63 ?_
        refine lv_ldc (v := 65537) hx hb hown (hT _ wk_X8_255) dX8_year_64 ?_
        refine lv_irem hx hb dX8_year_66 (by decide) ?_
        refine lv_istore (lv' := [(4, .int (((75 * x4) + 74) - ((75 * x4) + 74) / 65537 * 65537)), (0, .ref (a 0 0)), (2, .int x2), (3, .int x3), (5, .int x5)]) hx hb dX8_year_67 hl (by decide) rfl (fun ls hl => ?_)
        refine lv_aload_n hx hb dX8_year_69 rfl (lv_at hl 1 rfl) ?_
        refine va_get (ci := 8) (v := .ref ((a 2) 0)) (C := RX8) (T := TX8) (N := 11) hx hb hT hin_X8 hown hK hP 0 rfl rfl 1 (by decide) (hT _ wf_X8_16) (fun _ h9 => h9) rfl dX8_year_70 ?_
        refine lv_iload hx hb dX8_year_73 (lv_at hl 0 rfl) ?_
        refine lv_bipush (v := 8) hx hb dX8_year_75 (by decide) ?_
        refine lv_irem hx hb dX8_year_77 (by decide) ?_
        refine lv_iload hx hb dX8_year_78 (lv_at hl 0 rfl) ?_
        refine lv_bipush (v := 8) hx hb dX8_year_80 (by decide) ?_
        refine lv_idiv hx hb dX8_year_82 (by decide) ?_
        obtain ⟨q4, hq4, hf⟩ := bd_some hf
        have hC : [10, 11, 12, 13, 14, 15, 16, 17, 18].map (fun i => (vw14 cyI cyJ cyZ cyO a n_lands n_camphors n_there n_mothCells n_mothHeads n_threads n_sightNights n_sightCells n_sights n_night n_eaten s_lands s_camphors s_there s_mothCells s_mothHeads s_threads s_sightNights s_sightCells s_sights s_night s_eaten)[i]?) = (wX1 cyI cyJ cyZ cyO (a 2) s_lands s_camphors s_there s_mothCells s_mothHeads s_threads s_sightNights s_sightCells s_sights s_night s_eaten).map some := rfl
        refine cl_v (rn_V (As := [.int ((((75 * x4) + 74) - ((75 * x4) + 74) / 65537 * 65537) - (((75 * x4) + 74) - ((75 * x4) + 74) / 65537 * 65537) / 8 * 8), .int ((((75 * x4) + 74) - ((75 * x4) + 74) / 65537 * 65537) / 8)]) (rest := []) (C := RX1) hx hb hml hown hT hK hN hP hD [10, 11, 12, 13, 14, 15, 16, 17, 18] hC rfl (c_X1_draw l D cyI cyJ cyZ cyO (a 2) H.size s_lands s_camphors s_there s_mothCells s_mothHeads s_threads s_sightNights s_sightCells s_sights s_night s_eaten ((((75 * x4) + 74) - ((75 * x4) + 74) / 65537 * 65537) - (((75 * x4) + 74) - ((75 * x4) + 74) / 65537 * 65537) / 8 * 8) ((((75 * x4) + 74) - ((75 * x4) + 74) / 65537 * 65537) / 8) nf q4 hq4) wm_X8_256 wi_X1_draw wl_X1_draw wz_X1 wc_X1_draw hd_X1_draw ⟨rfl, rfl⟩ ⟨Nat.le_of_ble_eq_true rfl, Nat.le_of_ble_eq_true rfl⟩ (q0 := 0) (ci := 1) rfl rfl rfl rfl hl.1 rfl (Nat.le_of_ble_eq_true rfl) dX8_year_83 ⟨Nat.zero_le _, Nat.zero_le _⟩) hP hD hS hA [10, 11, 12, 13, 14, 15, 16, 17, 18] hC [(false, 0), (false, 1), (false, 2), (false, 3), (false, 4), (false, 5), (false, 6), (false, 7), (false, 8), (false, 9), (true, 0), (true, 1), (true, 2), (true, 3), (true, 4), (true, 5), (true, 6), (true, 7), (true, 8)] (ws' := vw14 cyI cyJ cyZ cyO a n_lands n_camphors n_there n_mothCells n_mothHeads n_threads n_sightNights n_sightCells n_sights n_night n_eaten q4.1 q4.2.1 s_there q4.2.2.1 q4.2.2.2.1 q4.2.2.2.2.1 s_sightNights s_sightCells s_sights q4.2.2.2.2.2.1 q4.2.2.2.2.2.2) rfl rfl rfl (fun H locs hP hD hS => ?_)
        refine lv_iinc (v := (x5 + 1)) (lv' := [(5, .int (x5 + 1)), (4, .int (((75 * x4) + 74) - ((75 * x4) + 74) / 65537 * 65537)), (0, .ref (a 0 0)), (2, .int x2), (3, .int x3)]) hx hb dX8_year_86 hl (k := 4) rfl rfl (by decide) rfl (fun ls hl => ?_)
        refine lv_goto (tgt := 50) hx hb dX8_year_89 (by decide) ?_
        exact ih50 x2 x3 (((75 * x4) + 74) - ((75 * x4) + 74) / 65537 * 65537) (x5 + 1) n_lands n_camphors n_there n_mothCells n_mothHeads n_threads n_sightNights n_sightCells n_sights n_night q4.1 q4.2.1 s_there q4.2.2.1 q4.2.2.2.1 q4.2.2.2.2.1 s_sightNights s_sightCells s_sights q4.2.2.2.2.2.1 q4.2.2.2.2.2.2 H locs ls hP hD hS (lv_sub hl [2, 3, 4, 1, 0] rfl) hf
  have main : ∀ (H : Heap) (locs : List Loc) (ls : Array Slot), va_P D vwCl (vw14 cyI cyJ cyZ cyO a n_lands n_camphors n_there n_mothCells n_mothHeads n_threads n_sightNights n_sightCells n_sights n_night n_eaten s_lands s_camphors s_there s_mothCells s_mothHeads s_threads s_sightNights s_sightCells s_sights s_night s_eaten) H → va_D A (vw14 cyI cyJ cyZ cyO a n_lands n_camphors n_there n_mothCells n_mothHeads n_threads n_sightNights n_sightCells n_sights n_night n_eaten s_lands s_camphors s_there s_mothCells s_mothHeads s_threads s_sightNights s_sightCells s_sights s_night s_eaten) → va_S A s.heap H locs → lv_has ls 6 [(0, .ref (a 0 0)), (1, .int p1), (2, .int p2), (3, .int p3)] → W p l e ({ frames := 4, cells := 0, slots := 0, locals := 88 } : Room) s m ([.ref (a 0 0), .int p1, .int p2, .int p3] : List Value).toArray below meth c H locs 0 0 (MQ below (qI D (vw14 cyI cyJ cyZ cyO a n_lands n_camphors n_there n_mothCells n_mothHeads n_threads n_sightNights n_sightCells n_sights n_night n_eaten q.2.1 q.2.2.1 q.2.2.2.1 q.2.2.2.2.1 q.2.2.2.2.2.1 q.2.2.2.2.2.2.1 q.2.2.2.2.2.2.2.1 q.2.2.2.2.2.2.2.2.1 q.2.2.2.2.2.2.2.2.2.1 q.2.2.2.2.2.2.2.2.2.2.1 q.2.2.2.2.2.2.2.2.2.2.2) q.1 A) ([.ref (a 0 0), .int p1, .int p2, .int p3] : List Value).toArray s 0 0 A) (F0 m 0 ls []) := by
    intro H locs ls hP hD hS hl
    unfold g_X8_year at hf
    refine lv_iload_n hx hb dX8_year_0 rfl (lv_at hl 1 rfl) ?_
    refine lv_iconst (v := 0) hx hb dX8_year_1 (by decide) ?_
    refine lv_sipush (v := 9999) hx hb dX8_year_2 (by decide) ?_
    obtain ⟨q5, hq5, hf⟩ := bd_some hf
    have hC : ([] : List Nat).map (fun i => (vw14 cyI cyJ cyZ cyO a n_lands n_camphors n_there n_mothCells n_mothHeads n_threads n_sightNights n_sightCells n_sights n_night n_eaten s_lands s_camphors s_there s_mothCells s_mothHeads s_threads s_sightNights s_sightCells s_sights s_night s_eaten)[i]?) = ([] : va_W).map some := rfl
    refine cl_i (rn_S (As := [.int p1, .int 0, .int 9999]) (rest := []) hx hb hml hown hT hK hN hP hD [] hC rfl (c_X8_within l D cyI cyJ cyZ cyO H.size p1 0 9999 nf q5 hq5) wm_X8_80 wt_X8_within wz_X8 wc_X8_within hd_X8_within ⟨rfl, rfl⟩ ⟨Nat.le_of_ble_eq_true rfl, Nat.le_of_ble_eq_true rfl⟩ rfl hl.1 rfl (Nat.le_of_ble_eq_true rfl) dX8_year_5 ⟨Nat.zero_le _, Nat.zero_le _⟩) hP hD hS hA [] hC [(false, 0), (false, 1), (false, 2), (false, 3), (false, 4), (false, 5), (false, 6), (false, 7), (false, 8), (false, 9), (false, 10), (false, 11), (false, 12), (false, 13), (false, 14), (false, 15), (false, 16), (false, 17), (false, 18)] (ws' := vw14 cyI cyJ cyZ cyO a n_lands n_camphors n_there n_mothCells n_mothHeads n_threads n_sightNights n_sightCells n_sights n_night n_eaten s_lands s_camphors s_there s_mothCells s_mothHeads s_threads s_sightNights s_sightCells s_sights s_night s_eaten) rfl rfl rfl (fun H locs hP hD hS => ?_)
    refine lv_if_eq (tgt := 30) hx hb dX8_year_8 (by decide) (fun cc => ?_) (fun cc => ?_)
    · replace hf := if_t cc hf
      refine lv_bipush (v := (-2)) hx hb dX8_year_30 (by decide) ?_
      cases Option.some.inj hf
      exact W.iret hx hb hr (fun t ht hW => ⟨⟨_, (), rfl, rfl, by show va_P D vwCl _ t.heap; rw [ht]; exact hP⟩, hS.F ht⟩) hS.2.2 dX8_year_32
    · replace hf := if_f cc hf
      refine lv_iload_n hx hb dX8_year_11 rfl (lv_at hl 2 rfl) ?_
      refine lv_iconst (v := 1) hx hb dX8_year_12 (by decide) ?_
      refine lv_bipush (v := 99) hx hb dX8_year_13 (by decide) ?_
      obtain ⟨q6, hq6, hf⟩ := bd_some hf
      have hC : ([] : List Nat).map (fun i => (vw14 cyI cyJ cyZ cyO a n_lands n_camphors n_there n_mothCells n_mothHeads n_threads n_sightNights n_sightCells n_sights n_night n_eaten s_lands s_camphors s_there s_mothCells s_mothHeads s_threads s_sightNights s_sightCells s_sights s_night s_eaten)[i]?) = ([] : va_W).map some := rfl
      refine cl_i (rn_S (As := [.int p2, .int 1, .int 99]) (rest := []) hx hb hml hown hT hK hN hP hD [] hC rfl (c_X8_within l D cyI cyJ cyZ cyO H.size p2 1 99 nf q6 hq6) wm_X8_80 wt_X8_within wz_X8 wc_X8_within hd_X8_within ⟨rfl, rfl⟩ ⟨Nat.le_of_ble_eq_true rfl, Nat.le_of_ble_eq_true rfl⟩ rfl hl.1 rfl (Nat.le_of_ble_eq_true rfl) dX8_year_15 ⟨Nat.zero_le _, Nat.zero_le _⟩) hP hD hS hA [] hC [(false, 0), (false, 1), (false, 2), (false, 3), (false, 4), (false, 5), (false, 6), (false, 7), (false, 8), (false, 9), (false, 10), (false, 11), (false, 12), (false, 13), (false, 14), (false, 15), (false, 16), (false, 17), (false, 18)] (ws' := vw14 cyI cyJ cyZ cyO a n_lands n_camphors n_there n_mothCells n_mothHeads n_threads n_sightNights n_sightCells n_sights n_night n_eaten s_lands s_camphors s_there s_mothCells s_mothHeads s_threads s_sightNights s_sightCells s_sights s_night s_eaten) rfl rfl rfl (fun H locs hP hD hS => ?_)
      refine lv_if_eq (tgt := 30) hx hb dX8_year_18 (by decide) (fun cc => ?_) (fun cc => ?_)
      · replace hf := if_t cc hf
        refine lv_bipush (v := (-2)) hx hb dX8_year_30 (by decide) ?_
        cases Option.some.inj hf
        exact W.iret hx hb hr (fun t ht hW => ⟨⟨_, (), rfl, rfl, by show va_P D vwCl _ t.heap; rw [ht]; exact hP⟩, hS.F ht⟩) hS.2.2 dX8_year_32
      · replace hf := if_f cc hf
        refine lv_iload_n hx hb dX8_year_21 rfl (lv_at hl 3 rfl) ?_
        refine lv_iconst (v := 0) hx hb dX8_year_22 (by decide) ?_
        refine lv_iconst (v := 2) hx hb dX8_year_23 (by decide) ?_
        obtain ⟨q7, hq7, hf⟩ := bd_some hf
        have hC : ([] : List Nat).map (fun i => (vw14 cyI cyJ cyZ cyO a n_lands n_camphors n_there n_mothCells n_mothHeads n_threads n_sightNights n_sightCells n_sights n_night n_eaten s_lands s_camphors s_there s_mothCells s_mothHeads s_threads s_sightNights s_sightCells s_sights s_night s_eaten)[i]?) = ([] : va_W).map some := rfl
        refine cl_i (rn_S (As := [.int p3, .int 0, .int 2]) (rest := []) hx hb hml hown hT hK hN hP hD [] hC rfl (c_X8_within l D cyI cyJ cyZ cyO H.size p3 0 2 nf q7 hq7) wm_X8_80 wt_X8_within wz_X8 wc_X8_within hd_X8_within ⟨rfl, rfl⟩ ⟨Nat.le_of_ble_eq_true rfl, Nat.le_of_ble_eq_true rfl⟩ rfl hl.1 rfl (Nat.le_of_ble_eq_true rfl) dX8_year_24 ⟨Nat.zero_le _, Nat.zero_le _⟩) hP hD hS hA [] hC [(false, 0), (false, 1), (false, 2), (false, 3), (false, 4), (false, 5), (false, 6), (false, 7), (false, 8), (false, 9), (false, 10), (false, 11), (false, 12), (false, 13), (false, 14), (false, 15), (false, 16), (false, 17), (false, 18)] (ws' := vw14 cyI cyJ cyZ cyO a n_lands n_camphors n_there n_mothCells n_mothHeads n_threads n_sightNights n_sightCells n_sights n_night n_eaten s_lands s_camphors s_there s_mothCells s_mothHeads s_threads s_sightNights s_sightCells s_sights s_night s_eaten) rfl rfl rfl (fun H locs hP hD hS => ?_)
        refine lv_if_ne (tgt := 33) hx hb dX8_year_27 (by decide) (fun cc => ?_) (fun cc => ?_)
        · replace hf := if_f cc hf
          refine lv_aload_n hx hb dX8_year_33 rfl (lv_at hl 0 rfl) ?_
          refine va_get (ci := 8) (v := .ref ((a 2) 0)) (C := RX8) (T := TX8) (N := 11) hx hb hT hin_X8 hown hK hP 0 rfl rfl 1 (by decide) (hT _ wf_X8_16) (fun _ h9 => h9) rfl dX8_year_34 ?_
          refine lv_aload_n hx hb dX8_year_37 rfl (lv_at hl 0 rfl) ?_
          refine va_get (ci := 8) (v := .ref ((a 1) 0)) (C := RX8) (T := TX8) (N := 11) hx hb hT hin_X8 hown hK hP 0 rfl rfl 0 (by decide) (hT _ wf_X8_10) (fun _ h9 => h9) rfl dX8_year_38 ?_
          obtain ⟨q8, hq8, hf⟩ := bd_some hf
          have hC : [10, 11, 12, 13, 14, 15, 16, 17, 18, 1, 2, 3, 4, 5, 6, 7, 8, 9].map (fun i => (vw14 cyI cyJ cyZ cyO a n_lands n_camphors n_there n_mothCells n_mothHeads n_threads n_sightNights n_sightCells n_sights n_night n_eaten s_lands s_camphors s_there s_mothCells s_mothHeads s_threads s_sightNights s_sightCells s_sights s_night s_eaten)[i]?) = (vw1 cyI cyJ cyZ cyO (a 2) (a 1) s_lands s_camphors s_there s_mothCells s_mothHeads s_threads s_sightNights s_sightCells s_sights s_night s_eaten n_lands n_camphors n_there n_mothCells n_mothHeads n_threads n_sightNights n_sightCells n_sights n_night n_eaten).map some := rfl
          refine cl_v (rn_V (As := [.ref ((a 1) 0)]) (rest := []) (C := RX1) hx hb hml hown hT hK hN hP hD [10, 11, 12, 13, 14, 15, 16, 17, 18, 1, 2, 3, 4, 5, 6, 7, 8, 9] hC rfl (c_X1_become l D cyI cyJ cyZ cyO (a 2) (a 1) H.size s_lands s_camphors s_there s_mothCells s_mothHeads s_threads s_sightNights s_sightCells s_sights s_night s_eaten n_lands n_camphors n_there n_mothCells n_mothHeads n_threads n_sightNights n_sightCells n_sights n_night n_eaten nf q8 hq8) wm_X8_152 wi_X1_become wl_X1_become wz_X1 wc_X1_become hd_X1_become ⟨rfl, rfl⟩ ⟨Nat.le_of_ble_eq_true rfl, Nat.le_of_ble_eq_true rfl⟩ (q0 := 0) (ci := 1) rfl rfl rfl rfl hl.1 rfl (Nat.le_of_ble_eq_true rfl) dX8_year_41 ⟨Nat.zero_le _, Nat.zero_le _⟩) hP hD hS hA [10, 11, 12, 13, 14, 15, 16, 17, 18, 1, 2, 3, 4, 5, 6, 7, 8, 9] hC [(false, 0), (true, 9), (true, 10), (true, 11), (true, 12), (true, 13), (true, 14), (true, 15), (true, 16), (true, 17), (true, 0), (true, 1), (true, 2), (true, 3), (true, 4), (true, 5), (true, 6), (true, 7), (true, 8)] (ws' := vw14 cyI cyJ cyZ cyO a n_lands n_camphors n_there n_mothCells n_mothHeads n_threads n_sightNights n_sightCells n_sights n_night n_eaten q8.1 q8.2.1 q8.2.2.1 q8.2.2.2.1 q8.2.2.2.2.1 q8.2.2.2.2.2.1 q8.2.2.2.2.2.2.1 q8.2.2.2.2.2.2.2.1 q8.2.2.2.2.2.2.2.2.1 q8.2.2.2.2.2.2.2.2.2 s_eaten) rfl rfl rfl (fun H locs hP hD hS => ?_)
          refine lv_iload_n hx hb dX8_year_44 rfl (lv_at hl 1 rfl) ?_
          refine lv_istore (lv' := [(4, .int p1), (0, .ref (a 0 0)), (1, .int p1), (2, .int p2), (3, .int p3)]) hx hb dX8_year_45 hl (by decide) rfl (fun ls hl => ?_)
          refine lv_iconst (v := 0) hx hb dX8_year_47 (by decide) ?_
          refine lv_istore (lv' := [(5, .int 0), (4, .int p1), (0, .ref (a 0 0)), (1, .int p1), (2, .int p2), (3, .int p3)]) hx hb dX8_year_48 hl (by decide) rfl (fun ls hl => ?_)
          exact l50 nf p2 p3 p1 0 n_lands n_camphors n_there n_mothCells n_mothHeads n_threads n_sightNights n_sightCells n_sights n_night q8.1 q8.2.1 q8.2.2.1 q8.2.2.2.1 q8.2.2.2.2.1 q8.2.2.2.2.2.1 q8.2.2.2.2.2.2.1 q8.2.2.2.2.2.2.2.1 q8.2.2.2.2.2.2.2.2.1 q8.2.2.2.2.2.2.2.2.2 s_eaten H locs ls hP hD hS (lv_sub hl [2, 4, 5, 1, 0] rfl) hf
        · replace hf := if_t cc hf
          refine lv_bipush (v := (-2)) hx hb dX8_year_30 (by decide) ?_
          cases Option.some.inj hf
          exact W.iret hx hb hr (fun t ht hW => ⟨⟨_, (), rfl, rfl, by show va_P D vwCl _ t.heap; rw [ht]; exact hP⟩, hS.F ht⟩) hS.2.2 dX8_year_32
  have hl := lv_entry ([.ref (a 0 0), .int p1, .int p2, .int p3]) (n := 6) (Nat.le_of_ble_eq_true rfl)
  rw [lg_entry_eq]
  exact main s.heap [] _ hP hD hS hl
theorem hd_X8_image : yX8_image.cls = RX8 ∧ yX8_image.cls ≠ "java/lang/invoke/MethodHandle" ∧ yX8_image.cls ≠ "java/lang/invoke/VarHandle" ∧ (parseMethodDescriptor yX8_image.desc).map (fun d => d.parameters.length) = some 1 := by decide +kernel
set_option maxHeartbeats 4000000 in
set_option maxRecDepth 100000 in
theorem c_X8_image (l : Launch) (D : va_G) (cyI cyJ cyZ cyO : ClassId) (a : Nat → Nat → Nat) (sz : Nat) (n_lands : Nat → Int32) (n_camphors : Nat → Int32) (n_there : Nat → Int32) (n_mothCells : Nat → Int32) (n_mothHeads : Nat → Int32) (n_threads : Nat → Int32) (n_sightNights : Nat → Int32) (n_sightCells : Nat → Int32) (n_sights : Int32) (n_night : Int32) (n_eaten : Int32) (u_lands : Nat → Int32) (u_camphors : Nat → Int32) (u_there : Nat → Int32) (u_mothCells : Nat → Int32) (u_mothHeads : Nat → Int32) (u_threads : Nat → Int32) (u_sightNights : Nat → Int32) (u_sightCells : Nat → Int32) (u_sights : Int32) (u_night : Int32) (u_eaten : Int32) (v_lands : Nat → Int32) (v_camphors : Nat → Int32) (v_there : Nat → Int32) (v_mothCells : Nat → Int32) (v_mothHeads : Nat → Int32) (v_threads : Nat → Int32) (v_sightNights : Nat → Int32) (v_sightCells : Nat → Int32) (v_sights : Int32) (v_night : Int32) (v_eaten : Int32) (kept : Nat → Int32) (p1 : Int32) (nf : Nat) (q : Int32 × (Nat → Int32) × (Nat → Int32) × (Nat → Int32) × (Nat → Int32) × (Nat → Int32) × (Nat → Int32) × (Nat → Int32) × (Nat → Int32) × Int32 × Int32 × (Nat → Int32) × (Nat → Int32) × (Nat → Int32) × (Nat → Int32) × (Nat → Int32) × (Nat → Int32) × (Nat → Int32) × (Nat → Int32) × Int32 × Int32 × (Nat → Int32)) (hf : g_X8_image nf p1 n_lands n_camphors n_there n_mothCells n_mothHeads n_threads n_sightNights n_sightCells n_sights n_night u_lands u_camphors u_there u_mothCells u_mothHeads u_threads u_sightNights u_sightCells u_sights u_night v_lands v_camphors v_there v_mothCells v_mothHeads v_threads v_sightNights v_sightCells v_sights v_night kept = some q) : Met l yX8_image (Cond.code yX8_image cX8_image 2 (some .int) :: tbG) ({ frames := 1, cells := 0, slots := 0, locals := 22 } : Room) (va_Pc [.ref (a 0 0), .int p1] (pcB D (ty4 cyI cyJ cyZ cyO) sz (vw15 cyI cyJ cyZ cyO a n_lands n_camphors n_there n_mothCells n_mothHeads n_threads n_sightNights n_sightCells n_sights n_night n_eaten u_lands u_camphors u_there u_mothCells u_mothHeads u_threads u_sightNights u_sightCells u_sights u_night u_eaten v_lands v_camphors v_there v_mothCells v_mothHeads v_threads v_sightNights v_sightCells v_sights v_night v_eaten kept))) (qI D (vw15 cyI cyJ cyZ cyO a n_lands n_camphors n_there n_mothCells n_mothHeads n_threads n_sightNights n_sightCells n_sights n_night n_eaten q.2.1 q.2.2.1 q.2.2.2.1 q.2.2.2.2.1 q.2.2.2.2.2.1 q.2.2.2.2.2.2.1 q.2.2.2.2.2.2.2.1 q.2.2.2.2.2.2.2.2.1 q.2.2.2.2.2.2.2.2.2.1 q.2.2.2.2.2.2.2.2.2.2.1 u_eaten q.2.2.2.2.2.2.2.2.2.2.2.1 q.2.2.2.2.2.2.2.2.2.2.2.2.1 q.2.2.2.2.2.2.2.2.2.2.2.2.2.1 q.2.2.2.2.2.2.2.2.2.2.2.2.2.2.1 q.2.2.2.2.2.2.2.2.2.2.2.2.2.2.2.1 q.2.2.2.2.2.2.2.2.2.2.2.2.2.2.2.2.1 q.2.2.2.2.2.2.2.2.2.2.2.2.2.2.2.2.2.1 q.2.2.2.2.2.2.2.2.2.2.2.2.2.2.2.2.2.2.1 q.2.2.2.2.2.2.2.2.2.2.2.2.2.2.2.2.2.2.2.1 q.2.2.2.2.2.2.2.2.2.2.2.2.2.2.2.2.2.2.2.2.1 v_eaten q.2.2.2.2.2.2.2.2.2.2.2.2.2.2.2.2.2.2.2.2.2) q.1 (va_A (vw15 cyI cyJ cyZ cyO a n_lands n_camphors n_there n_mothCells n_mothHeads n_threads n_sightNights n_sightCells n_sights n_night n_eaten u_lands u_camphors u_there u_mothCells u_mothHeads u_threads u_sightNights u_sightCells u_sights u_night u_eaten v_lands v_camphors v_there v_mothCells v_mothHeads v_threads v_sightNights v_sightCells v_sights v_night v_eaten kept) sz)) 0 0 (va_A (vw15 cyI cyJ cyZ cyO a n_lands n_camphors n_there n_mothCells n_mothHeads n_threads n_sightNights n_sightCells n_sights n_night n_eaten u_lands u_camphors u_there u_mothCells u_mothHeads u_threads u_sightNights u_sightCells u_sights u_night u_eaten v_lands v_camphors v_there v_mothCells v_mothHeads v_threads v_sightNights v_sightCells v_sights v_night v_eaten kept) sz) := by
  refine Met.ofW (cc := cX8_image) (maxL := 2) (ret := (some .int)) (by decide) rfl ?_
  intro p e s m args below meth c s₁ B hml hv
  obtain ⟨rfl, hsz, hP, hK, hD0, hN⟩ := hv
  have hx := B.exec
  have hb := B.bytes
  have hr := B.returns
  have hT : ∀ w ∈ tbG, w.before ([.ref (a 0 0), .int p1] : List Value).toArray s = true := fun w h => atoms_spec (ws := (Cond.code yX8_image cX8_image 2 (some .int) :: tbG)) B.pre w (List.mem_cons_of_mem _ h)
  have hown : s.vm.findClass RX8 = some m.cls := findClass_of_methodNamed B.named
  have hlocks := B.notSynchronized
  subst hsz
  have hD := hD0.self (sz := s.heap.size)
  generalize hAe : va_A (vw15 cyI cyJ cyZ cyO a n_lands n_camphors n_there n_mothCells n_mothHeads n_threads n_sightNights n_sightCells n_sights n_night n_eaten u_lands u_camphors u_there u_mothCells u_mothHeads u_threads u_sightNights u_sightCells u_sights u_night u_eaten v_lands v_camphors v_there v_mothCells v_mothHeads v_threads v_sightNights v_sightCells v_sights v_night v_eaten kept) s.heap.size = A at hD ⊢
  have hA : ∀ q : Nat, s.heap.size ≤ q → A q := fun q h => by rw [← hAe]; exact Or.inr h
  have hS : va_S A s.heap s.heap [] := va_S.rf
  show W p l e ({ frames := 1, cells := 0, slots := 0, locals := 22 } : Room) s m ([.ref (a 0 0), .int p1] : List Value).toArray below meth c s.heap [] 0 0 (MQ below (qI D (vw15 cyI cyJ cyZ cyO a n_lands n_camphors n_there n_mothCells n_mothHeads n_threads n_sightNights n_sightCells n_sights n_night n_eaten q.2.1 q.2.2.1 q.2.2.2.1 q.2.2.2.2.1 q.2.2.2.2.2.1 q.2.2.2.2.2.2.1 q.2.2.2.2.2.2.2.1 q.2.2.2.2.2.2.2.2.1 q.2.2.2.2.2.2.2.2.2.1 q.2.2.2.2.2.2.2.2.2.2.1 u_eaten q.2.2.2.2.2.2.2.2.2.2.2.1 q.2.2.2.2.2.2.2.2.2.2.2.2.1 q.2.2.2.2.2.2.2.2.2.2.2.2.2.1 q.2.2.2.2.2.2.2.2.2.2.2.2.2.2.1 q.2.2.2.2.2.2.2.2.2.2.2.2.2.2.2.1 q.2.2.2.2.2.2.2.2.2.2.2.2.2.2.2.2.1 q.2.2.2.2.2.2.2.2.2.2.2.2.2.2.2.2.2.1 q.2.2.2.2.2.2.2.2.2.2.2.2.2.2.2.2.2.2.1 q.2.2.2.2.2.2.2.2.2.2.2.2.2.2.2.2.2.2.2.1 q.2.2.2.2.2.2.2.2.2.2.2.2.2.2.2.2.2.2.2.2.1 v_eaten q.2.2.2.2.2.2.2.2.2.2.2.2.2.2.2.2.2.2.2.2.2) q.1 A) ([.ref (a 0 0), .int p1] : List Value).toArray s 0 0 A) _
  have main : ∀ (H : Heap) (locs : List Loc) (ls : Array Slot), va_P D vwCl (vw15 cyI cyJ cyZ cyO a n_lands n_camphors n_there n_mothCells n_mothHeads n_threads n_sightNights n_sightCells n_sights n_night n_eaten u_lands u_camphors u_there u_mothCells u_mothHeads u_threads u_sightNights u_sightCells u_sights u_night u_eaten v_lands v_camphors v_there v_mothCells v_mothHeads v_threads v_sightNights v_sightCells v_sights v_night v_eaten kept) H → va_D A (vw15 cyI cyJ cyZ cyO a n_lands n_camphors n_there n_mothCells n_mothHeads n_threads n_sightNights n_sightCells n_sights n_night n_eaten u_lands u_camphors u_there u_mothCells u_mothHeads u_threads u_sightNights u_sightCells u_sights u_night u_eaten v_lands v_camphors v_there v_mothCells v_mothHeads v_threads v_sightNights v_sightCells v_sights v_night v_eaten kept) → va_S A s.heap H locs → lv_has ls 2 [(0, .ref (a 0 0)), (1, .int p1)] → W p l e ({ frames := 1, cells := 0, slots := 0, locals := 22 } : Room) s m ([.ref (a 0 0), .int p1] : List Value).toArray below meth c H locs 0 0 (MQ below (qI D (vw15 cyI cyJ cyZ cyO a n_lands n_camphors n_there n_mothCells n_mothHeads n_threads n_sightNights n_sightCells n_sights n_night n_eaten q.2.1 q.2.2.1 q.2.2.2.1 q.2.2.2.2.1 q.2.2.2.2.2.1 q.2.2.2.2.2.2.1 q.2.2.2.2.2.2.2.1 q.2.2.2.2.2.2.2.2.1 q.2.2.2.2.2.2.2.2.2.1 q.2.2.2.2.2.2.2.2.2.2.1 u_eaten q.2.2.2.2.2.2.2.2.2.2.2.1 q.2.2.2.2.2.2.2.2.2.2.2.2.1 q.2.2.2.2.2.2.2.2.2.2.2.2.2.1 q.2.2.2.2.2.2.2.2.2.2.2.2.2.2.1 q.2.2.2.2.2.2.2.2.2.2.2.2.2.2.2.1 q.2.2.2.2.2.2.2.2.2.2.2.2.2.2.2.2.1 q.2.2.2.2.2.2.2.2.2.2.2.2.2.2.2.2.2.1 q.2.2.2.2.2.2.2.2.2.2.2.2.2.2.2.2.2.2.1 q.2.2.2.2.2.2.2.2.2.2.2.2.2.2.2.2.2.2.2.1 q.2.2.2.2.2.2.2.2.2.2.2.2.2.2.2.2.2.2.2.2.1 v_eaten q.2.2.2.2.2.2.2.2.2.2.2.2.2.2.2.2.2.2.2.2.2) q.1 A) ([.ref (a 0 0), .int p1] : List Value).toArray s 0 0 A) (F0 m 0 ls []) := by
    intro H locs ls hP hD hS hl
    unfold g_X8_image at hf
    refine lv_iload_n hx hb dX8_image_0 rfl (lv_at hl 1 rfl) ?_
    refine lv_iconst (v := 0) hx hb dX8_image_1 (by decide) ?_
    refine lv_iconst (v := 1) hx hb dX8_image_2 (by decide) ?_
    obtain ⟨q1, hq1, hf⟩ := bd_some hf
    have hC : ([] : List Nat).map (fun i => (vw15 cyI cyJ cyZ cyO a n_lands n_camphors n_there n_mothCells n_mothHeads n_threads n_sightNights n_sightCells n_sights n_night n_eaten u_lands u_camphors u_there u_mothCells u_mothHeads u_threads u_sightNights u_sightCells u_sights u_night u_eaten v_lands v_camphors v_there v_mothCells v_mothHeads v_threads v_sightNights v_sightCells v_sights v_night v_eaten kept)[i]?) = ([] : va_W).map some := rfl
    refine cl_i (rn_S (As := [.int p1, .int 0, .int 1]) (rest := []) hx hb hml hown hT hK hN hP hD [] hC rfl (c_X8_within l D cyI cyJ cyZ cyO H.size p1 0 1 nf q1 hq1) wm_X8_80 wt_X8_within wz_X8 wc_X8_within hd_X8_within ⟨rfl, rfl⟩ ⟨Nat.le_of_ble_eq_true rfl, Nat.le_of_ble_eq_true rfl⟩ rfl hl.1 rfl (Nat.le_of_ble_eq_true rfl) dX8_image_3 ⟨Nat.zero_le _, Nat.zero_le _⟩) hP hD hS hA [] hC [(false, 0), (false, 1), (false, 2), (false, 3), (false, 4), (false, 5), (false, 6), (false, 7), (false, 8), (false, 9), (false, 10), (false, 11), (false, 12), (false, 13), (false, 14), (false, 15), (false, 16), (false, 17), (false, 18), (false, 19), (false, 20), (false, 21), (false, 22), (false, 23), (false, 24), (false, 25), (false, 26), (false, 27), (false, 28), (false, 29)] (ws' := vw15 cyI cyJ cyZ cyO a n_lands n_camphors n_there n_mothCells n_mothHeads n_threads n_sightNights n_sightCells n_sights n_night n_eaten u_lands u_camphors u_there u_mothCells u_mothHeads u_threads u_sightNights u_sightCells u_sights u_night u_eaten v_lands v_camphors v_there v_mothCells v_mothHeads v_threads v_sightNights v_sightCells v_sights v_night v_eaten kept) rfl rfl rfl (fun H locs hP hD hS => ?_)
    refine lv_if_ne (tgt := 12) hx hb dX8_image_6 (by decide) (fun cc => ?_) (fun cc => ?_)
    · replace hf := if_f cc hf
      refine lv_aload_n hx hb dX8_image_12 rfl (lv_at hl 0 rfl) ?_
      refine va_get (ci := 8) (v := .ref (a 0 1)) (C := RX8) (T := TX8) (N := 11) hx hb hT hin_X8 hown hK hP 0 rfl rfl 2 (by decide) (hT _ wf_X8_19) (fun _ h9 => h9) rfl dX8_image_13 ?_
      refine lv_iload_n hx hb dX8_image_16 rfl (lv_at hl 1 rfl) ?_
      obtain ⟨hi, hf⟩ := ck_some hf
      refine va_aldq hx hb hK hP 10 3 rfl rfl hi dX8_image_17 ?_
      by_cases c0 : p1 = 0
      · replace hf := if_t c0 hf
        rw [imf_0 c0]
        refine lv_aload_n hx hb dX8_image_18 rfl (lv_at hl 0 rfl) ?_
        refine va_get (ci := 8) (v := .ref ((a 1) 0)) (C := RX8) (T := TX8) (N := 11) hx hb hT hin_X8 hown hK hP 0 rfl rfl 0 (by decide) (hT _ wf_X8_10) (fun _ h9 => h9) rfl dX8_image_19 ?_
        obtain ⟨q2, hq2, hf⟩ := bd_some hf
        have hC : [11, 12, 13, 14, 15, 16, 17, 18, 19, 1, 2, 3, 4, 5, 6, 7, 8, 9].map (fun i => (vw15 cyI cyJ cyZ cyO a n_lands n_camphors n_there n_mothCells n_mothHeads n_threads n_sightNights n_sightCells n_sights n_night n_eaten u_lands u_camphors u_there u_mothCells u_mothHeads u_threads u_sightNights u_sightCells u_sights u_night u_eaten v_lands v_camphors v_there v_mothCells v_mothHeads v_threads v_sightNights v_sightCells v_sights v_night v_eaten kept)[i]?) = (vw1 cyI cyJ cyZ cyO (a 3) (a 1) u_lands u_camphors u_there u_mothCells u_mothHeads u_threads u_sightNights u_sightCells u_sights u_night u_eaten n_lands n_camphors n_there n_mothCells n_mothHeads n_threads n_sightNights n_sightCells n_sights n_night n_eaten).map some := rfl
        refine cl_v (rn_V (As := [.ref ((a 1) 0)]) (rest := []) (C := RX1) hx hb hml hown hT hK hN hP hD [11, 12, 13, 14, 15, 16, 17, 18, 19, 1, 2, 3, 4, 5, 6, 7, 8, 9] hC rfl (c_X1_become l D cyI cyJ cyZ cyO (a 3) (a 1) H.size u_lands u_camphors u_there u_mothCells u_mothHeads u_threads u_sightNights u_sightCells u_sights u_night u_eaten n_lands n_camphors n_there n_mothCells n_mothHeads n_threads n_sightNights n_sightCells n_sights n_night n_eaten nf q2 hq2) wm_X8_152 wi_X1_become wl_X1_become wz_X1 wc_X1_become hd_X1_become ⟨rfl, rfl⟩ ⟨Nat.le_of_ble_eq_true rfl, Nat.le_of_ble_eq_true rfl⟩ (q0 := 0) (ci := 1) rfl rfl rfl rfl hl.1 rfl (Nat.le_of_ble_eq_true rfl) dX8_image_22 ⟨Nat.zero_le _, Nat.zero_le _⟩) hP hD hS hA [11, 12, 13, 14, 15, 16, 17, 18, 19, 1, 2, 3, 4, 5, 6, 7, 8, 9] hC [(false, 0), (true, 9), (true, 10), (true, 11), (true, 12), (true, 13), (true, 14), (true, 15), (true, 16), (true, 17), (false, 10), (true, 0), (true, 1), (true, 2), (true, 3), (true, 4), (true, 5), (true, 6), (true, 7), (true, 8), (false, 20), (false, 21), (false, 22), (false, 23), (false, 24), (false, 25), (false, 26), (false, 27), (false, 28), (false, 29)] (ws' := vw15 cyI cyJ cyZ cyO a n_lands n_camphors n_there n_mothCells n_mothHeads n_threads n_sightNights n_sightCells n_sights n_night n_eaten q2.1 q2.2.1 q2.2.2.1 q2.2.2.2.1 q2.2.2.2.2.1 q2.2.2.2.2.2.1 q2.2.2.2.2.2.2.1 q2.2.2.2.2.2.2.2.1 q2.2.2.2.2.2.2.2.2.1 q2.2.2.2.2.2.2.2.2.2 u_eaten v_lands v_camphors v_there v_mothCells v_mothHeads v_threads v_sightNights v_sightCells v_sights v_night v_eaten kept) rfl rfl rfl (fun H locs hP hD hS => ?_)
        refine lv_aload_n hx hb dX8_image_25 rfl (lv_at hl 0 rfl) ?_
        refine va_get (ci := 8) (v := .ref (a 0 2)) (C := RX8) (T := TX8) (N := 11) hx hb hT hin_X8 hown hK hP 0 rfl rfl 3 (by decide) (hT _ wf_X8_23) (fun _ h9 => h9) rfl dX8_image_26 ?_
        refine lv_iload_n hx hb dX8_image_29 rfl (lv_at hl 1 rfl) ?_
        refine lv_iconst (v := 1) hx hb dX8_image_30 (by decide) ?_
        obtain ⟨hi, hf⟩ := ck_some hf
        obtain ⟨hz, hf⟩ := bz_some hf
        refine va_zast hx hb hK hP hD hS 29 2 rfl rfl hi dX8_image_31 (fun H locs hP hD hS => ?_)
        rw [(bz_nar hz).1] at hP hD
        have hP : va_P D vwCl (vw15 cyI cyJ cyZ cyO a n_lands n_camphors n_there n_mothCells n_mothHeads n_threads n_sightNights n_sightCells n_sights n_night n_eaten q2.1 q2.2.1 q2.2.2.1 q2.2.2.2.1 q2.2.2.2.2.1 q2.2.2.2.2.2.1 q2.2.2.2.2.2.2.1 q2.2.2.2.2.2.2.2.1 q2.2.2.2.2.2.2.2.2.1 q2.2.2.2.2.2.2.2.2.2 u_eaten v_lands v_camphors v_there v_mothCells v_mothHeads v_threads v_sightNights v_sightCells v_sights v_night v_eaten (upd kept p1.toNatClampNeg 1)) H := hP
        have hD : va_D A (vw15 cyI cyJ cyZ cyO a n_lands n_camphors n_there n_mothCells n_mothHeads n_threads n_sightNights n_sightCells n_sights n_night n_eaten q2.1 q2.2.1 q2.2.2.1 q2.2.2.2.1 q2.2.2.2.2.1 q2.2.2.2.2.2.1 q2.2.2.2.2.2.2.1 q2.2.2.2.2.2.2.2.1 q2.2.2.2.2.2.2.2.2.1 q2.2.2.2.2.2.2.2.2.2 u_eaten v_lands v_camphors v_there v_mothCells v_mothHeads v_threads v_sightNights v_sightCells v_sights v_night v_eaten (upd kept p1.toNatClampNeg 1)) := hD
        refine lv_iconst (v := 1) hx hb dX8_image_32 (by decide) ?_
        cases Option.some.inj hf
        exact W.iret hx hb hr (fun t ht hW => ⟨⟨_, (), rfl, rfl, by show va_P D vwCl _ t.heap; rw [ht]; exact hP⟩, hS.F ht⟩) hS.2.2 dX8_image_33
      · replace hf := if_f c0 hf
        rw [imf_1 hi c0]
        refine lv_aload_n hx hb dX8_image_18 rfl (lv_at hl 0 rfl) ?_
        refine va_get (ci := 8) (v := .ref ((a 1) 0)) (C := RX8) (T := TX8) (N := 11) hx hb hT hin_X8 hown hK hP 0 rfl rfl 0 (by decide) (hT _ wf_X8_10) (fun _ h9 => h9) rfl dX8_image_19 ?_
        obtain ⟨q3, hq3, hf⟩ := bd_some hf
        have hC : [20, 21, 22, 23, 24, 25, 26, 27, 28, 1, 2, 3, 4, 5, 6, 7, 8, 9].map (fun i => (vw15 cyI cyJ cyZ cyO a n_lands n_camphors n_there n_mothCells n_mothHeads n_threads n_sightNights n_sightCells n_sights n_night n_eaten u_lands u_camphors u_there u_mothCells u_mothHeads u_threads u_sightNights u_sightCells u_sights u_night u_eaten v_lands v_camphors v_there v_mothCells v_mothHeads v_threads v_sightNights v_sightCells v_sights v_night v_eaten kept)[i]?) = (vw1 cyI cyJ cyZ cyO (a 4) (a 1) v_lands v_camphors v_there v_mothCells v_mothHeads v_threads v_sightNights v_sightCells v_sights v_night v_eaten n_lands n_camphors n_there n_mothCells n_mothHeads n_threads n_sightNights n_sightCells n_sights n_night n_eaten).map some := rfl
        refine cl_v (rn_V (As := [.ref ((a 1) 0)]) (rest := []) (C := RX1) hx hb hml hown hT hK hN hP hD [20, 21, 22, 23, 24, 25, 26, 27, 28, 1, 2, 3, 4, 5, 6, 7, 8, 9] hC rfl (c_X1_become l D cyI cyJ cyZ cyO (a 4) (a 1) H.size v_lands v_camphors v_there v_mothCells v_mothHeads v_threads v_sightNights v_sightCells v_sights v_night v_eaten n_lands n_camphors n_there n_mothCells n_mothHeads n_threads n_sightNights n_sightCells n_sights n_night n_eaten nf q3 hq3) wm_X8_152 wi_X1_become wl_X1_become wz_X1 wc_X1_become hd_X1_become ⟨rfl, rfl⟩ ⟨Nat.le_of_ble_eq_true rfl, Nat.le_of_ble_eq_true rfl⟩ (q0 := 0) (ci := 1) rfl rfl rfl rfl hl.1 rfl (Nat.le_of_ble_eq_true rfl) dX8_image_22 ⟨Nat.zero_le _, Nat.zero_le _⟩) hP hD hS hA [20, 21, 22, 23, 24, 25, 26, 27, 28, 1, 2, 3, 4, 5, 6, 7, 8, 9] hC [(false, 0), (true, 9), (true, 10), (true, 11), (true, 12), (true, 13), (true, 14), (true, 15), (true, 16), (true, 17), (false, 10), (false, 11), (false, 12), (false, 13), (false, 14), (false, 15), (false, 16), (false, 17), (false, 18), (false, 19), (true, 0), (true, 1), (true, 2), (true, 3), (true, 4), (true, 5), (true, 6), (true, 7), (true, 8), (false, 29)] (ws' := vw15 cyI cyJ cyZ cyO a n_lands n_camphors n_there n_mothCells n_mothHeads n_threads n_sightNights n_sightCells n_sights n_night n_eaten u_lands u_camphors u_there u_mothCells u_mothHeads u_threads u_sightNights u_sightCells u_sights u_night u_eaten q3.1 q3.2.1 q3.2.2.1 q3.2.2.2.1 q3.2.2.2.2.1 q3.2.2.2.2.2.1 q3.2.2.2.2.2.2.1 q3.2.2.2.2.2.2.2.1 q3.2.2.2.2.2.2.2.2.1 q3.2.2.2.2.2.2.2.2.2 v_eaten kept) rfl rfl rfl (fun H locs hP hD hS => ?_)
        refine lv_aload_n hx hb dX8_image_25 rfl (lv_at hl 0 rfl) ?_
        refine va_get (ci := 8) (v := .ref (a 0 2)) (C := RX8) (T := TX8) (N := 11) hx hb hT hin_X8 hown hK hP 0 rfl rfl 3 (by decide) (hT _ wf_X8_23) (fun _ h9 => h9) rfl dX8_image_26 ?_
        refine lv_iload_n hx hb dX8_image_29 rfl (lv_at hl 1 rfl) ?_
        refine lv_iconst (v := 1) hx hb dX8_image_30 (by decide) ?_
        obtain ⟨hi, hf⟩ := ck_some hf
        obtain ⟨hz, hf⟩ := bz_some hf
        refine va_zast hx hb hK hP hD hS 29 2 rfl rfl hi dX8_image_31 (fun H locs hP hD hS => ?_)
        rw [(bz_nar hz).1] at hP hD
        have hP : va_P D vwCl (vw15 cyI cyJ cyZ cyO a n_lands n_camphors n_there n_mothCells n_mothHeads n_threads n_sightNights n_sightCells n_sights n_night n_eaten u_lands u_camphors u_there u_mothCells u_mothHeads u_threads u_sightNights u_sightCells u_sights u_night u_eaten q3.1 q3.2.1 q3.2.2.1 q3.2.2.2.1 q3.2.2.2.2.1 q3.2.2.2.2.2.1 q3.2.2.2.2.2.2.1 q3.2.2.2.2.2.2.2.1 q3.2.2.2.2.2.2.2.2.1 q3.2.2.2.2.2.2.2.2.2 v_eaten (upd kept p1.toNatClampNeg 1)) H := hP
        have hD : va_D A (vw15 cyI cyJ cyZ cyO a n_lands n_camphors n_there n_mothCells n_mothHeads n_threads n_sightNights n_sightCells n_sights n_night n_eaten u_lands u_camphors u_there u_mothCells u_mothHeads u_threads u_sightNights u_sightCells u_sights u_night u_eaten q3.1 q3.2.1 q3.2.2.1 q3.2.2.2.1 q3.2.2.2.2.1 q3.2.2.2.2.2.1 q3.2.2.2.2.2.2.1 q3.2.2.2.2.2.2.2.1 q3.2.2.2.2.2.2.2.2.1 q3.2.2.2.2.2.2.2.2.2 v_eaten (upd kept p1.toNatClampNeg 1)) := hD
        refine lv_iconst (v := 1) hx hb dX8_image_32 (by decide) ?_
        cases Option.some.inj hf
        exact W.iret hx hb hr (fun t ht hW => ⟨⟨_, (), rfl, rfl, by show va_P D vwCl _ t.heap; rw [ht]; exact hP⟩, hS.F ht⟩) hS.2.2 dX8_image_33
    · replace hf := if_t cc hf
      refine lv_bipush (v := (-2)) hx hb dX8_image_9 (by decide) ?_
      cases Option.some.inj hf
      exact W.iret hx hb hr (fun t ht hW => ⟨⟨_, (), rfl, rfl, by show va_P D vwCl _ t.heap; rw [ht]; exact hP⟩, hS.F ht⟩) hS.2.2 dX8_image_11
  have hl := lv_entry ([.ref (a 0 0), .int p1]) (n := 2) (Nat.le_of_ble_eq_true rfl)
  rw [lg_entry_eq]
  exact main s.heap [] _ hP hD hS hl
theorem hd_X8_restore : yX8_restore.cls = RX8 ∧ yX8_restore.cls ≠ "java/lang/invoke/MethodHandle" ∧ yX8_restore.cls ≠ "java/lang/invoke/VarHandle" ∧ (parseMethodDescriptor yX8_restore.desc).map (fun d => d.parameters.length) = some 1 := by decide +kernel
set_option maxHeartbeats 4000000 in
set_option maxRecDepth 100000 in
theorem c_X8_restore (l : Launch) (D : va_G) (cyI cyJ cyZ cyO : ClassId) (a : Nat → Nat → Nat) (sz : Nat) (n_lands : Nat → Int32) (n_camphors : Nat → Int32) (n_there : Nat → Int32) (n_mothCells : Nat → Int32) (n_mothHeads : Nat → Int32) (n_threads : Nat → Int32) (n_sightNights : Nat → Int32) (n_sightCells : Nat → Int32) (n_sights : Int32) (n_night : Int32) (n_eaten : Int32) (u_lands : Nat → Int32) (u_camphors : Nat → Int32) (u_there : Nat → Int32) (u_mothCells : Nat → Int32) (u_mothHeads : Nat → Int32) (u_threads : Nat → Int32) (u_sightNights : Nat → Int32) (u_sightCells : Nat → Int32) (u_sights : Int32) (u_night : Int32) (u_eaten : Int32) (v_lands : Nat → Int32) (v_camphors : Nat → Int32) (v_there : Nat → Int32) (v_mothCells : Nat → Int32) (v_mothHeads : Nat → Int32) (v_threads : Nat → Int32) (v_sightNights : Nat → Int32) (v_sightCells : Nat → Int32) (v_sights : Int32) (v_night : Int32) (v_eaten : Int32) (kept : Nat → Int32) (p1 : Int32) (nf : Nat) (q : Int32 × (Nat → Int32) × (Nat → Int32) × (Nat → Int32) × (Nat → Int32) × (Nat → Int32) × (Nat → Int32) × (Nat → Int32) × (Nat → Int32) × Int32 × Int32) (hf : g_X8_restore nf p1 n_lands n_camphors n_there n_mothCells n_mothHeads n_threads n_sightNights n_sightCells n_sights n_night u_lands u_camphors u_there u_mothCells u_mothHeads u_threads u_sightNights u_sightCells u_sights u_night v_lands v_camphors v_there v_mothCells v_mothHeads v_threads v_sightNights v_sightCells v_sights v_night kept = some q) : Met l yX8_restore (Cond.code yX8_restore cX8_restore 2 (some .int) :: tbG) ({ frames := 1, cells := 0, slots := 0, locals := 22 } : Room) (va_Pc [.ref (a 0 0), .int p1] (pcB D (ty4 cyI cyJ cyZ cyO) sz (vw15 cyI cyJ cyZ cyO a n_lands n_camphors n_there n_mothCells n_mothHeads n_threads n_sightNights n_sightCells n_sights n_night n_eaten u_lands u_camphors u_there u_mothCells u_mothHeads u_threads u_sightNights u_sightCells u_sights u_night u_eaten v_lands v_camphors v_there v_mothCells v_mothHeads v_threads v_sightNights v_sightCells v_sights v_night v_eaten kept))) (qI D (vw15 cyI cyJ cyZ cyO a q.2.1 q.2.2.1 q.2.2.2.1 q.2.2.2.2.1 q.2.2.2.2.2.1 q.2.2.2.2.2.2.1 q.2.2.2.2.2.2.2.1 q.2.2.2.2.2.2.2.2.1 q.2.2.2.2.2.2.2.2.2.1 q.2.2.2.2.2.2.2.2.2.2 n_eaten u_lands u_camphors u_there u_mothCells u_mothHeads u_threads u_sightNights u_sightCells u_sights u_night u_eaten v_lands v_camphors v_there v_mothCells v_mothHeads v_threads v_sightNights v_sightCells v_sights v_night v_eaten kept) q.1 (va_A (vw15 cyI cyJ cyZ cyO a n_lands n_camphors n_there n_mothCells n_mothHeads n_threads n_sightNights n_sightCells n_sights n_night n_eaten u_lands u_camphors u_there u_mothCells u_mothHeads u_threads u_sightNights u_sightCells u_sights u_night u_eaten v_lands v_camphors v_there v_mothCells v_mothHeads v_threads v_sightNights v_sightCells v_sights v_night v_eaten kept) sz)) 0 0 (va_A (vw15 cyI cyJ cyZ cyO a n_lands n_camphors n_there n_mothCells n_mothHeads n_threads n_sightNights n_sightCells n_sights n_night n_eaten u_lands u_camphors u_there u_mothCells u_mothHeads u_threads u_sightNights u_sightCells u_sights u_night u_eaten v_lands v_camphors v_there v_mothCells v_mothHeads v_threads v_sightNights v_sightCells v_sights v_night v_eaten kept) sz) := by
  refine Met.ofW (cc := cX8_restore) (maxL := 2) (ret := (some .int)) (by decide) rfl ?_
  intro p e s m args below meth c s₁ B hml hv
  obtain ⟨rfl, hsz, hP, hK, hD0, hN⟩ := hv
  have hx := B.exec
  have hb := B.bytes
  have hr := B.returns
  have hT : ∀ w ∈ tbG, w.before ([.ref (a 0 0), .int p1] : List Value).toArray s = true := fun w h => atoms_spec (ws := (Cond.code yX8_restore cX8_restore 2 (some .int) :: tbG)) B.pre w (List.mem_cons_of_mem _ h)
  have hown : s.vm.findClass RX8 = some m.cls := findClass_of_methodNamed B.named
  have hlocks := B.notSynchronized
  subst hsz
  have hD := hD0.self (sz := s.heap.size)
  generalize hAe : va_A (vw15 cyI cyJ cyZ cyO a n_lands n_camphors n_there n_mothCells n_mothHeads n_threads n_sightNights n_sightCells n_sights n_night n_eaten u_lands u_camphors u_there u_mothCells u_mothHeads u_threads u_sightNights u_sightCells u_sights u_night u_eaten v_lands v_camphors v_there v_mothCells v_mothHeads v_threads v_sightNights v_sightCells v_sights v_night v_eaten kept) s.heap.size = A at hD ⊢
  have hA : ∀ q : Nat, s.heap.size ≤ q → A q := fun q h => by rw [← hAe]; exact Or.inr h
  have hS : va_S A s.heap s.heap [] := va_S.rf
  show W p l e ({ frames := 1, cells := 0, slots := 0, locals := 22 } : Room) s m ([.ref (a 0 0), .int p1] : List Value).toArray below meth c s.heap [] 0 0 (MQ below (qI D (vw15 cyI cyJ cyZ cyO a q.2.1 q.2.2.1 q.2.2.2.1 q.2.2.2.2.1 q.2.2.2.2.2.1 q.2.2.2.2.2.2.1 q.2.2.2.2.2.2.2.1 q.2.2.2.2.2.2.2.2.1 q.2.2.2.2.2.2.2.2.2.1 q.2.2.2.2.2.2.2.2.2.2 n_eaten u_lands u_camphors u_there u_mothCells u_mothHeads u_threads u_sightNights u_sightCells u_sights u_night u_eaten v_lands v_camphors v_there v_mothCells v_mothHeads v_threads v_sightNights v_sightCells v_sights v_night v_eaten kept) q.1 A) ([.ref (a 0 0), .int p1] : List Value).toArray s 0 0 A) _
  have main : ∀ (H : Heap) (locs : List Loc) (ls : Array Slot), va_P D vwCl (vw15 cyI cyJ cyZ cyO a n_lands n_camphors n_there n_mothCells n_mothHeads n_threads n_sightNights n_sightCells n_sights n_night n_eaten u_lands u_camphors u_there u_mothCells u_mothHeads u_threads u_sightNights u_sightCells u_sights u_night u_eaten v_lands v_camphors v_there v_mothCells v_mothHeads v_threads v_sightNights v_sightCells v_sights v_night v_eaten kept) H → va_D A (vw15 cyI cyJ cyZ cyO a n_lands n_camphors n_there n_mothCells n_mothHeads n_threads n_sightNights n_sightCells n_sights n_night n_eaten u_lands u_camphors u_there u_mothCells u_mothHeads u_threads u_sightNights u_sightCells u_sights u_night u_eaten v_lands v_camphors v_there v_mothCells v_mothHeads v_threads v_sightNights v_sightCells v_sights v_night v_eaten kept) → va_S A s.heap H locs → lv_has ls 2 [(0, .ref (a 0 0)), (1, .int p1)] → W p l e ({ frames := 1, cells := 0, slots := 0, locals := 22 } : Room) s m ([.ref (a 0 0), .int p1] : List Value).toArray below meth c H locs 0 0 (MQ below (qI D (vw15 cyI cyJ cyZ cyO a q.2.1 q.2.2.1 q.2.2.2.1 q.2.2.2.2.1 q.2.2.2.2.2.1 q.2.2.2.2.2.2.1 q.2.2.2.2.2.2.2.1 q.2.2.2.2.2.2.2.2.1 q.2.2.2.2.2.2.2.2.2.1 q.2.2.2.2.2.2.2.2.2.2 n_eaten u_lands u_camphors u_there u_mothCells u_mothHeads u_threads u_sightNights u_sightCells u_sights u_night u_eaten v_lands v_camphors v_there v_mothCells v_mothHeads v_threads v_sightNights v_sightCells v_sights v_night v_eaten kept) q.1 A) ([.ref (a 0 0), .int p1] : List Value).toArray s 0 0 A) (F0 m 0 ls []) := by
    intro H locs ls hP hD hS hl
    unfold g_X8_restore at hf
    refine lv_iload_n hx hb dX8_restore_0 rfl (lv_at hl 1 rfl) ?_
    refine lv_iconst (v := 0) hx hb dX8_restore_1 (by decide) ?_
    refine lv_iconst (v := 1) hx hb dX8_restore_2 (by decide) ?_
    obtain ⟨q1, hq1, hf⟩ := bd_some hf
    have hC : ([] : List Nat).map (fun i => (vw15 cyI cyJ cyZ cyO a n_lands n_camphors n_there n_mothCells n_mothHeads n_threads n_sightNights n_sightCells n_sights n_night n_eaten u_lands u_camphors u_there u_mothCells u_mothHeads u_threads u_sightNights u_sightCells u_sights u_night u_eaten v_lands v_camphors v_there v_mothCells v_mothHeads v_threads v_sightNights v_sightCells v_sights v_night v_eaten kept)[i]?) = ([] : va_W).map some := rfl
    refine cl_i (rn_S (As := [.int p1, .int 0, .int 1]) (rest := []) hx hb hml hown hT hK hN hP hD [] hC rfl (c_X8_within l D cyI cyJ cyZ cyO H.size p1 0 1 nf q1 hq1) wm_X8_80 wt_X8_within wz_X8 wc_X8_within hd_X8_within ⟨rfl, rfl⟩ ⟨Nat.le_of_ble_eq_true rfl, Nat.le_of_ble_eq_true rfl⟩ rfl hl.1 rfl (Nat.le_of_ble_eq_true rfl) dX8_restore_3 ⟨Nat.zero_le _, Nat.zero_le _⟩) hP hD hS hA [] hC [(false, 0), (false, 1), (false, 2), (false, 3), (false, 4), (false, 5), (false, 6), (false, 7), (false, 8), (false, 9), (false, 10), (false, 11), (false, 12), (false, 13), (false, 14), (false, 15), (false, 16), (false, 17), (false, 18), (false, 19), (false, 20), (false, 21), (false, 22), (false, 23), (false, 24), (false, 25), (false, 26), (false, 27), (false, 28), (false, 29)] (ws' := vw15 cyI cyJ cyZ cyO a n_lands n_camphors n_there n_mothCells n_mothHeads n_threads n_sightNights n_sightCells n_sights n_night n_eaten u_lands u_camphors u_there u_mothCells u_mothHeads u_threads u_sightNights u_sightCells u_sights u_night u_eaten v_lands v_camphors v_there v_mothCells v_mothHeads v_threads v_sightNights v_sightCells v_sights v_night v_eaten kept) rfl rfl rfl (fun H locs hP hD hS => ?_)
    refine lv_if_ne (tgt := 12) hx hb dX8_restore_6 (by decide) (fun cc => ?_) (fun cc => ?_)
    · replace hf := if_f cc hf
      refine lv_aload_n hx hb dX8_restore_12 rfl (lv_at hl 0 rfl) ?_
      refine va_get (ci := 8) (v := .ref (a 0 2)) (C := RX8) (T := TX8) (N := 11) hx hb hT hin_X8 hown hK hP 0 rfl rfl 3 (by decide) (hT _ wf_X8_23) (fun _ h9 => h9) rfl dX8_restore_13 ?_
      refine lv_iload_n hx hb dX8_restore_16 rfl (lv_at hl 1 rfl) ?_
      obtain ⟨hi, hf⟩ := ck_some hf
      refine va_zald hx hb hK hP 29 2 rfl rfl hi dX8_restore_17 ?_
      refine lv_if_ne (tgt := 24) hx hb dX8_restore_18 (by decide) (fun cc => ?_) (fun cc => ?_)
      · replace hf := if_f cc hf
        refine lv_aload_n hx hb dX8_restore_24 rfl (lv_at hl 0 rfl) ?_
        refine va_get (ci := 8) (v := .ref ((a 1) 0)) (C := RX8) (T := TX8) (N := 11) hx hb hT hin_X8 hown hK hP 0 rfl rfl 0 (by decide) (hT _ wf_X8_10) (fun _ h9 => h9) rfl dX8_restore_25 ?_
        refine lv_aload_n hx hb dX8_restore_28 rfl (lv_at hl 0 rfl) ?_
        refine va_get (ci := 8) (v := .ref (a 0 1)) (C := RX8) (T := TX8) (N := 11) hx hb hT hin_X8 hown hK hP 0 rfl rfl 2 (by decide) (hT _ wf_X8_19) (fun _ h9 => h9) rfl dX8_restore_29 ?_
        refine lv_iload_n hx hb dX8_restore_32 rfl (lv_at hl 1 rfl) ?_
        obtain ⟨hi, hf⟩ := ck_some hf
        refine va_aldq hx hb hK hP 10 3 rfl rfl hi dX8_restore_33 ?_
        by_cases c0 : p1 = 0
        · replace hf := if_t c0 hf
          rw [imf_0 c0]
          obtain ⟨q2, hq2, hf⟩ := bd_some hf
          have hC : [1, 2, 3, 4, 5, 6, 7, 8, 9, 11, 12, 13, 14, 15, 16, 17, 18, 19].map (fun i => (vw15 cyI cyJ cyZ cyO a n_lands n_camphors n_there n_mothCells n_mothHeads n_threads n_sightNights n_sightCells n_sights n_night n_eaten u_lands u_camphors u_there u_mothCells u_mothHeads u_threads u_sightNights u_sightCells u_sights u_night u_eaten v_lands v_camphors v_there v_mothCells v_mothHeads v_threads v_sightNights v_sightCells v_sights v_night v_eaten kept)[i]?) = (vw1 cyI cyJ cyZ cyO (a 1) (a 3) n_lands n_camphors n_there n_mothCells n_mothHeads n_threads n_sightNights n_sightCells n_sights n_night n_eaten u_lands u_camphors u_there u_mothCells u_mothHeads u_threads u_sightNights u_sightCells u_sights u_night u_eaten).map some := rfl
          refine cl_v (rn_V (As := [.ref ((a 3) 0)]) (rest := []) (C := RX1) hx hb hml hown hT hK hN hP hD [1, 2, 3, 4, 5, 6, 7, 8, 9, 11, 12, 13, 14, 15, 16, 17, 18, 19] hC rfl (c_X1_become l D cyI cyJ cyZ cyO (a 1) (a 3) H.size n_lands n_camphors n_there n_mothCells n_mothHeads n_threads n_sightNights n_sightCells n_sights n_night n_eaten u_lands u_camphors u_there u_mothCells u_mothHeads u_threads u_sightNights u_sightCells u_sights u_night u_eaten nf q2 hq2) wm_X8_152 wi_X1_become wl_X1_become wz_X1 wc_X1_become hd_X1_become ⟨rfl, rfl⟩ ⟨Nat.le_of_ble_eq_true rfl, Nat.le_of_ble_eq_true rfl⟩ (q0 := 0) (ci := 1) rfl rfl rfl rfl hl.1 rfl (Nat.le_of_ble_eq_true rfl) dX8_restore_34 ⟨Nat.zero_le _, Nat.zero_le _⟩) hP hD hS hA [1, 2, 3, 4, 5, 6, 7, 8, 9, 11, 12, 13, 14, 15, 16, 17, 18, 19] hC [(false, 0), (true, 0), (true, 1), (true, 2), (true, 3), (true, 4), (true, 5), (true, 6), (true, 7), (true, 8), (false, 10), (true, 9), (true, 10), (true, 11), (true, 12), (true, 13), (true, 14), (true, 15), (true, 16), (true, 17), (false, 20), (false, 21), (false, 22), (false, 23), (false, 24), (false, 25), (false, 26), (false, 27), (false, 28), (false, 29)] (ws' := vw15 cyI cyJ cyZ cyO a q2.1 q2.2.1 q2.2.2.1 q2.2.2.2.1 q2.2.2.2.2.1 q2.2.2.2.2.2.1 q2.2.2.2.2.2.2.1 q2.2.2.2.2.2.2.2.1 q2.2.2.2.2.2.2.2.2.1 q2.2.2.2.2.2.2.2.2.2 n_eaten u_lands u_camphors u_there u_mothCells u_mothHeads u_threads u_sightNights u_sightCells u_sights u_night u_eaten v_lands v_camphors v_there v_mothCells v_mothHeads v_threads v_sightNights v_sightCells v_sights v_night v_eaten kept) rfl rfl rfl (fun H locs hP hD hS => ?_)
          refine lv_iconst (v := 1) hx hb dX8_restore_37 (by decide) ?_
          cases Option.some.inj hf
          exact W.iret hx hb hr (fun t ht hW => ⟨⟨_, (), rfl, rfl, by show va_P D vwCl _ t.heap; rw [ht]; exact hP⟩, hS.F ht⟩) hS.2.2 dX8_restore_38
        · replace hf := if_f c0 hf
          rw [imf_1 hi c0]
          obtain ⟨q3, hq3, hf⟩ := bd_some hf
          have hC : [1, 2, 3, 4, 5, 6, 7, 8, 9, 20, 21, 22, 23, 24, 25, 26, 27, 28].map (fun i => (vw15 cyI cyJ cyZ cyO a n_lands n_camphors n_there n_mothCells n_mothHeads n_threads n_sightNights n_sightCells n_sights n_night n_eaten u_lands u_camphors u_there u_mothCells u_mothHeads u_threads u_sightNights u_sightCells u_sights u_night u_eaten v_lands v_camphors v_there v_mothCells v_mothHeads v_threads v_sightNights v_sightCells v_sights v_night v_eaten kept)[i]?) = (vw1 cyI cyJ cyZ cyO (a 1) (a 4) n_lands n_camphors n_there n_mothCells n_mothHeads n_threads n_sightNights n_sightCells n_sights n_night n_eaten v_lands v_camphors v_there v_mothCells v_mothHeads v_threads v_sightNights v_sightCells v_sights v_night v_eaten).map some := rfl
          refine cl_v (rn_V (As := [.ref ((a 4) 0)]) (rest := []) (C := RX1) hx hb hml hown hT hK hN hP hD [1, 2, 3, 4, 5, 6, 7, 8, 9, 20, 21, 22, 23, 24, 25, 26, 27, 28] hC rfl (c_X1_become l D cyI cyJ cyZ cyO (a 1) (a 4) H.size n_lands n_camphors n_there n_mothCells n_mothHeads n_threads n_sightNights n_sightCells n_sights n_night n_eaten v_lands v_camphors v_there v_mothCells v_mothHeads v_threads v_sightNights v_sightCells v_sights v_night v_eaten nf q3 hq3) wm_X8_152 wi_X1_become wl_X1_become wz_X1 wc_X1_become hd_X1_become ⟨rfl, rfl⟩ ⟨Nat.le_of_ble_eq_true rfl, Nat.le_of_ble_eq_true rfl⟩ (q0 := 0) (ci := 1) rfl rfl rfl rfl hl.1 rfl (Nat.le_of_ble_eq_true rfl) dX8_restore_34 ⟨Nat.zero_le _, Nat.zero_le _⟩) hP hD hS hA [1, 2, 3, 4, 5, 6, 7, 8, 9, 20, 21, 22, 23, 24, 25, 26, 27, 28] hC [(false, 0), (true, 0), (true, 1), (true, 2), (true, 3), (true, 4), (true, 5), (true, 6), (true, 7), (true, 8), (false, 10), (false, 11), (false, 12), (false, 13), (false, 14), (false, 15), (false, 16), (false, 17), (false, 18), (false, 19), (true, 9), (true, 10), (true, 11), (true, 12), (true, 13), (true, 14), (true, 15), (true, 16), (true, 17), (false, 29)] (ws' := vw15 cyI cyJ cyZ cyO a q3.1 q3.2.1 q3.2.2.1 q3.2.2.2.1 q3.2.2.2.2.1 q3.2.2.2.2.2.1 q3.2.2.2.2.2.2.1 q3.2.2.2.2.2.2.2.1 q3.2.2.2.2.2.2.2.2.1 q3.2.2.2.2.2.2.2.2.2 n_eaten u_lands u_camphors u_there u_mothCells u_mothHeads u_threads u_sightNights u_sightCells u_sights u_night u_eaten v_lands v_camphors v_there v_mothCells v_mothHeads v_threads v_sightNights v_sightCells v_sights v_night v_eaten kept) rfl rfl rfl (fun H locs hP hD hS => ?_)
          refine lv_iconst (v := 1) hx hb dX8_restore_37 (by decide) ?_
          cases Option.some.inj hf
          exact W.iret hx hb hr (fun t ht hW => ⟨⟨_, (), rfl, rfl, by show va_P D vwCl _ t.heap; rw [ht]; exact hP⟩, hS.F ht⟩) hS.2.2 dX8_restore_38
      · replace hf := if_t cc hf
        refine lv_bipush (v := (-3)) hx hb dX8_restore_21 (by decide) ?_
        cases Option.some.inj hf
        exact W.iret hx hb hr (fun t ht hW => ⟨⟨_, (), rfl, rfl, by show va_P D vwCl _ t.heap; rw [ht]; exact hP⟩, hS.F ht⟩) hS.2.2 dX8_restore_23
    · replace hf := if_t cc hf
      refine lv_bipush (v := (-2)) hx hb dX8_restore_9 (by decide) ?_
      cases Option.some.inj hf
      exact W.iret hx hb hr (fun t ht hW => ⟨⟨_, (), rfl, rfl, by show va_P D vwCl _ t.heap; rw [ht]; exact hP⟩, hS.F ht⟩) hS.2.2 dX8_restore_11
  have hl := lv_entry ([.ref (a 0 0), .int p1]) (n := 2) (Nat.le_of_ble_eq_true rfl)
  rw [lg_entry_eq]
  exact main s.heap [] _ hP hD hS hl
theorem hd_X8_toldOfOne : yX8_toldOfOne.cls = RX8 ∧ yX8_toldOfOne.cls ≠ "java/lang/invoke/MethodHandle" ∧ yX8_toldOfOne.cls ≠ "java/lang/invoke/VarHandle" ∧ (parseMethodDescriptor yX8_toldOfOne.desc).map (fun d => d.parameters.length) = some 1 := by decide +kernel
set_option maxHeartbeats 4000000 in
set_option maxRecDepth 100000 in
theorem c_X8_toldOfOne (l : Launch) (D : va_G) (cyI cyJ cyZ cyO : ClassId) (a : Nat → Nat → Nat) (sz : Nat) (n_lands : Nat → Int32) (n_camphors : Nat → Int32) (n_there : Nat → Int32) (n_mothCells : Nat → Int32) (n_mothHeads : Nat → Int32) (n_threads : Nat → Int32) (n_sightNights : Nat → Int32) (n_sightCells : Nat → Int32) (n_sights : Int32) (n_night : Int32) (n_eaten : Int32) (p1 : Int32) (nf : Nat) (q : Int32) (hf : g_X8_toldOfOne nf p1 n_lands n_camphors n_there n_mothCells n_mothHeads n_threads = some q) : Met l yX8_toldOfOne (Cond.code yX8_toldOfOne cX8_toldOfOne 2 (some .int) :: tbG) ({ frames := 2, cells := 0, slots := 0, locals := 42 } : Room) (va_Pc [.ref (a 0 0), .int p1] (pcB D (ty4 cyI cyJ cyZ cyO) sz (vw6 cyI cyJ cyZ cyO a n_lands n_camphors n_there n_mothCells n_mothHeads n_threads n_sightNights n_sightCells n_sights n_night n_eaten))) (qI D (vw6 cyI cyJ cyZ cyO a n_lands n_camphors n_there n_mothCells n_mothHeads n_threads n_sightNights n_sightCells n_sights n_night n_eaten) q (va_A (vw6 cyI cyJ cyZ cyO a n_lands n_camphors n_there n_mothCells n_mothHeads n_threads n_sightNights n_sightCells n_sights n_night n_eaten) sz)) 0 0 (va_A (vw6 cyI cyJ cyZ cyO a n_lands n_camphors n_there n_mothCells n_mothHeads n_threads n_sightNights n_sightCells n_sights n_night n_eaten) sz) := by
  refine Met.ofW (cc := cX8_toldOfOne) (maxL := 2) (ret := (some .int)) (by decide) rfl ?_
  intro p e s m args below meth c s₁ B hml hv
  obtain ⟨rfl, hsz, hP, hK, hD0, hN⟩ := hv
  have hx := B.exec
  have hb := B.bytes
  have hr := B.returns
  have hT : ∀ w ∈ tbG, w.before ([.ref (a 0 0), .int p1] : List Value).toArray s = true := fun w h => atoms_spec (ws := (Cond.code yX8_toldOfOne cX8_toldOfOne 2 (some .int) :: tbG)) B.pre w (List.mem_cons_of_mem _ h)
  have hown : s.vm.findClass RX8 = some m.cls := findClass_of_methodNamed B.named
  have hlocks := B.notSynchronized
  subst hsz
  have hD := hD0.self (sz := s.heap.size)
  generalize hAe : va_A (vw6 cyI cyJ cyZ cyO a n_lands n_camphors n_there n_mothCells n_mothHeads n_threads n_sightNights n_sightCells n_sights n_night n_eaten) s.heap.size = A at hD ⊢
  have hA : ∀ q : Nat, s.heap.size ≤ q → A q := fun q h => by rw [← hAe]; exact Or.inr h
  have hS : va_S A s.heap s.heap [] := va_S.rf
  show W p l e ({ frames := 2, cells := 0, slots := 0, locals := 42 } : Room) s m ([.ref (a 0 0), .int p1] : List Value).toArray below meth c s.heap [] 0 0 (MQ below (qI D (vw6 cyI cyJ cyZ cyO a n_lands n_camphors n_there n_mothCells n_mothHeads n_threads n_sightNights n_sightCells n_sights n_night n_eaten) q A) ([.ref (a 0 0), .int p1] : List Value).toArray s 0 0 A) _
  have main : ∀ (H : Heap) (locs : List Loc) (ls : Array Slot), va_P D vwCl (vw6 cyI cyJ cyZ cyO a n_lands n_camphors n_there n_mothCells n_mothHeads n_threads n_sightNights n_sightCells n_sights n_night n_eaten) H → va_D A (vw6 cyI cyJ cyZ cyO a n_lands n_camphors n_there n_mothCells n_mothHeads n_threads n_sightNights n_sightCells n_sights n_night n_eaten) → va_S A s.heap H locs → lv_has ls 2 [(0, .ref (a 0 0)), (1, .int p1)] → W p l e ({ frames := 2, cells := 0, slots := 0, locals := 42 } : Room) s m ([.ref (a 0 0), .int p1] : List Value).toArray below meth c H locs 0 0 (MQ below (qI D (vw6 cyI cyJ cyZ cyO a n_lands n_camphors n_there n_mothCells n_mothHeads n_threads n_sightNights n_sightCells n_sights n_night n_eaten) q A) ([.ref (a 0 0), .int p1] : List Value).toArray s 0 0 A) (F0 m 0 ls []) := by
    intro H locs ls hP hD hS hl
    unfold g_X8_toldOfOne at hf
    refine lv_iload_n hx hb dX8_toldOfOne_0 rfl (lv_at hl 1 rfl) ?_
    refine lv_bipush (v := 10) hx hb dX8_toldOfOne_1 (by decide) ?_
    refine lv_isub hx hb dX8_toldOfOne_3 ?_
    obtain ⟨q1, hq1, hf⟩ := bd_some hf
    have hC : ([] : List Nat).map (fun i => (vw6 cyI cyJ cyZ cyO a n_lands n_camphors n_there n_mothCells n_mothHeads n_threads n_sightNights n_sightCells n_sights n_night n_eaten)[i]?) = ([] : va_W).map some := rfl
    refine cl_i (rn_S (As := [.int (p1 - 10)]) (rest := []) hx hb hml hown hT hK hN hP hD [] hC rfl (c_X8_isThread l D cyI cyJ cyZ cyO H.size (p1 - 10) nf q1 hq1) wm_X8_116 wt_X8_isThread wz_X8 wc_X8_isThread hd_X8_isThread ⟨rfl, rfl⟩ ⟨Nat.le_of_ble_eq_true rfl, Nat.le_of_ble_eq_true rfl⟩ rfl hl.1 rfl (Nat.le_of_ble_eq_true rfl) dX8_toldOfOne_4 ⟨Nat.zero_le _, Nat.zero_le _⟩) hP hD hS hA [] hC [(false, 0), (false, 1), (false, 2), (false, 3), (false, 4), (false, 5), (false, 6), (false, 7), (false, 8), (false, 9)] (ws' := vw6 cyI cyJ cyZ cyO a n_lands n_camphors n_there n_mothCells n_mothHeads n_threads n_sightNights n_sightCells n_sights n_night n_eaten) rfl rfl rfl (fun H locs hP hD hS => ?_)
    refine lv_if_eq (tgt := 23) hx hb dX8_toldOfOne_7 (by decide) (fun cc => ?_) (fun cc => ?_)
    · replace hf := if_t cc hf
      refine lv_aload_n hx hb dX8_toldOfOne_23 rfl (lv_at hl 0 rfl) ?_
      refine va_get (ci := 8) (v := .ref ((a 1) 0)) (C := RX8) (T := TX8) (N := 11) hx hb hT hin_X8 hown hK hP 0 rfl rfl 0 (by decide) (hT _ wf_X8_10) (fun _ h9 => h9) rfl dX8_toldOfOne_24 ?_
      refine lv_iload_n hx hb dX8_toldOfOne_27 rfl (lv_at hl 1 rfl) ?_
      refine lv_bipush (v := 20) hx hb dX8_toldOfOne_28 (by decide) ?_
      refine lv_isub hx hb dX8_toldOfOne_30 ?_
      obtain ⟨q2, hq2, hf⟩ := bd_some hf
      have hC : [1, 2, 3, 4, 5, 6, 7, 8, 9].map (fun i => (vw6 cyI cyJ cyZ cyO a n_lands n_camphors n_there n_mothCells n_mothHeads n_threads n_sightNights n_sightCells n_sights n_night n_eaten)[i]?) = (wX1 cyI cyJ cyZ cyO (a 1) n_lands n_camphors n_there n_mothCells n_mothHeads n_threads n_sightNights n_sightCells n_sights n_night n_eaten).map some := rfl
      refine cl_i (rn_V (As := [.int (p1 - 20)]) (rest := []) (C := RX1) hx hb hml hown hT hK hN hP hD [1, 2, 3, 4, 5, 6, 7, 8, 9] hC rfl (c_X1_isThere l D cyI cyJ cyZ cyO (a 1) H.size n_lands n_camphors n_there n_mothCells n_mothHeads n_threads n_sightNights n_sightCells n_sights n_night n_eaten (p1 - 20) nf q2 hq2) wm_X8_156 wi_X1_isThere wl_X1_isThere wz_X1 wc_X1_isThere hd_X1_isThere ⟨rfl, rfl⟩ ⟨Nat.le_of_ble_eq_true rfl, Nat.le_of_ble_eq_true rfl⟩ (q0 := 0) (ci := 1) rfl rfl rfl rfl hl.1 rfl (Nat.le_of_ble_eq_true rfl) dX8_toldOfOne_31 ⟨Nat.zero_le _, Nat.zero_le _⟩) hP hD hS hA [1, 2, 3, 4, 5, 6, 7, 8, 9] hC [(false, 0), (true, 0), (true, 1), (true, 2), (true, 3), (true, 4), (true, 5), (true, 6), (true, 7), (true, 8)] (ws' := vw6 cyI cyJ cyZ cyO a n_lands n_camphors n_there n_mothCells n_mothHeads n_threads n_sightNights n_sightCells n_sights n_night n_eaten) rfl rfl rfl (fun H locs hP hD hS => ?_)
      refine lv_if_eq (tgt := 50) hx hb dX8_toldOfOne_34 (by decide) (fun cc => ?_) (fun cc => ?_)
      · replace hf := if_t cc hf
        refine lv_aload_n hx hb dX8_toldOfOne_50 rfl (lv_at hl 0 rfl) ?_
        refine va_get (ci := 8) (v := .ref ((a 1) 0)) (C := RX8) (T := TX8) (N := 11) hx hb hT hin_X8 hown hK hP 0 rfl rfl 0 (by decide) (hT _ wf_X8_10) (fun _ h9 => h9) rfl dX8_toldOfOne_51 ?_
        refine lv_iload_n hx hb dX8_toldOfOne_54 rfl (lv_at hl 1 rfl) ?_
        refine lv_bipush (v := 30) hx hb dX8_toldOfOne_55 (by decide) ?_
        refine lv_isub hx hb dX8_toldOfOne_57 ?_
        obtain ⟨q3, hq3, hf⟩ := bd_some hf
        have hC : [1, 2, 3, 4, 5, 6, 7, 8, 9].map (fun i => (vw6 cyI cyJ cyZ cyO a n_lands n_camphors n_there n_mothCells n_mothHeads n_threads n_sightNights n_sightCells n_sights n_night n_eaten)[i]?) = (wX1 cyI cyJ cyZ cyO (a 1) n_lands n_camphors n_there n_mothCells n_mothHeads n_threads n_sightNights n_sightCells n_sights n_night n_eaten).map some := rfl
        refine cl_i (rn_V (As := [.int (p1 - 30)]) (rest := []) (C := RX1) hx hb hml hown hT hK hN hP hD [1, 2, 3, 4, 5, 6, 7, 8, 9] hC rfl (c_X1_isThere l D cyI cyJ cyZ cyO (a 1) H.size n_lands n_camphors n_there n_mothCells n_mothHeads n_threads n_sightNights n_sightCells n_sights n_night n_eaten (p1 - 30) nf q3 hq3) wm_X8_156 wi_X1_isThere wl_X1_isThere wz_X1 wc_X1_isThere hd_X1_isThere ⟨rfl, rfl⟩ ⟨Nat.le_of_ble_eq_true rfl, Nat.le_of_ble_eq_true rfl⟩ (q0 := 0) (ci := 1) rfl rfl rfl rfl hl.1 rfl (Nat.le_of_ble_eq_true rfl) dX8_toldOfOne_58 ⟨Nat.zero_le _, Nat.zero_le _⟩) hP hD hS hA [1, 2, 3, 4, 5, 6, 7, 8, 9] hC [(false, 0), (true, 0), (true, 1), (true, 2), (true, 3), (true, 4), (true, 5), (true, 6), (true, 7), (true, 8)] (ws' := vw6 cyI cyJ cyZ cyO a n_lands n_camphors n_there n_mothCells n_mothHeads n_threads n_sightNights n_sightCells n_sights n_night n_eaten) rfl rfl rfl (fun H locs hP hD hS => ?_)
        refine lv_if_eq (tgt := 77) hx hb dX8_toldOfOne_61 (by decide) (fun cc => ?_) (fun cc => ?_)
        · replace hf := if_t cc hf
          refine lv_iload_n hx hb dX8_toldOfOne_77 rfl (lv_at hl 1 rfl) ?_
          refine lv_bipush (v := 100) hx hb dX8_toldOfOne_78 (by decide) ?_
          refine lv_isub hx hb dX8_toldOfOne_80 ?_
          obtain ⟨q4, hq4, hf⟩ := bd_some hf
          have hC : ([] : List Nat).map (fun i => (vw6 cyI cyJ cyZ cyO a n_lands n_camphors n_there n_mothCells n_mothHeads n_threads n_sightNights n_sightCells n_sights n_night n_eaten)[i]?) = ([] : va_W).map some := rfl
          refine cl_i (rn_S (As := [.int (p1 - 100)]) (rest := []) hx hb hml hown hT hK hN hP hD [] hC rfl (c_X8_isCell l D cyI cyJ cyZ cyO H.size (p1 - 100) nf q4 hq4) wm_X8_76 wt_X8_isCell wz_X8 wc_X8_isCell hd_X8_isCell ⟨rfl, rfl⟩ ⟨Nat.le_of_ble_eq_true rfl, Nat.le_of_ble_eq_true rfl⟩ rfl hl.1 rfl (Nat.le_of_ble_eq_true rfl) dX8_toldOfOne_81 ⟨Nat.zero_le _, Nat.zero_le _⟩) hP hD hS hA [] hC [(false, 0), (false, 1), (false, 2), (false, 3), (false, 4), (false, 5), (false, 6), (false, 7), (false, 8), (false, 9)] (ws' := vw6 cyI cyJ cyZ cyO a n_lands n_camphors n_there n_mothCells n_mothHeads n_threads n_sightNights n_sightCells n_sights n_night n_eaten) rfl rfl rfl (fun H locs hP hD hS => ?_)
          refine lv_if_eq (tgt := 100) hx hb dX8_toldOfOne_84 (by decide) (fun cc => ?_) (fun cc => ?_)
          · replace hf := if_t cc hf
            refine lv_iload_n hx hb dX8_toldOfOne_100 rfl (lv_at hl 1 rfl) ?_
            refine lv_sipush (v := 200) hx hb dX8_toldOfOne_101 (by decide) ?_
            refine lv_isub hx hb dX8_toldOfOne_104 ?_
            obtain ⟨q5, hq5, hf⟩ := bd_some hf
            have hC : ([] : List Nat).map (fun i => (vw6 cyI cyJ cyZ cyO a n_lands n_camphors n_there n_mothCells n_mothHeads n_threads n_sightNights n_sightCells n_sights n_night n_eaten)[i]?) = ([] : va_W).map some := rfl
            refine cl_i (rn_S (As := [.int (p1 - 200)]) (rest := []) hx hb hml hown hT hK hN hP hD [] hC rfl (c_X8_isCell l D cyI cyJ cyZ cyO H.size (p1 - 200) nf q5 hq5) wm_X8_76 wt_X8_isCell wz_X8 wc_X8_isCell hd_X8_isCell ⟨rfl, rfl⟩ ⟨Nat.le_of_ble_eq_true rfl, Nat.le_of_ble_eq_true rfl⟩ rfl hl.1 rfl (Nat.le_of_ble_eq_true rfl) dX8_toldOfOne_105 ⟨Nat.zero_le _, Nat.zero_le _⟩) hP hD hS hA [] hC [(false, 0), (false, 1), (false, 2), (false, 3), (false, 4), (false, 5), (false, 6), (false, 7), (false, 8), (false, 9)] (ws' := vw6 cyI cyJ cyZ cyO a n_lands n_camphors n_there n_mothCells n_mothHeads n_threads n_sightNights n_sightCells n_sights n_night n_eaten) rfl rfl rfl (fun H locs hP hD hS => ?_)
            refine lv_if_eq (tgt := 125) hx hb dX8_toldOfOne_108 (by decide) (fun cc => ?_) (fun cc => ?_)
            · replace hf := if_t cc hf
              refine lv_bipush (v := (-2)) hx hb dX8_toldOfOne_125 (by decide) ?_
              cases Option.some.inj hf
              exact W.iret hx hb hr (fun t ht hW => ⟨⟨_, (), rfl, rfl, by show va_P D vwCl _ t.heap; rw [ht]; exact hP⟩, hS.F ht⟩) hS.2.2 dX8_toldOfOne_127
            · replace hf := if_f cc hf
              refine lv_aload_n hx hb dX8_toldOfOne_111 rfl (lv_at hl 0 rfl) ?_
              refine va_get (ci := 8) (v := .ref ((a 1) 0)) (C := RX8) (T := TX8) (N := 11) hx hb hT hin_X8 hown hK hP 0 rfl rfl 0 (by decide) (hT _ wf_X8_10) (fun _ h9 => h9) rfl dX8_toldOfOne_112 ?_
              refine va_get (ci := 1) (v := .ref ((a 1) 2)) (C := RX1) (T := TX1) (N := 11) hx hb hT hin_X1 hown hK hP 1 rfl rfl 1 (by decide) (hT _ wf_X8_88) (fun _ h9 => h9) rfl dX8_toldOfOne_115 ?_
              refine lv_iload_n hx hb dX8_toldOfOne_118 rfl (lv_at hl 1 rfl) ?_
              refine lv_sipush (v := 200) hx hb dX8_toldOfOne_119 (by decide) ?_
              refine lv_isub hx hb dX8_toldOfOne_122 ?_
              obtain ⟨hi, hf⟩ := ck_some hf
              refine va_iald hx hb hK hP 3 0 rfl rfl hi dX8_toldOfOne_123 ?_
              cases Option.some.inj hf
              exact W.iret hx hb hr (fun t ht hW => ⟨⟨_, (), rfl, rfl, by show va_P D vwCl _ t.heap; rw [ht]; exact hP⟩, hS.F ht⟩) hS.2.2 dX8_toldOfOne_124
          · replace hf := if_f cc hf
            refine lv_aload_n hx hb dX8_toldOfOne_87 rfl (lv_at hl 0 rfl) ?_
            refine va_get (ci := 8) (v := .ref ((a 1) 0)) (C := RX8) (T := TX8) (N := 11) hx hb hT hin_X8 hown hK hP 0 rfl rfl 0 (by decide) (hT _ wf_X8_10) (fun _ h9 => h9) rfl dX8_toldOfOne_88 ?_
            refine va_get (ci := 1) (v := .ref ((a 1) 1)) (C := RX1) (T := TX1) (N := 11) hx hb hT hin_X1 hown hK hP 1 rfl rfl 0 (by decide) (hT _ wf_X8_84) (fun _ h9 => h9) rfl dX8_toldOfOne_91 ?_
            refine lv_iload_n hx hb dX8_toldOfOne_94 rfl (lv_at hl 1 rfl) ?_
            refine lv_bipush (v := 100) hx hb dX8_toldOfOne_95 (by decide) ?_
            refine lv_isub hx hb dX8_toldOfOne_97 ?_
            obtain ⟨hi, hf⟩ := ck_some hf
            refine va_iald hx hb hK hP 2 0 rfl rfl hi dX8_toldOfOne_98 ?_
            cases Option.some.inj hf
            exact W.iret hx hb hr (fun t ht hW => ⟨⟨_, (), rfl, rfl, by show va_P D vwCl _ t.heap; rw [ht]; exact hP⟩, hS.F ht⟩) hS.2.2 dX8_toldOfOne_99
        · replace hf := if_f cc hf
          refine lv_aload_n hx hb dX8_toldOfOne_64 rfl (lv_at hl 0 rfl) ?_
          refine va_get (ci := 8) (v := .ref ((a 1) 0)) (C := RX8) (T := TX8) (N := 11) hx hb hT hin_X8 hown hK hP 0 rfl rfl 0 (by decide) (hT _ wf_X8_10) (fun _ h9 => h9) rfl dX8_toldOfOne_65 ?_
          refine va_get (ci := 1) (v := .ref ((a 1) 5)) (C := RX1) (T := TX1) (N := 11) hx hb hT hin_X1 hown hK hP 1 rfl rfl 4 (by decide) (hT _ wf_X8_103) (fun _ h9 => h9) rfl dX8_toldOfOne_68 ?_
          refine lv_iload_n hx hb dX8_toldOfOne_71 rfl (lv_at hl 1 rfl) ?_
          refine lv_bipush (v := 30) hx hb dX8_toldOfOne_72 (by decide) ?_
          refine lv_isub hx hb dX8_toldOfOne_74 ?_
          obtain ⟨hi, hf⟩ := ck_some hf
          refine va_iald hx hb hK hP 6 0 rfl rfl hi dX8_toldOfOne_75 ?_
          cases Option.some.inj hf
          exact W.iret hx hb hr (fun t ht hW => ⟨⟨_, (), rfl, rfl, by show va_P D vwCl _ t.heap; rw [ht]; exact hP⟩, hS.F ht⟩) hS.2.2 dX8_toldOfOne_76
      · replace hf := if_f cc hf
        refine lv_aload_n hx hb dX8_toldOfOne_37 rfl (lv_at hl 0 rfl) ?_
        refine va_get (ci := 8) (v := .ref ((a 1) 0)) (C := RX8) (T := TX8) (N := 11) hx hb hT hin_X8 hown hK hP 0 rfl rfl 0 (by decide) (hT _ wf_X8_10) (fun _ h9 => h9) rfl dX8_toldOfOne_38 ?_
        refine va_get (ci := 1) (v := .ref ((a 1) 4)) (C := RX1) (T := TX1) (N := 11) hx hb hT hin_X1 hown hK hP 1 rfl rfl 3 (by decide) (hT _ wf_X8_100) (fun _ h9 => h9) rfl dX8_toldOfOne_41 ?_
        refine lv_iload_n hx hb dX8_toldOfOne_44 rfl (lv_at hl 1 rfl) ?_
        refine lv_bipush (v := 20) hx hb dX8_toldOfOne_45 (by decide) ?_
        refine lv_isub hx hb dX8_toldOfOne_47 ?_
        obtain ⟨hi, hf⟩ := ck_some hf
        refine va_iald hx hb hK hP 5 0 rfl rfl hi dX8_toldOfOne_48 ?_
        cases Option.some.inj hf
        exact W.iret hx hb hr (fun t ht hW => ⟨⟨_, (), rfl, rfl, by show va_P D vwCl _ t.heap; rw [ht]; exact hP⟩, hS.F ht⟩) hS.2.2 dX8_toldOfOne_49
    · replace hf := if_f cc hf
      refine lv_aload_n hx hb dX8_toldOfOne_10 rfl (lv_at hl 0 rfl) ?_
      refine va_get (ci := 8) (v := .ref ((a 1) 0)) (C := RX8) (T := TX8) (N := 11) hx hb hT hin_X8 hown hK hP 0 rfl rfl 0 (by decide) (hT _ wf_X8_10) (fun _ h9 => h9) rfl dX8_toldOfOne_11 ?_
      refine va_get (ci := 1) (v := .ref ((a 1) 6)) (C := RX1) (T := TX1) (N := 11) hx hb hT hin_X1 hown hK hP 1 rfl rfl 5 (by decide) (hT _ wf_X8_119) (fun _ h9 => h9) rfl dX8_toldOfOne_14 ?_
      refine lv_iload_n hx hb dX8_toldOfOne_17 rfl (lv_at hl 1 rfl) ?_
      refine lv_bipush (v := 10) hx hb dX8_toldOfOne_18 (by decide) ?_
      refine lv_isub hx hb dX8_toldOfOne_20 ?_
      obtain ⟨hi, hf⟩ := ck_some hf
      refine va_iald hx hb hK hP 7 0 rfl rfl hi dX8_toldOfOne_21 ?_
      cases Option.some.inj hf
      exact W.iret hx hb hr (fun t ht hW => ⟨⟨_, (), rfl, rfl, by show va_P D vwCl _ t.heap; rw [ht]; exact hP⟩, hS.F ht⟩) hS.2.2 dX8_toldOfOne_22
  have hl := lv_entry ([.ref (a 0 0), .int p1]) (n := 2) (Nat.le_of_ble_eq_true rfl)
  rw [lg_entry_eq]
  exact main s.heap [] _ hP hD hS hl
theorem hd_X8_told : yX8_told.cls = RX8 ∧ yX8_told.cls ≠ "java/lang/invoke/MethodHandle" ∧ yX8_told.cls ≠ "java/lang/invoke/VarHandle" ∧ (parseMethodDescriptor yX8_told.desc).map (fun d => d.parameters.length) = some 1 := by decide +kernel
set_option maxHeartbeats 4000000 in
set_option maxRecDepth 100000 in
theorem c_X8_told (l : Launch) (D : va_G) (cyI cyJ cyZ cyO : ClassId) (a : Nat → Nat → Nat) (sz : Nat) (n_lands : Nat → Int32) (n_camphors : Nat → Int32) (n_there : Nat → Int32) (n_mothCells : Nat → Int32) (n_mothHeads : Nat → Int32) (n_threads : Nat → Int32) (n_sightNights : Nat → Int32) (n_sightCells : Nat → Int32) (n_sights : Int32) (n_night : Int32) (n_eaten : Int32) (p_signs : Nat → Int32) (p_size : Int32) (p1 : Int32) (nf : Nat) (q : Int32) (hf : g_X8_told nf p1 n_lands n_camphors n_there n_mothCells n_mothHeads n_threads n_sights n_night p_size = some q) : Met l yX8_told (Cond.code yX8_told cX8_told 2 (some .int) :: tbG) ({ frames := 3, cells := 0, slots := 0, locals := 63 } : Room) (va_Pc [.ref (a 0 0), .int p1] (pcB D (ty4 cyI cyJ cyZ cyO) sz (vw16 cyI cyJ cyZ cyO a n_lands n_camphors n_there n_mothCells n_mothHeads n_threads n_sightNights n_sightCells n_sights n_night n_eaten p_signs p_size))) (qI D (vw16 cyI cyJ cyZ cyO a n_lands n_camphors n_there n_mothCells n_mothHeads n_threads n_sightNights n_sightCells n_sights n_night n_eaten p_signs p_size) q (va_A (vw16 cyI cyJ cyZ cyO a n_lands n_camphors n_there n_mothCells n_mothHeads n_threads n_sightNights n_sightCells n_sights n_night n_eaten p_signs p_size) sz)) 0 0 (va_A (vw16 cyI cyJ cyZ cyO a n_lands n_camphors n_there n_mothCells n_mothHeads n_threads n_sightNights n_sightCells n_sights n_night n_eaten p_signs p_size) sz) := by
  refine Met.ofW (cc := cX8_told) (maxL := 2) (ret := (some .int)) (by decide) rfl ?_
  intro p e s m args below meth c s₁ B hml hv
  obtain ⟨rfl, hsz, hP, hK, hD0, hN⟩ := hv
  have hx := B.exec
  have hb := B.bytes
  have hr := B.returns
  have hT : ∀ w ∈ tbG, w.before ([.ref (a 0 0), .int p1] : List Value).toArray s = true := fun w h => atoms_spec (ws := (Cond.code yX8_told cX8_told 2 (some .int) :: tbG)) B.pre w (List.mem_cons_of_mem _ h)
  have hown : s.vm.findClass RX8 = some m.cls := findClass_of_methodNamed B.named
  have hlocks := B.notSynchronized
  subst hsz
  have hD := hD0.self (sz := s.heap.size)
  generalize hAe : va_A (vw16 cyI cyJ cyZ cyO a n_lands n_camphors n_there n_mothCells n_mothHeads n_threads n_sightNights n_sightCells n_sights n_night n_eaten p_signs p_size) s.heap.size = A at hD ⊢
  have hA : ∀ q : Nat, s.heap.size ≤ q → A q := fun q h => by rw [← hAe]; exact Or.inr h
  have hS : va_S A s.heap s.heap [] := va_S.rf
  show W p l e ({ frames := 3, cells := 0, slots := 0, locals := 63 } : Room) s m ([.ref (a 0 0), .int p1] : List Value).toArray below meth c s.heap [] 0 0 (MQ below (qI D (vw16 cyI cyJ cyZ cyO a n_lands n_camphors n_there n_mothCells n_mothHeads n_threads n_sightNights n_sightCells n_sights n_night n_eaten p_signs p_size) q A) ([.ref (a 0 0), .int p1] : List Value).toArray s 0 0 A) _
  have main : ∀ (H : Heap) (locs : List Loc) (ls : Array Slot), va_P D vwCl (vw16 cyI cyJ cyZ cyO a n_lands n_camphors n_there n_mothCells n_mothHeads n_threads n_sightNights n_sightCells n_sights n_night n_eaten p_signs p_size) H → va_D A (vw16 cyI cyJ cyZ cyO a n_lands n_camphors n_there n_mothCells n_mothHeads n_threads n_sightNights n_sightCells n_sights n_night n_eaten p_signs p_size) → va_S A s.heap H locs → lv_has ls 2 [(0, .ref (a 0 0)), (1, .int p1)] → W p l e ({ frames := 3, cells := 0, slots := 0, locals := 63 } : Room) s m ([.ref (a 0 0), .int p1] : List Value).toArray below meth c H locs 0 0 (MQ below (qI D (vw16 cyI cyJ cyZ cyO a n_lands n_camphors n_there n_mothCells n_mothHeads n_threads n_sightNights n_sightCells n_sights n_night n_eaten p_signs p_size) q A) ([.ref (a 0 0), .int p1] : List Value).toArray s 0 0 A) (F0 m 0 ls []) := by
    intro H locs ls hP hD hS hl
    unfold g_X8_told at hf
    refine lv_iload_n hx hb dX8_told_0 rfl (lv_at hl 1 rfl) ?_
    by_cases c0 : p1 = 0
    · replace hf := if_t c0 hf
      refine lv_tableIn (off := 35) (tgt := 36) hx hb dX8_told_1 (by rw [c0]; decide) (by rw [c0]; decide) (by rw [c0]; decide) (by decide) ?_
      refine lv_aload_n hx hb dX8_told_36 rfl (lv_at hl 0 rfl) ?_
      refine va_get (ci := 8) (v := .ref ((a 5) 0)) (C := RX8) (T := TX8) (N := 11) hx hb hT hin_X8 hown hK hP 0 rfl rfl 4 (by decide) (hT _ wf_X8_30) (fun _ h9 => h9) rfl dX8_told_37 ?_
      refine va_get (ci := 5) (v := .int p_size) (C := RX5) (T := TX5) (N := 2) hx hb hT hin_X5 hown hK hP 10 rfl rfl 1 (by decide) (hT _ wf_X8_125) (fun _ h9 => h9) rfl dX8_told_40 ?_
      cases Option.some.inj hf
      exact W.iret hx hb hr (fun t ht hW => ⟨⟨_, (), rfl, rfl, by show va_P D vwCl _ t.heap; rw [ht]; exact hP⟩, hS.F ht⟩) hS.2.2 dX8_told_43
    · replace hf := if_f c0 hf
      by_cases c1 : p1 = 1
      · replace hf := if_t c1 hf
        refine lv_tableIn (off := 43) (tgt := 44) hx hb dX8_told_1 (by rw [c1]; decide) (by rw [c1]; decide) (by rw [c1]; decide) (by decide) ?_
        refine lv_aload_n hx hb dX8_told_44 rfl (lv_at hl 0 rfl) ?_
        refine va_get (ci := 8) (v := .ref ((a 1) 0)) (C := RX8) (T := TX8) (N := 11) hx hb hT hin_X8 hown hK hP 0 rfl rfl 0 (by decide) (hT _ wf_X8_10) (fun _ h9 => h9) rfl dX8_told_45 ?_
        obtain ⟨q1, hq1, hf⟩ := bd_some hf
        have hC : [1, 2, 3, 4, 5, 6, 7, 8, 9].map (fun i => (vw16 cyI cyJ cyZ cyO a n_lands n_camphors n_there n_mothCells n_mothHeads n_threads n_sightNights n_sightCells n_sights n_night n_eaten p_signs p_size)[i]?) = (wX1 cyI cyJ cyZ cyO (a 1) n_lands n_camphors n_there n_mothCells n_mothHeads n_threads n_sightNights n_sightCells n_sights n_night n_eaten).map some := rfl
        refine cl_i (rn_V (As := []) (rest := []) (C := RX1) hx hb hml hown hT hK hN hP hD [1, 2, 3, 4, 5, 6, 7, 8, 9] hC rfl (c_X1_mothBits l D cyI cyJ cyZ cyO (a 1) H.size n_lands n_camphors n_there n_mothCells n_mothHeads n_threads n_sightNights n_sightCells n_sights n_night n_eaten nf q1 hq1) wm_X8_106 wi_X1_mothBits wl_X1_mothBits wz_X1 wc_X1_mothBits hd_X1_mothBits ⟨rfl, rfl⟩ ⟨Nat.le_of_ble_eq_true rfl, Nat.le_of_ble_eq_true rfl⟩ (q0 := 0) (ci := 1) rfl rfl rfl rfl hl.1 rfl (Nat.le_of_ble_eq_true rfl) dX8_told_48 ⟨Nat.zero_le _, Nat.zero_le _⟩) hP hD hS hA [1, 2, 3, 4, 5, 6, 7, 8, 9] hC [(false, 0), (true, 0), (true, 1), (true, 2), (true, 3), (true, 4), (true, 5), (true, 6), (true, 7), (true, 8), (false, 10), (false, 11)] (ws' := vw16 cyI cyJ cyZ cyO a n_lands n_camphors n_there n_mothCells n_mothHeads n_threads n_sightNights n_sightCells n_sights n_night n_eaten p_signs p_size) rfl rfl rfl (fun H locs hP hD hS => ?_)
        cases Option.some.inj hf
        exact W.iret hx hb hr (fun t ht hW => ⟨⟨_, (), rfl, rfl, by show va_P D vwCl _ t.heap; rw [ht]; exact hP⟩, hS.F ht⟩) hS.2.2 dX8_told_51
      · replace hf := if_f c1 hf
        by_cases c2 : p1 = 2
        · replace hf := if_t c2 hf
          refine lv_tableIn (off := 51) (tgt := 52) hx hb dX8_told_1 (by rw [c2]; decide) (by rw [c2]; decide) (by rw [c2]; decide) (by decide) ?_
          refine lv_aload_n hx hb dX8_told_52 rfl (lv_at hl 0 rfl) ?_
          refine va_get (ci := 8) (v := .ref ((a 1) 0)) (C := RX8) (T := TX8) (N := 11) hx hb hT hin_X8 hown hK hP 0 rfl rfl 0 (by decide) (hT _ wf_X8_10) (fun _ h9 => h9) rfl dX8_told_53 ?_
          refine va_get (ci := 1) (v := .int n_night) (C := RX1) (T := TX1) (N := 11) hx hb hT hin_X1 hown hK hP 1 rfl rfl 9 (by decide) (hT _ wf_X8_165) (fun _ h9 => h9) rfl dX8_told_56 ?_
          cases Option.some.inj hf
          exact W.iret hx hb hr (fun t ht hW => ⟨⟨_, (), rfl, rfl, by show va_P D vwCl _ t.heap; rw [ht]; exact hP⟩, hS.F ht⟩) hS.2.2 dX8_told_59
        · replace hf := if_f c2 hf
          by_cases c3 : p1 = 3
          · replace hf := if_t c3 hf
            refine lv_tableIn (off := 59) (tgt := 60) hx hb dX8_told_1 (by rw [c3]; decide) (by rw [c3]; decide) (by rw [c3]; decide) (by decide) ?_
            refine lv_aload_n hx hb dX8_told_60 rfl (lv_at hl 0 rfl) ?_
            refine va_get (ci := 8) (v := .ref ((a 1) 0)) (C := RX8) (T := TX8) (N := 11) hx hb hT hin_X8 hown hK hP 0 rfl rfl 0 (by decide) (hT _ wf_X8_10) (fun _ h9 => h9) rfl dX8_told_61 ?_
            refine lv_iconst (v := 0) hx hb dX8_told_64 (by decide) ?_
            obtain ⟨q2, hq2, hf⟩ := bd_some hf
            have hC : [1, 2, 3, 4, 5, 6, 7, 8, 9].map (fun i => (vw16 cyI cyJ cyZ cyO a n_lands n_camphors n_there n_mothCells n_mothHeads n_threads n_sightNights n_sightCells n_sights n_night n_eaten p_signs p_size)[i]?) = (wX1 cyI cyJ cyZ cyO (a 1) n_lands n_camphors n_there n_mothCells n_mothHeads n_threads n_sightNights n_sightCells n_sights n_night n_eaten).map some := rfl
            refine cl_i (rn_V (As := [.int 0]) (rest := []) (C := RX1) hx hb hml hown hT hK hN hP hD [1, 2, 3, 4, 5, 6, 7, 8, 9] hC rfl (c_X1_countOf l D cyI cyJ cyZ cyO (a 1) H.size n_lands n_camphors n_there n_mothCells n_mothHeads n_threads n_sightNights n_sightCells n_sights n_night n_eaten 0 nf q2 hq2) wm_X8_159 wi_X1_countOf wl_X1_countOf wz_X1 wc_X1_countOf hd_X1_countOf ⟨rfl, rfl⟩ ⟨Nat.le_of_ble_eq_true rfl, Nat.le_of_ble_eq_true rfl⟩ (q0 := 0) (ci := 1) rfl rfl rfl rfl hl.1 rfl (Nat.le_of_ble_eq_true rfl) dX8_told_65 ⟨Nat.zero_le _, Nat.zero_le _⟩) hP hD hS hA [1, 2, 3, 4, 5, 6, 7, 8, 9] hC [(false, 0), (true, 0), (true, 1), (true, 2), (true, 3), (true, 4), (true, 5), (true, 6), (true, 7), (true, 8), (false, 10), (false, 11)] (ws' := vw16 cyI cyJ cyZ cyO a n_lands n_camphors n_there n_mothCells n_mothHeads n_threads n_sightNights n_sightCells n_sights n_night n_eaten p_signs p_size) rfl rfl rfl (fun H locs hP hD hS => ?_)
            cases Option.some.inj hf
            exact W.iret hx hb hr (fun t ht hW => ⟨⟨_, (), rfl, rfl, by show va_P D vwCl _ t.heap; rw [ht]; exact hP⟩, hS.F ht⟩) hS.2.2 dX8_told_68
          · replace hf := if_f c3 hf
            by_cases c4 : p1 = 4
            · replace hf := if_t c4 hf
              refine lv_tableIn (off := 68) (tgt := 69) hx hb dX8_told_1 (by rw [c4]; decide) (by rw [c4]; decide) (by rw [c4]; decide) (by decide) ?_
              refine lv_aload_n hx hb dX8_told_69 rfl (lv_at hl 0 rfl) ?_
              refine va_get (ci := 8) (v := .ref ((a 1) 0)) (C := RX8) (T := TX8) (N := 11) hx hb hT hin_X8 hown hK hP 0 rfl rfl 0 (by decide) (hT _ wf_X8_10) (fun _ h9 => h9) rfl dX8_told_70 ?_
              refine va_get (ci := 1) (v := .int n_sights) (C := RX1) (T := TX1) (N := 11) hx hb hT hin_X1 hown hK hP 1 rfl rfl 8 (by decide) (hT _ wf_X8_209) (fun _ h9 => h9) rfl dX8_told_73 ?_
              cases Option.some.inj hf
              exact W.iret hx hb hr (fun t ht hW => ⟨⟨_, (), rfl, rfl, by show va_P D vwCl _ t.heap; rw [ht]; exact hP⟩, hS.F ht⟩) hS.2.2 dX8_told_76
            · replace hf := if_f c4 hf
              refine lv_tableOut (tgt := 77) hx hb dX8_told_1 (by have z0 := lv_neT c0 (show (0 : Int32).toInt = 0 by decide); have z1 := lv_neT c1 (show (1 : Int32).toInt = 1 by decide); have z2 := lv_neT c2 (show (2 : Int32).toInt = 2 by decide); have z3 := lv_neT c3 (show (3 : Int32).toInt = 3 by decide); have z4 := lv_neT c4 (show (4 : Int32).toInt = 4 by decide); omega) (by decide) ?_
              refine lv_aload_n hx hb dX8_told_77 rfl (lv_at hl 0 rfl) ?_
              refine lv_iload_n hx hb dX8_told_78 rfl (lv_at hl 1 rfl) ?_
              obtain ⟨q3, hq3, hf⟩ := bd_some hf
              have hC : [0, 1, 2, 3, 4, 5, 6, 7, 8, 9].map (fun i => (vw16 cyI cyJ cyZ cyO a n_lands n_camphors n_there n_mothCells n_mothHeads n_threads n_sightNights n_sightCells n_sights n_night n_eaten p_signs p_size)[i]?) = (vw6 cyI cyJ cyZ cyO a n_lands n_camphors n_there n_mothCells n_mothHeads n_threads n_sightNights n_sightCells n_sights n_night n_eaten).map some := rfl
              refine cl_i (rn_V (As := [.int p1]) (rest := []) (C := RX8) hx hb hml hown hT hK hN hP hD [0, 1, 2, 3, 4, 5, 6, 7, 8, 9] hC rfl (c_X8_toldOfOne l D cyI cyJ cyZ cyO a H.size n_lands n_camphors n_there n_mothCells n_mothHeads n_threads n_sightNights n_sightCells n_sights n_night n_eaten p1 nf q3 hq3) wm_X8_259 wi_X8_toldOfOne wl_X8_toldOfOne wz_X8 wc_X8_toldOfOne hd_X8_toldOfOne ⟨rfl, rfl⟩ ⟨Nat.le_of_ble_eq_true rfl, Nat.le_of_ble_eq_true rfl⟩ (q0 := 0) (ci := 8) rfl rfl rfl rfl hl.1 rfl (Nat.le_of_ble_eq_true rfl) dX8_told_79 ⟨Nat.zero_le _, Nat.zero_le _⟩) hP hD hS hA [0, 1, 2, 3, 4, 5, 6, 7, 8, 9] hC [(true, 0), (true, 1), (true, 2), (true, 3), (true, 4), (true, 5), (true, 6), (true, 7), (true, 8), (true, 9), (false, 10), (false, 11)] (ws' := vw16 cyI cyJ cyZ cyO a n_lands n_camphors n_there n_mothCells n_mothHeads n_threads n_sightNights n_sightCells n_sights n_night n_eaten p_signs p_size) rfl rfl rfl (fun H locs hP hD hS => ?_)
              cases Option.some.inj hf
              exact W.iret hx hb hr (fun t ht hW => ⟨⟨_, (), rfl, rfl, by show va_P D vwCl _ t.heap; rw [ht]; exact hP⟩, hS.F ht⟩) hS.2.2 dX8_told_82
  have hl := lv_entry ([.ref (a 0 0), .int p1]) (n := 2) (Nat.le_of_ble_eq_true rfl)
  rw [lg_entry_eq]
  exact main s.heap [] _ hP hD hS hl
