theorem hd_X9_in : yX9_in.cls ≠ "java/lang/invoke/MethodHandle" ∧ yX9_in.cls ≠ "java/lang/invoke/VarHandle" ∧ (parseMethodDescriptor yX9_in.desc).map (fun d => d.parameters.length) = some 3 := by decide +kernel
set_option maxHeartbeats 4000000 in
set_option maxRecDepth 100000 in
theorem c_X9_in (l : Launch) (D : va_G) (cyI cyJ cyZ cyO : ClassId) (sz : Nat) (p0 : Int32) (p1 : Int32) (p2 : Int32) (nf : Nat) (q : Int32) (hf : g_X9_in nf p0 p1 p2 = some q) : Met l yX9_in (Cond.code yX9_in cX9_in 3 (some .boolean) :: tbG) ({ frames := 0, cells := 0, slots := 0, locals := 0 } : Room) (va_Pc [.int p0, .int p1, .int p2] (pcB D (ty4 cyI cyJ cyZ cyO) sz (([] : va_W)))) (qI D (([] : va_W)) q (va_A (([] : va_W)) sz)) 0 0 (va_A (([] : va_W)) sz) := by
  refine Met.ofW (cc := cX9_in) (maxL := 3) (ret := (some .boolean)) (by decide) rfl ?_
  intro p e s m args below meth c s₁ B hml hv
  obtain ⟨rfl, hsz, hP, hK, hD0, hN⟩ := hv
  have hx := B.exec
  have hb := B.bytes
  have hr := B.returns
  have hT : ∀ w ∈ tbG, w.before ([.int p0, .int p1, .int p2] : List Value).toArray s = true := fun w h => atoms_spec (ws := (Cond.code yX9_in cX9_in 3 (some .boolean) :: tbG)) B.pre w (List.mem_cons_of_mem _ h)
  have hown : s.vm.findClass RX9 = some m.cls := findClass_of_methodNamed B.named
  have hlocks := B.notSynchronized
  subst hsz
  have hD := hD0.self (sz := s.heap.size)
  generalize hAe : va_A (([] : va_W)) s.heap.size = A at hD ⊢
  have hA : ∀ q : Nat, s.heap.size ≤ q → A q := fun q h => by rw [← hAe]; exact Or.inr h
  have hS : va_S A s.heap s.heap [] := va_S.rf
  show W p l e ({ frames := 0, cells := 0, slots := 0, locals := 0 } : Room) s m ([.int p0, .int p1, .int p2] : List Value).toArray below meth c s.heap [] 0 0 (MQ below (qI D (([] : va_W)) q A) ([.int p0, .int p1, .int p2] : List Value).toArray s 0 0 A) _
  have main : ∀ (H : Heap) (locs : List Loc) (ls : Array Slot), va_P D vwCl (([] : va_W)) H → va_D A (([] : va_W)) → va_S A s.heap H locs → lv_has ls 3 [(0, .int p0), (1, .int p1), (2, .int p2)] → W p l e ({ frames := 0, cells := 0, slots := 0, locals := 0 } : Room) s m ([.int p0, .int p1, .int p2] : List Value).toArray below meth c H locs 0 0 (MQ below (qI D (([] : va_W)) q A) ([.int p0, .int p1, .int p2] : List Value).toArray s 0 0 A) (F0 m 0 ls []) := by
    intro H locs ls hP hD hS hl
    unfold g_X9_in at hf
    refine lv_iload_n hx hb dX9_in_0 rfl (lv_at hl 0 rfl) ?_
    refine lv_iload_n hx hb dX9_in_1 rfl (lv_at hl 1 rfl) ?_
    refine lv_icmp_lt (tgt := 14) hx hb dX9_in_2 (by decide) (fun cc => ?_) (fun cc => ?_)
    · replace hf := if_t cc hf
      refine lv_iconst (v := 0) hx hb dX9_in_14 (by decide) ?_
      obtain ⟨hz, hf⟩ := bz_some hf
      cases Option.some.inj hf
      exact W.zret hx hb hr (bz_nar hz).2 (fun t ht hW => ⟨⟨_, (), rfl, rfl, by show va_P D vwCl _ t.heap; rw [ht]; exact hP⟩, hS.F ht⟩) hS.2.2 dX9_in_15
    · replace hf := if_f cc hf
      refine lv_iload_n hx hb dX9_in_5 rfl (lv_at hl 0 rfl) ?_
      refine lv_iload_n hx hb dX9_in_6 rfl (lv_at hl 2 rfl) ?_
      refine lv_icmp_gt (tgt := 14) hx hb dX9_in_7 (by decide) (fun cc => ?_) (fun cc => ?_)
      · replace hf := if_t cc hf
        refine lv_iconst (v := 0) hx hb dX9_in_14 (by decide) ?_
        obtain ⟨hz, hf⟩ := bz_some hf
        cases Option.some.inj hf
        exact W.zret hx hb hr (bz_nar hz).2 (fun t ht hW => ⟨⟨_, (), rfl, rfl, by show va_P D vwCl _ t.heap; rw [ht]; exact hP⟩, hS.F ht⟩) hS.2.2 dX9_in_15
      · replace hf := if_f cc hf
        refine lv_iconst (v := 1) hx hb dX9_in_10 (by decide) ?_
        refine lv_goto (tgt := 15) hx hb dX9_in_11 (by decide) ?_
        obtain ⟨hz, hf⟩ := bz_some hf
        cases Option.some.inj hf
        exact W.zret hx hb hr (bz_nar hz).2 (fun t ht hW => ⟨⟨_, (), rfl, rfl, by show va_P D vwCl _ t.heap; rw [ht]; exact hP⟩, hS.F ht⟩) hS.2.2 dX9_in_15
  have hl := lv_entry ([.int p0, .int p1, .int p2]) (n := 3) (Nat.le_of_ble_eq_true rfl)
  rw [lg_entry_eq]
  exact main s.heap [] _ hP hD hS hl
theorem hd_X9_has : yX9_has.cls ≠ "java/lang/invoke/MethodHandle" ∧ yX9_has.cls ≠ "java/lang/invoke/VarHandle" ∧ (parseMethodDescriptor yX9_has.desc).map (fun d => d.parameters.length) = some 2 := by decide +kernel
set_option maxHeartbeats 4000000 in
set_option maxRecDepth 100000 in
theorem c_X9_has (l : Launch) (D : va_G) (cyI cyJ cyZ cyO : ClassId) (sz : Nat) (p0 : Int32) (p1 : Int32) (nf : Nat) (q : Int32) (hf : g_X9_has nf p0 p1 = some q) : Met l yX9_has (Cond.code yX9_has cX9_has 2 (some .boolean) :: tbG) ({ frames := 0, cells := 0, slots := 0, locals := 0 } : Room) (va_Pc [.int p0, .int p1] (pcB D (ty4 cyI cyJ cyZ cyO) sz (([] : va_W)))) (qI D (([] : va_W)) q (va_A (([] : va_W)) sz)) 0 0 (va_A (([] : va_W)) sz) := by
  refine Met.ofW (cc := cX9_has) (maxL := 2) (ret := (some .boolean)) (by decide) rfl ?_
  intro p e s m args below meth c s₁ B hml hv
  obtain ⟨rfl, hsz, hP, hK, hD0, hN⟩ := hv
  have hx := B.exec
  have hb := B.bytes
  have hr := B.returns
  have hT : ∀ w ∈ tbG, w.before ([.int p0, .int p1] : List Value).toArray s = true := fun w h => atoms_spec (ws := (Cond.code yX9_has cX9_has 2 (some .boolean) :: tbG)) B.pre w (List.mem_cons_of_mem _ h)
  have hown : s.vm.findClass RX9 = some m.cls := findClass_of_methodNamed B.named
  have hlocks := B.notSynchronized
  subst hsz
  have hD := hD0.self (sz := s.heap.size)
  generalize hAe : va_A (([] : va_W)) s.heap.size = A at hD ⊢
  have hA : ∀ q : Nat, s.heap.size ≤ q → A q := fun q h => by rw [← hAe]; exact Or.inr h
  have hS : va_S A s.heap s.heap [] := va_S.rf
  show W p l e ({ frames := 0, cells := 0, slots := 0, locals := 0 } : Room) s m ([.int p0, .int p1] : List Value).toArray below meth c s.heap [] 0 0 (MQ below (qI D (([] : va_W)) q A) ([.int p0, .int p1] : List Value).toArray s 0 0 A) _
  have main : ∀ (H : Heap) (locs : List Loc) (ls : Array Slot), va_P D vwCl (([] : va_W)) H → va_D A (([] : va_W)) → va_S A s.heap H locs → lv_has ls 2 [(0, .int p0), (1, .int p1)] → W p l e ({ frames := 0, cells := 0, slots := 0, locals := 0 } : Room) s m ([.int p0, .int p1] : List Value).toArray below meth c H locs 0 0 (MQ below (qI D (([] : va_W)) q A) ([.int p0, .int p1] : List Value).toArray s 0 0 A) (F0 m 0 ls []) := by
    intro H locs ls hP hD hS hl
    unfold g_X9_has at hf
    refine lv_iload_n hx hb dX9_has_0 rfl (lv_at hl 0 rfl) ?_
    refine lv_iload_n hx hb dX9_has_1 rfl (lv_at hl 1 rfl) ?_
    refine lv_ishr hx hb dX9_has_2 ?_
    refine lv_iconst (v := 1) hx hb dX9_has_3 (by decide) ?_
    refine lv_iand hx hb dX9_has_4 ?_
    refine lv_iconst (v := 1) hx hb dX9_has_5 (by decide) ?_
    refine lv_icmp_ne (tgt := 13) hx hb dX9_has_6 (by decide) (fun cc => ?_) (fun cc => ?_)
    · replace hf := if_f cc hf
      refine lv_iconst (v := 0) hx hb dX9_has_13 (by decide) ?_
      obtain ⟨hz, hf⟩ := bz_some hf
      cases Option.some.inj hf
      exact W.zret hx hb hr (bz_nar hz).2 (fun t ht hW => ⟨⟨_, (), rfl, rfl, by show va_P D vwCl _ t.heap; rw [ht]; exact hP⟩, hS.F ht⟩) hS.2.2 dX9_has_14
    · replace hf := if_t cc hf
      refine lv_iconst (v := 1) hx hb dX9_has_9 (by decide) ?_
      refine lv_goto (tgt := 14) hx hb dX9_has_10 (by decide) ?_
      obtain ⟨hz, hf⟩ := bz_some hf
      cases Option.some.inj hf
      exact W.zret hx hb hr (bz_nar hz).2 (fun t ht hW => ⟨⟨_, (), rfl, rfl, by show va_P D vwCl _ t.heap; rw [ht]; exact hP⟩, hS.F ht⟩) hS.2.2 dX9_has_14
  have hl := lv_entry ([.int p0, .int p1]) (n := 2) (Nat.le_of_ble_eq_true rfl)
  rw [lg_entry_eq]
  exact main s.heap [] _ hP hD hS hl
theorem hd_X9_isCell : yX9_isCell.cls ≠ "java/lang/invoke/MethodHandle" ∧ yX9_isCell.cls ≠ "java/lang/invoke/VarHandle" ∧ (parseMethodDescriptor yX9_isCell.desc).map (fun d => d.parameters.length) = some 1 := by decide +kernel
set_option maxHeartbeats 4000000 in
set_option maxRecDepth 100000 in
theorem c_X9_isCell (l : Launch) (D : va_G) (cyI cyJ cyZ cyO : ClassId) (sz : Nat) (p0 : Int32) (nf : Nat) (q : Int32) (hf : g_X9_isCell nf p0 = some q) : Met l yX9_isCell (Cond.code yX9_isCell cX9_isCell 1 (some .boolean) :: tbG) ({ frames := 1, cells := 0, slots := 0, locals := 22 } : Room) (va_Pc [.int p0] (pcB D (ty4 cyI cyJ cyZ cyO) sz (([] : va_W)))) (qI D (([] : va_W)) q (va_A (([] : va_W)) sz)) 0 0 (va_A (([] : va_W)) sz) := by
  refine Met.ofW (cc := cX9_isCell) (maxL := 1) (ret := (some .boolean)) (by decide) rfl ?_
  intro p e s m args below meth c s₁ B hml hv
  obtain ⟨rfl, hsz, hP, hK, hD0, hN⟩ := hv
  have hx := B.exec
  have hb := B.bytes
  have hr := B.returns
  have hT : ∀ w ∈ tbG, w.before ([.int p0] : List Value).toArray s = true := fun w h => atoms_spec (ws := (Cond.code yX9_isCell cX9_isCell 1 (some .boolean) :: tbG)) B.pre w (List.mem_cons_of_mem _ h)
  have hown : s.vm.findClass RX9 = some m.cls := findClass_of_methodNamed B.named
  have hlocks := B.notSynchronized
  subst hsz
  have hD := hD0.self (sz := s.heap.size)
  generalize hAe : va_A (([] : va_W)) s.heap.size = A at hD ⊢
  have hA : ∀ q : Nat, s.heap.size ≤ q → A q := fun q h => by rw [← hAe]; exact Or.inr h
  have hS : va_S A s.heap s.heap [] := va_S.rf
  show W p l e ({ frames := 1, cells := 0, slots := 0, locals := 22 } : Room) s m ([.int p0] : List Value).toArray below meth c s.heap [] 0 0 (MQ below (qI D (([] : va_W)) q A) ([.int p0] : List Value).toArray s 0 0 A) _
  have main : ∀ (H : Heap) (locs : List Loc) (ls : Array Slot), va_P D vwCl (([] : va_W)) H → va_D A (([] : va_W)) → va_S A s.heap H locs → lv_has ls 1 [(0, .int p0)] → W p l e ({ frames := 1, cells := 0, slots := 0, locals := 22 } : Room) s m ([.int p0] : List Value).toArray below meth c H locs 0 0 (MQ below (qI D (([] : va_W)) q A) ([.int p0] : List Value).toArray s 0 0 A) (F0 m 0 ls []) := by
    intro H locs ls hP hD hS hl
    unfold g_X9_isCell at hf
    refine lv_iload_n hx hb dX9_isCell_0 rfl (lv_at hl 0 rfl) ?_
    refine lv_iconst (v := 0) hx hb dX9_isCell_1 (by decide) ?_
    refine lv_bipush (v := 24) hx hb dX9_isCell_2 (by decide) ?_
    obtain ⟨q1, hq1, hf⟩ := bd_some hf
    have hC : ([] : List Nat).map (fun i => (([] : va_W))[i]?) = ([] : va_W).map some := rfl
    refine cl_i (rn_S (As := [.int p0, .int 0, .int 24]) (rest := []) hx hb hml hown hT hK hN hP hD [] hC rfl (c_X9_in l D cyI cyJ cyZ cyO H.size p0 0 24 nf q1 hq1) wm_X9_51 wt_X9_in wz_X9 wc_X9_in hd_X9_in ⟨rfl, rfl⟩ ⟨Nat.le_of_ble_eq_true rfl, Nat.le_of_ble_eq_true rfl⟩ rfl hl.1 rfl (Nat.le_of_ble_eq_true rfl) dX9_isCell_4 ⟨Nat.zero_le _, Nat.zero_le _⟩) hP hD hS hA [] hC [] (ws' := ([] : va_W)) rfl rfl rfl (fun H locs hP hD hS => ?_)
    obtain ⟨hz, hf⟩ := bz_some hf
    cases Option.some.inj hf
    exact W.zret hx hb hr (bz_nar hz).2 (fun t ht hW => ⟨⟨_, (), rfl, rfl, by show va_P D vwCl _ t.heap; rw [ht]; exact hP⟩, hS.F ht⟩) hS.2.2 dX9_isCell_7
  have hl := lv_entry ([.int p0]) (n := 1) (Nat.le_of_ble_eq_true rfl)
  rw [lg_entry_eq]
  exact main s.heap [] _ hP hD hS hl
theorem hd_X9_isThere : yX9_isThere.cls = RX9 ∧ yX9_isThere.cls ≠ "java/lang/invoke/MethodHandle" ∧ yX9_isThere.cls ≠ "java/lang/invoke/VarHandle" ∧ (parseMethodDescriptor yX9_isThere.desc).map (fun d => d.parameters.length) = some 1 := by decide +kernel
set_option maxHeartbeats 4000000 in
set_option maxRecDepth 100000 in
theorem c_X9_isThere (l : Launch) (D : va_G) (cyI cyJ cyZ cyO : ClassId) (h : Nat → Nat) (sz : Nat) (book : Nat → Int32) (now : Nat → Int32) (sights : Int32) (sight : Nat → Int32) (signs : Int32) (pad : Nat → Int32) (nights : Int32) (townAt : Int32) (townCell : Int32) (reason : Int32) (acts : Int32) (at_ : Int32) (cost : Nat → Int32) (hole : Nat → Int32) (counts : Nat → Int32) (worth : Nat → Int32) (met : Nat → Int32) (ways : Nat → Int64) (nextWays : Nat → Int64) (image : Nat → Int32) (isKept : Nat → Int32) (p1 : Int32) (nf : Nat) (q : Int32) (hf : g_X9_isThere nf p1 book = some q) : Met l yX9_isThere (Cond.code yX9_isThere cX9_isThere 2 (some .boolean) :: tbG) ({ frames := 1, cells := 0, slots := 0, locals := 22 } : Room) (va_Pc [.ref (h 0), .int p1] (pcB D (ty4 cyI cyJ cyZ cyO) sz (wX9 cyI cyJ cyZ cyO h book now sights sight signs pad nights townAt townCell reason acts at_ cost hole counts worth met ways nextWays image isKept))) (qI D (wX9 cyI cyJ cyZ cyO h book now sights sight signs pad nights townAt townCell reason acts at_ cost hole counts worth met ways nextWays image isKept) q (va_A (wX9 cyI cyJ cyZ cyO h book now sights sight signs pad nights townAt townCell reason acts at_ cost hole counts worth met ways nextWays image isKept) sz)) 0 0 (va_A (wX9 cyI cyJ cyZ cyO h book now sights sight signs pad nights townAt townCell reason acts at_ cost hole counts worth met ways nextWays image isKept) sz) := by
  refine Met.ofW (cc := cX9_isThere) (maxL := 2) (ret := (some .boolean)) (by decide) rfl ?_
  intro p e s m args below meth c s₁ B hml hv
  obtain ⟨rfl, hsz, hP, hK, hD0, hN⟩ := hv
  have hx := B.exec
  have hb := B.bytes
  have hr := B.returns
  have hT : ∀ w ∈ tbG, w.before ([.ref (h 0), .int p1] : List Value).toArray s = true := fun w h => atoms_spec (ws := (Cond.code yX9_isThere cX9_isThere 2 (some .boolean) :: tbG)) B.pre w (List.mem_cons_of_mem _ h)
  have hown : s.vm.findClass RX9 = some m.cls := findClass_of_methodNamed B.named
  have hlocks := B.notSynchronized
  subst hsz
  have hD := hD0.self (sz := s.heap.size)
  generalize hAe : va_A (wX9 cyI cyJ cyZ cyO h book now sights sight signs pad nights townAt townCell reason acts at_ cost hole counts worth met ways nextWays image isKept) s.heap.size = A at hD ⊢
  have hA : ∀ q : Nat, s.heap.size ≤ q → A q := fun q h => by rw [← hAe]; exact Or.inr h
  have hS : va_S A s.heap s.heap [] := va_S.rf
  show W p l e ({ frames := 1, cells := 0, slots := 0, locals := 22 } : Room) s m ([.ref (h 0), .int p1] : List Value).toArray below meth c s.heap [] 0 0 (MQ below (qI D (wX9 cyI cyJ cyZ cyO h book now sights sight signs pad nights townAt townCell reason acts at_ cost hole counts worth met ways nextWays image isKept) q A) ([.ref (h 0), .int p1] : List Value).toArray s 0 0 A) _
  have main : ∀ (H : Heap) (locs : List Loc) (ls : Array Slot), va_P D vwCl (wX9 cyI cyJ cyZ cyO h book now sights sight signs pad nights townAt townCell reason acts at_ cost hole counts worth met ways nextWays image isKept) H → va_D A (wX9 cyI cyJ cyZ cyO h book now sights sight signs pad nights townAt townCell reason acts at_ cost hole counts worth met ways nextWays image isKept) → va_S A s.heap H locs → lv_has ls 2 [(0, .ref (h 0)), (1, .int p1)] → W p l e ({ frames := 1, cells := 0, slots := 0, locals := 22 } : Room) s m ([.ref (h 0), .int p1] : List Value).toArray below meth c H locs 0 0 (MQ below (qI D (wX9 cyI cyJ cyZ cyO h book now sights sight signs pad nights townAt townCell reason acts at_ cost hole counts worth met ways nextWays image isKept) q A) ([.ref (h 0), .int p1] : List Value).toArray s 0 0 A) (F0 m 0 ls []) := by
    intro H locs ls hP hD hS hl
    unfold g_X9_isThere at hf
    refine lv_iload_n hx hb dX9_isThere_0 rfl (lv_at hl 1 rfl) ?_
    refine lv_iconst (v := 0) hx hb dX9_isThere_1 (by decide) ?_
    refine lv_iconst (v := 3) hx hb dX9_isThere_2 (by decide) ?_
    obtain ⟨q1, hq1, hf⟩ := bd_some hf
    have hC : ([] : List Nat).map (fun i => (wX9 cyI cyJ cyZ cyO h book now sights sight signs pad nights townAt townCell reason acts at_ cost hole counts worth met ways nextWays image isKept)[i]?) = ([] : va_W).map some := rfl
    refine cl_i (rn_S (As := [.int p1, .int 0, .int 3]) (rest := []) hx hb hml hown hT hK hN hP hD [] hC rfl (c_X9_in l D cyI cyJ cyZ cyO H.size p1 0 3 nf q1 hq1) wm_X9_51 wt_X9_in wz_X9 wc_X9_in hd_X9_in ⟨rfl, rfl⟩ ⟨Nat.le_of_ble_eq_true rfl, Nat.le_of_ble_eq_true rfl⟩ rfl hl.1 rfl (Nat.le_of_ble_eq_true rfl) dX9_isThere_3 ⟨Nat.zero_le _, Nat.zero_le _⟩) hP hD hS hA [] hC [(false, 0), (false, 1), (false, 2), (false, 3), (false, 4), (false, 5), (false, 6), (false, 7), (false, 8), (false, 9), (false, 10), (false, 11), (false, 12), (false, 13)] (ws' := wX9 cyI cyJ cyZ cyO h book now sights sight signs pad nights townAt townCell reason acts at_ cost hole counts worth met ways nextWays image isKept) rfl rfl rfl (fun H locs hP hD hS => ?_)
    refine lv_if_eq (tgt := 27) hx hb dX9_isThere_6 (by decide) (fun cc => ?_) (fun cc => ?_)
    · replace hf := if_t cc hf
      refine lv_iconst (v := 0) hx hb dX9_isThere_27 (by decide) ?_
      obtain ⟨hz, hf⟩ := bz_some hf
      cases Option.some.inj hf
      exact W.zret hx hb hr (bz_nar hz).2 (fun t ht hW => ⟨⟨_, (), rfl, rfl, by show va_P D vwCl _ t.heap; rw [ht]; exact hP⟩, hS.F ht⟩) hS.2.2 dX9_isThere_28
    · replace hf := if_f cc hf
      refine lv_aload_n hx hb dX9_isThere_9 rfl (lv_at hl 0 rfl) ?_
      refine va_get (ci := 9) (v := .ref (h 1)) (C := RX9) (T := TX9) (N := 21) hx hb hT hin_X9 hown hK hP 0 rfl rfl 0 (by decide) (hT _ wf_X9_7) (fun _ h9 => h9) rfl dX9_isThere_10 ?_
      refine lv_bipush (v := 61) hx hb dX9_isThere_13 (by decide) ?_
      obtain ⟨hi, hf⟩ := ck_some hf
      refine va_iald hx hb hK hP 1 0 rfl rfl hi dX9_isThere_15 ?_
      refine lv_iload_n hx hb dX9_isThere_16 rfl (lv_at hl 1 rfl) ?_
      obtain ⟨q2, hq2, hf⟩ := bd_some hf
      have hC : ([] : List Nat).map (fun i => (wX9 cyI cyJ cyZ cyO h book now sights sight signs pad nights townAt townCell reason acts at_ cost hole counts worth met ways nextWays image isKept)[i]?) = ([] : va_W).map some := rfl
      refine cl_i (rn_S (As := [.int (book (61 : Int32).toNatClampNeg), .int p1]) (rest := []) hx hb hml hown hT hK hN hP hD [] hC rfl (c_X9_has l D cyI cyJ cyZ cyO H.size (book (61 : Int32).toNatClampNeg) p1 nf q2 hq2) wm_X9_55 wt_X9_has wz_X9 wc_X9_has hd_X9_has ⟨rfl, rfl⟩ ⟨Nat.le_of_ble_eq_true rfl, Nat.le_of_ble_eq_true rfl⟩ rfl hl.1 rfl (Nat.le_of_ble_eq_true rfl) dX9_isThere_17 ⟨Nat.zero_le _, Nat.zero_le _⟩) hP hD hS hA [] hC [(false, 0), (false, 1), (false, 2), (false, 3), (false, 4), (false, 5), (false, 6), (false, 7), (false, 8), (false, 9), (false, 10), (false, 11), (false, 12), (false, 13)] (ws' := wX9 cyI cyJ cyZ cyO h book now sights sight signs pad nights townAt townCell reason acts at_ cost hole counts worth met ways nextWays image isKept) rfl rfl rfl (fun H locs hP hD hS => ?_)
      refine lv_if_eq (tgt := 27) hx hb dX9_isThere_20 (by decide) (fun cc => ?_) (fun cc => ?_)
      · replace hf := if_t cc hf
        refine lv_iconst (v := 0) hx hb dX9_isThere_27 (by decide) ?_
        obtain ⟨hz, hf⟩ := bz_some hf
        cases Option.some.inj hf
        exact W.zret hx hb hr (bz_nar hz).2 (fun t ht hW => ⟨⟨_, (), rfl, rfl, by show va_P D vwCl _ t.heap; rw [ht]; exact hP⟩, hS.F ht⟩) hS.2.2 dX9_isThere_28
      · replace hf := if_f cc hf
        refine lv_iconst (v := 1) hx hb dX9_isThere_23 (by decide) ?_
        refine lv_goto (tgt := 28) hx hb dX9_isThere_24 (by decide) ?_
        obtain ⟨hz, hf⟩ := bz_some hf
        cases Option.some.inj hf
        exact W.zret hx hb hr (bz_nar hz).2 (fun t ht hW => ⟨⟨_, (), rfl, rfl, by show va_P D vwCl _ t.heap; rw [ht]; exact hP⟩, hS.F ht⟩) hS.2.2 dX9_isThere_28
  have hl := lv_entry ([.ref (h 0), .int p1]) (n := 2) (Nat.le_of_ble_eq_true rfl)
  rw [lg_entry_eq]
  exact main s.heap [] _ hP hD hS hl
theorem hd_X9_beside : yX9_beside.cls ≠ "java/lang/invoke/MethodHandle" ∧ yX9_beside.cls ≠ "java/lang/invoke/VarHandle" ∧ (parseMethodDescriptor yX9_beside.desc).map (fun d => d.parameters.length) = some 2 := by decide +kernel
set_option maxHeartbeats 4000000 in
set_option maxRecDepth 100000 in
theorem c_X9_beside (l : Launch) (D : va_G) (cyI cyJ cyZ cyO : ClassId) (sz : Nat) (p0 : Int32) (p1 : Int32) (nf : Nat) (q : Int32) (hf : g_X9_beside nf p0 p1 = some q) : Met l yX9_beside (Cond.code yX9_beside cX9_beside 4 (some .int) :: tbG) ({ frames := 0, cells := 0, slots := 0, locals := 0 } : Room) (va_Pc [.int p0, .int p1] (pcB D (ty4 cyI cyJ cyZ cyO) sz (([] : va_W)))) (qI D (([] : va_W)) q (va_A (([] : va_W)) sz)) 0 0 (va_A (([] : va_W)) sz) := by
  refine Met.ofW (cc := cX9_beside) (maxL := 4) (ret := (some .int)) (by decide) rfl ?_
  intro p e s m args below meth c s₁ B hml hv
  obtain ⟨rfl, hsz, hP, hK, hD0, hN⟩ := hv
  have hx := B.exec
  have hb := B.bytes
  have hr := B.returns
  have hT : ∀ w ∈ tbG, w.before ([.int p0, .int p1] : List Value).toArray s = true := fun w h => atoms_spec (ws := (Cond.code yX9_beside cX9_beside 4 (some .int) :: tbG)) B.pre w (List.mem_cons_of_mem _ h)
  have hown : s.vm.findClass RX9 = some m.cls := findClass_of_methodNamed B.named
  have hlocks := B.notSynchronized
  subst hsz
  have hD := hD0.self (sz := s.heap.size)
  generalize hAe : va_A (([] : va_W)) s.heap.size = A at hD ⊢
  have hA : ∀ q : Nat, s.heap.size ≤ q → A q := fun q h => by rw [← hAe]; exact Or.inr h
  have hS : va_S A s.heap s.heap [] := va_S.rf
  show W p l e ({ frames := 0, cells := 0, slots := 0, locals := 0 } : Room) s m ([.int p0, .int p1] : List Value).toArray below meth c s.heap [] 0 0 (MQ below (qI D (([] : va_W)) q A) ([.int p0, .int p1] : List Value).toArray s 0 0 A) _
  have main : ∀ (H : Heap) (locs : List Loc) (ls : Array Slot), va_P D vwCl (([] : va_W)) H → va_D A (([] : va_W)) → va_S A s.heap H locs → lv_has ls 4 [(0, .int p0), (1, .int p1)] → W p l e ({ frames := 0, cells := 0, slots := 0, locals := 0 } : Room) s m ([.int p0, .int p1] : List Value).toArray below meth c H locs 0 0 (MQ below (qI D (([] : va_W)) q A) ([.int p0, .int p1] : List Value).toArray s 0 0 A) (F0 m 0 ls []) := by
    intro H locs ls hP hD hS hl
    unfold g_X9_beside at hf
    refine lv_iload_n hx hb dX9_beside_0 rfl (lv_at hl 0 rfl) ?_
    refine lv_iconst (v := 5) hx hb dX9_beside_1 (by decide) ?_
    refine lv_irem hx hb dX9_beside_2 (by decide) ?_
    refine lv_istore_n (lv' := [(2, .int (p0 - p0 / 5 * 5)), (0, .int p0), (1, .int p1)]) hx hb dX9_beside_3 rfl hl (by decide) rfl (fun ls hl => ?_)
    refine lv_iload_n hx hb dX9_beside_4 rfl (lv_at hl 1 rfl) ?_
    refine lv_iconst (v := 5) hx hb dX9_beside_5 (by decide) ?_
    refine lv_idiv hx hb dX9_beside_6 (by decide) ?_
    refine lv_istore_n (lv' := [(3, .int (p0 / 5)), (2, .int (p0 - p0 / 5 * 5)), (0, .int p0), (1, .int p1)]) hx hb dX9_beside_7 rfl hl (by decide) rfl (fun ls hl => ?_)
    refine lv_iload_n hx hb dX9_beside_8 rfl (lv_at hl 3 rfl) ?_
    by_cases c0 : p1 = 0
    · replace hf := if_t c0 hf
      refine lv_tableIn (off := 27) (tgt := 36) hx hb dX9_beside_9 (by rw [c0]; decide) (by rw [c0]; decide) (by rw [c0]; decide) (by decide) ?_
      refine lv_iload_n hx hb dX9_beside_36 rfl (lv_at hl 0 rfl) ?_
      refine lv_if_le (tgt := 46) hx hb dX9_beside_37 (by decide) (fun cc => ?_) (fun cc => ?_)
      · replace hf := if_t cc hf
        refine lv_bipush (v := (-6)) hx hb dX9_beside_46 (by decide) ?_
        cases Option.some.inj hf
        exact W.iret hx hb hr (fun t ht hW => ⟨⟨_, (), rfl, rfl, by show va_P D vwCl _ t.heap; rw [ht]; exact hP⟩, hS.F ht⟩) hS.2.2 dX9_beside_48
      · replace hf := if_f cc hf
        refine lv_iload_n hx hb dX9_beside_40 rfl (lv_at hl 2 rfl) ?_
        refine lv_iconst (v := 5) hx hb dX9_beside_41 (by decide) ?_
        refine lv_isub hx hb dX9_beside_42 ?_
        refine lv_goto (tgt := 48) hx hb dX9_beside_43 (by decide) ?_
        cases Option.some.inj hf
        exact W.iret hx hb hr (fun t ht hW => ⟨⟨_, (), rfl, rfl, by show va_P D vwCl _ t.heap; rw [ht]; exact hP⟩, hS.F ht⟩) hS.2.2 dX9_beside_48
    · replace hf := if_f c0 hf
      by_cases c1 : p1 = 1
      · replace hf := if_t c1 hf
        refine lv_tableIn (off := 40) (tgt := 49) hx hb dX9_beside_9 (by rw [c1]; decide) (by rw [c1]; decide) (by rw [c1]; decide) (by decide) ?_
        refine lv_iload_n hx hb dX9_beside_49 rfl (lv_at hl 1 rfl) ?_
        refine lv_iconst (v := 4) hx hb dX9_beside_50 (by decide) ?_
        refine lv_icmp_ge (tgt := 60) hx hb dX9_beside_51 (by decide) (fun cc => ?_) (fun cc => ?_)
        · replace hf := if_t cc hf
          refine lv_bipush (v := (-6)) hx hb dX9_beside_60 (by decide) ?_
          cases Option.some.inj hf
          exact W.iret hx hb hr (fun t ht hW => ⟨⟨_, (), rfl, rfl, by show va_P D vwCl _ t.heap; rw [ht]; exact hP⟩, hS.F ht⟩) hS.2.2 dX9_beside_62
        · replace hf := if_f cc hf
          refine lv_iload_n hx hb dX9_beside_54 rfl (lv_at hl 2 rfl) ?_
          refine lv_iconst (v := 1) hx hb dX9_beside_55 (by decide) ?_
          refine lv_iadd hx hb dX9_beside_56 ?_
          refine lv_goto (tgt := 62) hx hb dX9_beside_57 (by decide) ?_
          cases Option.some.inj hf
          exact W.iret hx hb hr (fun t ht hW => ⟨⟨_, (), rfl, rfl, by show va_P D vwCl _ t.heap; rw [ht]; exact hP⟩, hS.F ht⟩) hS.2.2 dX9_beside_62
      · replace hf := if_f c1 hf
        by_cases c2 : p1 = 2
        · replace hf := if_t c2 hf
          refine lv_tableIn (off := 54) (tgt := 63) hx hb dX9_beside_9 (by rw [c2]; decide) (by rw [c2]; decide) (by rw [c2]; decide) (by decide) ?_
          refine lv_iload_n hx hb dX9_beside_63 rfl (lv_at hl 0 rfl) ?_
          refine lv_iconst (v := 4) hx hb dX9_beside_64 (by decide) ?_
          refine lv_icmp_ge (tgt := 74) hx hb dX9_beside_65 (by decide) (fun cc => ?_) (fun cc => ?_)
          · replace hf := if_t cc hf
            refine lv_bipush (v := (-6)) hx hb dX9_beside_74 (by decide) ?_
            cases Option.some.inj hf
            exact W.iret hx hb hr (fun t ht hW => ⟨⟨_, (), rfl, rfl, by show va_P D vwCl _ t.heap; rw [ht]; exact hP⟩, hS.F ht⟩) hS.2.2 dX9_beside_76
          · replace hf := if_f cc hf
            refine lv_iload_n hx hb dX9_beside_68 rfl (lv_at hl 2 rfl) ?_
            refine lv_iconst (v := 5) hx hb dX9_beside_69 (by decide) ?_
            refine lv_iadd hx hb dX9_beside_70 ?_
            refine lv_goto (tgt := 76) hx hb dX9_beside_71 (by decide) ?_
            cases Option.some.inj hf
            exact W.iret hx hb hr (fun t ht hW => ⟨⟨_, (), rfl, rfl, by show va_P D vwCl _ t.heap; rw [ht]; exact hP⟩, hS.F ht⟩) hS.2.2 dX9_beside_76
        · replace hf := if_f c2 hf
          refine lv_tableOut (tgt := 77) hx hb dX9_beside_9 (by have z0 := lv_neT c0 (show (0 : Int32).toInt = 0 by decide); have z1 := lv_neT c1 (show (1 : Int32).toInt = 1 by decide); have z2 := lv_neT c2 (show (2 : Int32).toInt = 2 by decide); omega) (by decide) ?_
          refine lv_iload_n hx hb dX9_beside_77 rfl (lv_at hl 1 rfl) ?_
          refine lv_if_le (tgt := 87) hx hb dX9_beside_78 (by decide) (fun cc => ?_) (fun cc => ?_)
          · replace hf := if_t cc hf
            refine lv_bipush (v := (-6)) hx hb dX9_beside_87 (by decide) ?_
            cases Option.some.inj hf
            exact W.iret hx hb hr (fun t ht hW => ⟨⟨_, (), rfl, rfl, by show va_P D vwCl _ t.heap; rw [ht]; exact hP⟩, hS.F ht⟩) hS.2.2 dX9_beside_89
          · replace hf := if_f cc hf
            refine lv_iload_n hx hb dX9_beside_81 rfl (lv_at hl 2 rfl) ?_
            refine lv_iconst (v := 1) hx hb dX9_beside_82 (by decide) ?_
            refine lv_isub hx hb dX9_beside_83 ?_
            refine lv_goto (tgt := 89) hx hb dX9_beside_84 (by decide) ?_
            cases Option.some.inj hf
            exact W.iret hx hb hr (fun t ht hW => ⟨⟨_, (), rfl, rfl, by show va_P D vwCl _ t.heap; rw [ht]; exact hP⟩, hS.F ht⟩) hS.2.2 dX9_beside_89
  have hl := lv_entry ([.int p0, .int p1]) (n := 4) (Nat.le_of_ble_eq_true rfl)
  rw [lg_entry_eq]
  exact main s.heap [] _ hP hD hS hl
theorem hd_X9_land : yX9_land.cls = RX9 ∧ yX9_land.cls ≠ "java/lang/invoke/MethodHandle" ∧ yX9_land.cls ≠ "java/lang/invoke/VarHandle" ∧ (parseMethodDescriptor yX9_land.desc).map (fun d => d.parameters.length) = some 2 := by decide +kernel
set_option maxHeartbeats 4000000 in
set_option maxRecDepth 100000 in
theorem c_X9_land (l : Launch) (D : va_G) (cyI cyJ cyZ cyO : ClassId) (h : Nat → Nat) (sz : Nat) (book : Nat → Int32) (now : Nat → Int32) (sights : Int32) (sight : Nat → Int32) (signs : Int32) (pad : Nat → Int32) (nights : Int32) (townAt : Int32) (townCell : Int32) (reason : Int32) (acts : Int32) (at_ : Int32) (cost : Nat → Int32) (hole : Nat → Int32) (counts : Nat → Int32) (worth : Nat → Int32) (met : Nat → Int32) (ways : Nat → Int64) (nextWays : Nat → Int64) (image : Nat → Int32) (isKept : Nat → Int32) (p1 : Int32) (p2 : Int32) (nf : Nat) (q : Int32 × (Nat → Int32)) (hf : g_X9_land nf p1 p2 book = some q) : Met l yX9_land (Cond.code yX9_land cX9_land 4 (some .int) :: tbG) ({ frames := 2, cells := 0, slots := 0, locals := 42 } : Room) (va_Pc [.ref (h 0), .int p1, .int p2] (pcB D (ty4 cyI cyJ cyZ cyO) sz (wX9 cyI cyJ cyZ cyO h book now sights sight signs pad nights townAt townCell reason acts at_ cost hole counts worth met ways nextWays image isKept))) (qI D (wX9 cyI cyJ cyZ cyO h q.2 now sights sight signs pad nights townAt townCell reason acts at_ cost hole counts worth met ways nextWays image isKept) q.1 (va_A (wX9 cyI cyJ cyZ cyO h book now sights sight signs pad nights townAt townCell reason acts at_ cost hole counts worth met ways nextWays image isKept) sz)) 0 0 (va_A (wX9 cyI cyJ cyZ cyO h book now sights sight signs pad nights townAt townCell reason acts at_ cost hole counts worth met ways nextWays image isKept) sz) := by
  refine Met.ofW (cc := cX9_land) (maxL := 4) (ret := (some .int)) (by decide) rfl ?_
  intro p e s m args below meth c s₁ B hml hv
  obtain ⟨rfl, hsz, hP, hK, hD0, hN⟩ := hv
  have hx := B.exec
  have hb := B.bytes
  have hr := B.returns
  have hT : ∀ w ∈ tbG, w.before ([.ref (h 0), .int p1, .int p2] : List Value).toArray s = true := fun w h => atoms_spec (ws := (Cond.code yX9_land cX9_land 4 (some .int) :: tbG)) B.pre w (List.mem_cons_of_mem _ h)
  have hown : s.vm.findClass RX9 = some m.cls := findClass_of_methodNamed B.named
  have hlocks := B.notSynchronized
  subst hsz
  have hD := hD0.self (sz := s.heap.size)
  generalize hAe : va_A (wX9 cyI cyJ cyZ cyO h book now sights sight signs pad nights townAt townCell reason acts at_ cost hole counts worth met ways nextWays image isKept) s.heap.size = A at hD ⊢
  have hA : ∀ q : Nat, s.heap.size ≤ q → A q := fun q h => by rw [← hAe]; exact Or.inr h
  have hS : va_S A s.heap s.heap [] := va_S.rf
  show W p l e ({ frames := 2, cells := 0, slots := 0, locals := 42 } : Room) s m ([.ref (h 0), .int p1, .int p2] : List Value).toArray below meth c s.heap [] 0 0 (MQ below (qI D (wX9 cyI cyJ cyZ cyO h q.2 now sights sight signs pad nights townAt townCell reason acts at_ cost hole counts worth met ways nextWays image isKept) q.1 A) ([.ref (h 0), .int p1, .int p2] : List Value).toArray s 0 0 A) _
  have main : ∀ (H : Heap) (locs : List Loc) (ls : Array Slot), va_P D vwCl (wX9 cyI cyJ cyZ cyO h book now sights sight signs pad nights townAt townCell reason acts at_ cost hole counts worth met ways nextWays image isKept) H → va_D A (wX9 cyI cyJ cyZ cyO h book now sights sight signs pad nights townAt townCell reason acts at_ cost hole counts worth met ways nextWays image isKept) → va_S A s.heap H locs → lv_has ls 4 [(0, .ref (h 0)), (1, .int p1), (2, .int p2)] → W p l e ({ frames := 2, cells := 0, slots := 0, locals := 42 } : Room) s m ([.ref (h 0), .int p1, .int p2] : List Value).toArray below meth c H locs 0 0 (MQ below (qI D (wX9 cyI cyJ cyZ cyO h q.2 now sights sight signs pad nights townAt townCell reason acts at_ cost hole counts worth met ways nextWays image isKept) q.1 A) ([.ref (h 0), .int p1, .int p2] : List Value).toArray s 0 0 A) (F0 m 0 ls []) := by
    intro H locs ls hP hD hS hl
    unfold g_X9_land at hf
    refine lv_iload_n hx hb dX9_land_0 rfl (lv_at hl 1 rfl) ?_
    obtain ⟨q1, hq1, hf⟩ := bd_some hf
    have hC : ([] : List Nat).map (fun i => (wX9 cyI cyJ cyZ cyO h book now sights sight signs pad nights townAt townCell reason acts at_ cost hole counts worth met ways nextWays image isKept)[i]?) = ([] : va_W).map some := rfl
    refine cl_i (rn_S (As := [.int p1]) (rest := []) hx hb hml hown hT hK hN hP hD [] hC rfl (c_X9_isCell l D cyI cyJ cyZ cyO H.size p1 nf q1 hq1) wm_X9_59 wt_X9_isCell wz_X9 wc_X9_isCell hd_X9_isCell ⟨rfl, rfl⟩ ⟨Nat.le_of_ble_eq_true rfl, Nat.le_of_ble_eq_true rfl⟩ rfl hl.1 rfl (Nat.le_of_ble_eq_true rfl) dX9_land_1 ⟨Nat.zero_le _, Nat.zero_le _⟩) hP hD hS hA [] hC [(false, 0), (false, 1), (false, 2), (false, 3), (false, 4), (false, 5), (false, 6), (false, 7), (false, 8), (false, 9), (false, 10), (false, 11), (false, 12), (false, 13)] (ws' := wX9 cyI cyJ cyZ cyO h book now sights sight signs pad nights townAt townCell reason acts at_ cost hole counts worth met ways nextWays image isKept) rfl rfl rfl (fun H locs hP hD hS => ?_)
    refine lv_if_ne (tgt := 9) hx hb dX9_land_4 (by decide) (fun cc => ?_) (fun cc => ?_)
    · replace hf := if_f cc hf
      refine lv_iload_n hx hb dX9_land_9 rfl (lv_at hl 2 rfl) ?_
      refine lv_iconst (v := 0) hx hb dX9_land_10 (by decide) ?_
      refine lv_iconst (v := 5) hx hb dX9_land_11 (by decide) ?_
      obtain ⟨q2, hq2, hf⟩ := bd_some hf
      have hC : ([] : List Nat).map (fun i => (wX9 cyI cyJ cyZ cyO h book now sights sight signs pad nights townAt townCell reason acts at_ cost hole counts worth met ways nextWays image isKept)[i]?) = ([] : va_W).map some := rfl
      refine cl_i (rn_S (As := [.int p2, .int 0, .int 5]) (rest := []) hx hb hml hown hT hK hN hP hD [] hC rfl (c_X9_in l D cyI cyJ cyZ cyO H.size p2 0 5 nf q2 hq2) wm_X9_51 wt_X9_in wz_X9 wc_X9_in hd_X9_in ⟨rfl, rfl⟩ ⟨Nat.le_of_ble_eq_true rfl, Nat.le_of_ble_eq_true rfl⟩ rfl hl.1 rfl (Nat.le_of_ble_eq_true rfl) dX9_land_12 ⟨Nat.zero_le _, Nat.zero_le _⟩) hP hD hS hA [] hC [(false, 0), (false, 1), (false, 2), (false, 3), (false, 4), (false, 5), (false, 6), (false, 7), (false, 8), (false, 9), (false, 10), (false, 11), (false, 12), (false, 13)] (ws' := wX9 cyI cyJ cyZ cyO h book now sights sight signs pad nights townAt townCell reason acts at_ cost hole counts worth met ways nextWays image isKept) rfl rfl rfl (fun H locs hP hD hS => ?_)
      refine lv_if_ne (tgt := 21) hx hb dX9_land_15 (by decide) (fun cc => ?_) (fun cc => ?_)
      · replace hf := if_f cc hf
        refine lv_aload_n hx hb dX9_land_21 rfl (lv_at hl 0 rfl) ?_
        refine va_get (ci := 9) (v := .ref (h 1)) (C := RX9) (T := TX9) (N := 21) hx hb hT hin_X9 hown hK hP 0 rfl rfl 0 (by decide) (hT _ wf_X9_7) (fun _ h9 => h9) rfl dX9_land_22 ?_
        refine lv_iload_n hx hb dX9_land_25 rfl (lv_at hl 1 rfl) ?_
        obtain ⟨hi, hf⟩ := ck_some hf
        refine va_iald hx hb hK hP 1 0 rfl rfl hi dX9_land_26 ?_
        refine lv_istore_n (lv' := [(3, .int (book p1.toNatClampNeg)), (0, .ref (h 0)), (1, .int p1), (2, .int p2)]) hx hb dX9_land_27 rfl hl (by decide) rfl (fun ls hl => ?_)
        refine lv_aload_n hx hb dX9_land_28 rfl (lv_at hl 1 rfl) ?_
        refine va_get (ci := 9) (v := .ref (h 1)) (C := RX9) (T := TX9) (N := 21) hx hb hT hin_X9 hown hK hP 0 rfl rfl 0 (by decide) (hT _ wf_X9_7) (fun _ h9 => h9) rfl dX9_land_29 ?_
        refine lv_iload_n hx hb dX9_land_32 rfl (lv_at hl 2 rfl) ?_
        refine lv_iload_n hx hb dX9_land_33 rfl (lv_at hl 3 rfl) ?_
        obtain ⟨hi, hf⟩ := ck_some hf
        refine va_iast hx hb hK hP hD hS 1 0 rfl rfl hi dX9_land_34 (fun H locs hP hD hS => ?_)
        have hP : va_P D vwCl (wX9 cyI cyJ cyZ cyO h (upd book p1.toNatClampNeg p2) now sights sight signs pad nights townAt townCell reason acts at_ cost hole counts worth met ways nextWays image isKept) H := hP
        have hD : va_D A (wX9 cyI cyJ cyZ cyO h (upd book p1.toNatClampNeg p2) now sights sight signs pad nights townAt townCell reason acts at_ cost hole counts worth met ways nextWays image isKept) := hD
        refine lv_iload_n hx hb dX9_land_35 rfl (lv_at hl 0 rfl) ?_
        cases Option.some.inj hf
        exact W.iret hx hb hr (fun t ht hW => ⟨⟨_, (), rfl, rfl, by show va_P D vwCl _ t.heap; rw [ht]; exact hP⟩, hS.F ht⟩) hS.2.2 dX9_land_36
      · replace hf := if_t cc hf
        refine lv_bipush (v := (-2)) hx hb dX9_land_18 (by decide) ?_
        cases Option.some.inj hf
        exact W.iret hx hb hr (fun t ht hW => ⟨⟨_, (), rfl, rfl, by show va_P D vwCl _ t.heap; rw [ht]; exact hP⟩, hS.F ht⟩) hS.2.2 dX9_land_20
    · replace hf := if_t cc hf
      refine lv_iconst (v := (-1)) hx hb dX9_land_7 (by decide) ?_
      cases Option.some.inj hf
      exact W.iret hx hb hr (fun t ht hW => ⟨⟨_, (), rfl, rfl, by show va_P D vwCl _ t.heap; rw [ht]; exact hP⟩, hS.F ht⟩) hS.2.2 dX9_land_8
  have hl := lv_entry ([.ref (h 0), .int p1, .int p2]) (n := 4) (Nat.le_of_ble_eq_true rfl)
  rw [lg_entry_eq]
  exact main s.heap [] _ hP hD hS hl
theorem hd_X9_camphor : yX9_camphor.cls = RX9 ∧ yX9_camphor.cls ≠ "java/lang/invoke/MethodHandle" ∧ yX9_camphor.cls ≠ "java/lang/invoke/VarHandle" ∧ (parseMethodDescriptor yX9_camphor.desc).map (fun d => d.parameters.length) = some 2 := by decide +kernel
set_option maxHeartbeats 4000000 in
set_option maxRecDepth 100000 in
theorem c_X9_camphor (l : Launch) (D : va_G) (cyI cyJ cyZ cyO : ClassId) (h : Nat → Nat) (sz : Nat) (book : Nat → Int32) (now : Nat → Int32) (sights : Int32) (sight : Nat → Int32) (signs : Int32) (pad : Nat → Int32) (nights : Int32) (townAt : Int32) (townCell : Int32) (reason : Int32) (acts : Int32) (at_ : Int32) (cost : Nat → Int32) (hole : Nat → Int32) (counts : Nat → Int32) (worth : Nat → Int32) (met : Nat → Int32) (ways : Nat → Int64) (nextWays : Nat → Int64) (image : Nat → Int32) (isKept : Nat → Int32) (p1 : Int32) (p2 : Int32) (nf : Nat) (q : Int32 × (Nat → Int32)) (hf : g_X9_camphor nf p1 p2 book = some q) : Met l yX9_camphor (Cond.code yX9_camphor cX9_camphor 4 (some .int) :: tbG) ({ frames := 2, cells := 0, slots := 0, locals := 42 } : Room) (va_Pc [.ref (h 0), .int p1, .int p2] (pcB D (ty4 cyI cyJ cyZ cyO) sz (wX9 cyI cyJ cyZ cyO h book now sights sight signs pad nights townAt townCell reason acts at_ cost hole counts worth met ways nextWays image isKept))) (qI D (wX9 cyI cyJ cyZ cyO h q.2 now sights sight signs pad nights townAt townCell reason acts at_ cost hole counts worth met ways nextWays image isKept) q.1 (va_A (wX9 cyI cyJ cyZ cyO h book now sights sight signs pad nights townAt townCell reason acts at_ cost hole counts worth met ways nextWays image isKept) sz)) 0 0 (va_A (wX9 cyI cyJ cyZ cyO h book now sights sight signs pad nights townAt townCell reason acts at_ cost hole counts worth met ways nextWays image isKept) sz) := by
  refine Met.ofW (cc := cX9_camphor) (maxL := 4) (ret := (some .int)) (by decide) rfl ?_
  intro p e s m args below meth c s₁ B hml hv
  obtain ⟨rfl, hsz, hP, hK, hD0, hN⟩ := hv
  have hx := B.exec
  have hb := B.bytes
  have hr := B.returns
  have hT : ∀ w ∈ tbG, w.before ([.ref (h 0), .int p1, .int p2] : List Value).toArray s = true := fun w h => atoms_spec (ws := (Cond.code yX9_camphor cX9_camphor 4 (some .int) :: tbG)) B.pre w (List.mem_cons_of_mem _ h)
  have hown : s.vm.findClass RX9 = some m.cls := findClass_of_methodNamed B.named
  have hlocks := B.notSynchronized
  subst hsz
  have hD := hD0.self (sz := s.heap.size)
  generalize hAe : va_A (wX9 cyI cyJ cyZ cyO h book now sights sight signs pad nights townAt townCell reason acts at_ cost hole counts worth met ways nextWays image isKept) s.heap.size = A at hD ⊢
  have hA : ∀ q : Nat, s.heap.size ≤ q → A q := fun q h => by rw [← hAe]; exact Or.inr h
  have hS : va_S A s.heap s.heap [] := va_S.rf
  show W p l e ({ frames := 2, cells := 0, slots := 0, locals := 42 } : Room) s m ([.ref (h 0), .int p1, .int p2] : List Value).toArray below meth c s.heap [] 0 0 (MQ below (qI D (wX9 cyI cyJ cyZ cyO h q.2 now sights sight signs pad nights townAt townCell reason acts at_ cost hole counts worth met ways nextWays image isKept) q.1 A) ([.ref (h 0), .int p1, .int p2] : List Value).toArray s 0 0 A) _
  have main : ∀ (H : Heap) (locs : List Loc) (ls : Array Slot), va_P D vwCl (wX9 cyI cyJ cyZ cyO h book now sights sight signs pad nights townAt townCell reason acts at_ cost hole counts worth met ways nextWays image isKept) H → va_D A (wX9 cyI cyJ cyZ cyO h book now sights sight signs pad nights townAt townCell reason acts at_ cost hole counts worth met ways nextWays image isKept) → va_S A s.heap H locs → lv_has ls 4 [(0, .ref (h 0)), (1, .int p1), (2, .int p2)] → W p l e ({ frames := 2, cells := 0, slots := 0, locals := 42 } : Room) s m ([.ref (h 0), .int p1, .int p2] : List Value).toArray below meth c H locs 0 0 (MQ below (qI D (wX9 cyI cyJ cyZ cyO h q.2 now sights sight signs pad nights townAt townCell reason acts at_ cost hole counts worth met ways nextWays image isKept) q.1 A) ([.ref (h 0), .int p1, .int p2] : List Value).toArray s 0 0 A) (F0 m 0 ls []) := by
    intro H locs ls hP hD hS hl
    unfold g_X9_camphor at hf
    refine lv_iload_n hx hb dX9_camphor_0 rfl (lv_at hl 1 rfl) ?_
    obtain ⟨q1, hq1, hf⟩ := bd_some hf
    have hC : ([] : List Nat).map (fun i => (wX9 cyI cyJ cyZ cyO h book now sights sight signs pad nights townAt townCell reason acts at_ cost hole counts worth met ways nextWays image isKept)[i]?) = ([] : va_W).map some := rfl
    refine cl_i (rn_S (As := [.int p1]) (rest := []) hx hb hml hown hT hK hN hP hD [] hC rfl (c_X9_isCell l D cyI cyJ cyZ cyO H.size p1 nf q1 hq1) wm_X9_59 wt_X9_isCell wz_X9 wc_X9_isCell hd_X9_isCell ⟨rfl, rfl⟩ ⟨Nat.le_of_ble_eq_true rfl, Nat.le_of_ble_eq_true rfl⟩ rfl hl.1 rfl (Nat.le_of_ble_eq_true rfl) dX9_camphor_1 ⟨Nat.zero_le _, Nat.zero_le _⟩) hP hD hS hA [] hC [(false, 0), (false, 1), (false, 2), (false, 3), (false, 4), (false, 5), (false, 6), (false, 7), (false, 8), (false, 9), (false, 10), (false, 11), (false, 12), (false, 13)] (ws' := wX9 cyI cyJ cyZ cyO h book now sights sight signs pad nights townAt townCell reason acts at_ cost hole counts worth met ways nextWays image isKept) rfl rfl rfl (fun H locs hP hD hS => ?_)
    refine lv_if_ne (tgt := 9) hx hb dX9_camphor_4 (by decide) (fun cc => ?_) (fun cc => ?_)
    · replace hf := if_f cc hf
      refine lv_iload_n hx hb dX9_camphor_9 rfl (lv_at hl 2 rfl) ?_
      refine lv_iconst (v := 0) hx hb dX9_camphor_10 (by decide) ?_
      refine lv_bipush (v := 9) hx hb dX9_camphor_11 (by decide) ?_
      obtain ⟨q2, hq2, hf⟩ := bd_some hf
      have hC : ([] : List Nat).map (fun i => (wX9 cyI cyJ cyZ cyO h book now sights sight signs pad nights townAt townCell reason acts at_ cost hole counts worth met ways nextWays image isKept)[i]?) = ([] : va_W).map some := rfl
      refine cl_i (rn_S (As := [.int p2, .int 0, .int 9]) (rest := []) hx hb hml hown hT hK hN hP hD [] hC rfl (c_X9_in l D cyI cyJ cyZ cyO H.size p2 0 9 nf q2 hq2) wm_X9_51 wt_X9_in wz_X9 wc_X9_in hd_X9_in ⟨rfl, rfl⟩ ⟨Nat.le_of_ble_eq_true rfl, Nat.le_of_ble_eq_true rfl⟩ rfl hl.1 rfl (Nat.le_of_ble_eq_true rfl) dX9_camphor_13 ⟨Nat.zero_le _, Nat.zero_le _⟩) hP hD hS hA [] hC [(false, 0), (false, 1), (false, 2), (false, 3), (false, 4), (false, 5), (false, 6), (false, 7), (false, 8), (false, 9), (false, 10), (false, 11), (false, 12), (false, 13)] (ws' := wX9 cyI cyJ cyZ cyO h book now sights sight signs pad nights townAt townCell reason acts at_ cost hole counts worth met ways nextWays image isKept) rfl rfl rfl (fun H locs hP hD hS => ?_)
      refine lv_if_ne (tgt := 22) hx hb dX9_camphor_16 (by decide) (fun cc => ?_) (fun cc => ?_)
      · replace hf := if_f cc hf
        refine lv_aload_n hx hb dX9_camphor_22 rfl (lv_at hl 0 rfl) ?_
        refine va_get (ci := 9) (v := .ref (h 1)) (C := RX9) (T := TX9) (N := 21) hx hb hT hin_X9 hown hK hP 0 rfl rfl 0 (by decide) (hT _ wf_X9_7) (fun _ h9 => h9) rfl dX9_camphor_23 ?_
        refine lv_bipush (v := 25) hx hb dX9_camphor_26 (by decide) ?_
        refine lv_iload_n hx hb dX9_camphor_28 rfl (lv_at hl 1 rfl) ?_
        refine lv_iadd hx hb dX9_camphor_29 ?_
        obtain ⟨hi, hf⟩ := ck_some hf
        refine va_iald hx hb hK hP 1 0 rfl rfl hi dX9_camphor_30 ?_
        refine lv_istore_n (lv' := [(3, .int (book (25 + p1).toNatClampNeg)), (0, .ref (h 0)), (1, .int p1), (2, .int p2)]) hx hb dX9_camphor_31 rfl hl (by decide) rfl (fun ls hl => ?_)
        refine lv_aload_n hx hb dX9_camphor_32 rfl (lv_at hl 1 rfl) ?_
        refine va_get (ci := 9) (v := .ref (h 1)) (C := RX9) (T := TX9) (N := 21) hx hb hT hin_X9 hown hK hP 0 rfl rfl 0 (by decide) (hT _ wf_X9_7) (fun _ h9 => h9) rfl dX9_camphor_33 ?_
        refine lv_bipush (v := 25) hx hb dX9_camphor_36 (by decide) ?_
        refine lv_iload_n hx hb dX9_camphor_38 rfl (lv_at hl 2 rfl) ?_
        refine lv_iadd hx hb dX9_camphor_39 ?_
        refine lv_iload_n hx hb dX9_camphor_40 rfl (lv_at hl 3 rfl) ?_
        obtain ⟨hi, hf⟩ := ck_some hf
        refine va_iast hx hb hK hP hD hS 1 0 rfl rfl hi dX9_camphor_41 (fun H locs hP hD hS => ?_)
        have hP : va_P D vwCl (wX9 cyI cyJ cyZ cyO h (upd book (25 + p1).toNatClampNeg p2) now sights sight signs pad nights townAt townCell reason acts at_ cost hole counts worth met ways nextWays image isKept) H := hP
        have hD : va_D A (wX9 cyI cyJ cyZ cyO h (upd book (25 + p1).toNatClampNeg p2) now sights sight signs pad nights townAt townCell reason acts at_ cost hole counts worth met ways nextWays image isKept) := hD
        refine lv_iload_n hx hb dX9_camphor_42 rfl (lv_at hl 0 rfl) ?_
        cases Option.some.inj hf
        exact W.iret hx hb hr (fun t ht hW => ⟨⟨_, (), rfl, rfl, by show va_P D vwCl _ t.heap; rw [ht]; exact hP⟩, hS.F ht⟩) hS.2.2 dX9_camphor_43
      · replace hf := if_t cc hf
        refine lv_bipush (v := (-2)) hx hb dX9_camphor_19 (by decide) ?_
        cases Option.some.inj hf
        exact W.iret hx hb hr (fun t ht hW => ⟨⟨_, (), rfl, rfl, by show va_P D vwCl _ t.heap; rw [ht]; exact hP⟩, hS.F ht⟩) hS.2.2 dX9_camphor_21
    · replace hf := if_t cc hf
      refine lv_iconst (v := (-1)) hx hb dX9_camphor_7 (by decide) ?_
      cases Option.some.inj hf
      exact W.iret hx hb hr (fun t ht hW => ⟨⟨_, (), rfl, rfl, by show va_P D vwCl _ t.heap; rw [ht]; exact hP⟩, hS.F ht⟩) hS.2.2 dX9_camphor_8
  have hl := lv_entry ([.ref (h 0), .int p1, .int p2]) (n := 4) (Nat.le_of_ble_eq_true rfl)
  rw [lg_entry_eq]
  exact main s.heap [] _ hP hD hS hl
theorem hd_X9_moth : yX9_moth.cls = RX9 ∧ yX9_moth.cls ≠ "java/lang/invoke/MethodHandle" ∧ yX9_moth.cls ≠ "java/lang/invoke/VarHandle" ∧ (parseMethodDescriptor yX9_moth.desc).map (fun d => d.parameters.length) = some 3 := by decide +kernel
set_option maxHeartbeats 4000000 in
set_option maxRecDepth 100000 in
theorem c_X9_moth (l : Launch) (D : va_G) (cyI cyJ cyZ cyO : ClassId) (h : Nat → Nat) (sz : Nat) (book : Nat → Int32) (now : Nat → Int32) (sights : Int32) (sight : Nat → Int32) (signs : Int32) (pad : Nat → Int32) (nights : Int32) (townAt : Int32) (townCell : Int32) (reason : Int32) (acts : Int32) (at_ : Int32) (cost : Nat → Int32) (hole : Nat → Int32) (counts : Nat → Int32) (worth : Nat → Int32) (met : Nat → Int32) (ways : Nat → Int64) (nextWays : Nat → Int64) (image : Nat → Int32) (isKept : Nat → Int32) (p1 : Int32) (p2 : Int32) (p3 : Int32) (nf : Nat) (q : Int32 × (Nat → Int32)) (hf : g_X9_moth nf p1 p2 p3 book = some q) : Met l yX9_moth (Cond.code yX9_moth cX9_moth 6 (some .int) :: tbG) ({ frames := 2, cells := 0, slots := 0, locals := 42 } : Room) (va_Pc [.ref (h 0), .int p1, .int p2, .int p3] (pcB D (ty4 cyI cyJ cyZ cyO) sz (wX9 cyI cyJ cyZ cyO h book now sights sight signs pad nights townAt townCell reason acts at_ cost hole counts worth met ways nextWays image isKept))) (qI D (wX9 cyI cyJ cyZ cyO h q.2 now sights sight signs pad nights townAt townCell reason acts at_ cost hole counts worth met ways nextWays image isKept) q.1 (va_A (wX9 cyI cyJ cyZ cyO h book now sights sight signs pad nights townAt townCell reason acts at_ cost hole counts worth met ways nextWays image isKept) sz)) 0 0 (va_A (wX9 cyI cyJ cyZ cyO h book now sights sight signs pad nights townAt townCell reason acts at_ cost hole counts worth met ways nextWays image isKept) sz) := by
  refine Met.ofW (cc := cX9_moth) (maxL := 6) (ret := (some .int)) (by decide) rfl ?_
  intro p e s m args below meth c s₁ B hml hv
  obtain ⟨rfl, hsz, hP, hK, hD0, hN⟩ := hv
  have hx := B.exec
  have hb := B.bytes
  have hr := B.returns
  have hT : ∀ w ∈ tbG, w.before ([.ref (h 0), .int p1, .int p2, .int p3] : List Value).toArray s = true := fun w h => atoms_spec (ws := (Cond.code yX9_moth cX9_moth 6 (some .int) :: tbG)) B.pre w (List.mem_cons_of_mem _ h)
  have hown : s.vm.findClass RX9 = some m.cls := findClass_of_methodNamed B.named
  have hlocks := B.notSynchronized
  subst hsz
  have hD := hD0.self (sz := s.heap.size)
  generalize hAe : va_A (wX9 cyI cyJ cyZ cyO h book now sights sight signs pad nights townAt townCell reason acts at_ cost hole counts worth met ways nextWays image isKept) s.heap.size = A at hD ⊢
  have hA : ∀ q : Nat, s.heap.size ≤ q → A q := fun q h => by rw [← hAe]; exact Or.inr h
  have hS : va_S A s.heap s.heap [] := va_S.rf
  show W p l e ({ frames := 2, cells := 0, slots := 0, locals := 42 } : Room) s m ([.ref (h 0), .int p1, .int p2, .int p3] : List Value).toArray below meth c s.heap [] 0 0 (MQ below (qI D (wX9 cyI cyJ cyZ cyO h q.2 now sights sight signs pad nights townAt townCell reason acts at_ cost hole counts worth met ways nextWays image isKept) q.1 A) ([.ref (h 0), .int p1, .int p2, .int p3] : List Value).toArray s 0 0 A) _
  have l69 : ∀ (n69 : Nat) (x4 : Int32) (x5 : Int32) (book : Nat → Int32) (H : Heap) (locs : List Loc) (ls : Array Slot), va_P D vwCl (wX9 cyI cyJ cyZ cyO h book now sights sight signs pad nights townAt townCell reason acts at_ cost hole counts worth met ways nextWays image isKept) H → va_D A (wX9 cyI cyJ cyZ cyO h book now sights sight signs pad nights townAt townCell reason acts at_ cost hole counts worth met ways nextWays image isKept) → va_S A s.heap H locs → lv_has ls 6 [(0, .ref (h 0)), (4, .int x4), (5, .int x5)] → g_X9_moth_l69 nf n69 x4 x5 book = some q → W p l e ({ frames := 2, cells := 0, slots := 0, locals := 42 } : Room) s m ([.ref (h 0), .int p1, .int p2, .int p3] : List Value).toArray below meth c H locs 0 0 (MQ below (qI D (wX9 cyI cyJ cyZ cyO h q.2 now sights sight signs pad nights townAt townCell reason acts at_ cost hole counts worth met ways nextWays image isKept) q.1 A) ([.ref (h 0), .int p1, .int p2, .int p3] : List Value).toArray s 0 0 A) (F0 m 69 ls []) := by
    intro n69
    induction n69 with
    | zero =>
      intro x4 x5 book H locs ls hP hD hS hl hf
      rw [g_X9_moth_l69] at hf
      cases hf
    | succ n69 ih69 =>
      intro x4 x5 book H locs ls hP hD hS hl hf
      rw [g_X9_moth_l69] at hf
      refine lv_iload hx hb dX9_moth_69 (lv_at hl 2 rfl) ?_
      refine lv_iconst (v := 4) hx hb dX9_moth_71 (by decide) ?_
      refine lv_icmp_ge (tgt := 98) hx hb dX9_moth_72 (by decide) (fun cc => ?_) (fun cc => ?_)
      · replace hf := if_t cc hf
        refine lv_iload hx hb dX9_moth_98 (lv_at hl 1 rfl) ?_
        cases Option.some.inj hf
        exact W.iret hx hb hr (fun t ht hW => ⟨⟨_, (), rfl, rfl, by show va_P D vwCl _ t.heap; rw [ht]; exact hP⟩, hS.F ht⟩) hS.2.2 dX9_moth_100
      · replace hf := if_f cc hf
        refine lv_iload hx hb dX9_moth_75 (lv_at hl 1 rfl) ?_
        refine lv_aload_n hx hb dX9_moth_77 rfl (lv_at hl 0 rfl) ?_
        refine va_get (ci := 9) (v := .ref (h 1)) (C := RX9) (T := TX9) (N := 21) hx hb hT hin_X9 hown hK hP 0 rfl rfl 0 (by decide) (hT _ wf_X9_7) (fun _ h9 => h9) rfl dX9_moth_78 ?_
        refine lv_bipush (v := 61) hx hb dX9_moth_81 (by decide) ?_
        obtain ⟨hi, hf⟩ := ck_some hf
        refine va_iald hx hb hK hP 1 0 rfl rfl hi dX9_moth_83 ?_
        refine lv_iload hx hb dX9_moth_84 (lv_at hl 2 rfl) ?_
        refine lv_ishr hx hb dX9_moth_86 ?_
        refine lv_iconst (v := 1) hx hb dX9_moth_87 (by decide) ?_
        refine lv_iand hx hb dX9_moth_88 ?_
        refine lv_iadd hx hb dX9_moth_89 ?_
        refine lv_istore (lv' := [(4, .int (x4 + (((book (61 : Int32).toNatClampNeg) >>> (x5 &&& 31)) &&& (1 : Int32)))), (0, .ref (h 0)), (5, .int x5)]) hx hb dX9_moth_90 hl (by decide) rfl (fun ls hl => ?_)
        refine lv_iinc (v := (x5 + 1)) (lv' := [(5, .int (x5 + 1)), (4, .int (x4 + (((book (61 : Int32).toNatClampNeg) >>> (x5 &&& 31)) &&& (1 : Int32)))), (0, .ref (h 0))]) hx hb dX9_moth_92 hl (k := 2) rfl rfl (by decide) rfl (fun ls hl => ?_)
        refine lv_goto (tgt := 69) hx hb dX9_moth_95 (by decide) ?_
        exact ih69 (x4 + (((book (61 : Int32).toNatClampNeg) >>> (x5 &&& 31)) &&& (1 : Int32))) (x5 + 1) book H locs ls hP hD hS (lv_sub hl [2, 1, 0] rfl) hf
  have main : ∀ (H : Heap) (locs : List Loc) (ls : Array Slot), va_P D vwCl (wX9 cyI cyJ cyZ cyO h book now sights sight signs pad nights townAt townCell reason acts at_ cost hole counts worth met ways nextWays image isKept) H → va_D A (wX9 cyI cyJ cyZ cyO h book now sights sight signs pad nights townAt townCell reason acts at_ cost hole counts worth met ways nextWays image isKept) → va_S A s.heap H locs → lv_has ls 6 [(0, .ref (h 0)), (1, .int p1), (2, .int p2), (3, .int p3)] → W p l e ({ frames := 2, cells := 0, slots := 0, locals := 42 } : Room) s m ([.ref (h 0), .int p1, .int p2, .int p3] : List Value).toArray below meth c H locs 0 0 (MQ below (qI D (wX9 cyI cyJ cyZ cyO h q.2 now sights sight signs pad nights townAt townCell reason acts at_ cost hole counts worth met ways nextWays image isKept) q.1 A) ([.ref (h 0), .int p1, .int p2, .int p3] : List Value).toArray s 0 0 A) (F0 m 0 ls []) := by
    intro H locs ls hP hD hS hl
    unfold g_X9_moth at hf
    refine lv_iload_n hx hb dX9_moth_0 rfl (lv_at hl 1 rfl) ?_
    refine lv_iconst (v := 0) hx hb dX9_moth_1 (by decide) ?_
    refine lv_iconst (v := 3) hx hb dX9_moth_2 (by decide) ?_
    obtain ⟨q1, hq1, hf⟩ := bd_some hf
    have hC : ([] : List Nat).map (fun i => (wX9 cyI cyJ cyZ cyO h book now sights sight signs pad nights townAt townCell reason acts at_ cost hole counts worth met ways nextWays image isKept)[i]?) = ([] : va_W).map some := rfl
    refine cl_i (rn_S (As := [.int p1, .int 0, .int 3]) (rest := []) hx hb hml hown hT hK hN hP hD [] hC rfl (c_X9_in l D cyI cyJ cyZ cyO H.size p1 0 3 nf q1 hq1) wm_X9_51 wt_X9_in wz_X9 wc_X9_in hd_X9_in ⟨rfl, rfl⟩ ⟨Nat.le_of_ble_eq_true rfl, Nat.le_of_ble_eq_true rfl⟩ rfl hl.1 rfl (Nat.le_of_ble_eq_true rfl) dX9_moth_3 ⟨Nat.zero_le _, Nat.zero_le _⟩) hP hD hS hA [] hC [(false, 0), (false, 1), (false, 2), (false, 3), (false, 4), (false, 5), (false, 6), (false, 7), (false, 8), (false, 9), (false, 10), (false, 11), (false, 12), (false, 13)] (ws' := wX9 cyI cyJ cyZ cyO h book now sights sight signs pad nights townAt townCell reason acts at_ cost hole counts worth met ways nextWays image isKept) rfl rfl rfl (fun H locs hP hD hS => ?_)
    refine lv_if_eq (tgt := 16) hx hb dX9_moth_6 (by decide) (fun cc => ?_) (fun cc => ?_)
    · replace hf := if_t cc hf
      refine lv_iconst (v := (-1)) hx hb dX9_moth_16 (by decide) ?_
      cases Option.some.inj hf
      exact W.iret hx hb hr (fun t ht hW => ⟨⟨_, (), rfl, rfl, by show va_P D vwCl _ t.heap; rw [ht]; exact hP⟩, hS.F ht⟩) hS.2.2 dX9_moth_17
    · replace hf := if_f cc hf
      refine lv_iload_n hx hb dX9_moth_9 rfl (lv_at hl 2 rfl) ?_
      obtain ⟨q2, hq2, hf⟩ := bd_some hf
      have hC : ([] : List Nat).map (fun i => (wX9 cyI cyJ cyZ cyO h book now sights sight signs pad nights townAt townCell reason acts at_ cost hole counts worth met ways nextWays image isKept)[i]?) = ([] : va_W).map some := rfl
      refine cl_i (rn_S (As := [.int p2]) (rest := []) hx hb hml hown hT hK hN hP hD [] hC rfl (c_X9_isCell l D cyI cyJ cyZ cyO H.size p2 nf q2 hq2) wm_X9_59 wt_X9_isCell wz_X9 wc_X9_isCell hd_X9_isCell ⟨rfl, rfl⟩ ⟨Nat.le_of_ble_eq_true rfl, Nat.le_of_ble_eq_true rfl⟩ rfl hl.1 rfl (Nat.le_of_ble_eq_true rfl) dX9_moth_10 ⟨Nat.zero_le _, Nat.zero_le _⟩) hP hD hS hA [] hC [(false, 0), (false, 1), (false, 2), (false, 3), (false, 4), (false, 5), (false, 6), (false, 7), (false, 8), (false, 9), (false, 10), (false, 11), (false, 12), (false, 13)] (ws' := wX9 cyI cyJ cyZ cyO h book now sights sight signs pad nights townAt townCell reason acts at_ cost hole counts worth met ways nextWays image isKept) rfl rfl rfl (fun H locs hP hD hS => ?_)
      refine lv_if_ne (tgt := 18) hx hb dX9_moth_13 (by decide) (fun cc => ?_) (fun cc => ?_)
      · replace hf := if_f cc hf
        refine lv_iload_n hx hb dX9_moth_18 rfl (lv_at hl 3 rfl) ?_
        refine lv_iconst (v := 0) hx hb dX9_moth_19 (by decide) ?_
        refine lv_iconst (v := 3) hx hb dX9_moth_20 (by decide) ?_
        obtain ⟨q3, hq3, hf⟩ := bd_some hf
        have hC : ([] : List Nat).map (fun i => (wX9 cyI cyJ cyZ cyO h book now sights sight signs pad nights townAt townCell reason acts at_ cost hole counts worth met ways nextWays image isKept)[i]?) = ([] : va_W).map some := rfl
        refine cl_i (rn_S (As := [.int p3, .int 0, .int 3]) (rest := []) hx hb hml hown hT hK hN hP hD [] hC rfl (c_X9_in l D cyI cyJ cyZ cyO H.size p3 0 3 nf q3 hq3) wm_X9_51 wt_X9_in wz_X9 wc_X9_in hd_X9_in ⟨rfl, rfl⟩ ⟨Nat.le_of_ble_eq_true rfl, Nat.le_of_ble_eq_true rfl⟩ rfl hl.1 rfl (Nat.le_of_ble_eq_true rfl) dX9_moth_21 ⟨Nat.zero_le _, Nat.zero_le _⟩) hP hD hS hA [] hC [(false, 0), (false, 1), (false, 2), (false, 3), (false, 4), (false, 5), (false, 6), (false, 7), (false, 8), (false, 9), (false, 10), (false, 11), (false, 12), (false, 13)] (ws' := wX9 cyI cyJ cyZ cyO h book now sights sight signs pad nights townAt townCell reason acts at_ cost hole counts worth met ways nextWays image isKept) rfl rfl rfl (fun H locs hP hD hS => ?_)
        refine lv_if_ne (tgt := 30) hx hb dX9_moth_24 (by decide) (fun cc => ?_) (fun cc => ?_)
        · replace hf := if_f cc hf
          refine lv_aload_n hx hb dX9_moth_30 rfl (lv_at hl 0 rfl) ?_
          refine va_get (ci := 9) (v := .ref (h 1)) (C := RX9) (T := TX9) (N := 21) hx hb hT hin_X9 hown hK hP 0 rfl rfl 0 (by decide) (hT _ wf_X9_7) (fun _ h9 => h9) rfl dX9_moth_31 ?_
          refine lv_bipush (v := 50) hx hb dX9_moth_34 (by decide) ?_
          refine lv_iload_n hx hb dX9_moth_36 rfl (lv_at hl 1 rfl) ?_
          refine lv_iadd hx hb dX9_moth_37 ?_
          refine lv_iload_n hx hb dX9_moth_38 rfl (lv_at hl 2 rfl) ?_
          obtain ⟨hi, hf⟩ := ck_some hf
          refine va_iast hx hb hK hP hD hS 1 0 rfl rfl hi dX9_moth_39 (fun H locs hP hD hS => ?_)
          have hP : va_P D vwCl (wX9 cyI cyJ cyZ cyO h (upd book (50 + p1).toNatClampNeg p2) now sights sight signs pad nights townAt townCell reason acts at_ cost hole counts worth met ways nextWays image isKept) H := hP
          have hD : va_D A (wX9 cyI cyJ cyZ cyO h (upd book (50 + p1).toNatClampNeg p2) now sights sight signs pad nights townAt townCell reason acts at_ cost hole counts worth met ways nextWays image isKept) := hD
          refine lv_aload_n hx hb dX9_moth_40 rfl (lv_at hl 0 rfl) ?_
          refine va_get (ci := 9) (v := .ref (h 1)) (C := RX9) (T := TX9) (N := 21) hx hb hT hin_X9 hown hK hP 0 rfl rfl 0 (by decide) (hT _ wf_X9_7) (fun _ h9 => h9) rfl dX9_moth_41 ?_
          refine lv_bipush (v := 54) hx hb dX9_moth_44 (by decide) ?_
          refine lv_iload_n hx hb dX9_moth_46 rfl (lv_at hl 1 rfl) ?_
          refine lv_iadd hx hb dX9_moth_47 ?_
          refine lv_iload_n hx hb dX9_moth_48 rfl (lv_at hl 3 rfl) ?_
          obtain ⟨hi, hf⟩ := ck_some hf
          refine va_iast hx hb hK hP hD hS 1 0 rfl rfl hi dX9_moth_49 (fun H locs hP hD hS => ?_)
          have hP : va_P D vwCl (wX9 cyI cyJ cyZ cyO h (upd (upd book (50 + p1).toNatClampNeg p2) (54 + p1).toNatClampNeg p3) now sights sight signs pad nights townAt townCell reason acts at_ cost hole counts worth met ways nextWays image isKept) H := hP
          have hD : va_D A (wX9 cyI cyJ cyZ cyO h (upd (upd book (50 + p1).toNatClampNeg p2) (54 + p1).toNatClampNeg p3) now sights sight signs pad nights townAt townCell reason acts at_ cost hole counts worth met ways nextWays image isKept) := hD
          refine lv_aload_n hx hb dX9_moth_50 rfl (lv_at hl 0 rfl) ?_
          refine va_get (ci := 9) (v := .ref (h 1)) (C := RX9) (T := TX9) (N := 21) hx hb hT hin_X9 hown hK hP 0 rfl rfl 0 (by decide) (hT _ wf_X9_7) (fun _ h9 => h9) rfl dX9_moth_51 ?_
          refine lv_bipush (v := 61) hx hb dX9_moth_54 (by decide) ?_
          refine lv_dup2_11 hx hb dX9_moth_56 rfl rfl ?_
          obtain ⟨hi, hf⟩ := ck_some hf
          refine va_iald hx hb hK hP 1 0 rfl rfl hi dX9_moth_57 ?_
          refine lv_iconst (v := 1) hx hb dX9_moth_58 (by decide) ?_
          refine lv_iload_n hx hb dX9_moth_59 rfl (lv_at hl 1 rfl) ?_
          refine lv_ishl hx hb dX9_moth_60 ?_
          refine lv_ior hx hb dX9_moth_61 ?_
          obtain ⟨hi, hf⟩ := ck_some hf
          refine va_iast hx hb hK hP hD hS 1 0 rfl rfl hi dX9_moth_62 (fun H locs hP hD hS => ?_)
          have hP : va_P D vwCl (wX9 cyI cyJ cyZ cyO h (upd (upd (upd book (50 + p1).toNatClampNeg p2) (54 + p1).toNatClampNeg p3) (61 : Int32).toNatClampNeg (((upd (upd book (50 + p1).toNatClampNeg p2) (54 + p1).toNatClampNeg p3) (61 : Int32).toNatClampNeg) ||| ((1 : Int32) <<< (p1 &&& 31)))) now sights sight signs pad nights townAt townCell reason acts at_ cost hole counts worth met ways nextWays image isKept) H := hP
          have hD : va_D A (wX9 cyI cyJ cyZ cyO h (upd (upd (upd book (50 + p1).toNatClampNeg p2) (54 + p1).toNatClampNeg p3) (61 : Int32).toNatClampNeg (((upd (upd book (50 + p1).toNatClampNeg p2) (54 + p1).toNatClampNeg p3) (61 : Int32).toNatClampNeg) ||| ((1 : Int32) <<< (p1 &&& 31)))) now sights sight signs pad nights townAt townCell reason acts at_ cost hole counts worth met ways nextWays image isKept) := hD
          refine lv_iconst (v := 0) hx hb dX9_moth_63 (by decide) ?_
          refine lv_istore (lv' := [(4, .int 0), (0, .ref (h 0)), (1, .int p1), (2, .int p2), (3, .int p3)]) hx hb dX9_moth_64 hl (by decide) rfl (fun ls hl => ?_)
          refine lv_iconst (v := 0) hx hb dX9_moth_66 (by decide) ?_
          refine lv_istore (lv' := [(5, .int 0), (4, .int 0), (0, .ref (h 0)), (1, .int p1), (2, .int p2), (3, .int p3)]) hx hb dX9_moth_67 hl (by decide) rfl (fun ls hl => ?_)
          exact l69 nf 0 0 (upd (upd (upd book (50 + p1).toNatClampNeg p2) (54 + p1).toNatClampNeg p3) (61 : Int32).toNatClampNeg (((upd (upd book (50 + p1).toNatClampNeg p2) (54 + p1).toNatClampNeg p3) (61 : Int32).toNatClampNeg) ||| ((1 : Int32) <<< (p1 &&& 31)))) H locs ls hP hD hS (lv_sub hl [2, 1, 0] rfl) hf
        · replace hf := if_t cc hf
          refine lv_bipush (v := (-2)) hx hb dX9_moth_27 (by decide) ?_
          cases Option.some.inj hf
          exact W.iret hx hb hr (fun t ht hW => ⟨⟨_, (), rfl, rfl, by show va_P D vwCl _ t.heap; rw [ht]; exact hP⟩, hS.F ht⟩) hS.2.2 dX9_moth_29
      · replace hf := if_t cc hf
        refine lv_iconst (v := (-1)) hx hb dX9_moth_16 (by decide) ?_
        cases Option.some.inj hf
        exact W.iret hx hb hr (fun t ht hW => ⟨⟨_, (), rfl, rfl, by show va_P D vwCl _ t.heap; rw [ht]; exact hP⟩, hS.F ht⟩) hS.2.2 dX9_moth_17
  have hl := lv_entry ([.ref (h 0), .int p1, .int p2, .int p3]) (n := 6) (Nat.le_of_ble_eq_true rfl)
  rw [lg_entry_eq]
  exact main s.heap [] _ hP hD hS hl
theorem hd_X9_spool : yX9_spool.cls = RX9 ∧ yX9_spool.cls ≠ "java/lang/invoke/MethodHandle" ∧ yX9_spool.cls ≠ "java/lang/invoke/VarHandle" ∧ (parseMethodDescriptor yX9_spool.desc).map (fun d => d.parameters.length) = some 2 := by decide +kernel
set_option maxHeartbeats 4000000 in
set_option maxRecDepth 100000 in
theorem c_X9_spool (l : Launch) (D : va_G) (cyI cyJ cyZ cyO : ClassId) (h : Nat → Nat) (sz : Nat) (book : Nat → Int32) (now : Nat → Int32) (sights : Int32) (sight : Nat → Int32) (signs : Int32) (pad : Nat → Int32) (nights : Int32) (townAt : Int32) (townCell : Int32) (reason : Int32) (acts : Int32) (at_ : Int32) (cost : Nat → Int32) (hole : Nat → Int32) (counts : Nat → Int32) (worth : Nat → Int32) (met : Nat → Int32) (ways : Nat → Int64) (nextWays : Nat → Int64) (image : Nat → Int32) (isKept : Nat → Int32) (p1 : Int32) (p2 : Int32) (nf : Nat) (q : Int32 × (Nat → Int32)) (hf : g_X9_spool nf p1 p2 book = some q) : Met l yX9_spool (Cond.code yX9_spool cX9_spool 4 (some .int) :: tbG) ({ frames := 1, cells := 0, slots := 0, locals := 22 } : Room) (va_Pc [.ref (h 0), .int p1, .int p2] (pcB D (ty4 cyI cyJ cyZ cyO) sz (wX9 cyI cyJ cyZ cyO h book now sights sight signs pad nights townAt townCell reason acts at_ cost hole counts worth met ways nextWays image isKept))) (qI D (wX9 cyI cyJ cyZ cyO h q.2 now sights sight signs pad nights townAt townCell reason acts at_ cost hole counts worth met ways nextWays image isKept) q.1 (va_A (wX9 cyI cyJ cyZ cyO h book now sights sight signs pad nights townAt townCell reason acts at_ cost hole counts worth met ways nextWays image isKept) sz)) 0 0 (va_A (wX9 cyI cyJ cyZ cyO h book now sights sight signs pad nights townAt townCell reason acts at_ cost hole counts worth met ways nextWays image isKept) sz) := by
  refine Met.ofW (cc := cX9_spool) (maxL := 4) (ret := (some .int)) (by decide) rfl ?_
  intro p e s m args below meth c s₁ B hml hv
  obtain ⟨rfl, hsz, hP, hK, hD0, hN⟩ := hv
  have hx := B.exec
  have hb := B.bytes
  have hr := B.returns
  have hT : ∀ w ∈ tbG, w.before ([.ref (h 0), .int p1, .int p2] : List Value).toArray s = true := fun w h => atoms_spec (ws := (Cond.code yX9_spool cX9_spool 4 (some .int) :: tbG)) B.pre w (List.mem_cons_of_mem _ h)
  have hown : s.vm.findClass RX9 = some m.cls := findClass_of_methodNamed B.named
  have hlocks := B.notSynchronized
  subst hsz
  have hD := hD0.self (sz := s.heap.size)
  generalize hAe : va_A (wX9 cyI cyJ cyZ cyO h book now sights sight signs pad nights townAt townCell reason acts at_ cost hole counts worth met ways nextWays image isKept) s.heap.size = A at hD ⊢
  have hA : ∀ q : Nat, s.heap.size ≤ q → A q := fun q h => by rw [← hAe]; exact Or.inr h
  have hS : va_S A s.heap s.heap [] := va_S.rf
  show W p l e ({ frames := 1, cells := 0, slots := 0, locals := 22 } : Room) s m ([.ref (h 0), .int p1, .int p2] : List Value).toArray below meth c s.heap [] 0 0 (MQ below (qI D (wX9 cyI cyJ cyZ cyO h q.2 now sights sight signs pad nights townAt townCell reason acts at_ cost hole counts worth met ways nextWays image isKept) q.1 A) ([.ref (h 0), .int p1, .int p2] : List Value).toArray s 0 0 A) _
  have main : ∀ (H : Heap) (locs : List Loc) (ls : Array Slot), va_P D vwCl (wX9 cyI cyJ cyZ cyO h book now sights sight signs pad nights townAt townCell reason acts at_ cost hole counts worth met ways nextWays image isKept) H → va_D A (wX9 cyI cyJ cyZ cyO h book now sights sight signs pad nights townAt townCell reason acts at_ cost hole counts worth met ways nextWays image isKept) → va_S A s.heap H locs → lv_has ls 4 [(0, .ref (h 0)), (1, .int p1), (2, .int p2)] → W p l e ({ frames := 1, cells := 0, slots := 0, locals := 22 } : Room) s m ([.ref (h 0), .int p1, .int p2] : List Value).toArray below meth c H locs 0 0 (MQ below (qI D (wX9 cyI cyJ cyZ cyO h q.2 now sights sight signs pad nights townAt townCell reason acts at_ cost hole counts worth met ways nextWays image isKept) q.1 A) ([.ref (h 0), .int p1, .int p2] : List Value).toArray s 0 0 A) (F0 m 0 ls []) := by
    intro H locs ls hP hD hS hl
    unfold g_X9_spool at hf
    refine lv_iload_n hx hb dX9_spool_0 rfl (lv_at hl 1 rfl) ?_
    refine lv_iconst (v := 1) hx hb dX9_spool_1 (by decide) ?_
    refine lv_iconst (v := 3) hx hb dX9_spool_2 (by decide) ?_
    obtain ⟨q1, hq1, hf⟩ := bd_some hf
    have hC : ([] : List Nat).map (fun i => (wX9 cyI cyJ cyZ cyO h book now sights sight signs pad nights townAt townCell reason acts at_ cost hole counts worth met ways nextWays image isKept)[i]?) = ([] : va_W).map some := rfl
    refine cl_i (rn_S (As := [.int p1, .int 1, .int 3]) (rest := []) hx hb hml hown hT hK hN hP hD [] hC rfl (c_X9_in l D cyI cyJ cyZ cyO H.size p1 1 3 nf q1 hq1) wm_X9_51 wt_X9_in wz_X9 wc_X9_in hd_X9_in ⟨rfl, rfl⟩ ⟨Nat.le_of_ble_eq_true rfl, Nat.le_of_ble_eq_true rfl⟩ rfl hl.1 rfl (Nat.le_of_ble_eq_true rfl) dX9_spool_3 ⟨Nat.zero_le _, Nat.zero_le _⟩) hP hD hS hA [] hC [(false, 0), (false, 1), (false, 2), (false, 3), (false, 4), (false, 5), (false, 6), (false, 7), (false, 8), (false, 9), (false, 10), (false, 11), (false, 12), (false, 13)] (ws' := wX9 cyI cyJ cyZ cyO h book now sights sight signs pad nights townAt townCell reason acts at_ cost hole counts worth met ways nextWays image isKept) rfl rfl rfl (fun H locs hP hD hS => ?_)
    refine lv_if_ne (tgt := 11) hx hb dX9_spool_6 (by decide) (fun cc => ?_) (fun cc => ?_)
    · replace hf := if_f cc hf
      refine lv_iload_n hx hb dX9_spool_11 rfl (lv_at hl 2 rfl) ?_
      refine lv_iconst (v := 0) hx hb dX9_spool_12 (by decide) ?_
      refine lv_bipush (v := 99) hx hb dX9_spool_13 (by decide) ?_
      obtain ⟨q2, hq2, hf⟩ := bd_some hf
      have hC : ([] : List Nat).map (fun i => (wX9 cyI cyJ cyZ cyO h book now sights sight signs pad nights townAt townCell reason acts at_ cost hole counts worth met ways nextWays image isKept)[i]?) = ([] : va_W).map some := rfl
      refine cl_i (rn_S (As := [.int p2, .int 0, .int 99]) (rest := []) hx hb hml hown hT hK hN hP hD [] hC rfl (c_X9_in l D cyI cyJ cyZ cyO H.size p2 0 99 nf q2 hq2) wm_X9_51 wt_X9_in wz_X9 wc_X9_in hd_X9_in ⟨rfl, rfl⟩ ⟨Nat.le_of_ble_eq_true rfl, Nat.le_of_ble_eq_true rfl⟩ rfl hl.1 rfl (Nat.le_of_ble_eq_true rfl) dX9_spool_15 ⟨Nat.zero_le _, Nat.zero_le _⟩) hP hD hS hA [] hC [(false, 0), (false, 1), (false, 2), (false, 3), (false, 4), (false, 5), (false, 6), (false, 7), (false, 8), (false, 9), (false, 10), (false, 11), (false, 12), (false, 13)] (ws' := wX9 cyI cyJ cyZ cyO h book now sights sight signs pad nights townAt townCell reason acts at_ cost hole counts worth met ways nextWays image isKept) rfl rfl rfl (fun H locs hP hD hS => ?_)
      refine lv_if_ne (tgt := 24) hx hb dX9_spool_18 (by decide) (fun cc => ?_) (fun cc => ?_)
      · replace hf := if_f cc hf
        refine lv_aload_n hx hb dX9_spool_24 rfl (lv_at hl 0 rfl) ?_
        refine va_get (ci := 9) (v := .ref (h 1)) (C := RX9) (T := TX9) (N := 21) hx hb hT hin_X9 hown hK hP 0 rfl rfl 0 (by decide) (hT _ wf_X9_7) (fun _ h9 => h9) rfl dX9_spool_25 ?_
        refine lv_bipush (v := 57) hx hb dX9_spool_28 (by decide) ?_
        refine lv_iload_n hx hb dX9_spool_30 rfl (lv_at hl 1 rfl) ?_
        refine lv_iadd hx hb dX9_spool_31 ?_
        obtain ⟨hi, hf⟩ := ck_some hf
        refine va_iald hx hb hK hP 1 0 rfl rfl hi dX9_spool_32 ?_
        refine lv_istore_n (lv' := [(3, .int (book (57 + p1).toNatClampNeg)), (0, .ref (h 0)), (1, .int p1), (2, .int p2)]) hx hb dX9_spool_33 rfl hl (by decide) rfl (fun ls hl => ?_)
        refine lv_aload_n hx hb dX9_spool_34 rfl (lv_at hl 1 rfl) ?_
        refine va_get (ci := 9) (v := .ref (h 1)) (C := RX9) (T := TX9) (N := 21) hx hb hT hin_X9 hown hK hP 0 rfl rfl 0 (by decide) (hT _ wf_X9_7) (fun _ h9 => h9) rfl dX9_spool_35 ?_
        refine lv_bipush (v := 57) hx hb dX9_spool_38 (by decide) ?_
        refine lv_iload_n hx hb dX9_spool_40 rfl (lv_at hl 2 rfl) ?_
        refine lv_iadd hx hb dX9_spool_41 ?_
        refine lv_iload_n hx hb dX9_spool_42 rfl (lv_at hl 3 rfl) ?_
        obtain ⟨hi, hf⟩ := ck_some hf
        refine va_iast hx hb hK hP hD hS 1 0 rfl rfl hi dX9_spool_43 (fun H locs hP hD hS => ?_)
        have hP : va_P D vwCl (wX9 cyI cyJ cyZ cyO h (upd book (57 + p1).toNatClampNeg p2) now sights sight signs pad nights townAt townCell reason acts at_ cost hole counts worth met ways nextWays image isKept) H := hP
        have hD : va_D A (wX9 cyI cyJ cyZ cyO h (upd book (57 + p1).toNatClampNeg p2) now sights sight signs pad nights townAt townCell reason acts at_ cost hole counts worth met ways nextWays image isKept) := hD
        refine lv_iload_n hx hb dX9_spool_44 rfl (lv_at hl 0 rfl) ?_
        cases Option.some.inj hf
        exact W.iret hx hb hr (fun t ht hW => ⟨⟨_, (), rfl, rfl, by show va_P D vwCl _ t.heap; rw [ht]; exact hP⟩, hS.F ht⟩) hS.2.2 dX9_spool_45
      · replace hf := if_t cc hf
        refine lv_bipush (v := (-2)) hx hb dX9_spool_21 (by decide) ?_
        cases Option.some.inj hf
        exact W.iret hx hb hr (fun t ht hW => ⟨⟨_, (), rfl, rfl, by show va_P D vwCl _ t.heap; rw [ht]; exact hP⟩, hS.F ht⟩) hS.2.2 dX9_spool_23
    · replace hf := if_t cc hf
      refine lv_iconst (v := (-1)) hx hb dX9_spool_9 (by decide) ?_
      cases Option.some.inj hf
      exact W.iret hx hb hr (fun t ht hW => ⟨⟨_, (), rfl, rfl, by show va_P D vwCl _ t.heap; rw [ht]; exact hP⟩, hS.F ht⟩) hS.2.2 dX9_spool_10
  have hl := lv_entry ([.ref (h 0), .int p1, .int p2]) (n := 4) (Nat.le_of_ble_eq_true rfl)
  rw [lg_entry_eq]
  exact main s.heap [] _ hP hD hS hl
theorem hd_X9_say : yX9_say.cls = RX9 ∧ yX9_say.cls ≠ "java/lang/invoke/MethodHandle" ∧ yX9_say.cls ≠ "java/lang/invoke/VarHandle" ∧ (parseMethodDescriptor yX9_say.desc).map (fun d => d.parameters.length) = some 1 := by decide +kernel
set_option maxHeartbeats 4000000 in
set_option maxRecDepth 100000 in
theorem c_X9_say (l : Launch) (D : va_G) (cyI cyJ cyZ cyO : ClassId) (h : Nat → Nat) (sz : Nat) (book : Nat → Int32) (now : Nat → Int32) (sights : Int32) (sight : Nat → Int32) (signs : Int32) (pad : Nat → Int32) (nights : Int32) (townAt : Int32) (townCell : Int32) (reason : Int32) (acts : Int32) (at_ : Int32) (cost : Nat → Int32) (hole : Nat → Int32) (counts : Nat → Int32) (worth : Nat → Int32) (met : Nat → Int32) (ways : Nat → Int64) (nextWays : Nat → Int64) (image : Nat → Int32) (isKept : Nat → Int32) (p1 : Int32) (nf : Nat) (q : Int32 × Int32 × (Nat → Int32)) (hf : g_X9_say nf p1 signs pad = some q) : Met l yX9_say (Cond.code yX9_say cX9_say 2 (some .int) :: tbG) ({ frames := 1, cells := 0, slots := 0, locals := 22 } : Room) (va_Pc [.ref (h 0), .int p1] (pcB D (ty4 cyI cyJ cyZ cyO) sz (wX9 cyI cyJ cyZ cyO h book now sights sight signs pad nights townAt townCell reason acts at_ cost hole counts worth met ways nextWays image isKept))) (qI D (wX9 cyI cyJ cyZ cyO h book now sights sight q.2.1 q.2.2 nights townAt townCell reason acts at_ cost hole counts worth met ways nextWays image isKept) q.1 (va_A (wX9 cyI cyJ cyZ cyO h book now sights sight signs pad nights townAt townCell reason acts at_ cost hole counts worth met ways nextWays image isKept) sz)) 0 0 (va_A (wX9 cyI cyJ cyZ cyO h book now sights sight signs pad nights townAt townCell reason acts at_ cost hole counts worth met ways nextWays image isKept) sz) := by
  refine Met.ofW (cc := cX9_say) (maxL := 2) (ret := (some .int)) (by decide) rfl ?_
  intro p e s m args below meth c s₁ B hml hv
  obtain ⟨rfl, hsz, hP, hK, hD0, hN⟩ := hv
  have hx := B.exec
  have hb := B.bytes
  have hr := B.returns
  have hT : ∀ w ∈ tbG, w.before ([.ref (h 0), .int p1] : List Value).toArray s = true := fun w h => atoms_spec (ws := (Cond.code yX9_say cX9_say 2 (some .int) :: tbG)) B.pre w (List.mem_cons_of_mem _ h)
  have hown : s.vm.findClass RX9 = some m.cls := findClass_of_methodNamed B.named
  have hlocks := B.notSynchronized
  subst hsz
  have hD := hD0.self (sz := s.heap.size)
  generalize hAe : va_A (wX9 cyI cyJ cyZ cyO h book now sights sight signs pad nights townAt townCell reason acts at_ cost hole counts worth met ways nextWays image isKept) s.heap.size = A at hD ⊢
  have hA : ∀ q : Nat, s.heap.size ≤ q → A q := fun q h => by rw [← hAe]; exact Or.inr h
  have hS : va_S A s.heap s.heap [] := va_S.rf
  show W p l e ({ frames := 1, cells := 0, slots := 0, locals := 22 } : Room) s m ([.ref (h 0), .int p1] : List Value).toArray below meth c s.heap [] 0 0 (MQ below (qI D (wX9 cyI cyJ cyZ cyO h book now sights sight q.2.1 q.2.2 nights townAt townCell reason acts at_ cost hole counts worth met ways nextWays image isKept) q.1 A) ([.ref (h 0), .int p1] : List Value).toArray s 0 0 A) _
  have main : ∀ (H : Heap) (locs : List Loc) (ls : Array Slot), va_P D vwCl (wX9 cyI cyJ cyZ cyO h book now sights sight signs pad nights townAt townCell reason acts at_ cost hole counts worth met ways nextWays image isKept) H → va_D A (wX9 cyI cyJ cyZ cyO h book now sights sight signs pad nights townAt townCell reason acts at_ cost hole counts worth met ways nextWays image isKept) → va_S A s.heap H locs → lv_has ls 2 [(0, .ref (h 0)), (1, .int p1)] → W p l e ({ frames := 1, cells := 0, slots := 0, locals := 22 } : Room) s m ([.ref (h 0), .int p1] : List Value).toArray below meth c H locs 0 0 (MQ below (qI D (wX9 cyI cyJ cyZ cyO h book now sights sight q.2.1 q.2.2 nights townAt townCell reason acts at_ cost hole counts worth met ways nextWays image isKept) q.1 A) ([.ref (h 0), .int p1] : List Value).toArray s 0 0 A) (F0 m 0 ls []) := by
    intro H locs ls hP hD hS hl
    unfold g_X9_say at hf
    refine lv_iload_n hx hb dX9_say_0 rfl (lv_at hl 1 rfl) ?_
    refine lv_bipush (v := 33) hx hb dX9_say_1 (by decide) ?_
    refine lv_bipush (v := 126) hx hb dX9_say_3 (by decide) ?_
    obtain ⟨q1, hq1, hf⟩ := bd_some hf
    have hC : ([] : List Nat).map (fun i => (wX9 cyI cyJ cyZ cyO h book now sights sight signs pad nights townAt townCell reason acts at_ cost hole counts worth met ways nextWays image isKept)[i]?) = ([] : va_W).map some := rfl
    refine cl_i (rn_S (As := [.int p1, .int 33, .int 126]) (rest := []) hx hb hml hown hT hK hN hP hD [] hC rfl (c_X9_in l D cyI cyJ cyZ cyO H.size p1 33 126 nf q1 hq1) wm_X9_51 wt_X9_in wz_X9 wc_X9_in hd_X9_in ⟨rfl, rfl⟩ ⟨Nat.le_of_ble_eq_true rfl, Nat.le_of_ble_eq_true rfl⟩ rfl hl.1 rfl (Nat.le_of_ble_eq_true rfl) dX9_say_5 ⟨Nat.zero_le _, Nat.zero_le _⟩) hP hD hS hA [] hC [(false, 0), (false, 1), (false, 2), (false, 3), (false, 4), (false, 5), (false, 6), (false, 7), (false, 8), (false, 9), (false, 10), (false, 11), (false, 12), (false, 13)] (ws' := wX9 cyI cyJ cyZ cyO h book now sights sight signs pad nights townAt townCell reason acts at_ cost hole counts worth met ways nextWays image isKept) rfl rfl rfl (fun H locs hP hD hS => ?_)
    refine lv_if_ne (tgt := 14) hx hb dX9_say_8 (by decide) (fun cc => ?_) (fun cc => ?_)
    · replace hf := if_f cc hf
      refine lv_aload_n hx hb dX9_say_14 rfl (lv_at hl 0 rfl) ?_
      refine va_get (ci := 9) (v := .int signs) (C := RX9) (T := TX9) (N := 21) hx hb hT hin_X9 hown hK hP 0 rfl rfl 4 (by decide) (hT _ wf_X9_63) (fun _ h9 => h9) rfl dX9_say_15 ?_
      refine lv_bipush (v := 60) hx hb dX9_say_18 (by decide) ?_
      refine lv_icmp_ne (tgt := 26) hx hb dX9_say_20 (by decide) (fun cc => ?_) (fun cc => ?_)
      · replace hf := if_f cc hf
        refine lv_aload_n hx hb dX9_say_26 rfl (lv_at hl 0 rfl) ?_
        refine va_get (ci := 9) (v := .ref (h 4)) (C := RX9) (T := TX9) (N := 21) hx hb hT hin_X9 hown hK hP 0 rfl rfl 5 (by decide) (hT _ wf_X9_19) (fun _ h9 => h9) rfl dX9_say_27 ?_
        refine lv_aload_n hx hb dX9_say_30 rfl (lv_at hl 0 rfl) ?_
        refine va_get (ci := 9) (v := .int signs) (C := RX9) (T := TX9) (N := 21) hx hb hT hin_X9 hown hK hP 0 rfl rfl 4 (by decide) (hT _ wf_X9_63) (fun _ h9 => h9) rfl dX9_say_31 ?_
        refine lv_iload_n hx hb dX9_say_34 rfl (lv_at hl 1 rfl) ?_
        obtain ⟨hi, hf⟩ := ck_some hf
        refine va_iast hx hb hK hP hD hS 4 0 rfl rfl hi dX9_say_35 (fun H locs hP hD hS => ?_)
        have hP : va_P D vwCl (wX9 cyI cyJ cyZ cyO h book now sights sight signs (upd pad signs.toNatClampNeg p1) nights townAt townCell reason acts at_ cost hole counts worth met ways nextWays image isKept) H := hP
        have hD : va_D A (wX9 cyI cyJ cyZ cyO h book now sights sight signs (upd pad signs.toNatClampNeg p1) nights townAt townCell reason acts at_ cost hole counts worth met ways nextWays image isKept) := hD
        refine lv_aload_n hx hb dX9_say_36 rfl (lv_at hl 0 rfl) ?_
        refine lv_dup hx hb dX9_say_37 rfl ?_
        refine va_get (ci := 9) (v := .int signs) (C := RX9) (T := TX9) (N := 21) hx hb hT hin_X9 hown hK hP 0 rfl rfl 4 (by decide) (hT _ wf_X9_63) (fun _ h9 => h9) rfl dX9_say_38 ?_
        refine lv_iconst (v := 1) hx hb dX9_say_41 (by decide) ?_
        refine lv_iadd hx hb dX9_say_42 ?_
        refine va_put (ci := 9) (v := .int (signs + 1)) (ty := .int) (C := RX9) (T := TX9) (N := 21) hx hb hT hin_X9 tyX9 tyX9_ok nmX9 hown hK hP hD hS 0 rfl rfl 4 (by decide) (hT _ wf_X9_63) (fun _ h9 => h9) rfl (tyX9_ok 4 (by decide)) rfl rfl (Nat.le_of_ble_eq_true rfl) dX9_say_43 (fun H locs hP hD hS => ?_)
        have hP : va_P D vwCl (wX9 cyI cyJ cyZ cyO h book now sights sight (signs + 1) (upd pad signs.toNatClampNeg p1) nights townAt townCell reason acts at_ cost hole counts worth met ways nextWays image isKept) H := hP
        have hD : va_D A (wX9 cyI cyJ cyZ cyO h book now sights sight (signs + 1) (upd pad signs.toNatClampNeg p1) nights townAt townCell reason acts at_ cost hole counts worth met ways nextWays image isKept) := hD
        refine lv_aload_n hx hb dX9_say_46 rfl (lv_at hl 0 rfl) ?_
        refine va_get (ci := 9) (v := .int (signs + 1)) (C := RX9) (T := TX9) (N := 21) hx hb hT hin_X9 hown hK hP 0 rfl rfl 4 (by decide) (hT _ wf_X9_63) (fun _ h9 => h9) rfl dX9_say_47 ?_
        cases Option.some.inj hf
        exact W.iret hx hb hr (fun t ht hW => ⟨⟨_, (), rfl, rfl, by show va_P D vwCl _ t.heap; rw [ht]; exact hP⟩, hS.F ht⟩) hS.2.2 dX9_say_50
      · replace hf := if_t cc hf
        refine lv_bipush (v := (-4)) hx hb dX9_say_23 (by decide) ?_
        cases Option.some.inj hf
        exact W.iret hx hb hr (fun t ht hW => ⟨⟨_, (), rfl, rfl, by show va_P D vwCl _ t.heap; rw [ht]; exact hP⟩, hS.F ht⟩) hS.2.2 dX9_say_25
    · replace hf := if_t cc hf
      refine lv_bipush (v := (-2)) hx hb dX9_say_11 (by decide) ?_
      cases Option.some.inj hf
      exact W.iret hx hb hr (fun t ht hW => ⟨⟨_, (), rfl, rfl, by show va_P D vwCl _ t.heap; rw [ht]; exact hP⟩, hS.F ht⟩) hS.2.2 dX9_say_13
  have hl := lv_entry ([.ref (h 0), .int p1]) (n := 2) (Nat.le_of_ble_eq_true rfl)
  rw [lg_entry_eq]
  exact main s.heap [] _ hP hD hS hl
theorem hd_X9_wipe : yX9_wipe.cls = RX9 ∧ yX9_wipe.cls ≠ "java/lang/invoke/MethodHandle" ∧ yX9_wipe.cls ≠ "java/lang/invoke/VarHandle" ∧ (parseMethodDescriptor yX9_wipe.desc).map (fun d => d.parameters.length) = some 0 := by decide +kernel
set_option maxHeartbeats 4000000 in
set_option maxRecDepth 100000 in
theorem c_X9_wipe (l : Launch) (D : va_G) (cyI cyJ cyZ cyO : ClassId) (h : Nat → Nat) (sz : Nat) (book : Nat → Int32) (now : Nat → Int32) (sights : Int32) (sight : Nat → Int32) (signs : Int32) (pad : Nat → Int32) (nights : Int32) (townAt : Int32) (townCell : Int32) (reason : Int32) (acts : Int32) (at_ : Int32) (cost : Nat → Int32) (hole : Nat → Int32) (counts : Nat → Int32) (worth : Nat → Int32) (met : Nat → Int32) (ways : Nat → Int64) (nextWays : Nat → Int64) (image : Nat → Int32) (isKept : Nat → Int32) (nf : Nat) (q : Int32 × Int32) (hf : g_X9_wipe nf signs = some q) : Met l yX9_wipe (Cond.code yX9_wipe cX9_wipe 2 (some .int) :: tbG) ({ frames := 0, cells := 0, slots := 0, locals := 0 } : Room) (va_Pc [.ref (h 0)] (pcB D (ty4 cyI cyJ cyZ cyO) sz (wX9 cyI cyJ cyZ cyO h book now sights sight signs pad nights townAt townCell reason acts at_ cost hole counts worth met ways nextWays image isKept))) (qI D (wX9 cyI cyJ cyZ cyO h book now sights sight q.2 pad nights townAt townCell reason acts at_ cost hole counts worth met ways nextWays image isKept) q.1 (va_A (wX9 cyI cyJ cyZ cyO h book now sights sight signs pad nights townAt townCell reason acts at_ cost hole counts worth met ways nextWays image isKept) sz)) 0 0 (va_A (wX9 cyI cyJ cyZ cyO h book now sights sight signs pad nights townAt townCell reason acts at_ cost hole counts worth met ways nextWays image isKept) sz) := by
  refine Met.ofW (cc := cX9_wipe) (maxL := 2) (ret := (some .int)) (by decide) rfl ?_
  intro p e s m args below meth c s₁ B hml hv
  obtain ⟨rfl, hsz, hP, hK, hD0, hN⟩ := hv
  have hx := B.exec
  have hb := B.bytes
  have hr := B.returns
  have hT : ∀ w ∈ tbG, w.before ([.ref (h 0)] : List Value).toArray s = true := fun w h => atoms_spec (ws := (Cond.code yX9_wipe cX9_wipe 2 (some .int) :: tbG)) B.pre w (List.mem_cons_of_mem _ h)
  have hown : s.vm.findClass RX9 = some m.cls := findClass_of_methodNamed B.named
  have hlocks := B.notSynchronized
  subst hsz
  have hD := hD0.self (sz := s.heap.size)
  generalize hAe : va_A (wX9 cyI cyJ cyZ cyO h book now sights sight signs pad nights townAt townCell reason acts at_ cost hole counts worth met ways nextWays image isKept) s.heap.size = A at hD ⊢
  have hA : ∀ q : Nat, s.heap.size ≤ q → A q := fun q h => by rw [← hAe]; exact Or.inr h
  have hS : va_S A s.heap s.heap [] := va_S.rf
  show W p l e ({ frames := 0, cells := 0, slots := 0, locals := 0 } : Room) s m ([.ref (h 0)] : List Value).toArray below meth c s.heap [] 0 0 (MQ below (qI D (wX9 cyI cyJ cyZ cyO h book now sights sight q.2 pad nights townAt townCell reason acts at_ cost hole counts worth met ways nextWays image isKept) q.1 A) ([.ref (h 0)] : List Value).toArray s 0 0 A) _
  have main : ∀ (H : Heap) (locs : List Loc) (ls : Array Slot), va_P D vwCl (wX9 cyI cyJ cyZ cyO h book now sights sight signs pad nights townAt townCell reason acts at_ cost hole counts worth met ways nextWays image isKept) H → va_D A (wX9 cyI cyJ cyZ cyO h book now sights sight signs pad nights townAt townCell reason acts at_ cost hole counts worth met ways nextWays image isKept) → va_S A s.heap H locs → lv_has ls 2 [(0, .ref (h 0))] → W p l e ({ frames := 0, cells := 0, slots := 0, locals := 0 } : Room) s m ([.ref (h 0)] : List Value).toArray below meth c H locs 0 0 (MQ below (qI D (wX9 cyI cyJ cyZ cyO h book now sights sight q.2 pad nights townAt townCell reason acts at_ cost hole counts worth met ways nextWays image isKept) q.1 A) ([.ref (h 0)] : List Value).toArray s 0 0 A) (F0 m 0 ls []) := by
    intro H locs ls hP hD hS hl
    unfold g_X9_wipe at hf
    refine lv_aload_n hx hb dX9_wipe_0 rfl (lv_at hl 0 rfl) ?_
    refine va_get (ci := 9) (v := .int signs) (C := RX9) (T := TX9) (N := 21) hx hb hT hin_X9 hown hK hP 0 rfl rfl 4 (by decide) (hT _ wf_X9_63) (fun _ h9 => h9) rfl dX9_wipe_1 ?_
    refine lv_istore_n (lv' := [(1, .int signs), (0, .ref (h 0))]) hx hb dX9_wipe_4 rfl hl (by decide) rfl (fun ls hl => ?_)
    refine lv_aload_n hx hb dX9_wipe_5 rfl (lv_at hl 1 rfl) ?_
    refine lv_iconst (v := 0) hx hb dX9_wipe_6 (by decide) ?_
    refine va_put (ci := 9) (v := .int 0) (ty := .int) (C := RX9) (T := TX9) (N := 21) hx hb hT hin_X9 tyX9 tyX9_ok nmX9 hown hK hP hD hS 0 rfl rfl 4 (by decide) (hT _ wf_X9_63) (fun _ h9 => h9) rfl (tyX9_ok 4 (by decide)) rfl rfl (Nat.le_of_ble_eq_true rfl) dX9_wipe_7 (fun H locs hP hD hS => ?_)
    have hP : va_P D vwCl (wX9 cyI cyJ cyZ cyO h book now sights sight 0 pad nights townAt townCell reason acts at_ cost hole counts worth met ways nextWays image isKept) H := hP
    have hD : va_D A (wX9 cyI cyJ cyZ cyO h book now sights sight 0 pad nights townAt townCell reason acts at_ cost hole counts worth met ways nextWays image isKept) := hD
    refine lv_iload_n hx hb dX9_wipe_10 rfl (lv_at hl 0 rfl) ?_
    cases Option.some.inj hf
    exact W.iret hx hb hr (fun t ht hW => ⟨⟨_, (), rfl, rfl, by show va_P D vwCl _ t.heap; rw [ht]; exact hP⟩, hS.F ht⟩) hS.2.2 dX9_wipe_11
  have hl := lv_entry ([.ref (h 0)]) (n := 2) (Nat.le_of_ble_eq_true rfl)
  rw [lg_entry_eq]
  exact main s.heap [] _ hP hD hS hl
theorem hd_X9_wayOf : yX9_wayOf.cls ≠ "java/lang/invoke/MethodHandle" ∧ yX9_wayOf.cls ≠ "java/lang/invoke/VarHandle" ∧ (parseMethodDescriptor yX9_wayOf.desc).map (fun d => d.parameters.length) = some 1 := by decide +kernel
set_option maxHeartbeats 4000000 in
set_option maxRecDepth 100000 in
theorem c_X9_wayOf (l : Launch) (D : va_G) (cyI cyJ cyZ cyO : ClassId) (sz : Nat) (p0 : Int32) (nf : Nat) (q : Int32) (hf : g_X9_wayOf nf p0 = some q) : Met l yX9_wayOf (Cond.code yX9_wayOf cX9_wayOf 1 (some .int) :: tbG) ({ frames := 0, cells := 0, slots := 0, locals := 0 } : Room) (va_Pc [.int p0] (pcB D (ty4 cyI cyJ cyZ cyO) sz (([] : va_W)))) (qI D (([] : va_W)) q (va_A (([] : va_W)) sz)) 0 0 (va_A (([] : va_W)) sz) := by
  refine Met.ofW (cc := cX9_wayOf) (maxL := 1) (ret := (some .int)) (by decide) rfl ?_
  intro p e s m args below meth c s₁ B hml hv
  obtain ⟨rfl, hsz, hP, hK, hD0, hN⟩ := hv
  have hx := B.exec
  have hb := B.bytes
  have hr := B.returns
  have hT : ∀ w ∈ tbG, w.before ([.int p0] : List Value).toArray s = true := fun w h => atoms_spec (ws := (Cond.code yX9_wayOf cX9_wayOf 1 (some .int) :: tbG)) B.pre w (List.mem_cons_of_mem _ h)
  have hown : s.vm.findClass RX9 = some m.cls := findClass_of_methodNamed B.named
  have hlocks := B.notSynchronized
  subst hsz
  have hD := hD0.self (sz := s.heap.size)
  generalize hAe : va_A (([] : va_W)) s.heap.size = A at hD ⊢
  have hA : ∀ q : Nat, s.heap.size ≤ q → A q := fun q h => by rw [← hAe]; exact Or.inr h
  have hS : va_S A s.heap s.heap [] := va_S.rf
  show W p l e ({ frames := 0, cells := 0, slots := 0, locals := 0 } : Room) s m ([.int p0] : List Value).toArray below meth c s.heap [] 0 0 (MQ below (qI D (([] : va_W)) q A) ([.int p0] : List Value).toArray s 0 0 A) _
  have main : ∀ (H : Heap) (locs : List Loc) (ls : Array Slot), va_P D vwCl (([] : va_W)) H → va_D A (([] : va_W)) → va_S A s.heap H locs → lv_has ls 1 [(0, .int p0)] → W p l e ({ frames := 0, cells := 0, slots := 0, locals := 0 } : Room) s m ([.int p0] : List Value).toArray below meth c H locs 0 0 (MQ below (qI D (([] : va_W)) q A) ([.int p0] : List Value).toArray s 0 0 A) (F0 m 0 ls []) := by
    intro H locs ls hP hD hS hl
    unfold g_X9_wayOf at hf
    refine lv_iload_n hx hb dX9_wayOf_0 rfl (lv_at hl 0 rfl) ?_
    refine lv_bipush (v := 110) hx hb dX9_wayOf_1 (by decide) ?_
    refine lv_icmp_ne (tgt := 10) hx hb dX9_wayOf_3 (by decide) (fun cc => ?_) (fun cc => ?_)
    · replace hf := if_f cc hf
      refine lv_iload_n hx hb dX9_wayOf_10 rfl (lv_at hl 0 rfl) ?_
      refine lv_bipush (v := 101) hx hb dX9_wayOf_11 (by decide) ?_
      refine lv_icmp_ne (tgt := 20) hx hb dX9_wayOf_13 (by decide) (fun cc => ?_) (fun cc => ?_)
      · replace hf := if_f cc hf
        refine lv_iload_n hx hb dX9_wayOf_20 rfl (lv_at hl 0 rfl) ?_
        refine lv_bipush (v := 115) hx hb dX9_wayOf_21 (by decide) ?_
        refine lv_icmp_ne (tgt := 30) hx hb dX9_wayOf_23 (by decide) (fun cc => ?_) (fun cc => ?_)
        · replace hf := if_f cc hf
          refine lv_iload_n hx hb dX9_wayOf_30 rfl (lv_at hl 0 rfl) ?_
          refine lv_bipush (v := 119) hx hb dX9_wayOf_31 (by decide) ?_
          refine lv_icmp_ne (tgt := 40) hx hb dX9_wayOf_33 (by decide) (fun cc => ?_) (fun cc => ?_)
          · replace hf := if_f cc hf
            refine lv_bipush (v := (-6)) hx hb dX9_wayOf_40 (by decide) ?_
            cases Option.some.inj hf
            exact W.iret hx hb hr (fun t ht hW => ⟨⟨_, (), rfl, rfl, by show va_P D vwCl _ t.heap; rw [ht]; exact hP⟩, hS.F ht⟩) hS.2.2 dX9_wayOf_42
          · replace hf := if_t cc hf
            refine lv_iconst (v := 3) hx hb dX9_wayOf_36 (by decide) ?_
            refine lv_goto (tgt := 42) hx hb dX9_wayOf_37 (by decide) ?_
            cases Option.some.inj hf
            exact W.iret hx hb hr (fun t ht hW => ⟨⟨_, (), rfl, rfl, by show va_P D vwCl _ t.heap; rw [ht]; exact hP⟩, hS.F ht⟩) hS.2.2 dX9_wayOf_42
        · replace hf := if_t cc hf
          refine lv_iconst (v := 2) hx hb dX9_wayOf_26 (by decide) ?_
          refine lv_goto (tgt := 42) hx hb dX9_wayOf_27 (by decide) ?_
          cases Option.some.inj hf
          exact W.iret hx hb hr (fun t ht hW => ⟨⟨_, (), rfl, rfl, by show va_P D vwCl _ t.heap; rw [ht]; exact hP⟩, hS.F ht⟩) hS.2.2 dX9_wayOf_42
      · replace hf := if_t cc hf
        refine lv_iconst (v := 1) hx hb dX9_wayOf_16 (by decide) ?_
        refine lv_goto (tgt := 42) hx hb dX9_wayOf_17 (by decide) ?_
        cases Option.some.inj hf
        exact W.iret hx hb hr (fun t ht hW => ⟨⟨_, (), rfl, rfl, by show va_P D vwCl _ t.heap; rw [ht]; exact hP⟩, hS.F ht⟩) hS.2.2 dX9_wayOf_42
    · replace hf := if_t cc hf
      refine lv_iconst (v := 0) hx hb dX9_wayOf_6 (by decide) ?_
      refine lv_goto (tgt := 42) hx hb dX9_wayOf_7 (by decide) ?_
      cases Option.some.inj hf
      exact W.iret hx hb hr (fun t ht hW => ⟨⟨_, (), rfl, rfl, by show va_P D vwCl _ t.heap; rw [ht]; exact hP⟩, hS.F ht⟩) hS.2.2 dX9_wayOf_42
  have hl := lv_entry ([.int p0]) (n := 1) (Nat.le_of_ble_eq_true rfl)
  rw [lg_entry_eq]
  exact main s.heap [] _ hP hD hS hl
theorem hd_X9_step : yX9_step.cls ≠ "java/lang/invoke/MethodHandle" ∧ yX9_step.cls ≠ "java/lang/invoke/VarHandle" ∧ (parseMethodDescriptor yX9_step.desc).map (fun d => d.parameters.length) = some 2 := by decide +kernel
set_option maxHeartbeats 4000000 in
set_option maxRecDepth 100000 in
theorem c_X9_step (l : Launch) (D : va_G) (cyI cyJ cyZ cyO : ClassId) (sz : Nat) (p0 : Int32) (p1 : Int32) (nf : Nat) (q : Int32) (hf : g_X9_step nf p0 p1 = some q) : Met l yX9_step (Cond.code yX9_step cX9_step 2 (some .int) :: tbG) ({ frames := 1, cells := 0, slots := 0, locals := 22 } : Room) (va_Pc [.int p0, .int p1] (pcB D (ty4 cyI cyJ cyZ cyO) sz (([] : va_W)))) (qI D (([] : va_W)) q (va_A (([] : va_W)) sz)) 0 0 (va_A (([] : va_W)) sz) := by
  refine Met.ofW (cc := cX9_step) (maxL := 2) (ret := (some .int)) (by decide) rfl ?_
  intro p e s m args below meth c s₁ B hml hv
  obtain ⟨rfl, hsz, hP, hK, hD0, hN⟩ := hv
  have hx := B.exec
  have hb := B.bytes
  have hr := B.returns
  have hT : ∀ w ∈ tbG, w.before ([.int p0, .int p1] : List Value).toArray s = true := fun w h => atoms_spec (ws := (Cond.code yX9_step cX9_step 2 (some .int) :: tbG)) B.pre w (List.mem_cons_of_mem _ h)
  have hown : s.vm.findClass RX9 = some m.cls := findClass_of_methodNamed B.named
  have hlocks := B.notSynchronized
  subst hsz
  have hD := hD0.self (sz := s.heap.size)
  generalize hAe : va_A (([] : va_W)) s.heap.size = A at hD ⊢
  have hA : ∀ q : Nat, s.heap.size ≤ q → A q := fun q h => by rw [← hAe]; exact Or.inr h
  have hS : va_S A s.heap s.heap [] := va_S.rf
  show W p l e ({ frames := 1, cells := 0, slots := 0, locals := 22 } : Room) s m ([.int p0, .int p1] : List Value).toArray below meth c s.heap [] 0 0 (MQ below (qI D (([] : va_W)) q A) ([.int p0, .int p1] : List Value).toArray s 0 0 A) _
  have b93 : ∀ (H : Heap) (locs : List Loc) (ls : Array Slot), va_P D vwCl (([] : va_W)) H → va_D A (([] : va_W)) → va_S A s.heap H locs → lv_has ls 2 [] → g_X9_step_b93 nf = some q → W p l e ({ frames := 1, cells := 0, slots := 0, locals := 22 } : Room) s m ([.int p0, .int p1] : List Value).toArray below meth c H locs 0 0 (MQ below (qI D (([] : va_W)) q A) ([.int p0, .int p1] : List Value).toArray s 0 0 A) (F0 m 93 ls []) := by
    intro  H locs ls hP hD hS hl hf
    unfold g_X9_step_b93 at hf
    refine lv_iconst (v := 0) hx hb dX9_step_93 (by decide) ?_
    refine lv_goto (tgt := 99) hx hb dX9_step_94 (by decide) ?_
    cases Option.some.inj hf
    exact W.iret hx hb hr (fun t ht hW => ⟨⟨_, (), rfl, rfl, by show va_P D vwCl _ t.heap; rw [ht]; exact hP⟩, hS.F ht⟩) hS.2.2 dX9_step_99
  have main : ∀ (H : Heap) (locs : List Loc) (ls : Array Slot), va_P D vwCl (([] : va_W)) H → va_D A (([] : va_W)) → va_S A s.heap H locs → lv_has ls 2 [(0, .int p0), (1, .int p1)] → W p l e ({ frames := 1, cells := 0, slots := 0, locals := 22 } : Room) s m ([.int p0, .int p1] : List Value).toArray below meth c H locs 0 0 (MQ below (qI D (([] : va_W)) q A) ([.int p0, .int p1] : List Value).toArray s 0 0 A) (F0 m 0 ls []) := by
    intro H locs ls hP hD hS hl
    unfold g_X9_step at hf
    refine lv_iload_n hx hb dX9_step_0 rfl (lv_at hl 0 rfl) ?_
    by_cases c0 : p0 = 0
    · replace hf := if_t c0 hf
      refine lv_tableIn (off := 31) (tgt := 32) hx hb dX9_step_1 (by rw [c0]; decide) (by rw [c0]; decide) (by rw [c0]; decide) (by decide) ?_
      refine lv_iload_n hx hb dX9_step_32 rfl (lv_at hl 1 rfl) ?_
      refine lv_bipush (v := 65) hx hb dX9_step_33 (by decide) ?_
      refine lv_bipush (v := 68) hx hb dX9_step_35 (by decide) ?_
      obtain ⟨q1, hq1, hf⟩ := bd_some hf
      have hC : ([] : List Nat).map (fun i => (([] : va_W))[i]?) = ([] : va_W).map some := rfl
      refine cl_i (rn_S (As := [.int p1, .int 65, .int 68]) (rest := []) hx hb hml hown hT hK hN hP hD [] hC rfl (c_X9_in l D cyI cyJ cyZ cyO H.size p1 65 68 nf q1 hq1) wm_X9_51 wt_X9_in wz_X9 wc_X9_in hd_X9_in ⟨rfl, rfl⟩ ⟨Nat.le_of_ble_eq_true rfl, Nat.le_of_ble_eq_true rfl⟩ rfl hl.1 rfl (Nat.le_of_ble_eq_true rfl) dX9_step_37 ⟨Nat.zero_le _, Nat.zero_le _⟩) hP hD hS hA [] hC [] (ws' := ([] : va_W)) rfl rfl rfl (fun H locs hP hD hS => ?_)
      refine lv_if_eq (tgt := 47) hx hb dX9_step_40 (by decide) (fun cc => ?_) (fun cc => ?_)
      · replace hf := if_t cc hf
        refine lv_iload_n hx hb dX9_step_47 rfl (lv_at hl 1 rfl) ?_
        refine lv_bipush (v := 43) hx hb dX9_step_48 (by decide) ?_
        refine lv_icmp_ne (tgt := 57) hx hb dX9_step_50 (by decide) (fun cc => ?_) (fun cc => ?_)
        · replace hf := if_f cc hf
          refine lv_iload_n hx hb dX9_step_57 rfl (lv_at hl 1 rfl) ?_
          refine lv_bipush (v := 37) hx hb dX9_step_58 (by decide) ?_
          refine lv_icmp_ne (tgt := 67) hx hb dX9_step_60 (by decide) (fun cc => ?_) (fun cc => ?_)
          · replace hf := if_f cc hf
            refine lv_iload_n hx hb dX9_step_67 rfl (lv_at hl 1 rfl) ?_
            refine lv_bipush (v := 46) hx hb dX9_step_68 (by decide) ?_
            refine lv_icmp_ne (tgt := 77) hx hb dX9_step_70 (by decide) (fun cc => ?_) (fun cc => ?_)
            · replace hf := if_f cc hf
              refine lv_bipush (v := (-6)) hx hb dX9_step_77 (by decide) ?_
              cases Option.some.inj hf
              exact W.iret hx hb hr (fun t ht hW => ⟨⟨_, (), rfl, rfl, by show va_P D vwCl _ t.heap; rw [ht]; exact hP⟩, hS.F ht⟩) hS.2.2 dX9_step_79
            · replace hf := if_t cc hf
              refine lv_iconst (v := 0) hx hb dX9_step_73 (by decide) ?_
              refine lv_goto (tgt := 79) hx hb dX9_step_74 (by decide) ?_
              cases Option.some.inj hf
              exact W.iret hx hb hr (fun t ht hW => ⟨⟨_, (), rfl, rfl, by show va_P D vwCl _ t.heap; rw [ht]; exact hP⟩, hS.F ht⟩) hS.2.2 dX9_step_79
          · replace hf := if_t cc hf
            refine lv_iconst (v := 3) hx hb dX9_step_63 (by decide) ?_
            refine lv_goto (tgt := 79) hx hb dX9_step_64 (by decide) ?_
            cases Option.some.inj hf
            exact W.iret hx hb hr (fun t ht hW => ⟨⟨_, (), rfl, rfl, by show va_P D vwCl _ t.heap; rw [ht]; exact hP⟩, hS.F ht⟩) hS.2.2 dX9_step_79
        · replace hf := if_t cc hf
          refine lv_iconst (v := 2) hx hb dX9_step_53 (by decide) ?_
          refine lv_goto (tgt := 79) hx hb dX9_step_54 (by decide) ?_
          cases Option.some.inj hf
          exact W.iret hx hb hr (fun t ht hW => ⟨⟨_, (), rfl, rfl, by show va_P D vwCl _ t.heap; rw [ht]; exact hP⟩, hS.F ht⟩) hS.2.2 dX9_step_79
      · replace hf := if_f cc hf
        refine lv_iconst (v := 1) hx hb dX9_step_43 (by decide) ?_
        refine lv_goto (tgt := 79) hx hb dX9_step_44 (by decide) ?_
        cases Option.some.inj hf
        exact W.iret hx hb hr (fun t ht hW => ⟨⟨_, (), rfl, rfl, by show va_P D vwCl _ t.heap; rw [ht]; exact hP⟩, hS.F ht⟩) hS.2.2 dX9_step_79
    · replace hf := if_f c0 hf
      by_cases c1 : p0 = 1
      · replace hf := if_t c1 hf
        refine lv_tableIn (off := 79) (tgt := 80) hx hb dX9_step_1 (by rw [c1]; decide) (by rw [c1]; decide) (by rw [c1]; decide) (by decide) ?_
        refine lv_iload_n hx hb dX9_step_80 rfl (lv_at hl 1 rfl) ?_
        obtain ⟨q2, hq2, hf⟩ := bd_some hf
        have hC : ([] : List Nat).map (fun i => (([] : va_W))[i]?) = ([] : va_W).map some := rfl
        refine cl_i (rn_S (As := [.int p1]) (rest := []) hx hb hml hown hT hK hN hP hD [] hC rfl (c_X9_wayOf l D cyI cyJ cyZ cyO H.size p1 nf q2 hq2) wm_X9_67 wt_X9_wayOf wz_X9 wc_X9_wayOf hd_X9_wayOf ⟨rfl, rfl⟩ ⟨Nat.le_of_ble_eq_true rfl, Nat.le_of_ble_eq_true rfl⟩ rfl hl.1 rfl (Nat.le_of_ble_eq_true rfl) dX9_step_81 ⟨Nat.zero_le _, Nat.zero_le _⟩) hP hD hS hA [] hC [] (ws' := ([] : va_W)) rfl rfl rfl (fun H locs hP hD hS => ?_)
        refine lv_if_ge (tgt := 93) hx hb dX9_step_84 (by decide) (fun cc => ?_) (fun cc => ?_)
        · replace hf := if_t cc hf
          exact b93 H locs ls hP hD hS (lv_sub hl [] rfl) hf
        · replace hf := if_f cc hf
          refine lv_iload_n hx hb dX9_step_87 rfl (lv_at hl 1 rfl) ?_
          refine lv_bipush (v := 33) hx hb dX9_step_88 (by decide) ?_
          refine lv_icmp_ne (tgt := 97) hx hb dX9_step_90 (by decide) (fun cc => ?_) (fun cc => ?_)
          · replace hf := if_f cc hf
            refine lv_bipush (v := (-6)) hx hb dX9_step_97 (by decide) ?_
            cases Option.some.inj hf
            exact W.iret hx hb hr (fun t ht hW => ⟨⟨_, (), rfl, rfl, by show va_P D vwCl _ t.heap; rw [ht]; exact hP⟩, hS.F ht⟩) hS.2.2 dX9_step_99
          · replace hf := if_t cc hf
            exact b93 H locs ls hP hD hS (lv_sub hl [] rfl) hf
      · replace hf := if_f c1 hf
        by_cases c2 : p0 = 2
        · replace hf := if_t c2 hf
          refine lv_tableIn (off := 99) (tgt := 100) hx hb dX9_step_1 (by rw [c2]; decide) (by rw [c2]; decide) (by rw [c2]; decide) (by decide) ?_
          refine lv_iload_n hx hb dX9_step_100 rfl (lv_at hl 1 rfl) ?_
          refine lv_bipush (v := 97) hx hb dX9_step_101 (by decide) ?_
          refine lv_bipush (v := 121) hx hb dX9_step_103 (by decide) ?_
          obtain ⟨q3, hq3, hf⟩ := bd_some hf
          have hC : ([] : List Nat).map (fun i => (([] : va_W))[i]?) = ([] : va_W).map some := rfl
          refine cl_i (rn_S (As := [.int p1, .int 97, .int 121]) (rest := []) hx hb hml hown hT hK hN hP hD [] hC rfl (c_X9_in l D cyI cyJ cyZ cyO H.size p1 97 121 nf q3 hq3) wm_X9_51 wt_X9_in wz_X9 wc_X9_in hd_X9_in ⟨rfl, rfl⟩ ⟨Nat.le_of_ble_eq_true rfl, Nat.le_of_ble_eq_true rfl⟩ rfl hl.1 rfl (Nat.le_of_ble_eq_true rfl) dX9_step_105 ⟨Nat.zero_le _, Nat.zero_le _⟩) hP hD hS hA [] hC [] (ws' := ([] : va_W)) rfl rfl rfl (fun H locs hP hD hS => ?_)
          refine lv_if_eq (tgt := 115) hx hb dX9_step_108 (by decide) (fun cc => ?_) (fun cc => ?_)
          · replace hf := if_t cc hf
            refine lv_bipush (v := (-6)) hx hb dX9_step_115 (by decide) ?_
            cases Option.some.inj hf
            exact W.iret hx hb hr (fun t ht hW => ⟨⟨_, (), rfl, rfl, by show va_P D vwCl _ t.heap; rw [ht]; exact hP⟩, hS.F ht⟩) hS.2.2 dX9_step_117
          · replace hf := if_f cc hf
            refine lv_iconst (v := 0) hx hb dX9_step_111 (by decide) ?_
            refine lv_goto (tgt := 117) hx hb dX9_step_112 (by decide) ?_
            cases Option.some.inj hf
            exact W.iret hx hb hr (fun t ht hW => ⟨⟨_, (), rfl, rfl, by show va_P D vwCl _ t.heap; rw [ht]; exact hP⟩, hS.F ht⟩) hS.2.2 dX9_step_117
        · replace hf := if_f c2 hf
          by_cases c3 : p0 = 3
          · replace hf := if_t c3 hf
            refine lv_tableIn (off := 117) (tgt := 118) hx hb dX9_step_1 (by rw [c3]; decide) (by rw [c3]; decide) (by rw [c3]; decide) (by decide) ?_
            refine lv_iload_n hx hb dX9_step_118 rfl (lv_at hl 1 rfl) ?_
            refine lv_bipush (v := 97) hx hb dX9_step_119 (by decide) ?_
            refine lv_bipush (v := 121) hx hb dX9_step_121 (by decide) ?_
            obtain ⟨q4, hq4, hf⟩ := bd_some hf
            have hC : ([] : List Nat).map (fun i => (([] : va_W))[i]?) = ([] : va_W).map some := rfl
            refine cl_i (rn_S (As := [.int p1, .int 97, .int 121]) (rest := []) hx hb hml hown hT hK hN hP hD [] hC rfl (c_X9_in l D cyI cyJ cyZ cyO H.size p1 97 121 nf q4 hq4) wm_X9_51 wt_X9_in wz_X9 wc_X9_in hd_X9_in ⟨rfl, rfl⟩ ⟨Nat.le_of_ble_eq_true rfl, Nat.le_of_ble_eq_true rfl⟩ rfl hl.1 rfl (Nat.le_of_ble_eq_true rfl) dX9_step_123 ⟨Nat.zero_le _, Nat.zero_le _⟩) hP hD hS hA [] hC [] (ws' := ([] : va_W)) rfl rfl rfl (fun H locs hP hD hS => ?_)
            refine lv_if_eq (tgt := 133) hx hb dX9_step_126 (by decide) (fun cc => ?_) (fun cc => ?_)
            · replace hf := if_t cc hf
              refine lv_bipush (v := (-6)) hx hb dX9_step_133 (by decide) ?_
              cases Option.some.inj hf
              exact W.iret hx hb hr (fun t ht hW => ⟨⟨_, (), rfl, rfl, by show va_P D vwCl _ t.heap; rw [ht]; exact hP⟩, hS.F ht⟩) hS.2.2 dX9_step_135
            · replace hf := if_f cc hf
              refine lv_iconst (v := 4) hx hb dX9_step_129 (by decide) ?_
              refine lv_goto (tgt := 135) hx hb dX9_step_130 (by decide) ?_
              cases Option.some.inj hf
              exact W.iret hx hb hr (fun t ht hW => ⟨⟨_, (), rfl, rfl, by show va_P D vwCl _ t.heap; rw [ht]; exact hP⟩, hS.F ht⟩) hS.2.2 dX9_step_135
          · replace hf := if_f c3 hf
            refine lv_tableOut (tgt := 136) hx hb dX9_step_1 (by have z0 := lv_neT c0 (show (0 : Int32).toInt = 0 by decide); have z1 := lv_neT c1 (show (1 : Int32).toInt = 1 by decide); have z2 := lv_neT c2 (show (2 : Int32).toInt = 2 by decide); have z3 := lv_neT c3 (show (3 : Int32).toInt = 3 by decide); omega) (by decide) ?_
            refine lv_iload_n hx hb dX9_step_136 rfl (lv_at hl 1 rfl) ?_
            refine lv_bipush (v := 49) hx hb dX9_step_137 (by decide) ?_
            refine lv_bipush (v := 51) hx hb dX9_step_139 (by decide) ?_
            obtain ⟨q5, hq5, hf⟩ := bd_some hf
            have hC : ([] : List Nat).map (fun i => (([] : va_W))[i]?) = ([] : va_W).map some := rfl
            refine cl_i (rn_S (As := [.int p1, .int 49, .int 51]) (rest := []) hx hb hml hown hT hK hN hP hD [] hC rfl (c_X9_in l D cyI cyJ cyZ cyO H.size p1 49 51 nf q5 hq5) wm_X9_51 wt_X9_in wz_X9 wc_X9_in hd_X9_in ⟨rfl, rfl⟩ ⟨Nat.le_of_ble_eq_true rfl, Nat.le_of_ble_eq_true rfl⟩ rfl hl.1 rfl (Nat.le_of_ble_eq_true rfl) dX9_step_141 ⟨Nat.zero_le _, Nat.zero_le _⟩) hP hD hS hA [] hC [] (ws' := ([] : va_W)) rfl rfl rfl (fun H locs hP hD hS => ?_)
            refine lv_if_eq (tgt := 151) hx hb dX9_step_144 (by decide) (fun cc => ?_) (fun cc => ?_)
            · replace hf := if_t cc hf
              refine lv_bipush (v := (-6)) hx hb dX9_step_151 (by decide) ?_
              cases Option.some.inj hf
              exact W.iret hx hb hr (fun t ht hW => ⟨⟨_, (), rfl, rfl, by show va_P D vwCl _ t.heap; rw [ht]; exact hP⟩, hS.F ht⟩) hS.2.2 dX9_step_153
            · replace hf := if_f cc hf
              refine lv_iconst (v := 0) hx hb dX9_step_147 (by decide) ?_
              refine lv_goto (tgt := 153) hx hb dX9_step_148 (by decide) ?_
              cases Option.some.inj hf
              exact W.iret hx hb hr (fun t ht hW => ⟨⟨_, (), rfl, rfl, by show va_P D vwCl _ t.heap; rw [ht]; exact hP⟩, hS.F ht⟩) hS.2.2 dX9_step_153
  have hl := lv_entry ([.int p0, .int p1]) (n := 2) (Nat.le_of_ble_eq_true rfl)
  rw [lg_entry_eq]
  exact main s.heap [] _ hP hD hS hl
theorem hd_X9_faultOf : yX9_faultOf.cls = RX9 ∧ yX9_faultOf.cls ≠ "java/lang/invoke/MethodHandle" ∧ yX9_faultOf.cls ≠ "java/lang/invoke/VarHandle" ∧ (parseMethodDescriptor yX9_faultOf.desc).map (fun d => d.parameters.length) = some 0 := by decide +kernel
set_option maxHeartbeats 4000000 in
set_option maxRecDepth 100000 in
theorem c_X9_faultOf (l : Launch) (D : va_G) (cyI cyJ cyZ cyO : ClassId) (h : Nat → Nat) (sz : Nat) (book : Nat → Int32) (now : Nat → Int32) (sights : Int32) (sight : Nat → Int32) (signs : Int32) (pad : Nat → Int32) (nights : Int32) (townAt : Int32) (townCell : Int32) (reason : Int32) (acts : Int32) (at_ : Int32) (cost : Nat → Int32) (hole : Nat → Int32) (counts : Nat → Int32) (worth : Nat → Int32) (met : Nat → Int32) (ways : Nat → Int64) (nextWays : Nat → Int64) (image : Nat → Int32) (isKept : Nat → Int32) (nf : Nat) (q : Int32) (hf : g_X9_faultOf nf signs pad = some q) : Met l yX9_faultOf (Cond.code yX9_faultOf cX9_faultOf 3 (some .int) :: tbG) ({ frames := 2, cells := 0, slots := 0, locals := 43 } : Room) (va_Pc [.ref (h 0)] (pcB D (ty4 cyI cyJ cyZ cyO) sz (wX9 cyI cyJ cyZ cyO h book now sights sight signs pad nights townAt townCell reason acts at_ cost hole counts worth met ways nextWays image isKept))) (qI D (wX9 cyI cyJ cyZ cyO h book now sights sight signs pad nights townAt townCell reason acts at_ cost hole counts worth met ways nextWays image isKept) q (va_A (wX9 cyI cyJ cyZ cyO h book now sights sight signs pad nights townAt townCell reason acts at_ cost hole counts worth met ways nextWays image isKept) sz)) 0 0 (va_A (wX9 cyI cyJ cyZ cyO h book now sights sight signs pad nights townAt townCell reason acts at_ cost hole counts worth met ways nextWays image isKept) sz) := by
  refine Met.ofW (cc := cX9_faultOf) (maxL := 3) (ret := (some .int)) (by decide) rfl ?_
  intro p e s m args below meth c s₁ B hml hv
  obtain ⟨rfl, hsz, hP, hK, hD0, hN⟩ := hv
  have hx := B.exec
  have hb := B.bytes
  have hr := B.returns
  have hT : ∀ w ∈ tbG, w.before ([.ref (h 0)] : List Value).toArray s = true := fun w h => atoms_spec (ws := (Cond.code yX9_faultOf cX9_faultOf 3 (some .int) :: tbG)) B.pre w (List.mem_cons_of_mem _ h)
  have hown : s.vm.findClass RX9 = some m.cls := findClass_of_methodNamed B.named
  have hlocks := B.notSynchronized
  subst hsz
  have hD := hD0.self (sz := s.heap.size)
  generalize hAe : va_A (wX9 cyI cyJ cyZ cyO h book now sights sight signs pad nights townAt townCell reason acts at_ cost hole counts worth met ways nextWays image isKept) s.heap.size = A at hD ⊢
  have hA : ∀ q : Nat, s.heap.size ≤ q → A q := fun q h => by rw [← hAe]; exact Or.inr h
  have hS : va_S A s.heap s.heap [] := va_S.rf
  show W p l e ({ frames := 2, cells := 0, slots := 0, locals := 43 } : Room) s m ([.ref (h 0)] : List Value).toArray below meth c s.heap [] 0 0 (MQ below (qI D (wX9 cyI cyJ cyZ cyO h book now sights sight signs pad nights townAt townCell reason acts at_ cost hole counts worth met ways nextWays image isKept) q A) ([.ref (h 0)] : List Value).toArray s 0 0 A) _
  have l4 : ∀ (n4 : Nat) (x1 : Int32) (x2 : Int32) (signs : Int32) (pad : Nat → Int32) (H : Heap) (locs : List Loc) (ls : Array Slot), va_P D vwCl (wX9 cyI cyJ cyZ cyO h book now sights sight signs pad nights townAt townCell reason acts at_ cost hole counts worth met ways nextWays image isKept) H → va_D A (wX9 cyI cyJ cyZ cyO h book now sights sight signs pad nights townAt townCell reason acts at_ cost hole counts worth met ways nextWays image isKept) → va_S A s.heap H locs → lv_has ls 3 [(0, .ref (h 0)), (1, .int x1), (2, .int x2)] → g_X9_faultOf_l4 nf n4 x1 x2 signs pad = some q → W p l e ({ frames := 2, cells := 0, slots := 0, locals := 43 } : Room) s m ([.ref (h 0)] : List Value).toArray below meth c H locs 0 0 (MQ below (qI D (wX9 cyI cyJ cyZ cyO h book now sights sight signs pad nights townAt townCell reason acts at_ cost hole counts worth met ways nextWays image isKept) q A) ([.ref (h 0)] : List Value).toArray s 0 0 A) (F0 m 4 ls []) := by
    intro n4
    induction n4 with
    | zero =>
      intro x1 x2 signs pad H locs ls hP hD hS hl hf
      rw [g_X9_faultOf_l4] at hf
      cases hf
    | succ n4 ih4 =>
      intro x1 x2 signs pad H locs ls hP hD hS hl hf
      rw [g_X9_faultOf_l4] at hf
      refine lv_iload_n hx hb dX9_faultOf_4 rfl (lv_at hl 2 rfl) ?_
      refine lv_aload_n hx hb dX9_faultOf_5 rfl (lv_at hl 0 rfl) ?_
      refine va_get (ci := 9) (v := .int signs) (C := RX9) (T := TX9) (N := 21) hx hb hT hin_X9 hown hK hP 0 rfl rfl 4 (by decide) (hT _ wf_X9_63) (fun _ h9 => h9) rfl dX9_faultOf_6 ?_
      refine lv_icmp_ge (tgt := 35) hx hb dX9_faultOf_9 (by decide) (fun cc => ?_) (fun cc => ?_)
      · replace hf := if_t cc hf
        refine lv_iload_n hx hb dX9_faultOf_35 rfl (lv_at hl 1 rfl) ?_
        refine lv_if_ne (tgt := 44) hx hb dX9_faultOf_36 (by decide) (fun cc => ?_) (fun cc => ?_)
        · replace hf := if_f cc hf
          refine lv_aload_n hx hb dX9_faultOf_44 rfl (lv_at hl 0 rfl) ?_
          refine va_get (ci := 9) (v := .int signs) (C := RX9) (T := TX9) (N := 21) hx hb hT hin_X9 hown hK hP 0 rfl rfl 4 (by decide) (hT _ wf_X9_63) (fun _ h9 => h9) rfl dX9_faultOf_45 ?_
          cases Option.some.inj hf
          exact W.iret hx hb hr (fun t ht hW => ⟨⟨_, (), rfl, rfl, by show va_P D vwCl _ t.heap; rw [ht]; exact hP⟩, hS.F ht⟩) hS.2.2 dX9_faultOf_48
        · replace hf := if_t cc hf
          refine lv_bipush (v := (-6)) hx hb dX9_faultOf_39 (by decide) ?_
          refine lv_goto (tgt := 48) hx hb dX9_faultOf_41 (by decide) ?_
          cases Option.some.inj hf
          exact W.iret hx hb hr (fun t ht hW => ⟨⟨_, (), rfl, rfl, by show va_P D vwCl _ t.heap; rw [ht]; exact hP⟩, hS.F ht⟩) hS.2.2 dX9_faultOf_48
      · replace hf := if_f cc hf
        refine lv_iload_n hx hb dX9_faultOf_12 rfl (lv_at hl 1 rfl) ?_
        refine lv_aload_n hx hb dX9_faultOf_13 rfl (lv_at hl 0 rfl) ?_
        refine va_get (ci := 9) (v := .ref (h 4)) (C := RX9) (T := TX9) (N := 21) hx hb hT hin_X9 hown hK hP 0 rfl rfl 5 (by decide) (hT _ wf_X9_19) (fun _ h9 => h9) rfl dX9_faultOf_14 ?_
        refine lv_iload_n hx hb dX9_faultOf_17 rfl (lv_at hl 2 rfl) ?_
        obtain ⟨hi, hf⟩ := ck_some hf
        refine va_iald hx hb hK hP 4 0 rfl rfl hi dX9_faultOf_18 ?_
        obtain ⟨q1, hq1, hf⟩ := bd_some hf
        have hC : ([] : List Nat).map (fun i => (wX9 cyI cyJ cyZ cyO h book now sights sight signs pad nights townAt townCell reason acts at_ cost hole counts worth met ways nextWays image isKept)[i]?) = ([] : va_W).map some := rfl
        refine cl_i (rn_S (As := [.int x1, .int (pad x2.toNatClampNeg)]) (rest := []) hx hb hml hown hT hK hN hP hD [] hC rfl (c_X9_step l D cyI cyJ cyZ cyO H.size x1 (pad x2.toNatClampNeg) nf q1 hq1) wm_X9_71 wt_X9_step wz_X9 wc_X9_step hd_X9_step ⟨rfl, rfl⟩ ⟨Nat.le_of_ble_eq_true rfl, Nat.le_of_ble_eq_true rfl⟩ rfl hl.1 rfl (Nat.le_of_ble_eq_true rfl) dX9_faultOf_19 ⟨Nat.zero_le _, Nat.zero_le _⟩) hP hD hS hA [] hC [(false, 0), (false, 1), (false, 2), (false, 3), (false, 4), (false, 5), (false, 6), (false, 7), (false, 8), (false, 9), (false, 10), (false, 11), (false, 12), (false, 13)] (ws' := wX9 cyI cyJ cyZ cyO h book now sights sight signs pad nights townAt townCell reason acts at_ cost hole counts worth met ways nextWays image isKept) rfl rfl rfl (fun H locs hP hD hS => ?_)
        refine lv_istore_n (lv' := [(1, .int q1), (0, .ref (h 0)), (2, .int x2)]) hx hb dX9_faultOf_22 rfl hl (by decide) rfl (fun ls hl => ?_)
        refine lv_iload_n hx hb dX9_faultOf_23 rfl (lv_at hl 0 rfl) ?_
        refine lv_if_ge (tgt := 29) hx hb dX9_faultOf_24 (by decide) (fun cc => ?_) (fun cc => ?_)
        · replace hf := if_t cc hf
          refine lv_iinc (v := (x2 + 1)) (lv' := [(2, .int (x2 + 1)), (1, .int q1), (0, .ref (h 0))]) hx hb dX9_faultOf_29 hl (k := 2) rfl rfl (by decide) rfl (fun ls hl => ?_)
          refine lv_goto (tgt := 4) hx hb dX9_faultOf_32 (by decide) ?_
          exact ih4 q1 (x2 + 1) signs pad H locs ls hP hD hS (lv_sub hl [2, 1, 0] rfl) hf
        · replace hf := if_f cc hf
          refine lv_iload_n hx hb dX9_faultOf_27 rfl (lv_at hl 2 rfl) ?_
          cases Option.some.inj hf
          exact W.iret hx hb hr (fun t ht hW => ⟨⟨_, (), rfl, rfl, by show va_P D vwCl _ t.heap; rw [ht]; exact hP⟩, hS.F ht⟩) hS.2.2 dX9_faultOf_28
  have main : ∀ (H : Heap) (locs : List Loc) (ls : Array Slot), va_P D vwCl (wX9 cyI cyJ cyZ cyO h book now sights sight signs pad nights townAt townCell reason acts at_ cost hole counts worth met ways nextWays image isKept) H → va_D A (wX9 cyI cyJ cyZ cyO h book now sights sight signs pad nights townAt townCell reason acts at_ cost hole counts worth met ways nextWays image isKept) → va_S A s.heap H locs → lv_has ls 3 [(0, .ref (h 0))] → W p l e ({ frames := 2, cells := 0, slots := 0, locals := 43 } : Room) s m ([.ref (h 0)] : List Value).toArray below meth c H locs 0 0 (MQ below (qI D (wX9 cyI cyJ cyZ cyO h book now sights sight signs pad nights townAt townCell reason acts at_ cost hole counts worth met ways nextWays image isKept) q A) ([.ref (h 0)] : List Value).toArray s 0 0 A) (F0 m 0 ls []) := by
    intro H locs ls hP hD hS hl
    unfold g_X9_faultOf at hf
    refine lv_iconst (v := 0) hx hb dX9_faultOf_0 (by decide) ?_
    refine lv_istore_n (lv' := [(1, .int 0), (0, .ref (h 0))]) hx hb dX9_faultOf_1 rfl hl (by decide) rfl (fun ls hl => ?_)
    refine lv_iconst (v := 0) hx hb dX9_faultOf_2 (by decide) ?_
    refine lv_istore_n (lv' := [(2, .int 0), (1, .int 0), (0, .ref (h 0))]) hx hb dX9_faultOf_3 rfl hl (by decide) rfl (fun ls hl => ?_)
    exact l4 nf 0 0 signs pad H locs ls hP hD hS (lv_sub hl [2, 1, 0] rfl) hf
  have hl := lv_entry ([.ref (h 0)]) (n := 3) (Nat.le_of_ble_eq_true rfl)
  rw [lg_entry_eq]
  exact main s.heap [] _ hP hD hS hl
theorem hd_X9_fault : yX9_fault.cls = RX9 ∧ yX9_fault.cls ≠ "java/lang/invoke/MethodHandle" ∧ yX9_fault.cls ≠ "java/lang/invoke/VarHandle" ∧ (parseMethodDescriptor yX9_fault.desc).map (fun d => d.parameters.length) = some 0 := by decide +kernel
set_option maxHeartbeats 4000000 in
set_option maxRecDepth 100000 in
theorem c_X9_fault (l : Launch) (D : va_G) (cyI cyJ cyZ cyO : ClassId) (h : Nat → Nat) (sz : Nat) (book : Nat → Int32) (now : Nat → Int32) (sights : Int32) (sight : Nat → Int32) (signs : Int32) (pad : Nat → Int32) (nights : Int32) (townAt : Int32) (townCell : Int32) (reason : Int32) (acts : Int32) (at_ : Int32) (cost : Nat → Int32) (hole : Nat → Int32) (counts : Nat → Int32) (worth : Nat → Int32) (met : Nat → Int32) (ways : Nat → Int64) (nextWays : Nat → Int64) (image : Nat → Int32) (isKept : Nat → Int32) (nf : Nat) (q : Int32) (hf : g_X9_fault nf signs pad = some q) : Met l yX9_fault (Cond.code yX9_fault cX9_fault 1 (some .int) :: tbG) ({ frames := 3, cells := 0, slots := 0, locals := 65 } : Room) (va_Pc [.ref (h 0)] (pcB D (ty4 cyI cyJ cyZ cyO) sz (wX9 cyI cyJ cyZ cyO h book now sights sight signs pad nights townAt townCell reason acts at_ cost hole counts worth met ways nextWays image isKept))) (qI D (wX9 cyI cyJ cyZ cyO h book now sights sight signs pad nights townAt townCell reason acts at_ cost hole counts worth met ways nextWays image isKept) q (va_A (wX9 cyI cyJ cyZ cyO h book now sights sight signs pad nights townAt townCell reason acts at_ cost hole counts worth met ways nextWays image isKept) sz)) 0 0 (va_A (wX9 cyI cyJ cyZ cyO h book now sights sight signs pad nights townAt townCell reason acts at_ cost hole counts worth met ways nextWays image isKept) sz) := by
  refine Met.ofW (cc := cX9_fault) (maxL := 1) (ret := (some .int)) (by decide) rfl ?_
  intro p e s m args below meth c s₁ B hml hv
  obtain ⟨rfl, hsz, hP, hK, hD0, hN⟩ := hv
  have hx := B.exec
  have hb := B.bytes
  have hr := B.returns
  have hT : ∀ w ∈ tbG, w.before ([.ref (h 0)] : List Value).toArray s = true := fun w h => atoms_spec (ws := (Cond.code yX9_fault cX9_fault 1 (some .int) :: tbG)) B.pre w (List.mem_cons_of_mem _ h)
  have hown : s.vm.findClass RX9 = some m.cls := findClass_of_methodNamed B.named
  have hlocks := B.notSynchronized
  subst hsz
  have hD := hD0.self (sz := s.heap.size)
  generalize hAe : va_A (wX9 cyI cyJ cyZ cyO h book now sights sight signs pad nights townAt townCell reason acts at_ cost hole counts worth met ways nextWays image isKept) s.heap.size = A at hD ⊢
  have hA : ∀ q : Nat, s.heap.size ≤ q → A q := fun q h => by rw [← hAe]; exact Or.inr h
  have hS : va_S A s.heap s.heap [] := va_S.rf
  show W p l e ({ frames := 3, cells := 0, slots := 0, locals := 65 } : Room) s m ([.ref (h 0)] : List Value).toArray below meth c s.heap [] 0 0 (MQ below (qI D (wX9 cyI cyJ cyZ cyO h book now sights sight signs pad nights townAt townCell reason acts at_ cost hole counts worth met ways nextWays image isKept) q A) ([.ref (h 0)] : List Value).toArray s 0 0 A) _
  have main : ∀ (H : Heap) (locs : List Loc) (ls : Array Slot), va_P D vwCl (wX9 cyI cyJ cyZ cyO h book now sights sight signs pad nights townAt townCell reason acts at_ cost hole counts worth met ways nextWays image isKept) H → va_D A (wX9 cyI cyJ cyZ cyO h book now sights sight signs pad nights townAt townCell reason acts at_ cost hole counts worth met ways nextWays image isKept) → va_S A s.heap H locs → lv_has ls 1 [(0, .ref (h 0))] → W p l e ({ frames := 3, cells := 0, slots := 0, locals := 65 } : Room) s m ([.ref (h 0)] : List Value).toArray below meth c H locs 0 0 (MQ below (qI D (wX9 cyI cyJ cyZ cyO h book now sights sight signs pad nights townAt townCell reason acts at_ cost hole counts worth met ways nextWays image isKept) q A) ([.ref (h 0)] : List Value).toArray s 0 0 A) (F0 m 0 ls []) := by
    intro H locs ls hP hD hS hl
    unfold g_X9_fault at hf
    refine lv_aload_n hx hb dX9_fault_0 rfl (lv_at hl 0 rfl) ?_
    obtain ⟨q1, hq1, hf⟩ := bd_some hf
    have hC : [0, 1, 2, 3, 4, 5, 6, 7, 8, 9, 10, 11, 12, 13].map (fun i => (wX9 cyI cyJ cyZ cyO h book now sights sight signs pad nights townAt townCell reason acts at_ cost hole counts worth met ways nextWays image isKept)[i]?) = (wX9 cyI cyJ cyZ cyO h book now sights sight signs pad nights townAt townCell reason acts at_ cost hole counts worth met ways nextWays image isKept).map some := rfl
    refine cl_i (rn_V (As := []) (rest := []) (C := RX9) hx hb hml hown hT hK hN hP hD [0, 1, 2, 3, 4, 5, 6, 7, 8, 9, 10, 11, 12, 13] hC rfl (c_X9_faultOf l D cyI cyJ cyZ cyO h H.size book now sights sight signs pad nights townAt townCell reason acts at_ cost hole counts worth met ways nextWays image isKept nf q1 hq1) wm_X9_75 wi_X9_faultOf wl_X9_faultOf wz_X9 wc_X9_faultOf hd_X9_faultOf ⟨rfl, rfl⟩ ⟨Nat.le_of_ble_eq_true rfl, Nat.le_of_ble_eq_true rfl⟩ (q0 := 0) (ci := 9) rfl rfl rfl rfl hl.1 rfl (Nat.le_of_ble_eq_true rfl) dX9_fault_1 ⟨Nat.zero_le _, Nat.zero_le _⟩) hP hD hS hA [0, 1, 2, 3, 4, 5, 6, 7, 8, 9, 10, 11, 12, 13] hC [(true, 0), (true, 1), (true, 2), (true, 3), (true, 4), (true, 5), (true, 6), (true, 7), (true, 8), (true, 9), (true, 10), (true, 11), (true, 12), (true, 13)] (ws' := wX9 cyI cyJ cyZ cyO h book now sights sight signs pad nights townAt townCell reason acts at_ cost hole counts worth met ways nextWays image isKept) rfl rfl rfl (fun H locs hP hD hS => ?_)
    cases Option.some.inj hf
    exact W.iret hx hb hr (fun t ht hW => ⟨⟨_, (), rfl, rfl, by show va_P D vwCl _ t.heap; rw [ht]; exact hP⟩, hS.F ht⟩) hS.2.2 dX9_fault_4
  have hl := lv_entry ([.ref (h 0)]) (n := 1) (Nat.le_of_ble_eq_true rfl)
  rw [lg_entry_eq]
  exact main s.heap [] _ hP hD hS hl
theorem hd_X9_asNow : yX9_asNow.cls = RX9 ∧ yX9_asNow.cls ≠ "java/lang/invoke/MethodHandle" ∧ yX9_asNow.cls ≠ "java/lang/invoke/VarHandle" ∧ (parseMethodDescriptor yX9_asNow.desc).map (fun d => d.parameters.length) = some 0 := by decide +kernel
set_option maxHeartbeats 4000000 in
set_option maxRecDepth 100000 in
theorem c_X9_asNow (l : Launch) (D : va_G) (cyI cyJ cyZ cyO : ClassId) (h : Nat → Nat) (sz : Nat) (book : Nat → Int32) (now : Nat → Int32) (sights : Int32) (sight : Nat → Int32) (signs : Int32) (pad : Nat → Int32) (nights : Int32) (townAt : Int32) (townCell : Int32) (reason : Int32) (acts : Int32) (at_ : Int32) (cost : Nat → Int32) (hole : Nat → Int32) (counts : Nat → Int32) (worth : Nat → Int32) (met : Nat → Int32) (ways : Nat → Int64) (nextWays : Nat → Int64) (image : Nat → Int32) (isKept : Nat → Int32) (nf : Nat) (q : (Nat → Int32) × Int32 × Int32 × Int32) (hf : g_X9_asNow nf book now nights townAt townCell = some q) : Met l yX9_asNow (Cond.code yX9_asNow cX9_asNow 2 none :: tbG) ({ frames := 0, cells := 0, slots := 0, locals := 0 } : Room) (va_Pc [.ref (h 0)] (pcB D (ty4 cyI cyJ cyZ cyO) sz (wX9 cyI cyJ cyZ cyO h book now sights sight signs pad nights townAt townCell reason acts at_ cost hole counts worth met ways nextWays image isKept))) (qV D (wX9 cyI cyJ cyZ cyO h book q.1 sights sight signs pad q.2.1 q.2.2.1 q.2.2.2 reason acts at_ cost hole counts worth met ways nextWays image isKept) (va_A (wX9 cyI cyJ cyZ cyO h book now sights sight signs pad nights townAt townCell reason acts at_ cost hole counts worth met ways nextWays image isKept) sz)) 0 0 (va_A (wX9 cyI cyJ cyZ cyO h book now sights sight signs pad nights townAt townCell reason acts at_ cost hole counts worth met ways nextWays image isKept) sz) := by
  refine Met.ofW (cc := cX9_asNow) (maxL := 2) (ret := none) (by decide) rfl ?_
  intro p e s m args below meth c s₁ B hml hv
  obtain ⟨rfl, hsz, hP, hK, hD0, hN⟩ := hv
  have hx := B.exec
  have hb := B.bytes
  have hr := B.returns
  have hT : ∀ w ∈ tbG, w.before ([.ref (h 0)] : List Value).toArray s = true := fun w h => atoms_spec (ws := (Cond.code yX9_asNow cX9_asNow 2 none :: tbG)) B.pre w (List.mem_cons_of_mem _ h)
  have hown : s.vm.findClass RX9 = some m.cls := findClass_of_methodNamed B.named
  have hlocks := B.notSynchronized
  subst hsz
  have hD := hD0.self (sz := s.heap.size)
  generalize hAe : va_A (wX9 cyI cyJ cyZ cyO h book now sights sight signs pad nights townAt townCell reason acts at_ cost hole counts worth met ways nextWays image isKept) s.heap.size = A at hD ⊢
  have hA : ∀ q : Nat, s.heap.size ≤ q → A q := fun q h => by rw [← hAe]; exact Or.inr h
  have hS : va_S A s.heap s.heap [] := va_S.rf
  show W p l e ({ frames := 0, cells := 0, slots := 0, locals := 0 } : Room) s m ([.ref (h 0)] : List Value).toArray below meth c s.heap [] 0 0 (MQ below (qV D (wX9 cyI cyJ cyZ cyO h book q.1 sights sight signs pad q.2.1 q.2.2.1 q.2.2.2 reason acts at_ cost hole counts worth met ways nextWays image isKept) A) ([.ref (h 0)] : List Value).toArray s 0 0 A) _
  have l2 : ∀ (n2 : Nat) (x1 : Int32) (book : Nat → Int32) (now : Nat → Int32) (nights : Int32) (townAt : Int32) (townCell : Int32) (H : Heap) (locs : List Loc) (ls : Array Slot), va_P D vwCl (wX9 cyI cyJ cyZ cyO h book now sights sight signs pad nights townAt townCell reason acts at_ cost hole counts worth met ways nextWays image isKept) H → va_D A (wX9 cyI cyJ cyZ cyO h book now sights sight signs pad nights townAt townCell reason acts at_ cost hole counts worth met ways nextWays image isKept) → va_S A s.heap H locs → lv_has ls 2 [(0, .ref (h 0)), (1, .int x1)] → g_X9_asNow_l2 nf n2 x1 book now nights townAt townCell = some q → W p l e ({ frames := 0, cells := 0, slots := 0, locals := 0 } : Room) s m ([.ref (h 0)] : List Value).toArray below meth c H locs 0 0 (MQ below (qV D (wX9 cyI cyJ cyZ cyO h book q.1 sights sight signs pad q.2.1 q.2.2.1 q.2.2.2 reason acts at_ cost hole counts worth met ways nextWays image isKept) A) ([.ref (h 0)] : List Value).toArray s 0 0 A) (F0 m 2 ls []) := by
    intro n2
    induction n2 with
    | zero =>
      intro x1 book now nights townAt townCell H locs ls hP hD hS hl hf
      rw [g_X9_asNow_l2] at hf
      cases hf
    | succ n2 ih2 =>
      intro x1 book now nights townAt townCell H locs ls hP hD hS hl hf
      rw [g_X9_asNow_l2] at hf
      refine lv_iload_n hx hb dX9_asNow_2 rfl (lv_at hl 1 rfl) ?_
      refine lv_bipush (v := 63) hx hb dX9_asNow_3 (by decide) ?_
      refine lv_icmp_ge (tgt := 26) hx hb dX9_asNow_5 (by decide) (fun cc => ?_) (fun cc => ?_)
      · replace hf := if_t cc hf
        refine lv_aload_n hx hb dX9_asNow_26 rfl (lv_at hl 0 rfl) ?_
        refine lv_iconst (v := 0) hx hb dX9_asNow_27 (by decide) ?_
        refine va_put (ci := 9) (v := .int 0) (ty := .int) (C := RX9) (T := TX9) (N := 21) hx hb hT hin_X9 tyX9 tyX9_ok nmX9 hown hK hP hD hS 0 rfl rfl 6 (by decide) (hT _ wf_X9_79) (fun _ h9 => h9) rfl (tyX9_ok 6 (by decide)) rfl rfl (Nat.le_of_ble_eq_true rfl) dX9_asNow_28 (fun H locs hP hD hS => ?_)
        have hP : va_P D vwCl (wX9 cyI cyJ cyZ cyO h book now sights sight signs pad 0 townAt townCell reason acts at_ cost hole counts worth met ways nextWays image isKept) H := hP
        have hD : va_D A (wX9 cyI cyJ cyZ cyO h book now sights sight signs pad 0 townAt townCell reason acts at_ cost hole counts worth met ways nextWays image isKept) := hD
        refine lv_aload_n hx hb dX9_asNow_31 rfl (lv_at hl 0 rfl) ?_
        refine lv_bipush (v := (-6)) hx hb dX9_asNow_32 (by decide) ?_
        refine va_put (ci := 9) (v := .int (-6)) (ty := .int) (C := RX9) (T := TX9) (N := 21) hx hb hT hin_X9 tyX9 tyX9_ok nmX9 hown hK hP hD hS 0 rfl rfl 7 (by decide) (hT _ wf_X9_82) (fun _ h9 => h9) rfl (tyX9_ok 7 (by decide)) rfl rfl (Nat.le_of_ble_eq_true rfl) dX9_asNow_34 (fun H locs hP hD hS => ?_)
        have hP : va_P D vwCl (wX9 cyI cyJ cyZ cyO h book now sights sight signs pad 0 (-6) townCell reason acts at_ cost hole counts worth met ways nextWays image isKept) H := hP
        have hD : va_D A (wX9 cyI cyJ cyZ cyO h book now sights sight signs pad 0 (-6) townCell reason acts at_ cost hole counts worth met ways nextWays image isKept) := hD
        refine lv_aload_n hx hb dX9_asNow_37 rfl (lv_at hl 0 rfl) ?_
        refine lv_bipush (v := (-6)) hx hb dX9_asNow_38 (by decide) ?_
        refine va_put (ci := 9) (v := .int (-6)) (ty := .int) (C := RX9) (T := TX9) (N := 21) hx hb hT hin_X9 tyX9 tyX9_ok nmX9 hown hK hP hD hS 0 rfl rfl 8 (by decide) (hT _ wf_X9_85) (fun _ h9 => h9) rfl (tyX9_ok 8 (by decide)) rfl rfl (Nat.le_of_ble_eq_true rfl) dX9_asNow_40 (fun H locs hP hD hS => ?_)
        have hP : va_P D vwCl (wX9 cyI cyJ cyZ cyO h book now sights sight signs pad 0 (-6) (-6) reason acts at_ cost hole counts worth met ways nextWays image isKept) H := hP
        have hD : va_D A (wX9 cyI cyJ cyZ cyO h book now sights sight signs pad 0 (-6) (-6) reason acts at_ cost hole counts worth met ways nextWays image isKept) := hD
        cases Option.some.inj hf
        exact W.vret hx hb hr (fun t ht hW => ⟨⟨(), rfl, trivial, by show va_P D vwCl _ t.heap; rw [ht]; exact hP⟩, hS.F ht⟩) hS.2.2 dX9_asNow_43
      · replace hf := if_f cc hf
        refine lv_aload_n hx hb dX9_asNow_8 rfl (lv_at hl 0 rfl) ?_
        refine va_get (ci := 9) (v := .ref (h 2)) (C := RX9) (T := TX9) (N := 21) hx hb hT hin_X9 hown hK hP 0 rfl rfl 1 (by decide) (hT _ wf_X9_13) (fun _ h9 => h9) rfl dX9_asNow_9 ?_
        refine lv_iload_n hx hb dX9_asNow_12 rfl (lv_at hl 1 rfl) ?_
        refine lv_aload_n hx hb dX9_asNow_13 rfl (lv_at hl 0 rfl) ?_
        refine va_get (ci := 9) (v := .ref (h 1)) (C := RX9) (T := TX9) (N := 21) hx hb hT hin_X9 hown hK hP 0 rfl rfl 0 (by decide) (hT _ wf_X9_7) (fun _ h9 => h9) rfl dX9_asNow_14 ?_
        refine lv_iload_n hx hb dX9_asNow_17 rfl (lv_at hl 1 rfl) ?_
        obtain ⟨hi, hf⟩ := ck_some hf
        refine va_iald hx hb hK hP 1 0 rfl rfl hi dX9_asNow_18 ?_
        obtain ⟨hi, hf⟩ := ck_some hf
        refine va_iast hx hb hK hP hD hS 2 0 rfl rfl hi dX9_asNow_19 (fun H locs hP hD hS => ?_)
        have hP : va_P D vwCl (wX9 cyI cyJ cyZ cyO h book (upd now x1.toNatClampNeg (book x1.toNatClampNeg)) sights sight signs pad nights townAt townCell reason acts at_ cost hole counts worth met ways nextWays image isKept) H := hP
        have hD : va_D A (wX9 cyI cyJ cyZ cyO h book (upd now x1.toNatClampNeg (book x1.toNatClampNeg)) sights sight signs pad nights townAt townCell reason acts at_ cost hole counts worth met ways nextWays image isKept) := hD
        refine lv_iinc (v := (x1 + 1)) (lv' := [(1, .int (x1 + 1)), (0, .ref (h 0))]) hx hb dX9_asNow_20 hl (k := 1) rfl rfl (by decide) rfl (fun ls hl => ?_)
        refine lv_goto (tgt := 2) hx hb dX9_asNow_23 (by decide) ?_
        exact ih2 (x1 + 1) book (upd now x1.toNatClampNeg (book x1.toNatClampNeg)) nights townAt townCell H locs ls hP hD hS (lv_sub hl [1, 0] rfl) hf
  have main : ∀ (H : Heap) (locs : List Loc) (ls : Array Slot), va_P D vwCl (wX9 cyI cyJ cyZ cyO h book now sights sight signs pad nights townAt townCell reason acts at_ cost hole counts worth met ways nextWays image isKept) H → va_D A (wX9 cyI cyJ cyZ cyO h book now sights sight signs pad nights townAt townCell reason acts at_ cost hole counts worth met ways nextWays image isKept) → va_S A s.heap H locs → lv_has ls 2 [(0, .ref (h 0))] → W p l e ({ frames := 0, cells := 0, slots := 0, locals := 0 } : Room) s m ([.ref (h 0)] : List Value).toArray below meth c H locs 0 0 (MQ below (qV D (wX9 cyI cyJ cyZ cyO h book q.1 sights sight signs pad q.2.1 q.2.2.1 q.2.2.2 reason acts at_ cost hole counts worth met ways nextWays image isKept) A) ([.ref (h 0)] : List Value).toArray s 0 0 A) (F0 m 0 ls []) := by
    intro H locs ls hP hD hS hl
    unfold g_X9_asNow at hf
    refine lv_iconst (v := 0) hx hb dX9_asNow_0 (by decide) ?_
    refine lv_istore_n (lv' := [(1, .int 0), (0, .ref (h 0))]) hx hb dX9_asNow_1 rfl hl (by decide) rfl (fun ls hl => ?_)
    exact l2 nf 0 book now nights townAt townCell H locs ls hP hD hS (lv_sub hl [1, 0] rfl) hf
  have hl := lv_entry ([.ref (h 0)]) (n := 2) (Nat.le_of_ble_eq_true rfl)
  rw [lg_entry_eq]
  exact main s.heap [] _ hP hD hS hl
theorem hd_X9_flying : yX9_flying.cls = RX9 ∧ yX9_flying.cls ≠ "java/lang/invoke/MethodHandle" ∧ yX9_flying.cls ≠ "java/lang/invoke/VarHandle" ∧ (parseMethodDescriptor yX9_flying.desc).map (fun d => d.parameters.length) = some 1 := by decide +kernel
set_option maxHeartbeats 4000000 in
set_option maxRecDepth 100000 in
theorem c_X9_flying (l : Launch) (D : va_G) (cyI cyJ cyZ cyO : ClassId) (h : Nat → Nat) (sz : Nat) (book : Nat → Int32) (now : Nat → Int32) (sights : Int32) (sight : Nat → Int32) (signs : Int32) (pad : Nat → Int32) (nights : Int32) (townAt : Int32) (townCell : Int32) (reason : Int32) (acts : Int32) (at_ : Int32) (cost : Nat → Int32) (hole : Nat → Int32) (counts : Nat → Int32) (worth : Nat → Int32) (met : Nat → Int32) (ways : Nat → Int64) (nextWays : Nat → Int64) (image : Nat → Int32) (isKept : Nat → Int32) (p1 : Int32) (nf : Nat) (q : Int32) (hf : g_X9_flying nf p1 now = some q) : Met l yX9_flying (Cond.code yX9_flying cX9_flying 2 (some .boolean) :: tbG) ({ frames := 1, cells := 0, slots := 0, locals := 22 } : Room) (va_Pc [.ref (h 0), .int p1] (pcB D (ty4 cyI cyJ cyZ cyO) sz (wX9 cyI cyJ cyZ cyO h book now sights sight signs pad nights townAt townCell reason acts at_ cost hole counts worth met ways nextWays image isKept))) (qI D (wX9 cyI cyJ cyZ cyO h book now sights sight signs pad nights townAt townCell reason acts at_ cost hole counts worth met ways nextWays image isKept) q (va_A (wX9 cyI cyJ cyZ cyO h book now sights sight signs pad nights townAt townCell reason acts at_ cost hole counts worth met ways nextWays image isKept) sz)) 0 0 (va_A (wX9 cyI cyJ cyZ cyO h book now sights sight signs pad nights townAt townCell reason acts at_ cost hole counts worth met ways nextWays image isKept) sz) := by
  refine Met.ofW (cc := cX9_flying) (maxL := 2) (ret := (some .boolean)) (by decide) rfl ?_
  intro p e s m args below meth c s₁ B hml hv
  obtain ⟨rfl, hsz, hP, hK, hD0, hN⟩ := hv
  have hx := B.exec
  have hb := B.bytes
  have hr := B.returns
  have hT : ∀ w ∈ tbG, w.before ([.ref (h 0), .int p1] : List Value).toArray s = true := fun w h => atoms_spec (ws := (Cond.code yX9_flying cX9_flying 2 (some .boolean) :: tbG)) B.pre w (List.mem_cons_of_mem _ h)
  have hown : s.vm.findClass RX9 = some m.cls := findClass_of_methodNamed B.named
  have hlocks := B.notSynchronized
  subst hsz
  have hD := hD0.self (sz := s.heap.size)
  generalize hAe : va_A (wX9 cyI cyJ cyZ cyO h book now sights sight signs pad nights townAt townCell reason acts at_ cost hole counts worth met ways nextWays image isKept) s.heap.size = A at hD ⊢
  have hA : ∀ q : Nat, s.heap.size ≤ q → A q := fun q h => by rw [← hAe]; exact Or.inr h
  have hS : va_S A s.heap s.heap [] := va_S.rf
  show W p l e ({ frames := 1, cells := 0, slots := 0, locals := 22 } : Room) s m ([.ref (h 0), .int p1] : List Value).toArray below meth c s.heap [] 0 0 (MQ below (qI D (wX9 cyI cyJ cyZ cyO h book now sights sight signs pad nights townAt townCell reason acts at_ cost hole counts worth met ways nextWays image isKept) q A) ([.ref (h 0), .int p1] : List Value).toArray s 0 0 A) _
  have main : ∀ (H : Heap) (locs : List Loc) (ls : Array Slot), va_P D vwCl (wX9 cyI cyJ cyZ cyO h book now sights sight signs pad nights townAt townCell reason acts at_ cost hole counts worth met ways nextWays image isKept) H → va_D A (wX9 cyI cyJ cyZ cyO h book now sights sight signs pad nights townAt townCell reason acts at_ cost hole counts worth met ways nextWays image isKept) → va_S A s.heap H locs → lv_has ls 2 [(0, .ref (h 0)), (1, .int p1)] → W p l e ({ frames := 1, cells := 0, slots := 0, locals := 22 } : Room) s m ([.ref (h 0), .int p1] : List Value).toArray below meth c H locs 0 0 (MQ below (qI D (wX9 cyI cyJ cyZ cyO h book now sights sight signs pad nights townAt townCell reason acts at_ cost hole counts worth met ways nextWays image isKept) q A) ([.ref (h 0), .int p1] : List Value).toArray s 0 0 A) (F0 m 0 ls []) := by
    intro H locs ls hP hD hS hl
    unfold g_X9_flying at hf
    refine lv_iload_n hx hb dX9_flying_0 rfl (lv_at hl 1 rfl) ?_
    refine lv_iconst (v := 0) hx hb dX9_flying_1 (by decide) ?_
    refine lv_iconst (v := 3) hx hb dX9_flying_2 (by decide) ?_
    obtain ⟨q1, hq1, hf⟩ := bd_some hf
    have hC : ([] : List Nat).map (fun i => (wX9 cyI cyJ cyZ cyO h book now sights sight signs pad nights townAt townCell reason acts at_ cost hole counts worth met ways nextWays image isKept)[i]?) = ([] : va_W).map some := rfl
    refine cl_i (rn_S (As := [.int p1, .int 0, .int 3]) (rest := []) hx hb hml hown hT hK hN hP hD [] hC rfl (c_X9_in l D cyI cyJ cyZ cyO H.size p1 0 3 nf q1 hq1) wm_X9_51 wt_X9_in wz_X9 wc_X9_in hd_X9_in ⟨rfl, rfl⟩ ⟨Nat.le_of_ble_eq_true rfl, Nat.le_of_ble_eq_true rfl⟩ rfl hl.1 rfl (Nat.le_of_ble_eq_true rfl) dX9_flying_3 ⟨Nat.zero_le _, Nat.zero_le _⟩) hP hD hS hA [] hC [(false, 0), (false, 1), (false, 2), (false, 3), (false, 4), (false, 5), (false, 6), (false, 7), (false, 8), (false, 9), (false, 10), (false, 11), (false, 12), (false, 13)] (ws' := wX9 cyI cyJ cyZ cyO h book now sights sight signs pad nights townAt townCell reason acts at_ cost hole counts worth met ways nextWays image isKept) rfl rfl rfl (fun H locs hP hD hS => ?_)
    refine lv_if_eq (tgt := 27) hx hb dX9_flying_6 (by decide) (fun cc => ?_) (fun cc => ?_)
    · replace hf := if_t cc hf
      refine lv_iconst (v := 0) hx hb dX9_flying_27 (by decide) ?_
      obtain ⟨hz, hf⟩ := bz_some hf
      cases Option.some.inj hf
      exact W.zret hx hb hr (bz_nar hz).2 (fun t ht hW => ⟨⟨_, (), rfl, rfl, by show va_P D vwCl _ t.heap; rw [ht]; exact hP⟩, hS.F ht⟩) hS.2.2 dX9_flying_28
    · replace hf := if_f cc hf
      refine lv_aload_n hx hb dX9_flying_9 rfl (lv_at hl 0 rfl) ?_
      refine va_get (ci := 9) (v := .ref (h 2)) (C := RX9) (T := TX9) (N := 21) hx hb hT hin_X9 hown hK hP 0 rfl rfl 1 (by decide) (hT _ wf_X9_13) (fun _ h9 => h9) rfl dX9_flying_10 ?_
      refine lv_bipush (v := 61) hx hb dX9_flying_13 (by decide) ?_
      obtain ⟨hi, hf⟩ := ck_some hf
      refine va_iald hx hb hK hP 2 0 rfl rfl hi dX9_flying_15 ?_
      refine lv_iload_n hx hb dX9_flying_16 rfl (lv_at hl 1 rfl) ?_
      obtain ⟨q2, hq2, hf⟩ := bd_some hf
      have hC : ([] : List Nat).map (fun i => (wX9 cyI cyJ cyZ cyO h book now sights sight signs pad nights townAt townCell reason acts at_ cost hole counts worth met ways nextWays image isKept)[i]?) = ([] : va_W).map some := rfl
      refine cl_i (rn_S (As := [.int (now (61 : Int32).toNatClampNeg), .int p1]) (rest := []) hx hb hml hown hT hK hN hP hD [] hC rfl (c_X9_has l D cyI cyJ cyZ cyO H.size (now (61 : Int32).toNatClampNeg) p1 nf q2 hq2) wm_X9_55 wt_X9_has wz_X9 wc_X9_has hd_X9_has ⟨rfl, rfl⟩ ⟨Nat.le_of_ble_eq_true rfl, Nat.le_of_ble_eq_true rfl⟩ rfl hl.1 rfl (Nat.le_of_ble_eq_true rfl) dX9_flying_17 ⟨Nat.zero_le _, Nat.zero_le _⟩) hP hD hS hA [] hC [(false, 0), (false, 1), (false, 2), (false, 3), (false, 4), (false, 5), (false, 6), (false, 7), (false, 8), (false, 9), (false, 10), (false, 11), (false, 12), (false, 13)] (ws' := wX9 cyI cyJ cyZ cyO h book now sights sight signs pad nights townAt townCell reason acts at_ cost hole counts worth met ways nextWays image isKept) rfl rfl rfl (fun H locs hP hD hS => ?_)
      refine lv_if_eq (tgt := 27) hx hb dX9_flying_20 (by decide) (fun cc => ?_) (fun cc => ?_)
      · replace hf := if_t cc hf
        refine lv_iconst (v := 0) hx hb dX9_flying_27 (by decide) ?_
        obtain ⟨hz, hf⟩ := bz_some hf
        cases Option.some.inj hf
        exact W.zret hx hb hr (bz_nar hz).2 (fun t ht hW => ⟨⟨_, (), rfl, rfl, by show va_P D vwCl _ t.heap; rw [ht]; exact hP⟩, hS.F ht⟩) hS.2.2 dX9_flying_28
      · replace hf := if_f cc hf
        refine lv_iconst (v := 1) hx hb dX9_flying_23 (by decide) ?_
        refine lv_goto (tgt := 28) hx hb dX9_flying_24 (by decide) ?_
        obtain ⟨hz, hf⟩ := bz_some hf
        cases Option.some.inj hf
        exact W.zret hx hb hr (bz_nar hz).2 (fun t ht hW => ⟨⟨_, (), rfl, rfl, by show va_P D vwCl _ t.heap; rw [ht]; exact hP⟩, hS.F ht⟩) hS.2.2 dX9_flying_28
  have hl := lv_entry ([.ref (h 0), .int p1]) (n := 2) (Nat.le_of_ble_eq_true rfl)
  rw [lg_entry_eq]
  exact main s.heap [] _ hP hD hS hl
theorem hd_X9_turn : yX9_turn.cls = RX9 ∧ yX9_turn.cls ≠ "java/lang/invoke/MethodHandle" ∧ yX9_turn.cls ≠ "java/lang/invoke/VarHandle" ∧ (parseMethodDescriptor yX9_turn.desc).map (fun d => d.parameters.length) = some 2 := by decide +kernel
set_option maxHeartbeats 4000000 in
set_option maxRecDepth 100000 in
theorem c_X9_turn (l : Launch) (D : va_G) (cyI cyJ cyZ cyO : ClassId) (h : Nat → Nat) (sz : Nat) (book : Nat → Int32) (now : Nat → Int32) (sights : Int32) (sight : Nat → Int32) (signs : Int32) (pad : Nat → Int32) (nights : Int32) (townAt : Int32) (townCell : Int32) (reason : Int32) (acts : Int32) (at_ : Int32) (cost : Nat → Int32) (hole : Nat → Int32) (counts : Nat → Int32) (worth : Nat → Int32) (met : Nat → Int32) (ways : Nat → Int64) (nextWays : Nat → Int64) (image : Nat → Int32) (isKept : Nat → Int32) (p1 : Int32) (p2 : Int32) (nf : Nat) (q : Int32 × (Nat → Int32)) (hf : g_X9_turn nf p1 p2 now = some q) : Met l yX9_turn (Cond.code yX9_turn cX9_turn 3 (some .int) :: tbG) ({ frames := 2, cells := 0, slots := 0, locals := 43 } : Room) (va_Pc [.ref (h 0), .int p1, .int p2] (pcB D (ty4 cyI cyJ cyZ cyO) sz (wX9 cyI cyJ cyZ cyO h book now sights sight signs pad nights townAt townCell reason acts at_ cost hole counts worth met ways nextWays image isKept))) (qI D (wX9 cyI cyJ cyZ cyO h book q.2 sights sight signs pad nights townAt townCell reason acts at_ cost hole counts worth met ways nextWays image isKept) q.1 (va_A (wX9 cyI cyJ cyZ cyO h book now sights sight signs pad nights townAt townCell reason acts at_ cost hole counts worth met ways nextWays image isKept) sz)) 0 0 (va_A (wX9 cyI cyJ cyZ cyO h book now sights sight signs pad nights townAt townCell reason acts at_ cost hole counts worth met ways nextWays image isKept) sz) := by
  refine Met.ofW (cc := cX9_turn) (maxL := 3) (ret := (some .int)) (by decide) rfl ?_
  intro p e s m args below meth c s₁ B hml hv
  obtain ⟨rfl, hsz, hP, hK, hD0, hN⟩ := hv
  have hx := B.exec
  have hb := B.bytes
  have hr := B.returns
  have hT : ∀ w ∈ tbG, w.before ([.ref (h 0), .int p1, .int p2] : List Value).toArray s = true := fun w h => atoms_spec (ws := (Cond.code yX9_turn cX9_turn 3 (some .int) :: tbG)) B.pre w (List.mem_cons_of_mem _ h)
  have hown : s.vm.findClass RX9 = some m.cls := findClass_of_methodNamed B.named
  have hlocks := B.notSynchronized
  subst hsz
  have hD := hD0.self (sz := s.heap.size)
  generalize hAe : va_A (wX9 cyI cyJ cyZ cyO h book now sights sight signs pad nights townAt townCell reason acts at_ cost hole counts worth met ways nextWays image isKept) s.heap.size = A at hD ⊢
  have hA : ∀ q : Nat, s.heap.size ≤ q → A q := fun q h => by rw [← hAe]; exact Or.inr h
  have hS : va_S A s.heap s.heap [] := va_S.rf
  show W p l e ({ frames := 2, cells := 0, slots := 0, locals := 43 } : Room) s m ([.ref (h 0), .int p1, .int p2] : List Value).toArray below meth c s.heap [] 0 0 (MQ below (qI D (wX9 cyI cyJ cyZ cyO h book q.2 sights sight signs pad nights townAt townCell reason acts at_ cost hole counts worth met ways nextWays image isKept) q.1 A) ([.ref (h 0), .int p1, .int p2] : List Value).toArray s 0 0 A) _
  have main : ∀ (H : Heap) (locs : List Loc) (ls : Array Slot), va_P D vwCl (wX9 cyI cyJ cyZ cyO h book now sights sight signs pad nights townAt townCell reason acts at_ cost hole counts worth met ways nextWays image isKept) H → va_D A (wX9 cyI cyJ cyZ cyO h book now sights sight signs pad nights townAt townCell reason acts at_ cost hole counts worth met ways nextWays image isKept) → va_S A s.heap H locs → lv_has ls 3 [(0, .ref (h 0)), (1, .int p1), (2, .int p2)] → W p l e ({ frames := 2, cells := 0, slots := 0, locals := 43 } : Room) s m ([.ref (h 0), .int p1, .int p2] : List Value).toArray below meth c H locs 0 0 (MQ below (qI D (wX9 cyI cyJ cyZ cyO h book q.2 sights sight signs pad nights townAt townCell reason acts at_ cost hole counts worth met ways nextWays image isKept) q.1 A) ([.ref (h 0), .int p1, .int p2] : List Value).toArray s 0 0 A) (F0 m 0 ls []) := by
    intro H locs ls hP hD hS hl
    unfold g_X9_turn at hf
    refine lv_aload_n hx hb dX9_turn_0 rfl (lv_at hl 0 rfl) ?_
    refine lv_iload_n hx hb dX9_turn_1 rfl (lv_at hl 1 rfl) ?_
    obtain ⟨q1, hq1, hf⟩ := bd_some hf
    have hC : [0, 1, 2, 3, 4, 5, 6, 7, 8, 9, 10, 11, 12, 13].map (fun i => (wX9 cyI cyJ cyZ cyO h book now sights sight signs pad nights townAt townCell reason acts at_ cost hole counts worth met ways nextWays image isKept)[i]?) = (wX9 cyI cyJ cyZ cyO h book now sights sight signs pad nights townAt townCell reason acts at_ cost hole counts worth met ways nextWays image isKept).map some := rfl
    refine cl_i (rn_V (As := [.int p1]) (rest := []) (C := RX9) hx hb hml hown hT hK hN hP hD [0, 1, 2, 3, 4, 5, 6, 7, 8, 9, 10, 11, 12, 13] hC rfl (c_X9_flying l D cyI cyJ cyZ cyO h H.size book now sights sight signs pad nights townAt townCell reason acts at_ cost hole counts worth met ways nextWays image isKept p1 nf q1 hq1) wm_X9_88 wi_X9_flying wl_X9_flying wz_X9 wc_X9_flying hd_X9_flying ⟨rfl, rfl⟩ ⟨Nat.le_of_ble_eq_true rfl, Nat.le_of_ble_eq_true rfl⟩ (q0 := 0) (ci := 9) rfl rfl rfl rfl hl.1 rfl (Nat.le_of_ble_eq_true rfl) dX9_turn_2 ⟨Nat.zero_le _, Nat.zero_le _⟩) hP hD hS hA [0, 1, 2, 3, 4, 5, 6, 7, 8, 9, 10, 11, 12, 13] hC [(true, 0), (true, 1), (true, 2), (true, 3), (true, 4), (true, 5), (true, 6), (true, 7), (true, 8), (true, 9), (true, 10), (true, 11), (true, 12), (true, 13)] (ws' := wX9 cyI cyJ cyZ cyO h book now sights sight signs pad nights townAt townCell reason acts at_ cost hole counts worth met ways nextWays image isKept) rfl rfl rfl (fun H locs hP hD hS => ?_)
    refine lv_if_ne (tgt := 10) hx hb dX9_turn_5 (by decide) (fun cc => ?_) (fun cc => ?_)
    · replace hf := if_f cc hf
      refine lv_aload_n hx hb dX9_turn_10 rfl (lv_at hl 0 rfl) ?_
      refine va_get (ci := 9) (v := .ref (h 2)) (C := RX9) (T := TX9) (N := 21) hx hb hT hin_X9 hown hK hP 0 rfl rfl 1 (by decide) (hT _ wf_X9_13) (fun _ h9 => h9) rfl dX9_turn_11 ?_
      refine lv_bipush (v := 54) hx hb dX9_turn_14 (by decide) ?_
      refine lv_iload_n hx hb dX9_turn_16 rfl (lv_at hl 1 rfl) ?_
      refine lv_iadd hx hb dX9_turn_17 ?_
      obtain ⟨hi, hf⟩ := ck_some hf
      refine va_iald hx hb hK hP 2 0 rfl rfl hi dX9_turn_18 ?_
      refine lv_iload_n hx hb dX9_turn_19 rfl (lv_at hl 2 rfl) ?_
      refine lv_icmp_ne (tgt := 25) hx hb dX9_turn_20 (by decide) (fun cc => ?_) (fun cc => ?_)
      · replace hf := if_f cc hf
        refine lv_aload_n hx hb dX9_turn_25 rfl (lv_at hl 0 rfl) ?_
        refine va_get (ci := 9) (v := .ref (h 2)) (C := RX9) (T := TX9) (N := 21) hx hb hT hin_X9 hown hK hP 0 rfl rfl 1 (by decide) (hT _ wf_X9_13) (fun _ h9 => h9) rfl dX9_turn_26 ?_
        refine lv_bipush (v := 54) hx hb dX9_turn_29 (by decide) ?_
        refine lv_iload_n hx hb dX9_turn_31 rfl (lv_at hl 1 rfl) ?_
        refine lv_iadd hx hb dX9_turn_32 ?_
        refine lv_iload_n hx hb dX9_turn_33 rfl (lv_at hl 2 rfl) ?_
        obtain ⟨hi, hf⟩ := ck_some hf
        refine va_iast hx hb hK hP hD hS 2 0 rfl rfl hi dX9_turn_34 (fun H locs hP hD hS => ?_)
        have hP : va_P D vwCl (wX9 cyI cyJ cyZ cyO h book (upd now (54 + p1).toNatClampNeg p2) sights sight signs pad nights townAt townCell reason acts at_ cost hole counts worth met ways nextWays image isKept) H := hP
        have hD : va_D A (wX9 cyI cyJ cyZ cyO h book (upd now (54 + p1).toNatClampNeg p2) sights sight signs pad nights townAt townCell reason acts at_ cost hole counts worth met ways nextWays image isKept) := hD
        refine lv_iconst (v := 0) hx hb dX9_turn_35 (by decide) ?_
        cases Option.some.inj hf
        exact W.iret hx hb hr (fun t ht hW => ⟨⟨_, (), rfl, rfl, by show va_P D vwCl _ t.heap; rw [ht]; exact hP⟩, hS.F ht⟩) hS.2.2 dX9_turn_36
      · replace hf := if_t cc hf
        refine lv_iconst (v := 2) hx hb dX9_turn_23 (by decide) ?_
        cases Option.some.inj hf
        exact W.iret hx hb hr (fun t ht hW => ⟨⟨_, (), rfl, rfl, by show va_P D vwCl _ t.heap; rw [ht]; exact hP⟩, hS.F ht⟩) hS.2.2 dX9_turn_24
    · replace hf := if_t cc hf
      refine lv_iconst (v := 1) hx hb dX9_turn_8 (by decide) ?_
      cases Option.some.inj hf
      exact W.iret hx hb hr (fun t ht hW => ⟨⟨_, (), rfl, rfl, by show va_P D vwCl _ t.heap; rw [ht]; exact hP⟩, hS.F ht⟩) hS.2.2 dX9_turn_9
  have hl := lv_entry ([.ref (h 0), .int p1, .int p2]) (n := 3) (Nat.le_of_ble_eq_true rfl)
  rw [lg_entry_eq]
  exact main s.heap [] _ hP hD hS hl
theorem hd_X9_catchIt : yX9_catchIt.cls = RX9 ∧ yX9_catchIt.cls ≠ "java/lang/invoke/MethodHandle" ∧ yX9_catchIt.cls ≠ "java/lang/invoke/VarHandle" ∧ (parseMethodDescriptor yX9_catchIt.desc).map (fun d => d.parameters.length) = some 1 := by decide +kernel
set_option maxHeartbeats 4000000 in
set_option maxRecDepth 100000 in
theorem c_X9_catchIt (l : Launch) (D : va_G) (cyI cyJ cyZ cyO : ClassId) (h : Nat → Nat) (sz : Nat) (book : Nat → Int32) (now : Nat → Int32) (sights : Int32) (sight : Nat → Int32) (signs : Int32) (pad : Nat → Int32) (nights : Int32) (townAt : Int32) (townCell : Int32) (reason : Int32) (acts : Int32) (at_ : Int32) (cost : Nat → Int32) (hole : Nat → Int32) (counts : Nat → Int32) (worth : Nat → Int32) (met : Nat → Int32) (ways : Nat → Int64) (nextWays : Nat → Int64) (image : Nat → Int32) (isKept : Nat → Int32) (p1 : Int32) (nf : Nat) (q : Int32 × (Nat → Int32)) (hf : g_X9_catchIt nf p1 now = some q) : Met l yX9_catchIt (Cond.code yX9_catchIt cX9_catchIt 2 (some .int) :: tbG) ({ frames := 2, cells := 0, slots := 0, locals := 43 } : Room) (va_Pc [.ref (h 0), .int p1] (pcB D (ty4 cyI cyJ cyZ cyO) sz (wX9 cyI cyJ cyZ cyO h book now sights sight signs pad nights townAt townCell reason acts at_ cost hole counts worth met ways nextWays image isKept))) (qI D (wX9 cyI cyJ cyZ cyO h book q.2 sights sight signs pad nights townAt townCell reason acts at_ cost hole counts worth met ways nextWays image isKept) q.1 (va_A (wX9 cyI cyJ cyZ cyO h book now sights sight signs pad nights townAt townCell reason acts at_ cost hole counts worth met ways nextWays image isKept) sz)) 0 0 (va_A (wX9 cyI cyJ cyZ cyO h book now sights sight signs pad nights townAt townCell reason acts at_ cost hole counts worth met ways nextWays image isKept) sz) := by
  refine Met.ofW (cc := cX9_catchIt) (maxL := 2) (ret := (some .int)) (by decide) rfl ?_
  intro p e s m args below meth c s₁ B hml hv
  obtain ⟨rfl, hsz, hP, hK, hD0, hN⟩ := hv
  have hx := B.exec
  have hb := B.bytes
  have hr := B.returns
  have hT : ∀ w ∈ tbG, w.before ([.ref (h 0), .int p1] : List Value).toArray s = true := fun w h => atoms_spec (ws := (Cond.code yX9_catchIt cX9_catchIt 2 (some .int) :: tbG)) B.pre w (List.mem_cons_of_mem _ h)
  have hown : s.vm.findClass RX9 = some m.cls := findClass_of_methodNamed B.named
  have hlocks := B.notSynchronized
  subst hsz
  have hD := hD0.self (sz := s.heap.size)
  generalize hAe : va_A (wX9 cyI cyJ cyZ cyO h book now sights sight signs pad nights townAt townCell reason acts at_ cost hole counts worth met ways nextWays image isKept) s.heap.size = A at hD ⊢
  have hA : ∀ q : Nat, s.heap.size ≤ q → A q := fun q h => by rw [← hAe]; exact Or.inr h
  have hS : va_S A s.heap s.heap [] := va_S.rf
  show W p l e ({ frames := 2, cells := 0, slots := 0, locals := 43 } : Room) s m ([.ref (h 0), .int p1] : List Value).toArray below meth c s.heap [] 0 0 (MQ below (qI D (wX9 cyI cyJ cyZ cyO h book q.2 sights sight signs pad nights townAt townCell reason acts at_ cost hole counts worth met ways nextWays image isKept) q.1 A) ([.ref (h 0), .int p1] : List Value).toArray s 0 0 A) _
  have main : ∀ (H : Heap) (locs : List Loc) (ls : Array Slot), va_P D vwCl (wX9 cyI cyJ cyZ cyO h book now sights sight signs pad nights townAt townCell reason acts at_ cost hole counts worth met ways nextWays image isKept) H → va_D A (wX9 cyI cyJ cyZ cyO h book now sights sight signs pad nights townAt townCell reason acts at_ cost hole counts worth met ways nextWays image isKept) → va_S A s.heap H locs → lv_has ls 2 [(0, .ref (h 0)), (1, .int p1)] → W p l e ({ frames := 2, cells := 0, slots := 0, locals := 43 } : Room) s m ([.ref (h 0), .int p1] : List Value).toArray below meth c H locs 0 0 (MQ below (qI D (wX9 cyI cyJ cyZ cyO h book q.2 sights sight signs pad nights townAt townCell reason acts at_ cost hole counts worth met ways nextWays image isKept) q.1 A) ([.ref (h 0), .int p1] : List Value).toArray s 0 0 A) (F0 m 0 ls []) := by
    intro H locs ls hP hD hS hl
    unfold g_X9_catchIt at hf
    refine lv_aload_n hx hb dX9_catchIt_0 rfl (lv_at hl 0 rfl) ?_
    refine lv_iload_n hx hb dX9_catchIt_1 rfl (lv_at hl 1 rfl) ?_
    obtain ⟨q1, hq1, hf⟩ := bd_some hf
    have hC : [0, 1, 2, 3, 4, 5, 6, 7, 8, 9, 10, 11, 12, 13].map (fun i => (wX9 cyI cyJ cyZ cyO h book now sights sight signs pad nights townAt townCell reason acts at_ cost hole counts worth met ways nextWays image isKept)[i]?) = (wX9 cyI cyJ cyZ cyO h book now sights sight signs pad nights townAt townCell reason acts at_ cost hole counts worth met ways nextWays image isKept).map some := rfl
    refine cl_i (rn_V (As := [.int p1]) (rest := []) (C := RX9) hx hb hml hown hT hK hN hP hD [0, 1, 2, 3, 4, 5, 6, 7, 8, 9, 10, 11, 12, 13] hC rfl (c_X9_flying l D cyI cyJ cyZ cyO h H.size book now sights sight signs pad nights townAt townCell reason acts at_ cost hole counts worth met ways nextWays image isKept p1 nf q1 hq1) wm_X9_88 wi_X9_flying wl_X9_flying wz_X9 wc_X9_flying hd_X9_flying ⟨rfl, rfl⟩ ⟨Nat.le_of_ble_eq_true rfl, Nat.le_of_ble_eq_true rfl⟩ (q0 := 0) (ci := 9) rfl rfl rfl rfl hl.1 rfl (Nat.le_of_ble_eq_true rfl) dX9_catchIt_2 ⟨Nat.zero_le _, Nat.zero_le _⟩) hP hD hS hA [0, 1, 2, 3, 4, 5, 6, 7, 8, 9, 10, 11, 12, 13] hC [(true, 0), (true, 1), (true, 2), (true, 3), (true, 4), (true, 5), (true, 6), (true, 7), (true, 8), (true, 9), (true, 10), (true, 11), (true, 12), (true, 13)] (ws' := wX9 cyI cyJ cyZ cyO h book now sights sight signs pad nights townAt townCell reason acts at_ cost hole counts worth met ways nextWays image isKept) rfl rfl rfl (fun H locs hP hD hS => ?_)
    refine lv_if_ne (tgt := 10) hx hb dX9_catchIt_5 (by decide) (fun cc => ?_) (fun cc => ?_)
    · replace hf := if_f cc hf
      refine lv_aload_n hx hb dX9_catchIt_10 rfl (lv_at hl 0 rfl) ?_
      refine va_get (ci := 9) (v := .ref (h 2)) (C := RX9) (T := TX9) (N := 21) hx hb hT hin_X9 hown hK hP 0 rfl rfl 1 (by decide) (hT _ wf_X9_13) (fun _ h9 => h9) rfl dX9_catchIt_11 ?_
      refine lv_bipush (v := 61) hx hb dX9_catchIt_14 (by decide) ?_
      refine lv_dup2_11 hx hb dX9_catchIt_16 rfl rfl ?_
      obtain ⟨hi, hf⟩ := ck_some hf
      refine va_iald hx hb hK hP 2 0 rfl rfl hi dX9_catchIt_17 ?_
      refine lv_iconst (v := 1) hx hb dX9_catchIt_18 (by decide) ?_
      refine lv_iload_n hx hb dX9_catchIt_19 rfl (lv_at hl 1 rfl) ?_
      refine lv_ishl hx hb dX9_catchIt_20 ?_
      refine lv_iconst (v := (-1)) hx hb dX9_catchIt_21 (by decide) ?_
      refine lv_ixor hx hb dX9_catchIt_22 ?_
      refine lv_iand hx hb dX9_catchIt_23 ?_
      obtain ⟨hi, hf⟩ := ck_some hf
      refine va_iast hx hb hK hP hD hS 2 0 rfl rfl hi dX9_catchIt_24 (fun H locs hP hD hS => ?_)
      have hP : va_P D vwCl (wX9 cyI cyJ cyZ cyO h book (upd now (61 : Int32).toNatClampNeg ((now (61 : Int32).toNatClampNeg) &&& (((1 : Int32) <<< (p1 &&& 31)) ^^^ ((-1) : Int32)))) sights sight signs pad nights townAt townCell reason acts at_ cost hole counts worth met ways nextWays image isKept) H := hP
      have hD : va_D A (wX9 cyI cyJ cyZ cyO h book (upd now (61 : Int32).toNatClampNeg ((now (61 : Int32).toNatClampNeg) &&& (((1 : Int32) <<< (p1 &&& 31)) ^^^ ((-1) : Int32)))) sights sight signs pad nights townAt townCell reason acts at_ cost hole counts worth met ways nextWays image isKept) := hD
      refine lv_iconst (v := 0) hx hb dX9_catchIt_25 (by decide) ?_
      cases Option.some.inj hf
      exact W.iret hx hb hr (fun t ht hW => ⟨⟨_, (), rfl, rfl, by show va_P D vwCl _ t.heap; rw [ht]; exact hP⟩, hS.F ht⟩) hS.2.2 dX9_catchIt_26
    · replace hf := if_t cc hf
      refine lv_iconst (v := 1) hx hb dX9_catchIt_8 (by decide) ?_
      cases Option.some.inj hf
      exact W.iret hx hb hr (fun t ht hW => ⟨⟨_, (), rfl, rfl, by show va_P D vwCl _ t.heap; rw [ht]; exact hP⟩, hS.F ht⟩) hS.2.2 dX9_catchIt_9
  have hl := lv_entry ([.ref (h 0), .int p1]) (n := 2) (Nat.le_of_ble_eq_true rfl)
  rw [lg_entry_eq]
  exact main s.heap [] _ hP hD hS hl
theorem hd_X9_strew : yX9_strew.cls = RX9 ∧ yX9_strew.cls ≠ "java/lang/invoke/MethodHandle" ∧ yX9_strew.cls ≠ "java/lang/invoke/VarHandle" ∧ (parseMethodDescriptor yX9_strew.desc).map (fun d => d.parameters.length) = some 1 := by decide +kernel
set_option maxHeartbeats 4000000 in
set_option maxRecDepth 100000 in
theorem c_X9_strew (l : Launch) (D : va_G) (cyI cyJ cyZ cyO : ClassId) (h : Nat → Nat) (sz : Nat) (book : Nat → Int32) (now : Nat → Int32) (sights : Int32) (sight : Nat → Int32) (signs : Int32) (pad : Nat → Int32) (nights : Int32) (townAt : Int32) (townCell : Int32) (reason : Int32) (acts : Int32) (at_ : Int32) (cost : Nat → Int32) (hole : Nat → Int32) (counts : Nat → Int32) (worth : Nat → Int32) (met : Nat → Int32) (ways : Nat → Int64) (nextWays : Nat → Int64) (image : Nat → Int32) (isKept : Nat → Int32) (p1 : Int32) (nf : Nat) (q : Int32 × (Nat → Int32)) (hf : g_X9_strew nf p1 now = some q) : Met l yX9_strew (Cond.code yX9_strew cX9_strew 2 (some .int) :: tbG) ({ frames := 0, cells := 0, slots := 0, locals := 0 } : Room) (va_Pc [.ref (h 0), .int p1] (pcB D (ty4 cyI cyJ cyZ cyO) sz (wX9 cyI cyJ cyZ cyO h book now sights sight signs pad nights townAt townCell reason acts at_ cost hole counts worth met ways nextWays image isKept))) (qI D (wX9 cyI cyJ cyZ cyO h book q.2 sights sight signs pad nights townAt townCell reason acts at_ cost hole counts worth met ways nextWays image isKept) q.1 (va_A (wX9 cyI cyJ cyZ cyO h book now sights sight signs pad nights townAt townCell reason acts at_ cost hole counts worth met ways nextWays image isKept) sz)) 0 0 (va_A (wX9 cyI cyJ cyZ cyO h book now sights sight signs pad nights townAt townCell reason acts at_ cost hole counts worth met ways nextWays image isKept) sz) := by
  refine Met.ofW (cc := cX9_strew) (maxL := 2) (ret := (some .int)) (by decide) rfl ?_
  intro p e s m args below meth c s₁ B hml hv
  obtain ⟨rfl, hsz, hP, hK, hD0, hN⟩ := hv
  have hx := B.exec
  have hb := B.bytes
  have hr := B.returns
  have hT : ∀ w ∈ tbG, w.before ([.ref (h 0), .int p1] : List Value).toArray s = true := fun w h => atoms_spec (ws := (Cond.code yX9_strew cX9_strew 2 (some .int) :: tbG)) B.pre w (List.mem_cons_of_mem _ h)
  have hown : s.vm.findClass RX9 = some m.cls := findClass_of_methodNamed B.named
  have hlocks := B.notSynchronized
  subst hsz
  have hD := hD0.self (sz := s.heap.size)
  generalize hAe : va_A (wX9 cyI cyJ cyZ cyO h book now sights sight signs pad nights townAt townCell reason acts at_ cost hole counts worth met ways nextWays image isKept) s.heap.size = A at hD ⊢
  have hA : ∀ q : Nat, s.heap.size ≤ q → A q := fun q h => by rw [← hAe]; exact Or.inr h
  have hS : va_S A s.heap s.heap [] := va_S.rf
  show W p l e ({ frames := 0, cells := 0, slots := 0, locals := 0 } : Room) s m ([.ref (h 0), .int p1] : List Value).toArray below meth c s.heap [] 0 0 (MQ below (qI D (wX9 cyI cyJ cyZ cyO h book q.2 sights sight signs pad nights townAt townCell reason acts at_ cost hole counts worth met ways nextWays image isKept) q.1 A) ([.ref (h 0), .int p1] : List Value).toArray s 0 0 A) _
  have main : ∀ (H : Heap) (locs : List Loc) (ls : Array Slot), va_P D vwCl (wX9 cyI cyJ cyZ cyO h book now sights sight signs pad nights townAt townCell reason acts at_ cost hole counts worth met ways nextWays image isKept) H → va_D A (wX9 cyI cyJ cyZ cyO h book now sights sight signs pad nights townAt townCell reason acts at_ cost hole counts worth met ways nextWays image isKept) → va_S A s.heap H locs → lv_has ls 2 [(0, .ref (h 0)), (1, .int p1)] → W p l e ({ frames := 0, cells := 0, slots := 0, locals := 0 } : Room) s m ([.ref (h 0), .int p1] : List Value).toArray below meth c H locs 0 0 (MQ below (qI D (wX9 cyI cyJ cyZ cyO h book q.2 sights sight signs pad nights townAt townCell reason acts at_ cost hole counts worth met ways nextWays image isKept) q.1 A) ([.ref (h 0), .int p1] : List Value).toArray s 0 0 A) (F0 m 0 ls []) := by
    intro H locs ls hP hD hS hl
    unfold g_X9_strew at hf
    refine lv_aload_n hx hb dX9_strew_0 rfl (lv_at hl 0 rfl) ?_
    refine va_get (ci := 9) (v := .ref (h 2)) (C := RX9) (T := TX9) (N := 21) hx hb hT hin_X9 hown hK hP 0 rfl rfl 1 (by decide) (hT _ wf_X9_13) (fun _ h9 => h9) rfl dX9_strew_1 ?_
    refine lv_bipush (v := 25) hx hb dX9_strew_4 (by decide) ?_
    refine lv_iload_n hx hb dX9_strew_6 rfl (lv_at hl 1 rfl) ?_
    refine lv_iadd hx hb dX9_strew_7 ?_
    obtain ⟨hi, hf⟩ := ck_some hf
    refine va_iald hx hb hK hP 2 0 rfl rfl hi dX9_strew_8 ?_
    refine lv_iconst (v := 2) hx hb dX9_strew_9 (by decide) ?_
    refine lv_icmp_le (tgt := 15) hx hb dX9_strew_10 (by decide) (fun cc => ?_) (fun cc => ?_)
    · replace hf := if_t cc hf
      refine lv_aload_n hx hb dX9_strew_15 rfl (lv_at hl 0 rfl) ?_
      refine va_get (ci := 9) (v := .ref (h 2)) (C := RX9) (T := TX9) (N := 21) hx hb hT hin_X9 hown hK hP 0 rfl rfl 1 (by decide) (hT _ wf_X9_13) (fun _ h9 => h9) rfl dX9_strew_16 ?_
      refine lv_bipush (v := 25) hx hb dX9_strew_19 (by decide) ?_
      refine lv_iload_n hx hb dX9_strew_21 rfl (lv_at hl 1 rfl) ?_
      refine lv_iadd hx hb dX9_strew_22 ?_
      refine lv_iconst (v := 3) hx hb dX9_strew_23 (by decide) ?_
      obtain ⟨hi, hf⟩ := ck_some hf
      refine va_iast hx hb hK hP hD hS 2 0 rfl rfl hi dX9_strew_24 (fun H locs hP hD hS => ?_)
      have hP : va_P D vwCl (wX9 cyI cyJ cyZ cyO h book (upd now (25 + p1).toNatClampNeg 3) sights sight signs pad nights townAt townCell reason acts at_ cost hole counts worth met ways nextWays image isKept) H := hP
      have hD : va_D A (wX9 cyI cyJ cyZ cyO h book (upd now (25 + p1).toNatClampNeg 3) sights sight signs pad nights townAt townCell reason acts at_ cost hole counts worth met ways nextWays image isKept) := hD
      refine lv_iconst (v := 0) hx hb dX9_strew_25 (by decide) ?_
      cases Option.some.inj hf
      exact W.iret hx hb hr (fun t ht hW => ⟨⟨_, (), rfl, rfl, by show va_P D vwCl _ t.heap; rw [ht]; exact hP⟩, hS.F ht⟩) hS.2.2 dX9_strew_26
    · replace hf := if_f cc hf
      refine lv_iconst (v := 3) hx hb dX9_strew_13 (by decide) ?_
      cases Option.some.inj hf
      exact W.iret hx hb hr (fun t ht hW => ⟨⟨_, (), rfl, rfl, by show va_P D vwCl _ t.heap; rw [ht]; exact hP⟩, hS.F ht⟩) hS.2.2 dX9_strew_14
  have hl := lv_entry ([.ref (h 0), .int p1]) (n := 2) (Nat.le_of_ble_eq_true rfl)
  rw [lg_entry_eq]
  exact main s.heap [] _ hP hD hS hl
theorem hd_X9_darn : yX9_darn.cls = RX9 ∧ yX9_darn.cls ≠ "java/lang/invoke/MethodHandle" ∧ yX9_darn.cls ≠ "java/lang/invoke/VarHandle" ∧ (parseMethodDescriptor yX9_darn.desc).map (fun d => d.parameters.length) = some 2 := by decide +kernel
set_option maxHeartbeats 4000000 in
set_option maxRecDepth 100000 in
theorem c_X9_darn (l : Launch) (D : va_G) (cyI cyJ cyZ cyO : ClassId) (h : Nat → Nat) (sz : Nat) (book : Nat → Int32) (now : Nat → Int32) (sights : Int32) (sight : Nat → Int32) (signs : Int32) (pad : Nat → Int32) (nights : Int32) (townAt : Int32) (townCell : Int32) (reason : Int32) (acts : Int32) (at_ : Int32) (cost : Nat → Int32) (hole : Nat → Int32) (counts : Nat → Int32) (worth : Nat → Int32) (met : Nat → Int32) (ways : Nat → Int64) (nextWays : Nat → Int64) (image : Nat → Int32) (isKept : Nat → Int32) (p1 : Int32) (p2 : Int32) (nf : Nat) (q : Int32 × (Nat → Int32)) (hf : g_X9_darn nf p1 p2 now = some q) : Met l yX9_darn (Cond.code yX9_darn cX9_darn 3 (some .int) :: tbG) ({ frames := 0, cells := 0, slots := 0, locals := 0 } : Room) (va_Pc [.ref (h 0), .int p1, .int p2] (pcB D (ty4 cyI cyJ cyZ cyO) sz (wX9 cyI cyJ cyZ cyO h book now sights sight signs pad nights townAt townCell reason acts at_ cost hole counts worth met ways nextWays image isKept))) (qI D (wX9 cyI cyJ cyZ cyO h book q.2 sights sight signs pad nights townAt townCell reason acts at_ cost hole counts worth met ways nextWays image isKept) q.1 (va_A (wX9 cyI cyJ cyZ cyO h book now sights sight signs pad nights townAt townCell reason acts at_ cost hole counts worth met ways nextWays image isKept) sz)) 0 0 (va_A (wX9 cyI cyJ cyZ cyO h book now sights sight signs pad nights townAt townCell reason acts at_ cost hole counts worth met ways nextWays image isKept) sz) := by
  refine Met.ofW (cc := cX9_darn) (maxL := 3) (ret := (some .int)) (by decide) rfl ?_
  intro p e s m args below meth c s₁ B hml hv
  obtain ⟨rfl, hsz, hP, hK, hD0, hN⟩ := hv
  have hx := B.exec
  have hb := B.bytes
  have hr := B.returns
  have hT : ∀ w ∈ tbG, w.before ([.ref (h 0), .int p1, .int p2] : List Value).toArray s = true := fun w h => atoms_spec (ws := (Cond.code yX9_darn cX9_darn 3 (some .int) :: tbG)) B.pre w (List.mem_cons_of_mem _ h)
  have hown : s.vm.findClass RX9 = some m.cls := findClass_of_methodNamed B.named
  have hlocks := B.notSynchronized
  subst hsz
  have hD := hD0.self (sz := s.heap.size)
  generalize hAe : va_A (wX9 cyI cyJ cyZ cyO h book now sights sight signs pad nights townAt townCell reason acts at_ cost hole counts worth met ways nextWays image isKept) s.heap.size = A at hD ⊢
  have hA : ∀ q : Nat, s.heap.size ≤ q → A q := fun q h => by rw [← hAe]; exact Or.inr h
  have hS : va_S A s.heap s.heap [] := va_S.rf
  show W p l e ({ frames := 0, cells := 0, slots := 0, locals := 0 } : Room) s m ([.ref (h 0), .int p1, .int p2] : List Value).toArray below meth c s.heap [] 0 0 (MQ below (qI D (wX9 cyI cyJ cyZ cyO h book q.2 sights sight signs pad nights townAt townCell reason acts at_ cost hole counts worth met ways nextWays image isKept) q.1 A) ([.ref (h 0), .int p1, .int p2] : List Value).toArray s 0 0 A) _
  have b62 : ∀ (s1 : Int32) (s2 : Int32) (now : Nat → Int32) (H : Heap) (locs : List Loc) (ls : Array Slot), va_P D vwCl (wX9 cyI cyJ cyZ cyO h book now sights sight signs pad nights townAt townCell reason acts at_ cost hole counts worth met ways nextWays image isKept) H → va_D A (wX9 cyI cyJ cyZ cyO h book now sights sight signs pad nights townAt townCell reason acts at_ cost hole counts worth met ways nextWays image isKept) → va_S A s.heap H locs → lv_has ls 3 [] → g_X9_darn_b62 nf s1 s2 now = some q → W p l e ({ frames := 0, cells := 0, slots := 0, locals := 0 } : Room) s m ([.ref (h 0), .int p1, .int p2] : List Value).toArray below meth c H locs 0 0 (MQ below (qI D (wX9 cyI cyJ cyZ cyO h book q.2 sights sight signs pad nights townAt townCell reason acts at_ cost hole counts worth met ways nextWays image isKept) q.1 A) ([.ref (h 0), .int p1, .int p2] : List Value).toArray s 0 0 A) (F0 m 62 ls [.int s2, .int s1, .ref (h 2)]) := by
    intro s1 s2 now H locs ls hP hD hS hl hf
    unfold g_X9_darn_b62 at hf
    obtain ⟨hi, hf⟩ := ck_some hf
    refine va_iast hx hb hK hP hD hS 2 0 rfl rfl hi dX9_darn_62 (fun H locs hP hD hS => ?_)
    have hP : va_P D vwCl (wX9 cyI cyJ cyZ cyO h book (upd now s1.toNatClampNeg s2) sights sight signs pad nights townAt townCell reason acts at_ cost hole counts worth met ways nextWays image isKept) H := hP
    have hD : va_D A (wX9 cyI cyJ cyZ cyO h book (upd now s1.toNatClampNeg s2) sights sight signs pad nights townAt townCell reason acts at_ cost hole counts worth met ways nextWays image isKept) := hD
    refine lv_iconst (v := 0) hx hb dX9_darn_63 (by decide) ?_
    cases Option.some.inj hf
    exact W.iret hx hb hr (fun t ht hW => ⟨⟨_, (), rfl, rfl, by show va_P D vwCl _ t.heap; rw [ht]; exact hP⟩, hS.F ht⟩) hS.2.2 dX9_darn_64
  have main : ∀ (H : Heap) (locs : List Loc) (ls : Array Slot), va_P D vwCl (wX9 cyI cyJ cyZ cyO h book now sights sight signs pad nights townAt townCell reason acts at_ cost hole counts worth met ways nextWays image isKept) H → va_D A (wX9 cyI cyJ cyZ cyO h book now sights sight signs pad nights townAt townCell reason acts at_ cost hole counts worth met ways nextWays image isKept) → va_S A s.heap H locs → lv_has ls 3 [(0, .ref (h 0)), (1, .int p1), (2, .int p2)] → W p l e ({ frames := 0, cells := 0, slots := 0, locals := 0 } : Room) s m ([.ref (h 0), .int p1, .int p2] : List Value).toArray below meth c H locs 0 0 (MQ below (qI D (wX9 cyI cyJ cyZ cyO h book q.2 sights sight signs pad nights townAt townCell reason acts at_ cost hole counts worth met ways nextWays image isKept) q.1 A) ([.ref (h 0), .int p1, .int p2] : List Value).toArray s 0 0 A) (F0 m 0 ls []) := by
    intro H locs ls hP hD hS hl
    unfold g_X9_darn at hf
    refine lv_aload_n hx hb dX9_darn_0 rfl (lv_at hl 0 rfl) ?_
    refine va_get (ci := 9) (v := .ref (h 2)) (C := RX9) (T := TX9) (N := 21) hx hb hT hin_X9 hown hK hP 0 rfl rfl 1 (by decide) (hT _ wf_X9_13) (fun _ h9 => h9) rfl dX9_darn_1 ?_
    refine lv_iload_n hx hb dX9_darn_4 rfl (lv_at hl 1 rfl) ?_
    obtain ⟨hi, hf⟩ := ck_some hf
    refine va_iald hx hb hK hP 2 0 rfl rfl hi dX9_darn_5 ?_
    refine lv_if_eq (tgt := 11) hx hb dX9_darn_6 (by decide) (fun cc => ?_) (fun cc => ?_)
    · replace hf := if_t cc hf
      refine lv_aload_n hx hb dX9_darn_11 rfl (lv_at hl 0 rfl) ?_
      refine va_get (ci := 9) (v := .ref (h 2)) (C := RX9) (T := TX9) (N := 21) hx hb hT hin_X9 hown hK hP 0 rfl rfl 1 (by decide) (hT _ wf_X9_13) (fun _ h9 => h9) rfl dX9_darn_12 ?_
      refine lv_bipush (v := 57) hx hb dX9_darn_15 (by decide) ?_
      refine lv_iload_n hx hb dX9_darn_17 rfl (lv_at hl 2 rfl) ?_
      refine lv_iadd hx hb dX9_darn_18 ?_
      obtain ⟨hi, hf⟩ := ck_some hf
      refine va_iald hx hb hK hP 2 0 rfl rfl hi dX9_darn_19 ?_
      refine lv_if_ne (tgt := 25) hx hb dX9_darn_20 (by decide) (fun cc => ?_) (fun cc => ?_)
      · replace hf := if_f cc hf
        refine lv_aload_n hx hb dX9_darn_25 rfl (lv_at hl 0 rfl) ?_
        refine va_get (ci := 9) (v := .ref (h 2)) (C := RX9) (T := TX9) (N := 21) hx hb hT hin_X9 hown hK hP 0 rfl rfl 1 (by decide) (hT _ wf_X9_13) (fun _ h9 => h9) rfl dX9_darn_26 ?_
        refine lv_bipush (v := 57) hx hb dX9_darn_29 (by decide) ?_
        refine lv_iload_n hx hb dX9_darn_31 rfl (lv_at hl 2 rfl) ?_
        refine lv_iadd hx hb dX9_darn_32 ?_
        refine lv_dup2_11 hx hb dX9_darn_33 rfl rfl ?_
        obtain ⟨hi, hf⟩ := ck_some hf
        refine va_iald hx hb hK hP 2 0 rfl rfl hi dX9_darn_34 ?_
        refine lv_iconst (v := 1) hx hb dX9_darn_35 (by decide) ?_
        refine lv_isub hx hb dX9_darn_36 ?_
        obtain ⟨hi, hf⟩ := ck_some hf
        refine va_iast hx hb hK hP hD hS 2 0 rfl rfl hi dX9_darn_37 (fun H locs hP hD hS => ?_)
        have hP : va_P D vwCl (wX9 cyI cyJ cyZ cyO h book (upd now (57 + p2).toNatClampNeg ((now (57 + p2).toNatClampNeg) - 1)) sights sight signs pad nights townAt townCell reason acts at_ cost hole counts worth met ways nextWays image isKept) H := hP
        have hD : va_D A (wX9 cyI cyJ cyZ cyO h book (upd now (57 + p2).toNatClampNeg ((now (57 + p2).toNatClampNeg) - 1)) sights sight signs pad nights townAt townCell reason acts at_ cost hole counts worth met ways nextWays image isKept) := hD
        refine lv_aload_n hx hb dX9_darn_38 rfl (lv_at hl 0 rfl) ?_
        refine va_get (ci := 9) (v := .ref (h 2)) (C := RX9) (T := TX9) (N := 21) hx hb hT hin_X9 hown hK hP 0 rfl rfl 1 (by decide) (hT _ wf_X9_13) (fun _ h9 => h9) rfl dX9_darn_39 ?_
        refine lv_iload_n hx hb dX9_darn_42 rfl (lv_at hl 1 rfl) ?_
        refine lv_iload_n hx hb dX9_darn_43 rfl (lv_at hl 2 rfl) ?_
        refine lv_iconst (v := 1) hx hb dX9_darn_44 (by decide) ?_
        refine lv_icmp_ne (tgt := 52) hx hb dX9_darn_45 (by decide) (fun cc => ?_) (fun cc => ?_)
        · replace hf := if_f cc hf
          refine lv_iload_n hx hb dX9_darn_52 rfl (lv_at hl 2 rfl) ?_
          refine lv_iconst (v := 2) hx hb dX9_darn_53 (by decide) ?_
          refine lv_icmp_ne (tgt := 61) hx hb dX9_darn_54 (by decide) (fun cc => ?_) (fun cc => ?_)
          · replace hf := if_f cc hf
            refine lv_iconst (v := 5) hx hb dX9_darn_61 (by decide) ?_
            exact b62 p1 5 (upd now (57 + p2).toNatClampNeg ((now (57 + p2).toNatClampNeg) - 1)) H locs ls hP hD hS (lv_sub hl [] rfl) hf
          · replace hf := if_t cc hf
            refine lv_iconst (v := 3) hx hb dX9_darn_57 (by decide) ?_
            refine lv_goto (tgt := 62) hx hb dX9_darn_58 (by decide) ?_
            exact b62 p1 3 (upd now (57 + p2).toNatClampNeg ((now (57 + p2).toNatClampNeg) - 1)) H locs ls hP hD hS (lv_sub hl [] rfl) hf
        · replace hf := if_t cc hf
          refine lv_iconst (v := 2) hx hb dX9_darn_48 (by decide) ?_
          refine lv_goto (tgt := 62) hx hb dX9_darn_49 (by decide) ?_
          exact b62 p1 2 (upd now (57 + p2).toNatClampNeg ((now (57 + p2).toNatClampNeg) - 1)) H locs ls hP hD hS (lv_sub hl [] rfl) hf
      · replace hf := if_t cc hf
        refine lv_iconst (v := 5) hx hb dX9_darn_23 (by decide) ?_
        cases Option.some.inj hf
        exact W.iret hx hb hr (fun t ht hW => ⟨⟨_, (), rfl, rfl, by show va_P D vwCl _ t.heap; rw [ht]; exact hP⟩, hS.F ht⟩) hS.2.2 dX9_darn_24
    · replace hf := if_f cc hf
      refine lv_iconst (v := 4) hx hb dX9_darn_9 (by decide) ?_
      cases Option.some.inj hf
      exact W.iret hx hb hr (fun t ht hW => ⟨⟨_, (), rfl, rfl, by show va_P D vwCl _ t.heap; rw [ht]; exact hP⟩, hS.F ht⟩) hS.2.2 dX9_darn_10
  have hl := lv_entry ([.ref (h 0), .int p1, .int p2]) (n := 3) (Nat.le_of_ble_eq_true rfl)
  rw [lg_entry_eq]
  exact main s.heap [] _ hP hD hS hl
theorem hd_X9_fly : yX9_fly.cls = RX9 ∧ yX9_fly.cls ≠ "java/lang/invoke/MethodHandle" ∧ yX9_fly.cls ≠ "java/lang/invoke/VarHandle" ∧ (parseMethodDescriptor yX9_fly.desc).map (fun d => d.parameters.length) = some 1 := by decide +kernel
set_option maxHeartbeats 4000000 in
set_option maxRecDepth 100000 in
theorem c_X9_fly (l : Launch) (D : va_G) (cyI cyJ cyZ cyO : ClassId) (h : Nat → Nat) (sz : Nat) (book : Nat → Int32) (now : Nat → Int32) (sights : Int32) (sight : Nat → Int32) (signs : Int32) (pad : Nat → Int32) (nights : Int32) (townAt : Int32) (townCell : Int32) (reason : Int32) (acts : Int32) (at_ : Int32) (cost : Nat → Int32) (hole : Nat → Int32) (counts : Nat → Int32) (worth : Nat → Int32) (met : Nat → Int32) (ways : Nat → Int64) (nextWays : Nat → Int64) (image : Nat → Int32) (isKept : Nat → Int32) (p1 : Int32) (nf : Nat) (q : (Nat → Int32) × Int32 × Int32) (hf : g_X9_fly nf p1 now nights townAt townCell = some q) : Met l yX9_fly (Cond.code yX9_fly cX9_fly 5 none :: tbG) ({ frames := 1, cells := 0, slots := 0, locals := 23 } : Room) (va_Pc [.ref (h 0), .int p1] (pcB D (ty4 cyI cyJ cyZ cyO) sz (wX9 cyI cyJ cyZ cyO h book now sights sight signs pad nights townAt townCell reason acts at_ cost hole counts worth met ways nextWays image isKept))) (qV D (wX9 cyI cyJ cyZ cyO h book q.1 sights sight signs pad nights q.2.1 q.2.2 reason acts at_ cost hole counts worth met ways nextWays image isKept) (va_A (wX9 cyI cyJ cyZ cyO h book now sights sight signs pad nights townAt townCell reason acts at_ cost hole counts worth met ways nextWays image isKept) sz)) 0 0 (va_A (wX9 cyI cyJ cyZ cyO h book now sights sight signs pad nights townAt townCell reason acts at_ cost hole counts worth met ways nextWays image isKept) sz) := by
  refine Met.ofW (cc := cX9_fly) (maxL := 5) (ret := none) (by decide) rfl ?_
  intro p e s m args below meth c s₁ B hml hv
  obtain ⟨rfl, hsz, hP, hK, hD0, hN⟩ := hv
  have hx := B.exec
  have hb := B.bytes
  have hr := B.returns
  have hT : ∀ w ∈ tbG, w.before ([.ref (h 0), .int p1] : List Value).toArray s = true := fun w h => atoms_spec (ws := (Cond.code yX9_fly cX9_fly 5 none :: tbG)) B.pre w (List.mem_cons_of_mem _ h)
  have hown : s.vm.findClass RX9 = some m.cls := findClass_of_methodNamed B.named
  have hlocks := B.notSynchronized
  subst hsz
  have hD := hD0.self (sz := s.heap.size)
  generalize hAe : va_A (wX9 cyI cyJ cyZ cyO h book now sights sight signs pad nights townAt townCell reason acts at_ cost hole counts worth met ways nextWays image isKept) s.heap.size = A at hD ⊢
  have hA : ∀ q : Nat, s.heap.size ≤ q → A q := fun q h => by rw [← hAe]; exact Or.inr h
  have hS : va_S A s.heap s.heap [] := va_S.rf
  show W p l e ({ frames := 1, cells := 0, slots := 0, locals := 23 } : Room) s m ([.ref (h 0), .int p1] : List Value).toArray below meth c s.heap [] 0 0 (MQ below (qV D (wX9 cyI cyJ cyZ cyO h book q.1 sights sight signs pad nights q.2.1 q.2.2 reason acts at_ cost hole counts worth met ways nextWays image isKept) A) ([.ref (h 0), .int p1] : List Value).toArray s 0 0 A) _
  have b86 : ∀ (x1 : Int32) (x3 : Int32) (x4 : Int32) (now : Nat → Int32) (nights : Int32) (townAt : Int32) (townCell : Int32) (H : Heap) (locs : List Loc) (ls : Array Slot), va_P D vwCl (wX9 cyI cyJ cyZ cyO h book now sights sight signs pad nights townAt townCell reason acts at_ cost hole counts worth met ways nextWays image isKept) H → va_D A (wX9 cyI cyJ cyZ cyO h book now sights sight signs pad nights townAt townCell reason acts at_ cost hole counts worth met ways nextWays image isKept) → va_S A s.heap H locs → lv_has ls 5 [(0, .ref (h 0)), (1, .int x1), (3, .int x3), (4, .int x4)] → g_X9_fly_b86 nf x1 x3 x4 now nights townAt townCell = some q → W p l e ({ frames := 1, cells := 0, slots := 0, locals := 23 } : Room) s m ([.ref (h 0), .int p1] : List Value).toArray below meth c H locs 0 0 (MQ below (qV D (wX9 cyI cyJ cyZ cyO h book q.1 sights sight signs pad nights q.2.1 q.2.2 reason acts at_ cost hole counts worth met ways nextWays image isKept) A) ([.ref (h 0), .int p1] : List Value).toArray s 0 0 A) (F0 m 86 ls []) := by
    intro x1 x3 x4 now nights townAt townCell H locs ls hP hD hS hl hf
    unfold g_X9_fly_b86 at hf
    refine lv_aload_n hx hb dX9_fly_86 rfl (lv_at hl 0 rfl) ?_
    refine va_get (ci := 9) (v := .ref (h 2)) (C := RX9) (T := TX9) (N := 21) hx hb hT hin_X9 hown hK hP 0 rfl rfl 1 (by decide) (hT _ wf_X9_13) (fun _ h9 => h9) rfl dX9_fly_87 ?_
    refine lv_bipush (v := 50) hx hb dX9_fly_90 (by decide) ?_
    refine lv_iload_n hx hb dX9_fly_92 rfl (lv_at hl 1 rfl) ?_
    refine lv_iadd hx hb dX9_fly_93 ?_
    refine lv_iload hx hb dX9_fly_94 (lv_at hl 3 rfl) ?_
    obtain ⟨hi, hf⟩ := ck_some hf
    refine va_iast hx hb hK hP hD hS 2 0 rfl rfl hi dX9_fly_96 (fun H locs hP hD hS => ?_)
    have hP : va_P D vwCl (wX9 cyI cyJ cyZ cyO h book (upd now (50 + x1).toNatClampNeg x4) sights sight signs pad nights townAt townCell reason acts at_ cost hole counts worth met ways nextWays image isKept) H := hP
    have hD : va_D A (wX9 cyI cyJ cyZ cyO h book (upd now (50 + x1).toNatClampNeg x4) sights sight signs pad nights townAt townCell reason acts at_ cost hole counts worth met ways nextWays image isKept) := hD
    refine lv_aload_n hx hb dX9_fly_97 rfl (lv_at hl 0 rfl) ?_
    refine va_get (ci := 9) (v := .ref (h 2)) (C := RX9) (T := TX9) (N := 21) hx hb hT hin_X9 hown hK hP 0 rfl rfl 1 (by decide) (hT _ wf_X9_13) (fun _ h9 => h9) rfl dX9_fly_98 ?_
    refine lv_bipush (v := 54) hx hb dX9_fly_101 (by decide) ?_
    refine lv_iload_n hx hb dX9_fly_103 rfl (lv_at hl 1 rfl) ?_
    refine lv_iadd hx hb dX9_fly_104 ?_
    refine lv_iload_n hx hb dX9_fly_105 rfl (lv_at hl 2 rfl) ?_
    obtain ⟨hi, hf⟩ := ck_some hf
    refine va_iast hx hb hK hP hD hS 2 0 rfl rfl hi dX9_fly_106 (fun H locs hP hD hS => ?_)
    have hP : va_P D vwCl (wX9 cyI cyJ cyZ cyO h book (upd (upd now (50 + x1).toNatClampNeg x4) (54 + x1).toNatClampNeg x3) sights sight signs pad nights townAt townCell reason acts at_ cost hole counts worth met ways nextWays image isKept) H := hP
    have hD : va_D A (wX9 cyI cyJ cyZ cyO h book (upd (upd now (50 + x1).toNatClampNeg x4) (54 + x1).toNatClampNeg x3) sights sight signs pad nights townAt townCell reason acts at_ cost hole counts worth met ways nextWays image isKept) := hD
    refine lv_aload_n hx hb dX9_fly_107 rfl (lv_at hl 0 rfl) ?_
    refine va_get (ci := 9) (v := .ref (h 2)) (C := RX9) (T := TX9) (N := 21) hx hb hT hin_X9 hown hK hP 0 rfl rfl 1 (by decide) (hT _ wf_X9_13) (fun _ h9 => h9) rfl dX9_fly_108 ?_
    refine lv_iload hx hb dX9_fly_111 (lv_at hl 3 rfl) ?_
    refine lv_iconst (v := 0) hx hb dX9_fly_113 (by decide) ?_
    obtain ⟨hi, hf⟩ := ck_some hf
    refine va_iast hx hb hK hP hD hS 2 0 rfl rfl hi dX9_fly_114 (fun H locs hP hD hS => ?_)
    have hP : va_P D vwCl (wX9 cyI cyJ cyZ cyO h book (upd (upd (upd now (50 + x1).toNatClampNeg x4) (54 + x1).toNatClampNeg x3) x4.toNatClampNeg 0) sights sight signs pad nights townAt townCell reason acts at_ cost hole counts worth met ways nextWays image isKept) H := hP
    have hD : va_D A (wX9 cyI cyJ cyZ cyO h book (upd (upd (upd now (50 + x1).toNatClampNeg x4) (54 + x1).toNatClampNeg x3) x4.toNatClampNeg 0) sights sight signs pad nights townAt townCell reason acts at_ cost hole counts worth met ways nextWays image isKept) := hD
    cases Option.some.inj hf
    exact W.vret hx hb hr (fun t ht hW => ⟨⟨(), rfl, trivial, by show va_P D vwCl _ t.heap; rw [ht]; exact hP⟩, hS.F ht⟩) hS.2.2 dX9_fly_115
  have l2 : ∀ (n2 : Nat) (x1 : Int32) (x2 : Int32) (now : Nat → Int32) (nights : Int32) (townAt : Int32) (townCell : Int32) (H : Heap) (locs : List Loc) (ls : Array Slot), va_P D vwCl (wX9 cyI cyJ cyZ cyO h book now sights sight signs pad nights townAt townCell reason acts at_ cost hole counts worth met ways nextWays image isKept) H → va_D A (wX9 cyI cyJ cyZ cyO h book now sights sight signs pad nights townAt townCell reason acts at_ cost hole counts worth met ways nextWays image isKept) → va_S A s.heap H locs → lv_has ls 5 [(0, .ref (h 0)), (1, .int x1), (2, .int x2)] → g_X9_fly_l2 nf n2 x1 x2 now nights townAt townCell = some q → W p l e ({ frames := 1, cells := 0, slots := 0, locals := 23 } : Room) s m ([.ref (h 0), .int p1] : List Value).toArray below meth c H locs 0 0 (MQ below (qV D (wX9 cyI cyJ cyZ cyO h book q.1 sights sight signs pad nights q.2.1 q.2.2 reason acts at_ cost hole counts worth met ways nextWays image isKept) A) ([.ref (h 0), .int p1] : List Value).toArray s 0 0 A) (F0 m 2 ls []) := by
    intro n2
    induction n2 with
    | zero =>
      intro x1 x2 now nights townAt townCell H locs ls hP hD hS hl hf
      rw [g_X9_fly_l2] at hf
      cases hf
    | succ n2 ih2 =>
      have b116 : ∀ (x1 : Int32) (x2 : Int32) (now : Nat → Int32) (nights : Int32) (townAt : Int32) (townCell : Int32) (H : Heap) (locs : List Loc) (ls : Array Slot), va_P D vwCl (wX9 cyI cyJ cyZ cyO h book now sights sight signs pad nights townAt townCell reason acts at_ cost hole counts worth met ways nextWays image isKept) H → va_D A (wX9 cyI cyJ cyZ cyO h book now sights sight signs pad nights townAt townCell reason acts at_ cost hole counts worth met ways nextWays image isKept) → va_S A s.heap H locs → lv_has ls 5 [(0, .ref (h 0)), (1, .int x1), (2, .int x2)] → g_X9_fly_b116 nf (g_X9_fly_l2 nf n2) x1 x2 now nights townAt townCell = some q → W p l e ({ frames := 1, cells := 0, slots := 0, locals := 23 } : Room) s m ([.ref (h 0), .int p1] : List Value).toArray below meth c H locs 0 0 (MQ below (qV D (wX9 cyI cyJ cyZ cyO h book q.1 sights sight signs pad nights q.2.1 q.2.2 reason acts at_ cost hole counts worth met ways nextWays image isKept) A) ([.ref (h 0), .int p1] : List Value).toArray s 0 0 A) (F0 m 116 ls []) := by
        intro x1 x2 now nights townAt townCell H locs ls hP hD hS hl hf
        unfold g_X9_fly_b116 at hf
        refine lv_iinc (v := (x2 + 1)) (lv' := [(2, .int (x2 + 1)), (0, .ref (h 0)), (1, .int x1)]) hx hb dX9_fly_116 hl (k := 2) rfl rfl (by decide) rfl (fun ls hl => ?_)
        refine lv_goto (tgt := 2) hx hb dX9_fly_119 (by decide) ?_
        exact ih2 x1 (x2 + 1) now nights townAt townCell H locs ls hP hD hS (lv_sub hl [1, 2, 0] rfl) hf
      intro x1 x2 now nights townAt townCell H locs ls hP hD hS hl hf
      rw [g_X9_fly_l2] at hf
      refine lv_iload_n hx hb dX9_fly_2 rfl (lv_at hl 2 rfl) ?_
      refine lv_iconst (v := 4) hx hb dX9_fly_3 (by decide) ?_
      refine lv_icmp_ge (tgt := 122) hx hb dX9_fly_4 (by decide) (fun cc => ?_) (fun cc => ?_)
      · replace hf := if_t cc hf
        cases Option.some.inj hf
        exact W.vret hx hb hr (fun t ht hW => ⟨⟨(), rfl, trivial, by show va_P D vwCl _ t.heap; rw [ht]; exact hP⟩, hS.F ht⟩) hS.2.2 dX9_fly_122
      · replace hf := if_f cc hf
        refine lv_aload_n hx hb dX9_fly_7 rfl (lv_at hl 0 rfl) ?_
        refine va_get (ci := 9) (v := .ref (h 2)) (C := RX9) (T := TX9) (N := 21) hx hb hT hin_X9 hown hK hP 0 rfl rfl 1 (by decide) (hT _ wf_X9_13) (fun _ h9 => h9) rfl dX9_fly_8 ?_
        refine lv_bipush (v := 54) hx hb dX9_fly_11 (by decide) ?_
        refine lv_iload_n hx hb dX9_fly_13 rfl (lv_at hl 1 rfl) ?_
        refine lv_iadd hx hb dX9_fly_14 ?_
        obtain ⟨hi, hf⟩ := ck_some hf
        refine va_iald hx hb hK hP 2 0 rfl rfl hi dX9_fly_15 ?_
        refine lv_iload_n hx hb dX9_fly_16 rfl (lv_at hl 2 rfl) ?_
        refine lv_iadd hx hb dX9_fly_17 ?_
        refine lv_iconst (v := 4) hx hb dX9_fly_18 (by decide) ?_
        refine lv_irem hx hb dX9_fly_19 (by decide) ?_
        refine lv_istore_n (lv' := [(3, .int (((now (54 + x1).toNatClampNeg) + x2) - ((now (54 + x1).toNatClampNeg) + x2) / 4 * 4)), (0, .ref (h 0)), (1, .int x1), (2, .int x2)]) hx hb dX9_fly_20 rfl hl (by decide) rfl (fun ls hl => ?_)
        refine lv_aload_n hx hb dX9_fly_21 rfl (lv_at hl 1 rfl) ?_
        refine va_get (ci := 9) (v := .ref (h 2)) (C := RX9) (T := TX9) (N := 21) hx hb hT hin_X9 hown hK hP 0 rfl rfl 1 (by decide) (hT _ wf_X9_13) (fun _ h9 => h9) rfl dX9_fly_22 ?_
        refine lv_bipush (v := 50) hx hb dX9_fly_25 (by decide) ?_
        refine lv_iload_n hx hb dX9_fly_27 rfl (lv_at hl 2 rfl) ?_
        refine lv_iadd hx hb dX9_fly_28 ?_
        obtain ⟨hi, hf⟩ := ck_some hf
        refine va_iald hx hb hK hP 2 0 rfl rfl hi dX9_fly_29 ?_
        refine lv_iload_n hx hb dX9_fly_30 rfl (lv_at hl 0 rfl) ?_
        obtain ⟨q1, hq1, hf⟩ := bd_some hf
        have hC : ([] : List Nat).map (fun i => (wX9 cyI cyJ cyZ cyO h book now sights sight signs pad nights townAt townCell reason acts at_ cost hole counts worth met ways nextWays image isKept)[i]?) = ([] : va_W).map some := rfl
        refine cl_i (rn_S (As := [.int (now (50 + x1).toNatClampNeg), .int (((now (54 + x1).toNatClampNeg) + x2) - ((now (54 + x1).toNatClampNeg) + x2) / 4 * 4)]) (rest := []) hx hb hml hown hT hK hN hP hD [] hC rfl (c_X9_beside l D cyI cyJ cyZ cyO H.size (now (50 + x1).toNatClampNeg) (((now (54 + x1).toNatClampNeg) + x2) - ((now (54 + x1).toNatClampNeg) + x2) / 4 * 4) nf q1 hq1) wm_X9_91 wt_X9_beside wz_X9 wc_X9_beside hd_X9_beside ⟨rfl, rfl⟩ ⟨Nat.le_of_ble_eq_true rfl, Nat.le_of_ble_eq_true rfl⟩ rfl hl.1 rfl (Nat.le_of_ble_eq_true rfl) dX9_fly_31 ⟨Nat.zero_le _, Nat.zero_le _⟩) hP hD hS hA [] hC [(false, 0), (false, 1), (false, 2), (false, 3), (false, 4), (false, 5), (false, 6), (false, 7), (false, 8), (false, 9), (false, 10), (false, 11), (false, 12), (false, 13)] (ws' := wX9 cyI cyJ cyZ cyO h book now sights sight signs pad nights townAt townCell reason acts at_ cost hole counts worth met ways nextWays image isKept) rfl rfl rfl (fun H locs hP hD hS => ?_)
        refine lv_istore (lv' := [(4, .int q1), (3, .int (((now (54 + x1).toNatClampNeg) + x2) - ((now (54 + x1).toNatClampNeg) + x2) / 4 * 4)), (0, .ref (h 0)), (1, .int x1), (2, .int x2)]) hx hb dX9_fly_34 hl (by decide) rfl (fun ls hl => ?_)
        refine lv_iload hx hb dX9_fly_36 (lv_at hl 0 rfl) ?_
        refine lv_if_lt (tgt := 116) hx hb dX9_fly_38 (by decide) (fun cc => ?_) (fun cc => ?_)
        · replace hf := if_t cc hf
          exact b116 x1 x2 now nights townAt townCell H locs ls hP hD hS (lv_sub hl [2, 3, 4] rfl) hf
        · replace hf := if_f cc hf
          refine lv_aload_n hx hb dX9_fly_41 rfl (lv_at hl 2 rfl) ?_
          refine va_get (ci := 9) (v := .ref (h 2)) (C := RX9) (T := TX9) (N := 21) hx hb hT hin_X9 hown hK hP 0 rfl rfl 1 (by decide) (hT _ wf_X9_13) (fun _ h9 => h9) rfl dX9_fly_42 ?_
          refine lv_bipush (v := 25) hx hb dX9_fly_45 (by decide) ?_
          refine lv_iload hx hb dX9_fly_47 (lv_at hl 0 rfl) ?_
          refine lv_iadd hx hb dX9_fly_49 ?_
          obtain ⟨hi, hf⟩ := ck_some hf
          refine va_iald hx hb hK hP 2 0 rfl rfl hi dX9_fly_50 ?_
          refine lv_if_ne (tgt := 116) hx hb dX9_fly_51 (by decide) (fun cc => ?_) (fun cc => ?_)
          · replace hf := if_f cc hf
            exact b116 x1 x2 now nights townAt townCell H locs ls hP hD hS (lv_sub hl [2, 3, 4] rfl) hf
          · replace hf := if_t cc hf
            refine lv_aload_n hx hb dX9_fly_54 rfl (lv_at hl 2 rfl) ?_
            refine va_get (ci := 9) (v := .ref (h 2)) (C := RX9) (T := TX9) (N := 21) hx hb hT hin_X9 hown hK hP 0 rfl rfl 1 (by decide) (hT _ wf_X9_13) (fun _ h9 => h9) rfl dX9_fly_55 ?_
            refine lv_iload hx hb dX9_fly_58 (lv_at hl 0 rfl) ?_
            obtain ⟨hi, hf⟩ := ck_some hf
            refine va_iald hx hb hK hP 2 0 rfl rfl hi dX9_fly_60 ?_
            refine lv_iconst (v := 4) hx hb dX9_fly_61 (by decide) ?_
            refine lv_icmp_ne (tgt := 86) hx hb dX9_fly_62 (by decide) (fun cc => ?_) (fun cc => ?_)
            · replace hf := if_f cc hf
              exact b86 x1 (((now (54 + x1).toNatClampNeg) + x2) - ((now (54 + x1).toNatClampNeg) + x2) / 4 * 4) q1 now nights townAt townCell H locs ls hP hD hS (lv_sub hl [2, 3, 1, 0] rfl) hf
            · replace hf := if_t cc hf
              refine lv_aload_n hx hb dX9_fly_65 rfl (lv_at hl 2 rfl) ?_
              refine va_get (ci := 9) (v := .int townAt) (C := RX9) (T := TX9) (N := 21) hx hb hT hin_X9 hown hK hP 0 rfl rfl 7 (by decide) (hT _ wf_X9_82) (fun _ h9 => h9) rfl dX9_fly_66 ?_
              refine lv_if_ge (tgt := 86) hx hb dX9_fly_69 (by decide) (fun cc => ?_) (fun cc => ?_)
              · replace hf := if_t cc hf
                exact b86 x1 (((now (54 + x1).toNatClampNeg) + x2) - ((now (54 + x1).toNatClampNeg) + x2) / 4 * 4) q1 now nights townAt townCell H locs ls hP hD hS (lv_sub hl [2, 3, 1, 0] rfl) hf
              · replace hf := if_f cc hf
                refine lv_aload_n hx hb dX9_fly_72 rfl (lv_at hl 2 rfl) ?_
                refine lv_aload_n hx hb dX9_fly_73 rfl (lv_at hl 2 rfl) ?_
                refine va_get (ci := 9) (v := .int nights) (C := RX9) (T := TX9) (N := 21) hx hb hT hin_X9 hown hK hP 0 rfl rfl 6 (by decide) (hT _ wf_X9_79) (fun _ h9 => h9) rfl dX9_fly_74 ?_
                refine va_put (ci := 9) (v := .int nights) (ty := .int) (C := RX9) (T := TX9) (N := 21) hx hb hT hin_X9 tyX9 tyX9_ok nmX9 hown hK hP hD hS 0 rfl rfl 7 (by decide) (hT _ wf_X9_82) (fun _ h9 => h9) rfl (tyX9_ok 7 (by decide)) rfl rfl (Nat.le_of_ble_eq_true rfl) dX9_fly_77 (fun H locs hP hD hS => ?_)
                have hP : va_P D vwCl (wX9 cyI cyJ cyZ cyO h book now sights sight signs pad nights nights townCell reason acts at_ cost hole counts worth met ways nextWays image isKept) H := hP
                have hD : va_D A (wX9 cyI cyJ cyZ cyO h book now sights sight signs pad nights nights townCell reason acts at_ cost hole counts worth met ways nextWays image isKept) := hD
                refine lv_aload_n hx hb dX9_fly_80 rfl (lv_at hl 2 rfl) ?_
                refine lv_iload hx hb dX9_fly_81 (lv_at hl 0 rfl) ?_
                refine va_put (ci := 9) (v := .int q1) (ty := .int) (C := RX9) (T := TX9) (N := 21) hx hb hT hin_X9 tyX9 tyX9_ok nmX9 hown hK hP hD hS 0 rfl rfl 8 (by decide) (hT _ wf_X9_85) (fun _ h9 => h9) rfl (tyX9_ok 8 (by decide)) rfl rfl (Nat.le_of_ble_eq_true rfl) dX9_fly_83 (fun H locs hP hD hS => ?_)
                have hP : va_P D vwCl (wX9 cyI cyJ cyZ cyO h book now sights sight signs pad nights nights q1 reason acts at_ cost hole counts worth met ways nextWays image isKept) H := hP
                have hD : va_D A (wX9 cyI cyJ cyZ cyO h book now sights sight signs pad nights nights q1 reason acts at_ cost hole counts worth met ways nextWays image isKept) := hD
                exact b86 x1 (((now (54 + x1).toNatClampNeg) + x2) - ((now (54 + x1).toNatClampNeg) + x2) / 4 * 4) q1 now nights nights q1 H locs ls hP hD hS (lv_sub hl [2, 3, 1, 0] rfl) hf
  have main : ∀ (H : Heap) (locs : List Loc) (ls : Array Slot), va_P D vwCl (wX9 cyI cyJ cyZ cyO h book now sights sight signs pad nights townAt townCell reason acts at_ cost hole counts worth met ways nextWays image isKept) H → va_D A (wX9 cyI cyJ cyZ cyO h book now sights sight signs pad nights townAt townCell reason acts at_ cost hole counts worth met ways nextWays image isKept) → va_S A s.heap H locs → lv_has ls 5 [(0, .ref (h 0)), (1, .int p1)] → W p l e ({ frames := 1, cells := 0, slots := 0, locals := 23 } : Room) s m ([.ref (h 0), .int p1] : List Value).toArray below meth c H locs 0 0 (MQ below (qV D (wX9 cyI cyJ cyZ cyO h book q.1 sights sight signs pad nights q.2.1 q.2.2 reason acts at_ cost hole counts worth met ways nextWays image isKept) A) ([.ref (h 0), .int p1] : List Value).toArray s 0 0 A) (F0 m 0 ls []) := by
    intro H locs ls hP hD hS hl
    unfold g_X9_fly at hf
    refine lv_iconst (v := 0) hx hb dX9_fly_0 (by decide) ?_
    refine lv_istore_n (lv' := [(2, .int 0), (0, .ref (h 0)), (1, .int p1)]) hx hb dX9_fly_1 rfl hl (by decide) rfl (fun ls hl => ?_)
    exact l2 nf p1 0 now nights townAt townCell H locs ls hP hD hS (lv_sub hl [1, 2, 0] rfl) hf
  have hl := lv_entry ([.ref (h 0), .int p1]) (n := 5) (Nat.le_of_ble_eq_true rfl)
  rw [lg_entry_eq]
  exact main s.heap [] _ hP hD hS hl
theorem hd_X9_endNight : yX9_endNight.cls = RX9 ∧ yX9_endNight.cls ≠ "java/lang/invoke/MethodHandle" ∧ yX9_endNight.cls ≠ "java/lang/invoke/VarHandle" ∧ (parseMethodDescriptor yX9_endNight.desc).map (fun d => d.parameters.length) = some 0 := by decide +kernel
set_option maxHeartbeats 4000000 in
set_option maxRecDepth 100000 in
theorem c_X9_endNight (l : Launch) (D : va_G) (cyI cyJ cyZ cyO : ClassId) (h : Nat → Nat) (sz : Nat) (book : Nat → Int32) (now : Nat → Int32) (sights : Int32) (sight : Nat → Int32) (signs : Int32) (pad : Nat → Int32) (nights : Int32) (townAt : Int32) (townCell : Int32) (reason : Int32) (acts : Int32) (at_ : Int32) (cost : Nat → Int32) (hole : Nat → Int32) (counts : Nat → Int32) (worth : Nat → Int32) (met : Nat → Int32) (ways : Nat → Int64) (nextWays : Nat → Int64) (image : Nat → Int32) (isKept : Nat → Int32) (nf : Nat) (q : Int32 × (Nat → Int32) × Int32 × Int32 × Int32) (hf : g_X9_endNight nf now nights townAt townCell = some q) : Met l yX9_endNight (Cond.code yX9_endNight cX9_endNight 2 (some .int) :: tbG) ({ frames := 2, cells := 0, slots := 0, locals := 47 } : Room) (va_Pc [.ref (h 0)] (pcB D (ty4 cyI cyJ cyZ cyO) sz (wX9 cyI cyJ cyZ cyO h book now sights sight signs pad nights townAt townCell reason acts at_ cost hole counts worth met ways nextWays image isKept))) (qI D (wX9 cyI cyJ cyZ cyO h book q.2.1 sights sight signs pad q.2.2.1 q.2.2.2.1 q.2.2.2.2 reason acts at_ cost hole counts worth met ways nextWays image isKept) q.1 (va_A (wX9 cyI cyJ cyZ cyO h book now sights sight signs pad nights townAt townCell reason acts at_ cost hole counts worth met ways nextWays image isKept) sz)) 0 0 (va_A (wX9 cyI cyJ cyZ cyO h book now sights sight signs pad nights townAt townCell reason acts at_ cost hole counts worth met ways nextWays image isKept) sz) := by
  refine Met.ofW (cc := cX9_endNight) (maxL := 2) (ret := (some .int)) (by decide) rfl ?_
  intro p e s m args below meth c s₁ B hml hv
  obtain ⟨rfl, hsz, hP, hK, hD0, hN⟩ := hv
  have hx := B.exec
  have hb := B.bytes
  have hr := B.returns
  have hT : ∀ w ∈ tbG, w.before ([.ref (h 0)] : List Value).toArray s = true := fun w h => atoms_spec (ws := (Cond.code yX9_endNight cX9_endNight 2 (some .int) :: tbG)) B.pre w (List.mem_cons_of_mem _ h)
  have hown : s.vm.findClass RX9 = some m.cls := findClass_of_methodNamed B.named
  have hlocks := B.notSynchronized
  subst hsz
  have hD := hD0.self (sz := s.heap.size)
  generalize hAe : va_A (wX9 cyI cyJ cyZ cyO h book now sights sight signs pad nights townAt townCell reason acts at_ cost hole counts worth met ways nextWays image isKept) s.heap.size = A at hD ⊢
  have hA : ∀ q : Nat, s.heap.size ≤ q → A q := fun q h => by rw [← hAe]; exact Or.inr h
  have hS : va_S A s.heap s.heap [] := va_S.rf
  show W p l e ({ frames := 2, cells := 0, slots := 0, locals := 47 } : Room) s m ([.ref (h 0)] : List Value).toArray below meth c s.heap [] 0 0 (MQ below (qI D (wX9 cyI cyJ cyZ cyO h book q.2.1 sights sight signs pad q.2.2.1 q.2.2.2.1 q.2.2.2.2 reason acts at_ cost hole counts worth met ways nextWays image isKept) q.1 A) ([.ref (h 0)] : List Value).toArray s 0 0 A) _
  have l43 : ∀ (n43 : Nat) (x1 : Int32) (now : Nat → Int32) (nights : Int32) (townAt : Int32) (townCell : Int32) (H : Heap) (locs : List Loc) (ls : Array Slot), va_P D vwCl (wX9 cyI cyJ cyZ cyO h book now sights sight signs pad nights townAt townCell reason acts at_ cost hole counts worth met ways nextWays image isKept) H → va_D A (wX9 cyI cyJ cyZ cyO h book now sights sight signs pad nights townAt townCell reason acts at_ cost hole counts worth met ways nextWays image isKept) → va_S A s.heap H locs → lv_has ls 2 [(0, .ref (h 0)), (1, .int x1)] → g_X9_endNight_l43 nf n43 x1 now nights townAt townCell = some q → W p l e ({ frames := 2, cells := 0, slots := 0, locals := 47 } : Room) s m ([.ref (h 0)] : List Value).toArray below meth c H locs 0 0 (MQ below (qI D (wX9 cyI cyJ cyZ cyO h book q.2.1 sights sight signs pad q.2.2.1 q.2.2.2.1 q.2.2.2.2 reason acts at_ cost hole counts worth met ways nextWays image isKept) q.1 A) ([.ref (h 0)] : List Value).toArray s 0 0 A) (F0 m 43 ls []) := by
    intro n43
    induction n43 with
    | zero =>
      intro x1 now nights townAt townCell H locs ls hP hD hS hl hf
      rw [g_X9_endNight_l43] at hf
      cases hf
    | succ n43 ih43 =>
      have b76 : ∀ (x1 : Int32) (s1 : Int32) (s2 : Int32) (s3 : Int32) (now : Nat → Int32) (nights : Int32) (townAt : Int32) (townCell : Int32) (H : Heap) (locs : List Loc) (ls : Array Slot), va_P D vwCl (wX9 cyI cyJ cyZ cyO h book now sights sight signs pad nights townAt townCell reason acts at_ cost hole counts worth met ways nextWays image isKept) H → va_D A (wX9 cyI cyJ cyZ cyO h book now sights sight signs pad nights townAt townCell reason acts at_ cost hole counts worth met ways nextWays image isKept) → va_S A s.heap H locs → lv_has ls 2 [(0, .ref (h 0)), (1, .int x1)] → g_X9_endNight_b76 nf (g_X9_endNight_l43 nf n43) x1 s1 s2 s3 now nights townAt townCell = some q → W p l e ({ frames := 2, cells := 0, slots := 0, locals := 47 } : Room) s m ([.ref (h 0)] : List Value).toArray below meth c H locs 0 0 (MQ below (qI D (wX9 cyI cyJ cyZ cyO h book q.2.1 sights sight signs pad q.2.2.1 q.2.2.2.1 q.2.2.2.2 reason acts at_ cost hole counts worth met ways nextWays image isKept) q.1 A) ([.ref (h 0)] : List Value).toArray s 0 0 A) (F0 m 76 ls [.int s3, .int s2, .int s1, .ref (h 2)]) := by
        intro x1 s1 s2 s3 now nights townAt townCell H locs ls hP hD hS hl hf
        unfold g_X9_endNight_b76 at hf
        refine lv_isub hx hb dX9_endNight_76 ?_
        obtain ⟨hi, hf⟩ := ck_some hf
        refine va_iast hx hb hK hP hD hS 2 0 rfl rfl hi dX9_endNight_77 (fun H locs hP hD hS => ?_)
        have hP : va_P D vwCl (wX9 cyI cyJ cyZ cyO h book (upd now s1.toNatClampNeg (s2 - s3)) sights sight signs pad nights townAt townCell reason acts at_ cost hole counts worth met ways nextWays image isKept) H := hP
        have hD : va_D A (wX9 cyI cyJ cyZ cyO h book (upd now s1.toNatClampNeg (s2 - s3)) sights sight signs pad nights townAt townCell reason acts at_ cost hole counts worth met ways nextWays image isKept) := hD
        refine lv_iinc (v := (x1 + 1)) (lv' := [(1, .int (x1 + 1)), (0, .ref (h 0))]) hx hb dX9_endNight_78 hl (k := 1) rfl rfl (by decide) rfl (fun ls hl => ?_)
        refine lv_goto (tgt := 43) hx hb dX9_endNight_81 (by decide) ?_
        exact ih43 (x1 + 1) (upd now s1.toNatClampNeg (s2 - s3)) nights townAt townCell H locs ls hP hD hS (lv_sub hl [1, 0] rfl) hf
      intro x1 now nights townAt townCell H locs ls hP hD hS hl hf
      rw [g_X9_endNight_l43] at hf
      refine lv_iload_n hx hb dX9_endNight_43 rfl (lv_at hl 1 rfl) ?_
      refine lv_bipush (v := 25) hx hb dX9_endNight_44 (by decide) ?_
      refine lv_icmp_ge (tgt := 84) hx hb dX9_endNight_46 (by decide) (fun cc => ?_) (fun cc => ?_)
      · replace hf := if_t cc hf
        refine lv_aload_n hx hb dX9_endNight_84 rfl (lv_at hl 0 rfl) ?_
        refine va_get (ci := 9) (v := .ref (h 2)) (C := RX9) (T := TX9) (N := 21) hx hb hT hin_X9 hown hK hP 0 rfl rfl 1 (by decide) (hT _ wf_X9_13) (fun _ h9 => h9) rfl dX9_endNight_85 ?_
        refine lv_bipush (v := 62) hx hb dX9_endNight_88 (by decide) ?_
        refine lv_dup2_11 hx hb dX9_endNight_90 rfl rfl ?_
        obtain ⟨hi, hf⟩ := ck_some hf
        refine va_iald hx hb hK hP 2 0 rfl rfl hi dX9_endNight_91 ?_
        refine lv_iconst (v := 1) hx hb dX9_endNight_92 (by decide) ?_
        refine lv_iadd hx hb dX9_endNight_93 ?_
        obtain ⟨hi, hf⟩ := ck_some hf
        refine va_iast hx hb hK hP hD hS 2 0 rfl rfl hi dX9_endNight_94 (fun H locs hP hD hS => ?_)
        have hP : va_P D vwCl (wX9 cyI cyJ cyZ cyO h book (upd now (62 : Int32).toNatClampNeg ((now (62 : Int32).toNatClampNeg) + 1)) sights sight signs pad nights townAt townCell reason acts at_ cost hole counts worth met ways nextWays image isKept) H := hP
        have hD : va_D A (wX9 cyI cyJ cyZ cyO h book (upd now (62 : Int32).toNatClampNeg ((now (62 : Int32).toNatClampNeg) + 1)) sights sight signs pad nights townAt townCell reason acts at_ cost hole counts worth met ways nextWays image isKept) := hD
        refine lv_aload_n hx hb dX9_endNight_95 rfl (lv_at hl 0 rfl) ?_
        refine lv_dup hx hb dX9_endNight_96 rfl ?_
        refine va_get (ci := 9) (v := .int nights) (C := RX9) (T := TX9) (N := 21) hx hb hT hin_X9 hown hK hP 0 rfl rfl 6 (by decide) (hT _ wf_X9_79) (fun _ h9 => h9) rfl dX9_endNight_97 ?_
        refine lv_iconst (v := 1) hx hb dX9_endNight_100 (by decide) ?_
        refine lv_iadd hx hb dX9_endNight_101 ?_
        refine va_put (ci := 9) (v := .int (nights + 1)) (ty := .int) (C := RX9) (T := TX9) (N := 21) hx hb hT hin_X9 tyX9 tyX9_ok nmX9 hown hK hP hD hS 0 rfl rfl 6 (by decide) (hT _ wf_X9_79) (fun _ h9 => h9) rfl (tyX9_ok 6 (by decide)) rfl rfl (Nat.le_of_ble_eq_true rfl) dX9_endNight_102 (fun H locs hP hD hS => ?_)
        have hP : va_P D vwCl (wX9 cyI cyJ cyZ cyO h book (upd now (62 : Int32).toNatClampNeg ((now (62 : Int32).toNatClampNeg) + 1)) sights sight signs pad (nights + 1) townAt townCell reason acts at_ cost hole counts worth met ways nextWays image isKept) H := hP
        have hD : va_D A (wX9 cyI cyJ cyZ cyO h book (upd now (62 : Int32).toNatClampNeg ((now (62 : Int32).toNatClampNeg) + 1)) sights sight signs pad (nights + 1) townAt townCell reason acts at_ cost hole counts worth met ways nextWays image isKept) := hD
        refine lv_iconst (v := 0) hx hb dX9_endNight_105 (by decide) ?_
        cases Option.some.inj hf
        exact W.iret hx hb hr (fun t ht hW => ⟨⟨_, (), rfl, rfl, by show va_P D vwCl _ t.heap; rw [ht]; exact hP⟩, hS.F ht⟩) hS.2.2 dX9_endNight_106
      · replace hf := if_f cc hf
        refine lv_aload_n hx hb dX9_endNight_49 rfl (lv_at hl 0 rfl) ?_
        refine va_get (ci := 9) (v := .ref (h 2)) (C := RX9) (T := TX9) (N := 21) hx hb hT hin_X9 hown hK hP 0 rfl rfl 1 (by decide) (hT _ wf_X9_13) (fun _ h9 => h9) rfl dX9_endNight_50 ?_
        refine lv_bipush (v := 25) hx hb dX9_endNight_53 (by decide) ?_
        refine lv_iload_n hx hb dX9_endNight_55 rfl (lv_at hl 1 rfl) ?_
        refine lv_iadd hx hb dX9_endNight_56 ?_
        refine lv_dup2_11 hx hb dX9_endNight_57 rfl rfl ?_
        obtain ⟨hi, hf⟩ := ck_some hf
        refine va_iald hx hb hK hP 2 0 rfl rfl hi dX9_endNight_58 ?_
        refine lv_aload_n hx hb dX9_endNight_59 rfl (lv_at hl 0 rfl) ?_
        refine va_get (ci := 9) (v := .ref (h 2)) (C := RX9) (T := TX9) (N := 21) hx hb hT hin_X9 hown hK hP 0 rfl rfl 1 (by decide) (hT _ wf_X9_13) (fun _ h9 => h9) rfl dX9_endNight_60 ?_
        refine lv_bipush (v := 25) hx hb dX9_endNight_63 (by decide) ?_
        refine lv_iload_n hx hb dX9_endNight_65 rfl (lv_at hl 1 rfl) ?_
        refine lv_iadd hx hb dX9_endNight_66 ?_
        obtain ⟨hi, hf⟩ := ck_some hf
        refine va_iald hx hb hK hP 2 0 rfl rfl hi dX9_endNight_67 ?_
        refine lv_if_le (tgt := 75) hx hb dX9_endNight_68 (by decide) (fun cc => ?_) (fun cc => ?_)
        · replace hf := if_t cc hf
          refine lv_iconst (v := 0) hx hb dX9_endNight_75 (by decide) ?_
          exact b76 x1 (25 + x1) (now (25 + x1).toNatClampNeg) 0 now nights townAt townCell H locs ls hP hD hS (lv_sub hl [0, 1] rfl) hf
        · replace hf := if_f cc hf
          refine lv_iconst (v := 1) hx hb dX9_endNight_71 (by decide) ?_
          refine lv_goto (tgt := 76) hx hb dX9_endNight_72 (by decide) ?_
          exact b76 x1 (25 + x1) (now (25 + x1).toNatClampNeg) 1 now nights townAt townCell H locs ls hP hD hS (lv_sub hl [0, 1] rfl) hf
  have l17 : ∀ (n17 : Nat) (x1 : Int32) (now : Nat → Int32) (nights : Int32) (townAt : Int32) (townCell : Int32) (H : Heap) (locs : List Loc) (ls : Array Slot), va_P D vwCl (wX9 cyI cyJ cyZ cyO h book now sights sight signs pad nights townAt townCell reason acts at_ cost hole counts worth met ways nextWays image isKept) H → va_D A (wX9 cyI cyJ cyZ cyO h book now sights sight signs pad nights townAt townCell reason acts at_ cost hole counts worth met ways nextWays image isKept) → va_S A s.heap H locs → lv_has ls 2 [(0, .ref (h 0)), (1, .int x1)] → g_X9_endNight_l17 nf n17 x1 now nights townAt townCell = some q → W p l e ({ frames := 2, cells := 0, slots := 0, locals := 47 } : Room) s m ([.ref (h 0)] : List Value).toArray below meth c H locs 0 0 (MQ below (qI D (wX9 cyI cyJ cyZ cyO h book q.2.1 sights sight signs pad q.2.2.1 q.2.2.2.1 q.2.2.2.2 reason acts at_ cost hole counts worth met ways nextWays image isKept) q.1 A) ([.ref (h 0)] : List Value).toArray s 0 0 A) (F0 m 17 ls []) := by
    intro n17
    induction n17 with
    | zero =>
      intro x1 now nights townAt townCell H locs ls hP hD hS hl hf
      rw [g_X9_endNight_l17] at hf
      cases hf
    | succ n17 ih17 =>
      have b35 : ∀ (x1 : Int32) (now : Nat → Int32) (nights : Int32) (townAt : Int32) (townCell : Int32) (H : Heap) (locs : List Loc) (ls : Array Slot), va_P D vwCl (wX9 cyI cyJ cyZ cyO h book now sights sight signs pad nights townAt townCell reason acts at_ cost hole counts worth met ways nextWays image isKept) H → va_D A (wX9 cyI cyJ cyZ cyO h book now sights sight signs pad nights townAt townCell reason acts at_ cost hole counts worth met ways nextWays image isKept) → va_S A s.heap H locs → lv_has ls 2 [(0, .ref (h 0)), (1, .int x1)] → g_X9_endNight_b35 nf (g_X9_endNight_l17 nf n17) x1 now nights townAt townCell = some q → W p l e ({ frames := 2, cells := 0, slots := 0, locals := 47 } : Room) s m ([.ref (h 0)] : List Value).toArray below meth c H locs 0 0 (MQ below (qI D (wX9 cyI cyJ cyZ cyO h book q.2.1 sights sight signs pad q.2.2.1 q.2.2.2.1 q.2.2.2.2 reason acts at_ cost hole counts worth met ways nextWays image isKept) q.1 A) ([.ref (h 0)] : List Value).toArray s 0 0 A) (F0 m 35 ls []) := by
        intro x1 now nights townAt townCell H locs ls hP hD hS hl hf
        unfold g_X9_endNight_b35 at hf
        refine lv_iinc (v := (x1 + 1)) (lv' := [(1, .int (x1 + 1)), (0, .ref (h 0))]) hx hb dX9_endNight_35 hl (k := 1) rfl rfl (by decide) rfl (fun ls hl => ?_)
        refine lv_goto (tgt := 17) hx hb dX9_endNight_38 (by decide) ?_
        exact ih17 (x1 + 1) now nights townAt townCell H locs ls hP hD hS (lv_sub hl [1, 0] rfl) hf
      intro x1 now nights townAt townCell H locs ls hP hD hS hl hf
      rw [g_X9_endNight_l17] at hf
      refine lv_iload_n hx hb dX9_endNight_17 rfl (lv_at hl 1 rfl) ?_
      refine lv_iconst (v := 4) hx hb dX9_endNight_18 (by decide) ?_
      refine lv_icmp_ge (tgt := 41) hx hb dX9_endNight_19 (by decide) (fun cc => ?_) (fun cc => ?_)
      · replace hf := if_t cc hf
        refine lv_iconst (v := 0) hx hb dX9_endNight_41 (by decide) ?_
        refine lv_istore_n (lv' := [(1, .int 0), (0, .ref (h 0))]) hx hb dX9_endNight_42 rfl hl (by decide) rfl (fun ls hl => ?_)
        exact l43 nf 0 now nights townAt townCell H locs ls hP hD hS (lv_sub hl [1, 0] rfl) hf
      · replace hf := if_f cc hf
        refine lv_aload_n hx hb dX9_endNight_22 rfl (lv_at hl 0 rfl) ?_
        refine lv_iload_n hx hb dX9_endNight_23 rfl (lv_at hl 1 rfl) ?_
        obtain ⟨q1, hq1, hf⟩ := bd_some hf
        have hC : [0, 1, 2, 3, 4, 5, 6, 7, 8, 9, 10, 11, 12, 13].map (fun i => (wX9 cyI cyJ cyZ cyO h book now sights sight signs pad nights townAt townCell reason acts at_ cost hole counts worth met ways nextWays image isKept)[i]?) = (wX9 cyI cyJ cyZ cyO h book now sights sight signs pad nights townAt townCell reason acts at_ cost hole counts worth met ways nextWays image isKept).map some := rfl
        refine cl_i (rn_V (As := [.int x1]) (rest := []) (C := RX9) hx hb hml hown hT hK hN hP hD [0, 1, 2, 3, 4, 5, 6, 7, 8, 9, 10, 11, 12, 13] hC rfl (c_X9_flying l D cyI cyJ cyZ cyO h H.size book now sights sight signs pad nights townAt townCell reason acts at_ cost hole counts worth met ways nextWays image isKept x1 nf q1 hq1) wm_X9_88 wi_X9_flying wl_X9_flying wz_X9 wc_X9_flying hd_X9_flying ⟨rfl, rfl⟩ ⟨Nat.le_of_ble_eq_true rfl, Nat.le_of_ble_eq_true rfl⟩ (q0 := 0) (ci := 9) rfl rfl rfl rfl hl.1 rfl (Nat.le_of_ble_eq_true rfl) dX9_endNight_24 ⟨Nat.zero_le _, Nat.zero_le _⟩) hP hD hS hA [0, 1, 2, 3, 4, 5, 6, 7, 8, 9, 10, 11, 12, 13] hC [(true, 0), (true, 1), (true, 2), (true, 3), (true, 4), (true, 5), (true, 6), (true, 7), (true, 8), (true, 9), (true, 10), (true, 11), (true, 12), (true, 13)] (ws' := wX9 cyI cyJ cyZ cyO h book now sights sight signs pad nights townAt townCell reason acts at_ cost hole counts worth met ways nextWays image isKept) rfl rfl rfl (fun H locs hP hD hS => ?_)
        refine lv_if_eq (tgt := 35) hx hb dX9_endNight_27 (by decide) (fun cc => ?_) (fun cc => ?_)
        · replace hf := if_t cc hf
          exact b35 x1 now nights townAt townCell H locs ls hP hD hS (lv_sub hl [0, 1] rfl) hf
        · replace hf := if_f cc hf
          refine lv_aload_n hx hb dX9_endNight_30 rfl (lv_at hl 0 rfl) ?_
          refine lv_iload_n hx hb dX9_endNight_31 rfl (lv_at hl 1 rfl) ?_
          obtain ⟨q2, hq2, hf⟩ := bd_some hf
          have hC : [0, 1, 2, 3, 4, 5, 6, 7, 8, 9, 10, 11, 12, 13].map (fun i => (wX9 cyI cyJ cyZ cyO h book now sights sight signs pad nights townAt townCell reason acts at_ cost hole counts worth met ways nextWays image isKept)[i]?) = (wX9 cyI cyJ cyZ cyO h book now sights sight signs pad nights townAt townCell reason acts at_ cost hole counts worth met ways nextWays image isKept).map some := rfl
          refine cl_v (rn_V (As := [.int x1]) (rest := []) (C := RX9) hx hb hml hown hT hK hN hP hD [0, 1, 2, 3, 4, 5, 6, 7, 8, 9, 10, 11, 12, 13] hC rfl (c_X9_fly l D cyI cyJ cyZ cyO h H.size book now sights sight signs pad nights townAt townCell reason acts at_ cost hole counts worth met ways nextWays image isKept x1 nf q2 hq2) wm_X9_94 wi_X9_fly wl_X9_fly wz_X9 wc_X9_fly hd_X9_fly ⟨rfl, rfl⟩ ⟨Nat.le_of_ble_eq_true rfl, Nat.le_of_ble_eq_true rfl⟩ (q0 := 0) (ci := 9) rfl rfl rfl rfl hl.1 rfl (Nat.le_of_ble_eq_true rfl) dX9_endNight_32 ⟨Nat.zero_le _, Nat.zero_le _⟩) hP hD hS hA [0, 1, 2, 3, 4, 5, 6, 7, 8, 9, 10, 11, 12, 13] hC [(true, 0), (true, 1), (true, 2), (true, 3), (true, 4), (true, 5), (true, 6), (true, 7), (true, 8), (true, 9), (true, 10), (true, 11), (true, 12), (true, 13)] (ws' := wX9 cyI cyJ cyZ cyO h book q2.1 sights sight signs pad nights q2.2.1 q2.2.2 reason acts at_ cost hole counts worth met ways nextWays image isKept) rfl rfl rfl (fun H locs hP hD hS => ?_)
          exact b35 x1 q2.1 nights q2.2.1 q2.2.2 H locs ls hP hD hS (lv_sub hl [0, 1] rfl) hf
  have main : ∀ (H : Heap) (locs : List Loc) (ls : Array Slot), va_P D vwCl (wX9 cyI cyJ cyZ cyO h book now sights sight signs pad nights townAt townCell reason acts at_ cost hole counts worth met ways nextWays image isKept) H → va_D A (wX9 cyI cyJ cyZ cyO h book now sights sight signs pad nights townAt townCell reason acts at_ cost hole counts worth met ways nextWays image isKept) → va_S A s.heap H locs → lv_has ls 2 [(0, .ref (h 0))] → W p l e ({ frames := 2, cells := 0, slots := 0, locals := 47 } : Room) s m ([.ref (h 0)] : List Value).toArray below meth c H locs 0 0 (MQ below (qI D (wX9 cyI cyJ cyZ cyO h book q.2.1 sights sight signs pad q.2.2.1 q.2.2.2.1 q.2.2.2.2 reason acts at_ cost hole counts worth met ways nextWays image isKept) q.1 A) ([.ref (h 0)] : List Value).toArray s 0 0 A) (F0 m 0 ls []) := by
    intro H locs ls hP hD hS hl
    unfold g_X9_endNight at hf
    refine lv_aload_n hx hb dX9_endNight_0 rfl (lv_at hl 0 rfl) ?_
    refine va_get (ci := 9) (v := .ref (h 2)) (C := RX9) (T := TX9) (N := 21) hx hb hT hin_X9 hown hK hP 0 rfl rfl 1 (by decide) (hT _ wf_X9_13) (fun _ h9 => h9) rfl dX9_endNight_1 ?_
    refine lv_bipush (v := 62) hx hb dX9_endNight_4 (by decide) ?_
    obtain ⟨hi, hf⟩ := ck_some hf
    refine va_iald hx hb hK hP 2 0 rfl rfl hi dX9_endNight_6 ?_
    refine lv_bipush (v := 99) hx hb dX9_endNight_7 (by decide) ?_
    refine lv_icmp_ne (tgt := 15) hx hb dX9_endNight_9 (by decide) (fun cc => ?_) (fun cc => ?_)
    · replace hf := if_f cc hf
      refine lv_iconst (v := 0) hx hb dX9_endNight_15 (by decide) ?_
      refine lv_istore_n (lv' := [(1, .int 0), (0, .ref (h 0))]) hx hb dX9_endNight_16 rfl hl (by decide) rfl (fun ls hl => ?_)
      exact l17 nf 0 now nights townAt townCell H locs ls hP hD hS (lv_sub hl [1, 0] rfl) hf
    · replace hf := if_t cc hf
      refine lv_bipush (v := 6) hx hb dX9_endNight_12 (by decide) ?_
      cases Option.some.inj hf
      exact W.iret hx hb hr (fun t ht hW => ⟨⟨_, (), rfl, rfl, by show va_P D vwCl _ t.heap; rw [ht]; exact hP⟩, hS.F ht⟩) hS.2.2 dX9_endNight_14
  have hl := lv_entry ([.ref (h 0)]) (n := 2) (Nat.le_of_ble_eq_true rfl)
  rw [lg_entry_eq]
  exact main s.heap [] _ hP hD hS hl
theorem hd_X9_nextAct : yX9_nextAct.cls = RX9 ∧ yX9_nextAct.cls ≠ "java/lang/invoke/MethodHandle" ∧ yX9_nextAct.cls ≠ "java/lang/invoke/VarHandle" ∧ (parseMethodDescriptor yX9_nextAct.desc).map (fun d => d.parameters.length) = some 0 := by decide +kernel
set_option maxHeartbeats 4000000 in
set_option maxRecDepth 100000 in
theorem c_X9_nextAct (l : Launch) (D : va_G) (cyI cyJ cyZ cyO : ClassId) (h : Nat → Nat) (sz : Nat) (book : Nat → Int32) (now : Nat → Int32) (sights : Int32) (sight : Nat → Int32) (signs : Int32) (pad : Nat → Int32) (nights : Int32) (townAt : Int32) (townCell : Int32) (reason : Int32) (acts : Int32) (at_ : Int32) (cost : Nat → Int32) (hole : Nat → Int32) (counts : Nat → Int32) (worth : Nat → Int32) (met : Nat → Int32) (ways : Nat → Int64) (nextWays : Nat → Int64) (image : Nat → Int32) (isKept : Nat → Int32) (nf : Nat) (q : Int32 × (Nat → Int32) × Int32 × Int32 × Int32 × Int32) (hf : g_X9_nextAct nf now pad nights townAt townCell at_ = some q) : Met l yX9_nextAct (Cond.code yX9_nextAct cX9_nextAct 3 (some .int) :: tbG) ({ frames := 3, cells := 0, slots := 0, locals := 68 } : Room) (va_Pc [.ref (h 0)] (pcB D (ty4 cyI cyJ cyZ cyO) sz (wX9 cyI cyJ cyZ cyO h book now sights sight signs pad nights townAt townCell reason acts at_ cost hole counts worth met ways nextWays image isKept))) (qI D (wX9 cyI cyJ cyZ cyO h book q.2.1 sights sight signs pad q.2.2.1 q.2.2.2.1 q.2.2.2.2.1 reason acts q.2.2.2.2.2 cost hole counts worth met ways nextWays image isKept) q.1 (va_A (wX9 cyI cyJ cyZ cyO h book now sights sight signs pad nights townAt townCell reason acts at_ cost hole counts worth met ways nextWays image isKept) sz)) 0 0 (va_A (wX9 cyI cyJ cyZ cyO h book now sights sight signs pad nights townAt townCell reason acts at_ cost hole counts worth met ways nextWays image isKept) sz) := by
  refine Met.ofW (cc := cX9_nextAct) (maxL := 3) (ret := (some .int)) (by decide) rfl ?_
  intro p e s m args below meth c s₁ B hml hv
  obtain ⟨rfl, hsz, hP, hK, hD0, hN⟩ := hv
  have hx := B.exec
  have hb := B.bytes
  have hr := B.returns
  have hT : ∀ w ∈ tbG, w.before ([.ref (h 0)] : List Value).toArray s = true := fun w h => atoms_spec (ws := (Cond.code yX9_nextAct cX9_nextAct 3 (some .int) :: tbG)) B.pre w (List.mem_cons_of_mem _ h)
  have hown : s.vm.findClass RX9 = some m.cls := findClass_of_methodNamed B.named
  have hlocks := B.notSynchronized
  subst hsz
  have hD := hD0.self (sz := s.heap.size)
  generalize hAe : va_A (wX9 cyI cyJ cyZ cyO h book now sights sight signs pad nights townAt townCell reason acts at_ cost hole counts worth met ways nextWays image isKept) s.heap.size = A at hD ⊢
  have hA : ∀ q : Nat, s.heap.size ≤ q → A q := fun q h => by rw [← hAe]; exact Or.inr h
  have hS : va_S A s.heap s.heap [] := va_S.rf
  show W p l e ({ frames := 3, cells := 0, slots := 0, locals := 68 } : Room) s m ([.ref (h 0)] : List Value).toArray below meth c s.heap [] 0 0 (MQ below (qI D (wX9 cyI cyJ cyZ cyO h book q.2.1 sights sight signs pad q.2.2.1 q.2.2.2.1 q.2.2.2.2.1 reason acts q.2.2.2.2.2 cost hole counts worth met ways nextWays image isKept) q.1 A) ([.ref (h 0)] : List Value).toArray s 0 0 A) _
  have main : ∀ (H : Heap) (locs : List Loc) (ls : Array Slot), va_P D vwCl (wX9 cyI cyJ cyZ cyO h book now sights sight signs pad nights townAt townCell reason acts at_ cost hole counts worth met ways nextWays image isKept) H → va_D A (wX9 cyI cyJ cyZ cyO h book now sights sight signs pad nights townAt townCell reason acts at_ cost hole counts worth met ways nextWays image isKept) → va_S A s.heap H locs → lv_has ls 3 [(0, .ref (h 0))] → W p l e ({ frames := 3, cells := 0, slots := 0, locals := 68 } : Room) s m ([.ref (h 0)] : List Value).toArray below meth c H locs 0 0 (MQ below (qI D (wX9 cyI cyJ cyZ cyO h book q.2.1 sights sight signs pad q.2.2.1 q.2.2.2.1 q.2.2.2.2.1 reason acts q.2.2.2.2.2 cost hole counts worth met ways nextWays image isKept) q.1 A) ([.ref (h 0)] : List Value).toArray s 0 0 A) (F0 m 0 ls []) := by
    intro H locs ls hP hD hS hl
    unfold g_X9_nextAct at hf
    refine lv_aload_n hx hb dX9_nextAct_0 rfl (lv_at hl 0 rfl) ?_
    refine va_get (ci := 9) (v := .ref (h 4)) (C := RX9) (T := TX9) (N := 21) hx hb hT hin_X9 hown hK hP 0 rfl rfl 5 (by decide) (hT _ wf_X9_19) (fun _ h9 => h9) rfl dX9_nextAct_1 ?_
    refine lv_aload_n hx hb dX9_nextAct_4 rfl (lv_at hl 0 rfl) ?_
    refine va_get (ci := 9) (v := .int at_) (C := RX9) (T := TX9) (N := 21) hx hb hT hin_X9 hown hK hP 0 rfl rfl 11 (by decide) (hT _ wf_X9_98) (fun _ h9 => h9) rfl dX9_nextAct_5 ?_
    obtain ⟨hi, hf⟩ := ck_some hf
    refine va_iald hx hb hK hP 4 0 rfl rfl hi dX9_nextAct_8 ?_
    refine lv_istore_n (lv' := [(1, .int (pad at_.toNatClampNeg)), (0, .ref (h 0))]) hx hb dX9_nextAct_9 rfl hl (by decide) rfl (fun ls hl => ?_)
    refine lv_iload_n hx hb dX9_nextAct_10 rfl (lv_at hl 0 rfl) ?_
    refine lv_bipush (v := 46) hx hb dX9_nextAct_11 (by decide) ?_
    refine lv_icmp_ne (tgt := 31) hx hb dX9_nextAct_13 (by decide) (fun cc => ?_) (fun cc => ?_)
    · replace hf := if_f cc hf
      refine lv_iload_n hx hb dX9_nextAct_31 rfl (lv_at hl 0 rfl) ?_
      refine lv_bipush (v := 37) hx hb dX9_nextAct_32 (by decide) ?_
      refine lv_icmp_ne (tgt := 80) hx hb dX9_nextAct_34 (by decide) (fun cc => ?_) (fun cc => ?_)
      · replace hf := if_f cc hf
        refine lv_aload_n hx hb dX9_nextAct_80 rfl (lv_at hl 1 rfl) ?_
        refine lv_dup hx hb dX9_nextAct_81 rfl ?_
        refine va_get (ci := 9) (v := .int at_) (C := RX9) (T := TX9) (N := 21) hx hb hT hin_X9 hown hK hP 0 rfl rfl 11 (by decide) (hT _ wf_X9_98) (fun _ h9 => h9) rfl dX9_nextAct_82 ?_
        refine lv_iconst (v := 2) hx hb dX9_nextAct_85 (by decide) ?_
        refine lv_iadd hx hb dX9_nextAct_86 ?_
        refine va_put (ci := 9) (v := .int (at_ + 2)) (ty := .int) (C := RX9) (T := TX9) (N := 21) hx hb hT hin_X9 tyX9 tyX9_ok nmX9 hown hK hP hD hS 0 rfl rfl 11 (by decide) (hT _ wf_X9_98) (fun _ h9 => h9) rfl (tyX9_ok 11 (by decide)) rfl rfl (Nat.le_of_ble_eq_true rfl) dX9_nextAct_87 (fun H locs hP hD hS => ?_)
        have hP : va_P D vwCl (wX9 cyI cyJ cyZ cyO h book now sights sight signs pad nights townAt townCell reason acts (at_ + 2) cost hole counts worth met ways nextWays image isKept) H := hP
        have hD : va_D A (wX9 cyI cyJ cyZ cyO h book now sights sight signs pad nights townAt townCell reason acts (at_ + 2) cost hole counts worth met ways nextWays image isKept) := hD
        refine lv_aload_n hx hb dX9_nextAct_90 rfl (lv_at hl 1 rfl) ?_
        refine va_get (ci := 9) (v := .ref (h 4)) (C := RX9) (T := TX9) (N := 21) hx hb hT hin_X9 hown hK hP 0 rfl rfl 5 (by decide) (hT _ wf_X9_19) (fun _ h9 => h9) rfl dX9_nextAct_91 ?_
        refine lv_aload_n hx hb dX9_nextAct_94 rfl (lv_at hl 1 rfl) ?_
        refine va_get (ci := 9) (v := .int (at_ + 2)) (C := RX9) (T := TX9) (N := 21) hx hb hT hin_X9 hown hK hP 0 rfl rfl 11 (by decide) (hT _ wf_X9_98) (fun _ h9 => h9) rfl dX9_nextAct_95 ?_
        refine lv_iconst (v := 1) hx hb dX9_nextAct_98 (by decide) ?_
        refine lv_isub hx hb dX9_nextAct_99 ?_
        obtain ⟨hi, hf⟩ := ck_some hf
        refine va_iald hx hb hK hP 4 0 rfl rfl hi dX9_nextAct_100 ?_
        refine lv_istore_n (lv' := [(2, .int (pad ((at_ + 2) - 1).toNatClampNeg)), (1, .int (pad at_.toNatClampNeg)), (0, .ref (h 0))]) hx hb dX9_nextAct_101 rfl hl (by decide) rfl (fun ls hl => ?_)
        refine lv_iload_n hx hb dX9_nextAct_102 rfl (lv_at hl 1 rfl) ?_
        refine lv_bipush (v := 43) hx hb dX9_nextAct_103 (by decide) ?_
        refine lv_icmp_ne (tgt := 119) hx hb dX9_nextAct_105 (by decide) (fun cc => ?_) (fun cc => ?_)
        · replace hf := if_f cc hf
          refine lv_iload_n hx hb dX9_nextAct_119 rfl (lv_at hl 0 rfl) ?_
          refine lv_bipush (v := 33) hx hb dX9_nextAct_120 (by decide) ?_
          refine lv_icmp_ne (tgt := 136) hx hb dX9_nextAct_122 (by decide) (fun cc => ?_) (fun cc => ?_)
          · replace hf := if_f cc hf
            refine lv_aload_n hx hb dX9_nextAct_136 rfl (lv_at hl 2 rfl) ?_
            refine lv_iload_n hx hb dX9_nextAct_137 rfl (lv_at hl 1 rfl) ?_
            refine lv_bipush (v := 65) hx hb dX9_nextAct_138 (by decide) ?_
            refine lv_isub hx hb dX9_nextAct_140 ?_
            refine lv_iload_n hx hb dX9_nextAct_141 rfl (lv_at hl 0 rfl) ?_
            obtain ⟨q1, hq1, hf⟩ := bd_some hf
            have hC : ([] : List Nat).map (fun i => (wX9 cyI cyJ cyZ cyO h book now sights sight signs pad nights townAt townCell reason acts (at_ + 2) cost hole counts worth met ways nextWays image isKept)[i]?) = ([] : va_W).map some := rfl
            refine cl_i (rn_S (As := [.int (pad ((at_ + 2) - 1).toNatClampNeg)]) (rest := [.int ((pad at_.toNatClampNeg) - 65), .ref (h 0)]) hx hb hml hown hT hK hN hP hD [] hC rfl (c_X9_wayOf l D cyI cyJ cyZ cyO H.size (pad ((at_ + 2) - 1).toNatClampNeg) nf q1 hq1) wm_X9_67 wt_X9_wayOf wz_X9 wc_X9_wayOf hd_X9_wayOf ⟨rfl, rfl⟩ ⟨Nat.le_of_ble_eq_true rfl, Nat.le_of_ble_eq_true rfl⟩ rfl hl.1 rfl (Nat.le_of_ble_eq_true rfl) dX9_nextAct_142 ⟨Nat.zero_le _, Nat.zero_le _⟩) hP hD hS hA [] hC [(false, 0), (false, 1), (false, 2), (false, 3), (false, 4), (false, 5), (false, 6), (false, 7), (false, 8), (false, 9), (false, 10), (false, 11), (false, 12), (false, 13)] (ws' := wX9 cyI cyJ cyZ cyO h book now sights sight signs pad nights townAt townCell reason acts (at_ + 2) cost hole counts worth met ways nextWays image isKept) rfl rfl rfl (fun H locs hP hD hS => ?_)
            obtain ⟨q2, hq2, hf⟩ := bd_some hf
            have hC : [0, 1, 2, 3, 4, 5, 6, 7, 8, 9, 10, 11, 12, 13].map (fun i => (wX9 cyI cyJ cyZ cyO h book now sights sight signs pad nights townAt townCell reason acts (at_ + 2) cost hole counts worth met ways nextWays image isKept)[i]?) = (wX9 cyI cyJ cyZ cyO h book now sights sight signs pad nights townAt townCell reason acts (at_ + 2) cost hole counts worth met ways nextWays image isKept).map some := rfl
            refine cl_i (rn_V (As := [.int ((pad at_.toNatClampNeg) - 65), .int q1]) (rest := []) (C := RX9) hx hb hml hown hT hK hN hP hD [0, 1, 2, 3, 4, 5, 6, 7, 8, 9, 10, 11, 12, 13] hC rfl (c_X9_turn l D cyI cyJ cyZ cyO h H.size book now sights sight signs pad nights townAt townCell reason acts (at_ + 2) cost hole counts worth met ways nextWays image isKept ((pad at_.toNatClampNeg) - 65) q1 nf q2 hq2) wm_X9_113 wi_X9_turn wl_X9_turn wz_X9 wc_X9_turn hd_X9_turn ⟨rfl, rfl⟩ ⟨Nat.le_of_ble_eq_true rfl, Nat.le_of_ble_eq_true rfl⟩ (q0 := 0) (ci := 9) rfl rfl rfl rfl hl.1 rfl (Nat.le_of_ble_eq_true rfl) dX9_nextAct_145 ⟨Nat.zero_le _, Nat.zero_le _⟩) hP hD hS hA [0, 1, 2, 3, 4, 5, 6, 7, 8, 9, 10, 11, 12, 13] hC [(true, 0), (true, 1), (true, 2), (true, 3), (true, 4), (true, 5), (true, 6), (true, 7), (true, 8), (true, 9), (true, 10), (true, 11), (true, 12), (true, 13)] (ws' := wX9 cyI cyJ cyZ cyO h book q2.2 sights sight signs pad nights townAt townCell reason acts (at_ + 2) cost hole counts worth met ways nextWays image isKept) rfl rfl rfl (fun H locs hP hD hS => ?_)
            cases Option.some.inj hf
            exact W.iret hx hb hr (fun t ht hW => ⟨⟨_, (), rfl, rfl, by show va_P D vwCl _ t.heap; rw [ht]; exact hP⟩, hS.F ht⟩) hS.2.2 dX9_nextAct_148
          · replace hf := if_t cc hf
            refine lv_aload_n hx hb dX9_nextAct_125 rfl (lv_at hl 2 rfl) ?_
            refine lv_iload_n hx hb dX9_nextAct_126 rfl (lv_at hl 1 rfl) ?_
            refine lv_bipush (v := 65) hx hb dX9_nextAct_127 (by decide) ?_
            refine lv_isub hx hb dX9_nextAct_129 ?_
            obtain ⟨q3, hq3, hf⟩ := bd_some hf
            have hC : [0, 1, 2, 3, 4, 5, 6, 7, 8, 9, 10, 11, 12, 13].map (fun i => (wX9 cyI cyJ cyZ cyO h book now sights sight signs pad nights townAt townCell reason acts (at_ + 2) cost hole counts worth met ways nextWays image isKept)[i]?) = (wX9 cyI cyJ cyZ cyO h book now sights sight signs pad nights townAt townCell reason acts (at_ + 2) cost hole counts worth met ways nextWays image isKept).map some := rfl
            refine cl_i (rn_V (As := [.int ((pad at_.toNatClampNeg) - 65)]) (rest := []) (C := RX9) hx hb hml hown hT hK hN hP hD [0, 1, 2, 3, 4, 5, 6, 7, 8, 9, 10, 11, 12, 13] hC rfl (c_X9_catchIt l D cyI cyJ cyZ cyO h H.size book now sights sight signs pad nights townAt townCell reason acts (at_ + 2) cost hole counts worth met ways nextWays image isKept ((pad at_.toNatClampNeg) - 65) nf q3 hq3) wm_X9_110 wi_X9_catchIt wl_X9_catchIt wz_X9 wc_X9_catchIt hd_X9_catchIt ⟨rfl, rfl⟩ ⟨Nat.le_of_ble_eq_true rfl, Nat.le_of_ble_eq_true rfl⟩ (q0 := 0) (ci := 9) rfl rfl rfl rfl hl.1 rfl (Nat.le_of_ble_eq_true rfl) dX9_nextAct_130 ⟨Nat.zero_le _, Nat.zero_le _⟩) hP hD hS hA [0, 1, 2, 3, 4, 5, 6, 7, 8, 9, 10, 11, 12, 13] hC [(true, 0), (true, 1), (true, 2), (true, 3), (true, 4), (true, 5), (true, 6), (true, 7), (true, 8), (true, 9), (true, 10), (true, 11), (true, 12), (true, 13)] (ws' := wX9 cyI cyJ cyZ cyO h book q3.2 sights sight signs pad nights townAt townCell reason acts (at_ + 2) cost hole counts worth met ways nextWays image isKept) rfl rfl rfl (fun H locs hP hD hS => ?_)
            refine lv_goto (tgt := 148) hx hb dX9_nextAct_133 (by decide) ?_
            cases Option.some.inj hf
            exact W.iret hx hb hr (fun t ht hW => ⟨⟨_, (), rfl, rfl, by show va_P D vwCl _ t.heap; rw [ht]; exact hP⟩, hS.F ht⟩) hS.2.2 dX9_nextAct_148
        · replace hf := if_t cc hf
          refine lv_aload_n hx hb dX9_nextAct_108 rfl (lv_at hl 2 rfl) ?_
          refine lv_iload_n hx hb dX9_nextAct_109 rfl (lv_at hl 0 rfl) ?_
          refine lv_bipush (v := 97) hx hb dX9_nextAct_110 (by decide) ?_
          refine lv_isub hx hb dX9_nextAct_112 ?_
          obtain ⟨q4, hq4, hf⟩ := bd_some hf
          have hC : [0, 1, 2, 3, 4, 5, 6, 7, 8, 9, 10, 11, 12, 13].map (fun i => (wX9 cyI cyJ cyZ cyO h book now sights sight signs pad nights townAt townCell reason acts (at_ + 2) cost hole counts worth met ways nextWays image isKept)[i]?) = (wX9 cyI cyJ cyZ cyO h book now sights sight signs pad nights townAt townCell reason acts (at_ + 2) cost hole counts worth met ways nextWays image isKept).map some := rfl
          refine cl_i (rn_V (As := [.int ((pad ((at_ + 2) - 1).toNatClampNeg) - 97)]) (rest := []) (C := RX9) hx hb hml hown hT hK hN hP hD [0, 1, 2, 3, 4, 5, 6, 7, 8, 9, 10, 11, 12, 13] hC rfl (c_X9_strew l D cyI cyJ cyZ cyO h H.size book now sights sight signs pad nights townAt townCell reason acts (at_ + 2) cost hole counts worth met ways nextWays image isKept ((pad ((at_ + 2) - 1).toNatClampNeg) - 97) nf q4 hq4) wm_X9_107 wi_X9_strew wl_X9_strew wz_X9 wc_X9_strew hd_X9_strew ⟨rfl, rfl⟩ ⟨Nat.le_of_ble_eq_true rfl, Nat.le_of_ble_eq_true rfl⟩ (q0 := 0) (ci := 9) rfl rfl rfl rfl hl.1 rfl (Nat.le_of_ble_eq_true rfl) dX9_nextAct_113 ⟨Nat.zero_le _, Nat.zero_le _⟩) hP hD hS hA [0, 1, 2, 3, 4, 5, 6, 7, 8, 9, 10, 11, 12, 13] hC [(true, 0), (true, 1), (true, 2), (true, 3), (true, 4), (true, 5), (true, 6), (true, 7), (true, 8), (true, 9), (true, 10), (true, 11), (true, 12), (true, 13)] (ws' := wX9 cyI cyJ cyZ cyO h book q4.2 sights sight signs pad nights townAt townCell reason acts (at_ + 2) cost hole counts worth met ways nextWays image isKept) rfl rfl rfl (fun H locs hP hD hS => ?_)
          refine lv_goto (tgt := 148) hx hb dX9_nextAct_116 (by decide) ?_
          cases Option.some.inj hf
          exact W.iret hx hb hr (fun t ht hW => ⟨⟨_, (), rfl, rfl, by show va_P D vwCl _ t.heap; rw [ht]; exact hP⟩, hS.F ht⟩) hS.2.2 dX9_nextAct_148
      · replace hf := if_t cc hf
        refine lv_aload_n hx hb dX9_nextAct_37 rfl (lv_at hl 1 rfl) ?_
        refine lv_dup hx hb dX9_nextAct_38 rfl ?_
        refine va_get (ci := 9) (v := .int at_) (C := RX9) (T := TX9) (N := 21) hx hb hT hin_X9 hown hK hP 0 rfl rfl 11 (by decide) (hT _ wf_X9_98) (fun _ h9 => h9) rfl dX9_nextAct_39 ?_
        refine lv_iconst (v := 3) hx hb dX9_nextAct_42 (by decide) ?_
        refine lv_iadd hx hb dX9_nextAct_43 ?_
        refine va_put (ci := 9) (v := .int (at_ + 3)) (ty := .int) (C := RX9) (T := TX9) (N := 21) hx hb hT hin_X9 tyX9 tyX9_ok nmX9 hown hK hP hD hS 0 rfl rfl 11 (by decide) (hT _ wf_X9_98) (fun _ h9 => h9) rfl (tyX9_ok 11 (by decide)) rfl rfl (Nat.le_of_ble_eq_true rfl) dX9_nextAct_44 (fun H locs hP hD hS => ?_)
        have hP : va_P D vwCl (wX9 cyI cyJ cyZ cyO h book now sights sight signs pad nights townAt townCell reason acts (at_ + 3) cost hole counts worth met ways nextWays image isKept) H := hP
        have hD : va_D A (wX9 cyI cyJ cyZ cyO h book now sights sight signs pad nights townAt townCell reason acts (at_ + 3) cost hole counts worth met ways nextWays image isKept) := hD
        refine lv_aload_n hx hb dX9_nextAct_47 rfl (lv_at hl 1 rfl) ?_
        refine lv_aload_n hx hb dX9_nextAct_48 rfl (lv_at hl 1 rfl) ?_
        refine va_get (ci := 9) (v := .ref (h 4)) (C := RX9) (T := TX9) (N := 21) hx hb hT hin_X9 hown hK hP 0 rfl rfl 5 (by decide) (hT _ wf_X9_19) (fun _ h9 => h9) rfl dX9_nextAct_49 ?_
        refine lv_aload_n hx hb dX9_nextAct_52 rfl (lv_at hl 1 rfl) ?_
        refine va_get (ci := 9) (v := .int (at_ + 3)) (C := RX9) (T := TX9) (N := 21) hx hb hT hin_X9 hown hK hP 0 rfl rfl 11 (by decide) (hT _ wf_X9_98) (fun _ h9 => h9) rfl dX9_nextAct_53 ?_
        refine lv_iconst (v := 2) hx hb dX9_nextAct_56 (by decide) ?_
        refine lv_isub hx hb dX9_nextAct_57 ?_
        obtain ⟨hi, hf⟩ := ck_some hf
        refine va_iald hx hb hK hP 4 0 rfl rfl hi dX9_nextAct_58 ?_
        refine lv_bipush (v := 97) hx hb dX9_nextAct_59 (by decide) ?_
        refine lv_isub hx hb dX9_nextAct_61 ?_
        refine lv_aload_n hx hb dX9_nextAct_62 rfl (lv_at hl 1 rfl) ?_
        refine va_get (ci := 9) (v := .ref (h 4)) (C := RX9) (T := TX9) (N := 21) hx hb hT hin_X9 hown hK hP 0 rfl rfl 5 (by decide) (hT _ wf_X9_19) (fun _ h9 => h9) rfl dX9_nextAct_63 ?_
        refine lv_aload_n hx hb dX9_nextAct_66 rfl (lv_at hl 1 rfl) ?_
        refine va_get (ci := 9) (v := .int (at_ + 3)) (C := RX9) (T := TX9) (N := 21) hx hb hT hin_X9 hown hK hP 0 rfl rfl 11 (by decide) (hT _ wf_X9_98) (fun _ h9 => h9) rfl dX9_nextAct_67 ?_
        refine lv_iconst (v := 1) hx hb dX9_nextAct_70 (by decide) ?_
        refine lv_isub hx hb dX9_nextAct_71 ?_
        obtain ⟨hi, hf⟩ := ck_some hf
        refine va_iald hx hb hK hP 4 0 rfl rfl hi dX9_nextAct_72 ?_
        refine lv_bipush (v := 48) hx hb dX9_nextAct_73 (by decide) ?_
        refine lv_isub hx hb dX9_nextAct_75 ?_
        obtain ⟨q5, hq5, hf⟩ := bd_some hf
        have hC : [0, 1, 2, 3, 4, 5, 6, 7, 8, 9, 10, 11, 12, 13].map (fun i => (wX9 cyI cyJ cyZ cyO h book now sights sight signs pad nights townAt townCell reason acts (at_ + 3) cost hole counts worth met ways nextWays image isKept)[i]?) = (wX9 cyI cyJ cyZ cyO h book now sights sight signs pad nights townAt townCell reason acts (at_ + 3) cost hole counts worth met ways nextWays image isKept).map some := rfl
        refine cl_i (rn_V (As := [.int ((pad ((at_ + 3) - 2).toNatClampNeg) - 97), .int ((pad ((at_ + 3) - 1).toNatClampNeg) - 48)]) (rest := []) (C := RX9) hx hb hml hown hT hK hN hP hD [0, 1, 2, 3, 4, 5, 6, 7, 8, 9, 10, 11, 12, 13] hC rfl (c_X9_darn l D cyI cyJ cyZ cyO h H.size book now sights sight signs pad nights townAt townCell reason acts (at_ + 3) cost hole counts worth met ways nextWays image isKept ((pad ((at_ + 3) - 2).toNatClampNeg) - 97) ((pad ((at_ + 3) - 1).toNatClampNeg) - 48) nf q5 hq5) wm_X9_104 wi_X9_darn wl_X9_darn wz_X9 wc_X9_darn hd_X9_darn ⟨rfl, rfl⟩ ⟨Nat.le_of_ble_eq_true rfl, Nat.le_of_ble_eq_true rfl⟩ (q0 := 0) (ci := 9) rfl rfl rfl rfl hl.1 rfl (Nat.le_of_ble_eq_true rfl) dX9_nextAct_76 ⟨Nat.zero_le _, Nat.zero_le _⟩) hP hD hS hA [0, 1, 2, 3, 4, 5, 6, 7, 8, 9, 10, 11, 12, 13] hC [(true, 0), (true, 1), (true, 2), (true, 3), (true, 4), (true, 5), (true, 6), (true, 7), (true, 8), (true, 9), (true, 10), (true, 11), (true, 12), (true, 13)] (ws' := wX9 cyI cyJ cyZ cyO h book q5.2 sights sight signs pad nights townAt townCell reason acts (at_ + 3) cost hole counts worth met ways nextWays image isKept) rfl rfl rfl (fun H locs hP hD hS => ?_)
        cases Option.some.inj hf
        exact W.iret hx hb hr (fun t ht hW => ⟨⟨_, (), rfl, rfl, by show va_P D vwCl _ t.heap; rw [ht]; exact hP⟩, hS.F ht⟩) hS.2.2 dX9_nextAct_79
    · replace hf := if_t cc hf
      refine lv_aload_n hx hb dX9_nextAct_16 rfl (lv_at hl 1 rfl) ?_
      refine lv_dup hx hb dX9_nextAct_17 rfl ?_
      refine va_get (ci := 9) (v := .int at_) (C := RX9) (T := TX9) (N := 21) hx hb hT hin_X9 hown hK hP 0 rfl rfl 11 (by decide) (hT _ wf_X9_98) (fun _ h9 => h9) rfl dX9_nextAct_18 ?_
      refine lv_iconst (v := 1) hx hb dX9_nextAct_21 (by decide) ?_
      refine lv_iadd hx hb dX9_nextAct_22 ?_
      refine va_put (ci := 9) (v := .int (at_ + 1)) (ty := .int) (C := RX9) (T := TX9) (N := 21) hx hb hT hin_X9 tyX9 tyX9_ok nmX9 hown hK hP hD hS 0 rfl rfl 11 (by decide) (hT _ wf_X9_98) (fun _ h9 => h9) rfl (tyX9_ok 11 (by decide)) rfl rfl (Nat.le_of_ble_eq_true rfl) dX9_nextAct_23 (fun H locs hP hD hS => ?_)
      have hP : va_P D vwCl (wX9 cyI cyJ cyZ cyO h book now sights sight signs pad nights townAt townCell reason acts (at_ + 1) cost hole counts worth met ways nextWays image isKept) H := hP
      have hD : va_D A (wX9 cyI cyJ cyZ cyO h book now sights sight signs pad nights townAt townCell reason acts (at_ + 1) cost hole counts worth met ways nextWays image isKept) := hD
      refine lv_aload_n hx hb dX9_nextAct_26 rfl (lv_at hl 1 rfl) ?_
      obtain ⟨q6, hq6, hf⟩ := bd_some hf
      have hC : [0, 1, 2, 3, 4, 5, 6, 7, 8, 9, 10, 11, 12, 13].map (fun i => (wX9 cyI cyJ cyZ cyO h book now sights sight signs pad nights townAt townCell reason acts (at_ + 1) cost hole counts worth met ways nextWays image isKept)[i]?) = (wX9 cyI cyJ cyZ cyO h book now sights sight signs pad nights townAt townCell reason acts (at_ + 1) cost hole counts worth met ways nextWays image isKept).map some := rfl
      refine cl_i (rn_V (As := []) (rest := []) (C := RX9) hx hb hml hown hT hK hN hP hD [0, 1, 2, 3, 4, 5, 6, 7, 8, 9, 10, 11, 12, 13] hC rfl (c_X9_endNight l D cyI cyJ cyZ cyO h H.size book now sights sight signs pad nights townAt townCell reason acts (at_ + 1) cost hole counts worth met ways nextWays image isKept nf q6 hq6) wm_X9_101 wi_X9_endNight wl_X9_endNight wz_X9 wc_X9_endNight hd_X9_endNight ⟨rfl, rfl⟩ ⟨Nat.le_of_ble_eq_true rfl, Nat.le_of_ble_eq_true rfl⟩ (q0 := 0) (ci := 9) rfl rfl rfl rfl hl.1 rfl (Nat.le_of_ble_eq_true rfl) dX9_nextAct_27 ⟨Nat.zero_le _, Nat.zero_le _⟩) hP hD hS hA [0, 1, 2, 3, 4, 5, 6, 7, 8, 9, 10, 11, 12, 13] hC [(true, 0), (true, 1), (true, 2), (true, 3), (true, 4), (true, 5), (true, 6), (true, 7), (true, 8), (true, 9), (true, 10), (true, 11), (true, 12), (true, 13)] (ws' := wX9 cyI cyJ cyZ cyO h book q6.2.1 sights sight signs pad q6.2.2.1 q6.2.2.2.1 q6.2.2.2.2 reason acts (at_ + 1) cost hole counts worth met ways nextWays image isKept) rfl rfl rfl (fun H locs hP hD hS => ?_)
      cases Option.some.inj hf
      exact W.iret hx hb hr (fun t ht hW => ⟨⟨_, (), rfl, rfl, by show va_P D vwCl _ t.heap; rw [ht]; exact hP⟩, hS.F ht⟩) hS.2.2 dX9_nextAct_30
  have hl := lv_entry ([.ref (h 0)]) (n := 3) (Nat.le_of_ble_eq_true rfl)
  rw [lg_entry_eq]
  exact main s.heap [] _ hP hD hS hl
theorem hd_X9_goNights : yX9_goNights.cls = RX9 ∧ yX9_goNights.cls ≠ "java/lang/invoke/MethodHandle" ∧ yX9_goNights.cls ≠ "java/lang/invoke/VarHandle" ∧ (parseMethodDescriptor yX9_goNights.desc).map (fun d => d.parameters.length) = some 0 := by decide +kernel
set_option maxHeartbeats 4000000 in
set_option maxRecDepth 100000 in
theorem c_X9_goNights (l : Launch) (D : va_G) (cyI cyJ cyZ cyO : ClassId) (h : Nat → Nat) (sz : Nat) (book : Nat → Int32) (now : Nat → Int32) (sights : Int32) (sight : Nat → Int32) (signs : Int32) (pad : Nat → Int32) (nights : Int32) (townAt : Int32) (townCell : Int32) (reason : Int32) (acts : Int32) (at_ : Int32) (cost : Nat → Int32) (hole : Nat → Int32) (counts : Nat → Int32) (worth : Nat → Int32) (met : Nat → Int32) (ways : Nat → Int64) (nextWays : Nat → Int64) (image : Nat → Int32) (isKept : Nat → Int32) (nf : Nat) (q : Int32 × (Nat → Int32) × Int32 × Int32 × Int32 × Int32 × Int32 × Int32) (hf : g_X9_goNights nf book now signs pad nights townAt townCell reason acts at_ = some q) : Met l yX9_goNights (Cond.code yX9_goNights cX9_goNights 1 (some .int) :: tbG) ({ frames := 4, cells := 0, slots := 0, locals := 90 } : Room) (va_Pc [.ref (h 0)] (pcB D (ty4 cyI cyJ cyZ cyO) sz (wX9 cyI cyJ cyZ cyO h book now sights sight signs pad nights townAt townCell reason acts at_ cost hole counts worth met ways nextWays image isKept))) (qI D (wX9 cyI cyJ cyZ cyO h book q.2.1 sights sight signs pad q.2.2.1 q.2.2.2.1 q.2.2.2.2.1 q.2.2.2.2.2.1 q.2.2.2.2.2.2.1 q.2.2.2.2.2.2.2 cost hole counts worth met ways nextWays image isKept) q.1 (va_A (wX9 cyI cyJ cyZ cyO h book now sights sight signs pad nights townAt townCell reason acts at_ cost hole counts worth met ways nextWays image isKept) sz)) 0 0 (va_A (wX9 cyI cyJ cyZ cyO h book now sights sight signs pad nights townAt townCell reason acts at_ cost hole counts worth met ways nextWays image isKept) sz) := by
  refine Met.ofW (cc := cX9_goNights) (maxL := 1) (ret := (some .int)) (by decide) rfl ?_
  intro p e s m args below meth c s₁ B hml hv
  obtain ⟨rfl, hsz, hP, hK, hD0, hN⟩ := hv
  have hx := B.exec
  have hb := B.bytes
  have hr := B.returns
  have hT : ∀ w ∈ tbG, w.before ([.ref (h 0)] : List Value).toArray s = true := fun w h => atoms_spec (ws := (Cond.code yX9_goNights cX9_goNights 1 (some .int) :: tbG)) B.pre w (List.mem_cons_of_mem _ h)
  have hown : s.vm.findClass RX9 = some m.cls := findClass_of_methodNamed B.named
  have hlocks := B.notSynchronized
  subst hsz
  have hD := hD0.self (sz := s.heap.size)
  generalize hAe : va_A (wX9 cyI cyJ cyZ cyO h book now sights sight signs pad nights townAt townCell reason acts at_ cost hole counts worth met ways nextWays image isKept) s.heap.size = A at hD ⊢
  have hA : ∀ q : Nat, s.heap.size ≤ q → A q := fun q h => by rw [← hAe]; exact Or.inr h
  have hS : va_S A s.heap s.heap [] := va_S.rf
  show W p l e ({ frames := 4, cells := 0, slots := 0, locals := 90 } : Room) s m ([.ref (h 0)] : List Value).toArray below meth c s.heap [] 0 0 (MQ below (qI D (wX9 cyI cyJ cyZ cyO h book q.2.1 sights sight signs pad q.2.2.1 q.2.2.2.1 q.2.2.2.2.1 q.2.2.2.2.2.1 q.2.2.2.2.2.2.1 q.2.2.2.2.2.2.2 cost hole counts worth met ways nextWays image isKept) q.1 A) ([.ref (h 0)] : List Value).toArray s 0 0 A) _
  have l14 : ∀ (n14 : Nat) (book : Nat → Int32) (now : Nat → Int32) (signs : Int32) (pad : Nat → Int32) (nights : Int32) (townAt : Int32) (townCell : Int32) (reason : Int32) (acts : Int32) (at_ : Int32) (H : Heap) (locs : List Loc) (ls : Array Slot), va_P D vwCl (wX9 cyI cyJ cyZ cyO h book now sights sight signs pad nights townAt townCell reason acts at_ cost hole counts worth met ways nextWays image isKept) H → va_D A (wX9 cyI cyJ cyZ cyO h book now sights sight signs pad nights townAt townCell reason acts at_ cost hole counts worth met ways nextWays image isKept) → va_S A s.heap H locs → lv_has ls 1 [(0, .ref (h 0))] → g_X9_goNights_l14 nf n14 book now signs pad nights townAt townCell reason acts at_ = some q → W p l e ({ frames := 4, cells := 0, slots := 0, locals := 90 } : Room) s m ([.ref (h 0)] : List Value).toArray below meth c H locs 0 0 (MQ below (qI D (wX9 cyI cyJ cyZ cyO h book q.2.1 sights sight signs pad q.2.2.1 q.2.2.2.1 q.2.2.2.2.1 q.2.2.2.2.2.1 q.2.2.2.2.2.2.1 q.2.2.2.2.2.2.2 cost hole counts worth met ways nextWays image isKept) q.1 A) ([.ref (h 0)] : List Value).toArray s 0 0 A) (F0 m 14 ls []) := by
    intro n14
    induction n14 with
    | zero =>
      intro book now signs pad nights townAt townCell reason acts at_ H locs ls hP hD hS hl hf
      rw [g_X9_goNights_l14] at hf
      cases hf
    | succ n14 ih14 =>
      intro book now signs pad nights townAt townCell reason acts at_ H locs ls hP hD hS hl hf
      rw [g_X9_goNights_l14] at hf
      refine lv_aload_n hx hb dX9_goNights_14 rfl (lv_at hl 0 rfl) ?_
      refine va_get (ci := 9) (v := .int at_) (C := RX9) (T := TX9) (N := 21) hx hb hT hin_X9 hown hK hP 0 rfl rfl 11 (by decide) (hT _ wf_X9_98) (fun _ h9 => h9) rfl dX9_goNights_15 ?_
      refine lv_aload_n hx hb dX9_goNights_18 rfl (lv_at hl 0 rfl) ?_
      refine va_get (ci := 9) (v := .int signs) (C := RX9) (T := TX9) (N := 21) hx hb hT hin_X9 hown hK hP 0 rfl rfl 4 (by decide) (hT _ wf_X9_63) (fun _ h9 => h9) rfl dX9_goNights_19 ?_
      refine lv_icmp_ge (tgt := 58) hx hb dX9_goNights_22 (by decide) (fun cc => ?_) (fun cc => ?_)
      · replace hf := if_t cc hf
        refine lv_bipush (v := (-6)) hx hb dX9_goNights_58 (by decide) ?_
        cases Option.some.inj hf
        exact W.iret hx hb hr (fun t ht hW => ⟨⟨_, (), rfl, rfl, by show va_P D vwCl _ t.heap; rw [ht]; exact hP⟩, hS.F ht⟩) hS.2.2 dX9_goNights_60
      · replace hf := if_f cc hf
        refine lv_aload_n hx hb dX9_goNights_25 rfl (lv_at hl 0 rfl) ?_
        refine lv_aload_n hx hb dX9_goNights_26 rfl (lv_at hl 0 rfl) ?_
        obtain ⟨q1, hq1, hf⟩ := bd_some hf
        have hC : [0, 1, 2, 3, 4, 5, 6, 7, 8, 9, 10, 11, 12, 13].map (fun i => (wX9 cyI cyJ cyZ cyO h book now sights sight signs pad nights townAt townCell reason acts at_ cost hole counts worth met ways nextWays image isKept)[i]?) = (wX9 cyI cyJ cyZ cyO h book now sights sight signs pad nights townAt townCell reason acts at_ cost hole counts worth met ways nextWays image isKept).map some := rfl
        refine cl_i (rn_V (As := []) (rest := [.ref (h 0)]) (C := RX9) hx hb hml hown hT hK hN hP hD [0, 1, 2, 3, 4, 5, 6, 7, 8, 9, 10, 11, 12, 13] hC rfl (c_X9_nextAct l D cyI cyJ cyZ cyO h H.size book now sights sight signs pad nights townAt townCell reason acts at_ cost hole counts worth met ways nextWays image isKept nf q1 hq1) wm_X9_122 wi_X9_nextAct wl_X9_nextAct wz_X9 wc_X9_nextAct hd_X9_nextAct ⟨rfl, rfl⟩ ⟨Nat.le_of_ble_eq_true rfl, Nat.le_of_ble_eq_true rfl⟩ (q0 := 0) (ci := 9) rfl rfl rfl rfl hl.1 rfl (Nat.le_of_ble_eq_true rfl) dX9_goNights_27 ⟨Nat.zero_le _, Nat.zero_le _⟩) hP hD hS hA [0, 1, 2, 3, 4, 5, 6, 7, 8, 9, 10, 11, 12, 13] hC [(true, 0), (true, 1), (true, 2), (true, 3), (true, 4), (true, 5), (true, 6), (true, 7), (true, 8), (true, 9), (true, 10), (true, 11), (true, 12), (true, 13)] (ws' := wX9 cyI cyJ cyZ cyO h book q1.2.1 sights sight signs pad q1.2.2.1 q1.2.2.2.1 q1.2.2.2.2.1 reason acts q1.2.2.2.2.2 cost hole counts worth met ways nextWays image isKept) rfl rfl rfl (fun H locs hP hD hS => ?_)
        refine va_put (ci := 9) (v := .int q1.1) (ty := .int) (C := RX9) (T := TX9) (N := 21) hx hb hT hin_X9 tyX9 tyX9_ok nmX9 hown hK hP hD hS 0 rfl rfl 9 (by decide) (hT _ wf_X9_125) (fun _ h9 => h9) rfl (tyX9_ok 9 (by decide)) rfl rfl (Nat.le_of_ble_eq_true rfl) dX9_goNights_30 (fun H locs hP hD hS => ?_)
        have hP : va_P D vwCl (wX9 cyI cyJ cyZ cyO h book q1.2.1 sights sight signs pad q1.2.2.1 q1.2.2.2.1 q1.2.2.2.2.1 q1.1 acts q1.2.2.2.2.2 cost hole counts worth met ways nextWays image isKept) H := hP
        have hD : va_D A (wX9 cyI cyJ cyZ cyO h book q1.2.1 sights sight signs pad q1.2.2.1 q1.2.2.2.1 q1.2.2.2.2.1 q1.1 acts q1.2.2.2.2.2 cost hole counts worth met ways nextWays image isKept) := hD
        refine lv_aload_n hx hb dX9_goNights_33 rfl (lv_at hl 0 rfl) ?_
        refine va_get (ci := 9) (v := .int q1.1) (C := RX9) (T := TX9) (N := 21) hx hb hT hin_X9 hown hK hP 0 rfl rfl 9 (by decide) (hT _ wf_X9_125) (fun _ h9 => h9) rfl dX9_goNights_34 ?_
        refine lv_if_le (tgt := 45) hx hb dX9_goNights_37 (by decide) (fun cc => ?_) (fun cc => ?_)
        · replace hf := if_t cc hf
          refine lv_aload_n hx hb dX9_goNights_45 rfl (lv_at hl 0 rfl) ?_
          refine lv_dup hx hb dX9_goNights_46 rfl ?_
          refine va_get (ci := 9) (v := .int acts) (C := RX9) (T := TX9) (N := 21) hx hb hT hin_X9 hown hK hP 0 rfl rfl 10 (by decide) (hT _ wf_X9_119) (fun _ h9 => h9) rfl dX9_goNights_47 ?_
          refine lv_iconst (v := 1) hx hb dX9_goNights_50 (by decide) ?_
          refine lv_iadd hx hb dX9_goNights_51 ?_
          refine va_put (ci := 9) (v := .int (acts + 1)) (ty := .int) (C := RX9) (T := TX9) (N := 21) hx hb hT hin_X9 tyX9 tyX9_ok nmX9 hown hK hP hD hS 0 rfl rfl 10 (by decide) (hT _ wf_X9_119) (fun _ h9 => h9) rfl (tyX9_ok 10 (by decide)) rfl rfl (Nat.le_of_ble_eq_true rfl) dX9_goNights_52 (fun H locs hP hD hS => ?_)
          have hP : va_P D vwCl (wX9 cyI cyJ cyZ cyO h book q1.2.1 sights sight signs pad q1.2.2.1 q1.2.2.2.1 q1.2.2.2.2.1 q1.1 (acts + 1) q1.2.2.2.2.2 cost hole counts worth met ways nextWays image isKept) H := hP
          have hD : va_D A (wX9 cyI cyJ cyZ cyO h book q1.2.1 sights sight signs pad q1.2.2.1 q1.2.2.2.1 q1.2.2.2.2.1 q1.1 (acts + 1) q1.2.2.2.2.2 cost hole counts worth met ways nextWays image isKept) := hD
          refine lv_goto (tgt := 14) hx hb dX9_goNights_55 (by decide) ?_
          exact ih14 book q1.2.1 signs pad q1.2.2.1 q1.2.2.2.1 q1.2.2.2.2.1 q1.1 (acts + 1) q1.2.2.2.2.2 H locs ls hP hD hS (lv_sub hl [0] rfl) hf
        · replace hf := if_f cc hf
          refine lv_aload_n hx hb dX9_goNights_40 rfl (lv_at hl 0 rfl) ?_
          refine va_get (ci := 9) (v := .int acts) (C := RX9) (T := TX9) (N := 21) hx hb hT hin_X9 hown hK hP 0 rfl rfl 10 (by decide) (hT _ wf_X9_119) (fun _ h9 => h9) rfl dX9_goNights_41 ?_
          cases Option.some.inj hf
          exact W.iret hx hb hr (fun t ht hW => ⟨⟨_, (), rfl, rfl, by show va_P D vwCl _ t.heap; rw [ht]; exact hP⟩, hS.F ht⟩) hS.2.2 dX9_goNights_44
  have main : ∀ (H : Heap) (locs : List Loc) (ls : Array Slot), va_P D vwCl (wX9 cyI cyJ cyZ cyO h book now sights sight signs pad nights townAt townCell reason acts at_ cost hole counts worth met ways nextWays image isKept) H → va_D A (wX9 cyI cyJ cyZ cyO h book now sights sight signs pad nights townAt townCell reason acts at_ cost hole counts worth met ways nextWays image isKept) → va_S A s.heap H locs → lv_has ls 1 [(0, .ref (h 0))] → W p l e ({ frames := 4, cells := 0, slots := 0, locals := 90 } : Room) s m ([.ref (h 0)] : List Value).toArray below meth c H locs 0 0 (MQ below (qI D (wX9 cyI cyJ cyZ cyO h book q.2.1 sights sight signs pad q.2.2.1 q.2.2.2.1 q.2.2.2.2.1 q.2.2.2.2.2.1 q.2.2.2.2.2.2.1 q.2.2.2.2.2.2.2 cost hole counts worth met ways nextWays image isKept) q.1 A) ([.ref (h 0)] : List Value).toArray s 0 0 A) (F0 m 0 ls []) := by
    intro H locs ls hP hD hS hl
    unfold g_X9_goNights at hf
    refine lv_aload_n hx hb dX9_goNights_0 rfl (lv_at hl 0 rfl) ?_
    obtain ⟨q2, hq2, hf⟩ := bd_some hf
    have hC : [0, 1, 2, 3, 4, 5, 6, 7, 8, 9, 10, 11, 12, 13].map (fun i => (wX9 cyI cyJ cyZ cyO h book now sights sight signs pad nights townAt townCell reason acts at_ cost hole counts worth met ways nextWays image isKept)[i]?) = (wX9 cyI cyJ cyZ cyO h book now sights sight signs pad nights townAt townCell reason acts at_ cost hole counts worth met ways nextWays image isKept).map some := rfl
    refine cl_v (rn_V (As := []) (rest := []) (C := RX9) hx hb hml hown hT hK hN hP hD [0, 1, 2, 3, 4, 5, 6, 7, 8, 9, 10, 11, 12, 13] hC rfl (c_X9_asNow l D cyI cyJ cyZ cyO h H.size book now sights sight signs pad nights townAt townCell reason acts at_ cost hole counts worth met ways nextWays image isKept nf q2 hq2) wm_X9_116 wi_X9_asNow wl_X9_asNow wz_X9 wc_X9_asNow hd_X9_asNow ⟨rfl, rfl⟩ ⟨Nat.le_of_ble_eq_true rfl, Nat.le_of_ble_eq_true rfl⟩ (q0 := 0) (ci := 9) rfl rfl rfl rfl hl.1 rfl (Nat.le_of_ble_eq_true rfl) dX9_goNights_1 ⟨Nat.zero_le _, Nat.zero_le _⟩) hP hD hS hA [0, 1, 2, 3, 4, 5, 6, 7, 8, 9, 10, 11, 12, 13] hC [(true, 0), (true, 1), (true, 2), (true, 3), (true, 4), (true, 5), (true, 6), (true, 7), (true, 8), (true, 9), (true, 10), (true, 11), (true, 12), (true, 13)] (ws' := wX9 cyI cyJ cyZ cyO h book q2.1 sights sight signs pad q2.2.1 q2.2.2.1 q2.2.2.2 reason acts at_ cost hole counts worth met ways nextWays image isKept) rfl rfl rfl (fun H locs hP hD hS => ?_)
    refine lv_aload_n hx hb dX9_goNights_4 rfl (lv_at hl 0 rfl) ?_
    refine lv_iconst (v := 0) hx hb dX9_goNights_5 (by decide) ?_
    refine va_put (ci := 9) (v := .int 0) (ty := .int) (C := RX9) (T := TX9) (N := 21) hx hb hT hin_X9 tyX9 tyX9_ok nmX9 hown hK hP hD hS 0 rfl rfl 10 (by decide) (hT _ wf_X9_119) (fun _ h9 => h9) rfl (tyX9_ok 10 (by decide)) rfl rfl (Nat.le_of_ble_eq_true rfl) dX9_goNights_6 (fun H locs hP hD hS => ?_)
    have hP : va_P D vwCl (wX9 cyI cyJ cyZ cyO h book q2.1 sights sight signs pad q2.2.1 q2.2.2.1 q2.2.2.2 reason 0 at_ cost hole counts worth met ways nextWays image isKept) H := hP
    have hD : va_D A (wX9 cyI cyJ cyZ cyO h book q2.1 sights sight signs pad q2.2.1 q2.2.2.1 q2.2.2.2 reason 0 at_ cost hole counts worth met ways nextWays image isKept) := hD
    refine lv_aload_n hx hb dX9_goNights_9 rfl (lv_at hl 0 rfl) ?_
    refine lv_iconst (v := 0) hx hb dX9_goNights_10 (by decide) ?_
    refine va_put (ci := 9) (v := .int 0) (ty := .int) (C := RX9) (T := TX9) (N := 21) hx hb hT hin_X9 tyX9 tyX9_ok nmX9 hown hK hP hD hS 0 rfl rfl 11 (by decide) (hT _ wf_X9_98) (fun _ h9 => h9) rfl (tyX9_ok 11 (by decide)) rfl rfl (Nat.le_of_ble_eq_true rfl) dX9_goNights_11 (fun H locs hP hD hS => ?_)
    have hP : va_P D vwCl (wX9 cyI cyJ cyZ cyO h book q2.1 sights sight signs pad q2.2.1 q2.2.2.1 q2.2.2.2 reason 0 0 cost hole counts worth met ways nextWays image isKept) H := hP
    have hD : va_D A (wX9 cyI cyJ cyZ cyO h book q2.1 sights sight signs pad q2.2.1 q2.2.2.1 q2.2.2.2 reason 0 0 cost hole counts worth met ways nextWays image isKept) := hD
    exact l14 nf book q2.1 signs pad q2.2.1 q2.2.2.1 q2.2.2.2 reason 0 0 H locs ls hP hD hS (lv_sub hl [0] rfl) hf
  have hl := lv_entry ([.ref (h 0)]) (n := 1) (Nat.le_of_ble_eq_true rfl)
  rw [lg_entry_eq]
  exact main s.heap [] _ hP hD hS hl
theorem hd_X9_judge : yX9_judge.cls = RX9 ∧ yX9_judge.cls ≠ "java/lang/invoke/MethodHandle" ∧ yX9_judge.cls ≠ "java/lang/invoke/VarHandle" ∧ (parseMethodDescriptor yX9_judge.desc).map (fun d => d.parameters.length) = some 1 := by decide +kernel
set_option maxHeartbeats 4000000 in
set_option maxRecDepth 100000 in
theorem c_X9_judge (l : Launch) (D : va_G) (cyI cyJ cyZ cyO : ClassId) (h : Nat → Nat) (sz : Nat) (book : Nat → Int32) (now : Nat → Int32) (sights : Int32) (sight : Nat → Int32) (signs : Int32) (pad : Nat → Int32) (nights : Int32) (townAt : Int32) (townCell : Int32) (reason : Int32) (acts : Int32) (at_ : Int32) (cost : Nat → Int32) (hole : Nat → Int32) (counts : Nat → Int32) (worth : Nat → Int32) (met : Nat → Int32) (ways : Nat → Int64) (nextWays : Nat → Int64) (image : Nat → Int32) (isKept : Nat → Int32) (p1 : Int32) (nf : Nat) (q : Int32 × (Nat → Int32) × Int32 × Int32 × Int32 × Int32 × Int32 × Int32) (hf : g_X9_judge nf p1 book now signs pad nights townAt townCell reason acts at_ = some q) : Met l yX9_judge (Cond.code yX9_judge cX9_judge 3 (some .int) :: tbG) ({ frames := 5, cells := 0, slots := 0, locals := 110 } : Room) (va_Pc [.ref (h 0), .int p1] (pcB D (ty4 cyI cyJ cyZ cyO) sz (wX9 cyI cyJ cyZ cyO h book now sights sight signs pad nights townAt townCell reason acts at_ cost hole counts worth met ways nextWays image isKept))) (qI D (wX9 cyI cyJ cyZ cyO h book q.2.1 sights sight signs pad q.2.2.1 q.2.2.2.1 q.2.2.2.2.1 q.2.2.2.2.2.1 q.2.2.2.2.2.2.1 q.2.2.2.2.2.2.2 cost hole counts worth met ways nextWays image isKept) q.1 (va_A (wX9 cyI cyJ cyZ cyO h book now sights sight signs pad nights townAt townCell reason acts at_ cost hole counts worth met ways nextWays image isKept) sz)) 0 0 (va_A (wX9 cyI cyJ cyZ cyO h book now sights sight signs pad nights townAt townCell reason acts at_ cost hole counts worth met ways nextWays image isKept) sz) := by
  refine Met.ofW (cc := cX9_judge) (maxL := 3) (ret := (some .int)) (by decide) rfl ?_
  intro p e s m args below meth c s₁ B hml hv
  obtain ⟨rfl, hsz, hP, hK, hD0, hN⟩ := hv
  have hx := B.exec
  have hb := B.bytes
  have hr := B.returns
  have hT : ∀ w ∈ tbG, w.before ([.ref (h 0), .int p1] : List Value).toArray s = true := fun w h => atoms_spec (ws := (Cond.code yX9_judge cX9_judge 3 (some .int) :: tbG)) B.pre w (List.mem_cons_of_mem _ h)
  have hown : s.vm.findClass RX9 = some m.cls := findClass_of_methodNamed B.named
  have hlocks := B.notSynchronized
  subst hsz
  have hD := hD0.self (sz := s.heap.size)
  generalize hAe : va_A (wX9 cyI cyJ cyZ cyO h book now sights sight signs pad nights townAt townCell reason acts at_ cost hole counts worth met ways nextWays image isKept) s.heap.size = A at hD ⊢
  have hA : ∀ q : Nat, s.heap.size ≤ q → A q := fun q h => by rw [← hAe]; exact Or.inr h
  have hS : va_S A s.heap s.heap [] := va_S.rf
  show W p l e ({ frames := 5, cells := 0, slots := 0, locals := 110 } : Room) s m ([.ref (h 0), .int p1] : List Value).toArray below meth c s.heap [] 0 0 (MQ below (qI D (wX9 cyI cyJ cyZ cyO h book q.2.1 sights sight signs pad q.2.2.1 q.2.2.2.1 q.2.2.2.2.1 q.2.2.2.2.2.1 q.2.2.2.2.2.2.1 q.2.2.2.2.2.2.2 cost hole counts worth met ways nextWays image isKept) q.1 A) ([.ref (h 0), .int p1] : List Value).toArray s 0 0 A) _
  have b35 : ∀ (x2 : Int32) (book : Nat → Int32) (now : Nat → Int32) (signs : Int32) (pad : Nat → Int32) (nights : Int32) (townAt : Int32) (townCell : Int32) (reason : Int32) (acts : Int32) (at_ : Int32) (H : Heap) (locs : List Loc) (ls : Array Slot), va_P D vwCl (wX9 cyI cyJ cyZ cyO h book now sights sight signs pad nights townAt townCell reason acts at_ cost hole counts worth met ways nextWays image isKept) H → va_D A (wX9 cyI cyJ cyZ cyO h book now sights sight signs pad nights townAt townCell reason acts at_ cost hole counts worth met ways nextWays image isKept) → va_S A s.heap H locs → lv_has ls 3 [(2, .int x2)] → g_X9_judge_b35 nf x2 book now signs pad nights townAt townCell reason acts at_ = some q → W p l e ({ frames := 5, cells := 0, slots := 0, locals := 110 } : Room) s m ([.ref (h 0), .int p1] : List Value).toArray below meth c H locs 0 0 (MQ below (qI D (wX9 cyI cyJ cyZ cyO h book q.2.1 sights sight signs pad q.2.2.1 q.2.2.2.1 q.2.2.2.2.1 q.2.2.2.2.2.1 q.2.2.2.2.2.2.1 q.2.2.2.2.2.2.2 cost hole counts worth met ways nextWays image isKept) q.1 A) ([.ref (h 0), .int p1] : List Value).toArray s 0 0 A) (F0 m 35 ls []) := by
    intro x2 book now signs pad nights townAt townCell reason acts at_ H locs ls hP hD hS hl hf
    unfold g_X9_judge_b35 at hf
    refine lv_iload_n hx hb dX9_judge_35 rfl (lv_at hl 0 rfl) ?_
    refine lv_goto (tgt := 43) hx hb dX9_judge_36 (by decide) ?_
    cases Option.some.inj hf
    exact W.iret hx hb hr (fun t ht hW => ⟨⟨_, (), rfl, rfl, by show va_P D vwCl _ t.heap; rw [ht]; exact hP⟩, hS.F ht⟩) hS.2.2 dX9_judge_43
  have main : ∀ (H : Heap) (locs : List Loc) (ls : Array Slot), va_P D vwCl (wX9 cyI cyJ cyZ cyO h book now sights sight signs pad nights townAt townCell reason acts at_ cost hole counts worth met ways nextWays image isKept) H → va_D A (wX9 cyI cyJ cyZ cyO h book now sights sight signs pad nights townAt townCell reason acts at_ cost hole counts worth met ways nextWays image isKept) → va_S A s.heap H locs → lv_has ls 3 [(0, .ref (h 0)), (1, .int p1)] → W p l e ({ frames := 5, cells := 0, slots := 0, locals := 110 } : Room) s m ([.ref (h 0), .int p1] : List Value).toArray below meth c H locs 0 0 (MQ below (qI D (wX9 cyI cyJ cyZ cyO h book q.2.1 sights sight signs pad q.2.2.1 q.2.2.2.1 q.2.2.2.2.1 q.2.2.2.2.2.1 q.2.2.2.2.2.2.1 q.2.2.2.2.2.2.2 cost hole counts worth met ways nextWays image isKept) q.1 A) ([.ref (h 0), .int p1] : List Value).toArray s 0 0 A) (F0 m 0 ls []) := by
    intro H locs ls hP hD hS hl
    unfold g_X9_judge at hf
    refine lv_iload_n hx hb dX9_judge_0 rfl (lv_at hl 1 rfl) ?_
    refine lv_iconst (v := 0) hx hb dX9_judge_1 (by decide) ?_
    refine lv_iconst (v := 1) hx hb dX9_judge_2 (by decide) ?_
    obtain ⟨q1, hq1, hf⟩ := bd_some hf
    have hC : ([] : List Nat).map (fun i => (wX9 cyI cyJ cyZ cyO h book now sights sight signs pad nights townAt townCell reason acts at_ cost hole counts worth met ways nextWays image isKept)[i]?) = ([] : va_W).map some := rfl
    refine cl_i (rn_S (As := [.int p1, .int 0, .int 1]) (rest := []) hx hb hml hown hT hK hN hP hD [] hC rfl (c_X9_in l D cyI cyJ cyZ cyO H.size p1 0 1 nf q1 hq1) wm_X9_51 wt_X9_in wz_X9 wc_X9_in hd_X9_in ⟨rfl, rfl⟩ ⟨Nat.le_of_ble_eq_true rfl, Nat.le_of_ble_eq_true rfl⟩ rfl hl.1 rfl (Nat.le_of_ble_eq_true rfl) dX9_judge_3 ⟨Nat.zero_le _, Nat.zero_le _⟩) hP hD hS hA [] hC [(false, 0), (false, 1), (false, 2), (false, 3), (false, 4), (false, 5), (false, 6), (false, 7), (false, 8), (false, 9), (false, 10), (false, 11), (false, 12), (false, 13)] (ws' := wX9 cyI cyJ cyZ cyO h book now sights sight signs pad nights townAt townCell reason acts at_ cost hole counts worth met ways nextWays image isKept) rfl rfl rfl (fun H locs hP hD hS => ?_)
    refine lv_if_ne (tgt := 12) hx hb dX9_judge_6 (by decide) (fun cc => ?_) (fun cc => ?_)
    · replace hf := if_f cc hf
      refine lv_aload_n hx hb dX9_judge_12 rfl (lv_at hl 0 rfl) ?_
      obtain ⟨q2, hq2, hf⟩ := bd_some hf
      have hC : [0, 1, 2, 3, 4, 5, 6, 7, 8, 9, 10, 11, 12, 13].map (fun i => (wX9 cyI cyJ cyZ cyO h book now sights sight signs pad nights townAt townCell reason acts at_ cost hole counts worth met ways nextWays image isKept)[i]?) = (wX9 cyI cyJ cyZ cyO h book now sights sight signs pad nights townAt townCell reason acts at_ cost hole counts worth met ways nextWays image isKept).map some := rfl
      refine cl_i (rn_V (As := []) (rest := []) (C := RX9) hx hb hml hown hT hK hN hP hD [0, 1, 2, 3, 4, 5, 6, 7, 8, 9, 10, 11, 12, 13] hC rfl (c_X9_faultOf l D cyI cyJ cyZ cyO h H.size book now sights sight signs pad nights townAt townCell reason acts at_ cost hole counts worth met ways nextWays image isKept nf q2 hq2) wm_X9_75 wi_X9_faultOf wl_X9_faultOf wz_X9 wc_X9_faultOf hd_X9_faultOf ⟨rfl, rfl⟩ ⟨Nat.le_of_ble_eq_true rfl, Nat.le_of_ble_eq_true rfl⟩ (q0 := 0) (ci := 9) rfl rfl rfl rfl hl.1 rfl (Nat.le_of_ble_eq_true rfl) dX9_judge_13 ⟨Nat.zero_le _, Nat.zero_le _⟩) hP hD hS hA [0, 1, 2, 3, 4, 5, 6, 7, 8, 9, 10, 11, 12, 13] hC [(true, 0), (true, 1), (true, 2), (true, 3), (true, 4), (true, 5), (true, 6), (true, 7), (true, 8), (true, 9), (true, 10), (true, 11), (true, 12), (true, 13)] (ws' := wX9 cyI cyJ cyZ cyO h book now sights sight signs pad nights townAt townCell reason acts at_ cost hole counts worth met ways nextWays image isKept) rfl rfl rfl (fun H locs hP hD hS => ?_)
      refine lv_if_lt (tgt := 22) hx hb dX9_judge_16 (by decide) (fun cc => ?_) (fun cc => ?_)
      · replace hf := if_t cc hf
        refine lv_aload_n hx hb dX9_judge_22 rfl (lv_at hl 0 rfl) ?_
        obtain ⟨q3, hq3, hf⟩ := bd_some hf
        have hC : [0, 1, 2, 3, 4, 5, 6, 7, 8, 9, 10, 11, 12, 13].map (fun i => (wX9 cyI cyJ cyZ cyO h book now sights sight signs pad nights townAt townCell reason acts at_ cost hole counts worth met ways nextWays image isKept)[i]?) = (wX9 cyI cyJ cyZ cyO h book now sights sight signs pad nights townAt townCell reason acts at_ cost hole counts worth met ways nextWays image isKept).map some := rfl
        refine cl_i (rn_V (As := []) (rest := []) (C := RX9) hx hb hml hown hT hK hN hP hD [0, 1, 2, 3, 4, 5, 6, 7, 8, 9, 10, 11, 12, 13] hC rfl (c_X9_goNights l D cyI cyJ cyZ cyO h H.size book now sights sight signs pad nights townAt townCell reason acts at_ cost hole counts worth met ways nextWays image isKept nf q3 hq3) wm_X9_128 wi_X9_goNights wl_X9_goNights wz_X9 wc_X9_goNights hd_X9_goNights ⟨rfl, rfl⟩ ⟨Nat.le_of_ble_eq_true rfl, Nat.le_of_ble_eq_true rfl⟩ (q0 := 0) (ci := 9) rfl rfl rfl rfl hl.1 rfl (Nat.le_of_ble_eq_true rfl) dX9_judge_23 ⟨Nat.zero_le _, Nat.zero_le _⟩) hP hD hS hA [0, 1, 2, 3, 4, 5, 6, 7, 8, 9, 10, 11, 12, 13] hC [(true, 0), (true, 1), (true, 2), (true, 3), (true, 4), (true, 5), (true, 6), (true, 7), (true, 8), (true, 9), (true, 10), (true, 11), (true, 12), (true, 13)] (ws' := wX9 cyI cyJ cyZ cyO h book q3.2.1 sights sight signs pad q3.2.2.1 q3.2.2.2.1 q3.2.2.2.2.1 q3.2.2.2.2.2.1 q3.2.2.2.2.2.2.1 q3.2.2.2.2.2.2.2 cost hole counts worth met ways nextWays image isKept) rfl rfl rfl (fun H locs hP hD hS => ?_)
        refine lv_istore_n (lv' := [(2, .int q3.1), (0, .ref (h 0)), (1, .int p1)]) hx hb dX9_judge_26 rfl hl (by decide) rfl (fun ls hl => ?_)
        refine lv_iload_n hx hb dX9_judge_27 rfl (lv_at hl 0 rfl) ?_
        refine lv_if_lt (tgt := 35) hx hb dX9_judge_28 (by decide) (fun cc => ?_) (fun cc => ?_)
        · replace hf := if_t cc hf
          exact b35 q3.1 book q3.2.1 signs pad q3.2.2.1 q3.2.2.2.1 q3.2.2.2.2.1 q3.2.2.2.2.2.1 q3.2.2.2.2.2.2.1 q3.2.2.2.2.2.2.2 H locs ls hP hD hS (lv_sub hl [0] rfl) hf
        · replace hf := if_f cc hf
          refine lv_iload_n hx hb dX9_judge_31 rfl (lv_at hl 2 rfl) ?_
          refine lv_if_ne (tgt := 39) hx hb dX9_judge_32 (by decide) (fun cc => ?_) (fun cc => ?_)
          · replace hf := if_f cc hf
            refine lv_aload_n hx hb dX9_judge_39 rfl (lv_at hl 1 rfl) ?_
            refine va_get (ci := 9) (v := .int q3.2.2.2.2.2.1) (C := RX9) (T := TX9) (N := 21) hx hb hT hin_X9 hown hK hP 0 rfl rfl 9 (by decide) (hT _ wf_X9_125) (fun _ h9 => h9) rfl dX9_judge_40 ?_
            cases Option.some.inj hf
            exact W.iret hx hb hr (fun t ht hW => ⟨⟨_, (), rfl, rfl, by show va_P D vwCl _ t.heap; rw [ht]; exact hP⟩, hS.F ht⟩) hS.2.2 dX9_judge_43
          · replace hf := if_t cc hf
            exact b35 q3.1 book q3.2.1 signs pad q3.2.2.1 q3.2.2.2.1 q3.2.2.2.2.1 q3.2.2.2.2.2.1 q3.2.2.2.2.2.2.1 q3.2.2.2.2.2.2.2 H locs ls hP hD hS (lv_sub hl [0] rfl) hf
      · replace hf := if_f cc hf
        refine lv_bipush (v := (-5)) hx hb dX9_judge_19 (by decide) ?_
        cases Option.some.inj hf
        exact W.iret hx hb hr (fun t ht hW => ⟨⟨_, (), rfl, rfl, by show va_P D vwCl _ t.heap; rw [ht]; exact hP⟩, hS.F ht⟩) hS.2.2 dX9_judge_21
    · replace hf := if_t cc hf
      refine lv_bipush (v := (-2)) hx hb dX9_judge_9 (by decide) ?_
      cases Option.some.inj hf
      exact W.iret hx hb hr (fun t ht hW => ⟨⟨_, (), rfl, rfl, by show va_P D vwCl _ t.heap; rw [ht]; exact hP⟩, hS.F ht⟩) hS.2.2 dX9_judge_11
  have hl := lv_entry ([.ref (h 0), .int p1]) (n := 3) (Nat.le_of_ble_eq_true rfl)
  rw [lg_entry_eq]
  exact main s.heap [] _ hP hD hS hl
theorem hd_X9_barOfNights : yX9_barOfNights.cls = RX9 ∧ yX9_barOfNights.cls ≠ "java/lang/invoke/MethodHandle" ∧ yX9_barOfNights.cls ≠ "java/lang/invoke/VarHandle" ∧ (parseMethodDescriptor yX9_barOfNights.desc).map (fun d => d.parameters.length) = some 0 := by decide +kernel
set_option maxHeartbeats 4000000 in
set_option maxRecDepth 100000 in
theorem c_X9_barOfNights (l : Launch) (D : va_G) (cyI cyJ cyZ cyO : ClassId) (h : Nat → Nat) (sz : Nat) (book : Nat → Int32) (now : Nat → Int32) (sights : Int32) (sight : Nat → Int32) (signs : Int32) (pad : Nat → Int32) (nights : Int32) (townAt : Int32) (townCell : Int32) (reason : Int32) (acts : Int32) (at_ : Int32) (cost : Nat → Int32) (hole : Nat → Int32) (counts : Nat → Int32) (worth : Nat → Int32) (met : Nat → Int32) (ways : Nat → Int64) (nextWays : Nat → Int64) (image : Nat → Int32) (isKept : Nat → Int32) (nf : Nat) (q : Int32 × (Nat → Int32) × Int32 × Int32 × Int32 × Int32 × Int32 × Int32) (hf : g_X9_barOfNights nf book now signs pad nights townAt townCell reason acts at_ = some q) : Met l yX9_barOfNights (Cond.code yX9_barOfNights cX9_barOfNights 1 (some .int) :: tbG) ({ frames := 5, cells := 0, slots := 0, locals := 110 } : Room) (va_Pc [.ref (h 0)] (pcB D (ty4 cyI cyJ cyZ cyO) sz (wX9 cyI cyJ cyZ cyO h book now sights sight signs pad nights townAt townCell reason acts at_ cost hole counts worth met ways nextWays image isKept))) (qI D (wX9 cyI cyJ cyZ cyO h book q.2.1 sights sight signs pad q.2.2.1 q.2.2.2.1 q.2.2.2.2.1 q.2.2.2.2.2.1 q.2.2.2.2.2.2.1 q.2.2.2.2.2.2.2 cost hole counts worth met ways nextWays image isKept) q.1 (va_A (wX9 cyI cyJ cyZ cyO h book now sights sight signs pad nights townAt townCell reason acts at_ cost hole counts worth met ways nextWays image isKept) sz)) 0 0 (va_A (wX9 cyI cyJ cyZ cyO h book now sights sight signs pad nights townAt townCell reason acts at_ cost hole counts worth met ways nextWays image isKept) sz) := by
  refine Met.ofW (cc := cX9_barOfNights) (maxL := 1) (ret := (some .int)) (by decide) rfl ?_
  intro p e s m args below meth c s₁ B hml hv
  obtain ⟨rfl, hsz, hP, hK, hD0, hN⟩ := hv
  have hx := B.exec
  have hb := B.bytes
  have hr := B.returns
  have hT : ∀ w ∈ tbG, w.before ([.ref (h 0)] : List Value).toArray s = true := fun w h => atoms_spec (ws := (Cond.code yX9_barOfNights cX9_barOfNights 1 (some .int) :: tbG)) B.pre w (List.mem_cons_of_mem _ h)
  have hown : s.vm.findClass RX9 = some m.cls := findClass_of_methodNamed B.named
  have hlocks := B.notSynchronized
  subst hsz
  have hD := hD0.self (sz := s.heap.size)
  generalize hAe : va_A (wX9 cyI cyJ cyZ cyO h book now sights sight signs pad nights townAt townCell reason acts at_ cost hole counts worth met ways nextWays image isKept) s.heap.size = A at hD ⊢
  have hA : ∀ q : Nat, s.heap.size ≤ q → A q := fun q h => by rw [← hAe]; exact Or.inr h
  have hS : va_S A s.heap s.heap [] := va_S.rf
  show W p l e ({ frames := 5, cells := 0, slots := 0, locals := 110 } : Room) s m ([.ref (h 0)] : List Value).toArray below meth c s.heap [] 0 0 (MQ below (qI D (wX9 cyI cyJ cyZ cyO h book q.2.1 sights sight signs pad q.2.2.1 q.2.2.2.1 q.2.2.2.2.1 q.2.2.2.2.2.1 q.2.2.2.2.2.2.1 q.2.2.2.2.2.2.2 cost hole counts worth met ways nextWays image isKept) q.1 A) ([.ref (h 0)] : List Value).toArray s 0 0 A) _
  have b14 : ∀ (book : Nat → Int32) (now : Nat → Int32) (signs : Int32) (pad : Nat → Int32) (nights : Int32) (townAt : Int32) (townCell : Int32) (reason : Int32) (acts : Int32) (at_ : Int32) (H : Heap) (locs : List Loc) (ls : Array Slot), va_P D vwCl (wX9 cyI cyJ cyZ cyO h book now sights sight signs pad nights townAt townCell reason acts at_ cost hole counts worth met ways nextWays image isKept) H → va_D A (wX9 cyI cyJ cyZ cyO h book now sights sight signs pad nights townAt townCell reason acts at_ cost hole counts worth met ways nextWays image isKept) → va_S A s.heap H locs → lv_has ls 1 [] → g_X9_barOfNights_b14 nf book now signs pad nights townAt townCell reason acts at_ = some q → W p l e ({ frames := 5, cells := 0, slots := 0, locals := 110 } : Room) s m ([.ref (h 0)] : List Value).toArray below meth c H locs 0 0 (MQ below (qI D (wX9 cyI cyJ cyZ cyO h book q.2.1 sights sight signs pad q.2.2.1 q.2.2.2.1 q.2.2.2.2.1 q.2.2.2.2.2.1 q.2.2.2.2.2.2.1 q.2.2.2.2.2.2.2 cost hole counts worth met ways nextWays image isKept) q.1 A) ([.ref (h 0)] : List Value).toArray s 0 0 A) (F0 m 14 ls []) := by
    intro book now signs pad nights townAt townCell reason acts at_ H locs ls hP hD hS hl hf
    unfold g_X9_barOfNights_b14 at hf
    refine lv_bipush (v := (-5)) hx hb dX9_barOfNights_14 (by decide) ?_
    refine lv_goto (tgt := 20) hx hb dX9_barOfNights_16 (by decide) ?_
    cases Option.some.inj hf
    exact W.iret hx hb hr (fun t ht hW => ⟨⟨_, (), rfl, rfl, by show va_P D vwCl _ t.heap; rw [ht]; exact hP⟩, hS.F ht⟩) hS.2.2 dX9_barOfNights_20
  have main : ∀ (H : Heap) (locs : List Loc) (ls : Array Slot), va_P D vwCl (wX9 cyI cyJ cyZ cyO h book now sights sight signs pad nights townAt townCell reason acts at_ cost hole counts worth met ways nextWays image isKept) H → va_D A (wX9 cyI cyJ cyZ cyO h book now sights sight signs pad nights townAt townCell reason acts at_ cost hole counts worth met ways nextWays image isKept) → va_S A s.heap H locs → lv_has ls 1 [(0, .ref (h 0))] → W p l e ({ frames := 5, cells := 0, slots := 0, locals := 110 } : Room) s m ([.ref (h 0)] : List Value).toArray below meth c H locs 0 0 (MQ below (qI D (wX9 cyI cyJ cyZ cyO h book q.2.1 sights sight signs pad q.2.2.1 q.2.2.2.1 q.2.2.2.2.1 q.2.2.2.2.2.1 q.2.2.2.2.2.2.1 q.2.2.2.2.2.2.2 cost hole counts worth met ways nextWays image isKept) q.1 A) ([.ref (h 0)] : List Value).toArray s 0 0 A) (F0 m 0 ls []) := by
    intro H locs ls hP hD hS hl
    unfold g_X9_barOfNights at hf
    refine lv_aload_n hx hb dX9_barOfNights_0 rfl (lv_at hl 0 rfl) ?_
    obtain ⟨q1, hq1, hf⟩ := bd_some hf
    have hC : [0, 1, 2, 3, 4, 5, 6, 7, 8, 9, 10, 11, 12, 13].map (fun i => (wX9 cyI cyJ cyZ cyO h book now sights sight signs pad nights townAt townCell reason acts at_ cost hole counts worth met ways nextWays image isKept)[i]?) = (wX9 cyI cyJ cyZ cyO h book now sights sight signs pad nights townAt townCell reason acts at_ cost hole counts worth met ways nextWays image isKept).map some := rfl
    refine cl_i (rn_V (As := []) (rest := []) (C := RX9) hx hb hml hown hT hK hN hP hD [0, 1, 2, 3, 4, 5, 6, 7, 8, 9, 10, 11, 12, 13] hC rfl (c_X9_faultOf l D cyI cyJ cyZ cyO h H.size book now sights sight signs pad nights townAt townCell reason acts at_ cost hole counts worth met ways nextWays image isKept nf q1 hq1) wm_X9_75 wi_X9_faultOf wl_X9_faultOf wz_X9 wc_X9_faultOf hd_X9_faultOf ⟨rfl, rfl⟩ ⟨Nat.le_of_ble_eq_true rfl, Nat.le_of_ble_eq_true rfl⟩ (q0 := 0) (ci := 9) rfl rfl rfl rfl hl.1 rfl (Nat.le_of_ble_eq_true rfl) dX9_barOfNights_1 ⟨Nat.zero_le _, Nat.zero_le _⟩) hP hD hS hA [0, 1, 2, 3, 4, 5, 6, 7, 8, 9, 10, 11, 12, 13] hC [(true, 0), (true, 1), (true, 2), (true, 3), (true, 4), (true, 5), (true, 6), (true, 7), (true, 8), (true, 9), (true, 10), (true, 11), (true, 12), (true, 13)] (ws' := wX9 cyI cyJ cyZ cyO h book now sights sight signs pad nights townAt townCell reason acts at_ cost hole counts worth met ways nextWays image isKept) rfl rfl rfl (fun H locs hP hD hS => ?_)
    refine lv_if_ge (tgt := 14) hx hb dX9_barOfNights_4 (by decide) (fun cc => ?_) (fun cc => ?_)
    · replace hf := if_t cc hf
      exact b14 book now signs pad nights townAt townCell reason acts at_ H locs ls hP hD hS (lv_sub hl [] rfl) hf
    · replace hf := if_f cc hf
      refine lv_aload_n hx hb dX9_barOfNights_7 rfl (lv_at hl 0 rfl) ?_
      obtain ⟨q2, hq2, hf⟩ := bd_some hf
      have hC : [0, 1, 2, 3, 4, 5, 6, 7, 8, 9, 10, 11, 12, 13].map (fun i => (wX9 cyI cyJ cyZ cyO h book now sights sight signs pad nights townAt townCell reason acts at_ cost hole counts worth met ways nextWays image isKept)[i]?) = (wX9 cyI cyJ cyZ cyO h book now sights sight signs pad nights townAt townCell reason acts at_ cost hole counts worth met ways nextWays image isKept).map some := rfl
      refine cl_i (rn_V (As := []) (rest := []) (C := RX9) hx hb hml hown hT hK hN hP hD [0, 1, 2, 3, 4, 5, 6, 7, 8, 9, 10, 11, 12, 13] hC rfl (c_X9_goNights l D cyI cyJ cyZ cyO h H.size book now sights sight signs pad nights townAt townCell reason acts at_ cost hole counts worth met ways nextWays image isKept nf q2 hq2) wm_X9_128 wi_X9_goNights wl_X9_goNights wz_X9 wc_X9_goNights hd_X9_goNights ⟨rfl, rfl⟩ ⟨Nat.le_of_ble_eq_true rfl, Nat.le_of_ble_eq_true rfl⟩ (q0 := 0) (ci := 9) rfl rfl rfl rfl hl.1 rfl (Nat.le_of_ble_eq_true rfl) dX9_barOfNights_8 ⟨Nat.zero_le _, Nat.zero_le _⟩) hP hD hS hA [0, 1, 2, 3, 4, 5, 6, 7, 8, 9, 10, 11, 12, 13] hC [(true, 0), (true, 1), (true, 2), (true, 3), (true, 4), (true, 5), (true, 6), (true, 7), (true, 8), (true, 9), (true, 10), (true, 11), (true, 12), (true, 13)] (ws' := wX9 cyI cyJ cyZ cyO h book q2.2.1 sights sight signs pad q2.2.2.1 q2.2.2.2.1 q2.2.2.2.2.1 q2.2.2.2.2.2.1 q2.2.2.2.2.2.2.1 q2.2.2.2.2.2.2.2 cost hole counts worth met ways nextWays image isKept) rfl rfl rfl (fun H locs hP hD hS => ?_)
      refine lv_if_lt (tgt := 19) hx hb dX9_barOfNights_11 (by decide) (fun cc => ?_) (fun cc => ?_)
      · replace hf := if_t cc hf
        refine lv_iconst (v := 0) hx hb dX9_barOfNights_19 (by decide) ?_
        cases Option.some.inj hf
        exact W.iret hx hb hr (fun t ht hW => ⟨⟨_, (), rfl, rfl, by show va_P D vwCl _ t.heap; rw [ht]; exact hP⟩, hS.F ht⟩) hS.2.2 dX9_barOfNights_20
      · replace hf := if_f cc hf
        exact b14 book q2.2.1 signs pad q2.2.2.1 q2.2.2.2.1 q2.2.2.2.2.1 q2.2.2.2.2.2.1 q2.2.2.2.2.2.2.1 q2.2.2.2.2.2.2.2 H locs ls hP hD hS (lv_sub hl [] rfl) hf
  have hl := lv_entry ([.ref (h 0)]) (n := 1) (Nat.le_of_ble_eq_true rfl)
  rw [lg_entry_eq]
  exact main s.heap [] _ hP hD hS hl
