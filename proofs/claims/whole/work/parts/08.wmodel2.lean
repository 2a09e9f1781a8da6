theorem hd_X9_done : yX9_done.cls = RX9 ∧ yX9_done.cls ≠ "java/lang/invoke/MethodHandle" ∧ yX9_done.cls ≠ "java/lang/invoke/VarHandle" ∧ (parseMethodDescriptor yX9_done.desc).map (fun d => d.parameters.length) = some 0 := by decide +kernel
set_option maxHeartbeats 4000000 in
set_option maxRecDepth 100000 in
theorem c_X9_done (l : Launch) (D : va_G) (cyI cyJ cyZ cyO : ClassId) (h : Nat → Nat) (sz : Nat) (book : Nat → Int32) (now : Nat → Int32) (sights : Int32) (sight : Nat → Int32) (signs : Int32) (pad : Nat → Int32) (nights : Int32) (townAt : Int32) (townCell : Int32) (reason : Int32) (acts : Int32) (at_ : Int32) (cost : Nat → Int32) (hole : Nat → Int32) (counts : Nat → Int32) (worth : Nat → Int32) (met : Nat → Int32) (ways : Nat → Int64) (nextWays : Nat → Int64) (image : Nat → Int32) (isKept : Nat → Int32) (nf : Nat) (q : Int32 × (Nat → Int32) × (Nat → Int32) × Int32 × Int32 × Int32 × Int32 × Int32 × Int32 × Int32) (hf : g_X9_done nf book now signs pad nights townAt townCell reason acts at_ = some q) : Met l yX9_done (Cond.code yX9_done cX9_done 2 (some .int) :: tbG) ({ frames := 6, cells := 0, slots := 0, locals := 130 } : Room) (va_Pc [.ref (h 0)] (pcB D (ty4 cyI cyJ cyZ cyO) sz (wX9 cyI cyJ cyZ cyO h book now sights sight signs pad nights townAt townCell reason acts at_ cost hole counts worth met ways nextWays image isKept))) (qI D (wX9 cyI cyJ cyZ cyO h q.2.1 q.2.2.1 sights sight q.2.2.2.1 pad q.2.2.2.2.1 q.2.2.2.2.2.1 q.2.2.2.2.2.2.1 q.2.2.2.2.2.2.2.1 q.2.2.2.2.2.2.2.2.1 q.2.2.2.2.2.2.2.2.2 cost hole counts worth met ways nextWays image isKept) q.1 (va_A (wX9 cyI cyJ cyZ cyO h book now sights sight signs pad nights townAt townCell reason acts at_ cost hole counts worth met ways nextWays image isKept) sz)) 0 0 (va_A (wX9 cyI cyJ cyZ cyO h book now sights sight signs pad nights townAt townCell reason acts at_ cost hole counts worth met ways nextWays image isKept) sz) := by
  refine Met.ofW (cc := cX9_done) (maxL := 2) (ret := (some .int)) (by decide) rfl ?_
  intro p e s m args below meth c s₁ B hml hv
  obtain ⟨rfl, hsz, hP, hK, hD0, hN⟩ := hv
  have hx := B.exec
  have hb := B.bytes
  have hr := B.returns
  have hT : ∀ w ∈ tbG, w.before ([.ref (h 0)] : List Value).toArray s = true := fun w h => atoms_spec (ws := (Cond.code yX9_done cX9_done 2 (some .int) :: tbG)) B.pre w (List.mem_cons_of_mem _ h)
  have hown : s.vm.findClass RX9 = some m.cls := findClass_of_methodNamed B.named
  have hlocks := B.notSynchronized
  subst hsz
  have hD := hD0.self (sz := s.heap.size)
  generalize hAe : va_A (wX9 cyI cyJ cyZ cyO h book now sights sight signs pad nights townAt townCell reason acts at_ cost hole counts worth met ways nextWays image isKept) s.heap.size = A at hD ⊢
  have hA : ∀ q : Nat, s.heap.size ≤ q → A q := fun q h => by rw [← hAe]; exact Or.inr h
  have hS : va_S A s.heap s.heap [] := va_S.rf
  show W p l e ({ frames := 6, cells := 0, slots := 0, locals := 130 } : Room) s m ([.ref (h 0)] : List Value).toArray below meth c s.heap [] 0 0 (MQ below (qI D (wX9 cyI cyJ cyZ cyO h q.2.1 q.2.2.1 sights sight q.2.2.2.1 pad q.2.2.2.2.1 q.2.2.2.2.2.1 q.2.2.2.2.2.2.1 q.2.2.2.2.2.2.2.1 q.2.2.2.2.2.2.2.2.1 q.2.2.2.2.2.2.2.2.2 cost hole counts worth met ways nextWays image isKept) q.1 A) ([.ref (h 0)] : List Value).toArray s 0 0 A) _
  have l12 : ∀ (n12 : Nat) (x1 : Int32) (book : Nat → Int32) (now : Nat → Int32) (signs : Int32) (pad : Nat → Int32) (nights : Int32) (townAt : Int32) (townCell : Int32) (reason : Int32) (acts : Int32) (at_ : Int32) (H : Heap) (locs : List Loc) (ls : Array Slot), va_P D vwCl (wX9 cyI cyJ cyZ cyO h book now sights sight signs pad nights townAt townCell reason acts at_ cost hole counts worth met ways nextWays image isKept) H → va_D A (wX9 cyI cyJ cyZ cyO h book now sights sight signs pad nights townAt townCell reason acts at_ cost hole counts worth met ways nextWays image isKept) → va_S A s.heap H locs → lv_has ls 2 [(0, .ref (h 0)), (1, .int x1)] → g_X9_done_l12 nf n12 x1 book now signs pad nights townAt townCell reason acts at_ = some q → W p l e ({ frames := 6, cells := 0, slots := 0, locals := 130 } : Room) s m ([.ref (h 0)] : List Value).toArray below meth c H locs 0 0 (MQ below (qI D (wX9 cyI cyJ cyZ cyO h q.2.1 q.2.2.1 sights sight q.2.2.2.1 pad q.2.2.2.2.1 q.2.2.2.2.2.1 q.2.2.2.2.2.2.1 q.2.2.2.2.2.2.2.1 q.2.2.2.2.2.2.2.2.1 q.2.2.2.2.2.2.2.2.2 cost hole counts worth met ways nextWays image isKept) q.1 A) ([.ref (h 0)] : List Value).toArray s 0 0 A) (F0 m 12 ls []) := by
    intro n12
    induction n12 with
    | zero =>
      intro x1 book now signs pad nights townAt townCell reason acts at_ H locs ls hP hD hS hl hf
      rw [g_X9_done_l12] at hf
      cases hf
    | succ n12 ih12 =>
      intro x1 book now signs pad nights townAt townCell reason acts at_ H locs ls hP hD hS hl hf
      rw [g_X9_done_l12] at hf
      refine lv_iload_n hx hb dX9_done_12 rfl (lv_at hl 1 rfl) ?_
      refine lv_bipush (v := 63) hx hb dX9_done_13 (by decide) ?_
      refine lv_icmp_ge (tgt := 36) hx hb dX9_done_15 (by decide) (fun cc => ?_) (fun cc => ?_)
      · replace hf := if_t cc hf
        refine lv_aload_n hx hb dX9_done_36 rfl (lv_at hl 0 rfl) ?_
        refine lv_iconst (v := 0) hx hb dX9_done_37 (by decide) ?_
        refine va_put (ci := 9) (v := .int 0) (ty := .int) (C := RX9) (T := TX9) (N := 21) hx hb hT hin_X9 tyX9 tyX9_ok nmX9 hown hK hP hD hS 0 rfl rfl 4 (by decide) (hT _ wf_X9_63) (fun _ h9 => h9) rfl (tyX9_ok 4 (by decide)) rfl rfl (Nat.le_of_ble_eq_true rfl) dX9_done_38 (fun H locs hP hD hS => ?_)
        have hP : va_P D vwCl (wX9 cyI cyJ cyZ cyO h book now sights sight 0 pad nights townAt townCell reason acts at_ cost hole counts worth met ways nextWays image isKept) H := hP
        have hD : va_D A (wX9 cyI cyJ cyZ cyO h book now sights sight 0 pad nights townAt townCell reason acts at_ cost hole counts worth met ways nextWays image isKept) := hD
        refine lv_aload_n hx hb dX9_done_41 rfl (lv_at hl 0 rfl) ?_
        refine va_get (ci := 9) (v := .int acts) (C := RX9) (T := TX9) (N := 21) hx hb hT hin_X9 hown hK hP 0 rfl rfl 10 (by decide) (hT _ wf_X9_119) (fun _ h9 => h9) rfl dX9_done_42 ?_
        cases Option.some.inj hf
        exact W.iret hx hb hr (fun t ht hW => ⟨⟨_, (), rfl, rfl, by show va_P D vwCl _ t.heap; rw [ht]; exact hP⟩, hS.F ht⟩) hS.2.2 dX9_done_45
      · replace hf := if_f cc hf
        refine lv_aload_n hx hb dX9_done_18 rfl (lv_at hl 0 rfl) ?_
        refine va_get (ci := 9) (v := .ref (h 1)) (C := RX9) (T := TX9) (N := 21) hx hb hT hin_X9 hown hK hP 0 rfl rfl 0 (by decide) (hT _ wf_X9_7) (fun _ h9 => h9) rfl dX9_done_19 ?_
        refine lv_iload_n hx hb dX9_done_22 rfl (lv_at hl 1 rfl) ?_
        refine lv_aload_n hx hb dX9_done_23 rfl (lv_at hl 0 rfl) ?_
        refine va_get (ci := 9) (v := .ref (h 2)) (C := RX9) (T := TX9) (N := 21) hx hb hT hin_X9 hown hK hP 0 rfl rfl 1 (by decide) (hT _ wf_X9_13) (fun _ h9 => h9) rfl dX9_done_24 ?_
        refine lv_iload_n hx hb dX9_done_27 rfl (lv_at hl 1 rfl) ?_
        obtain ⟨hi, hf⟩ := ck_some hf
        refine va_iald hx hb hK hP 2 0 rfl rfl hi dX9_done_28 ?_
        obtain ⟨hi, hf⟩ := ck_some hf
        refine va_iast hx hb hK hP hD hS 1 0 rfl rfl hi dX9_done_29 (fun H locs hP hD hS => ?_)
        have hP : va_P D vwCl (wX9 cyI cyJ cyZ cyO h (upd book x1.toNatClampNeg (now x1.toNatClampNeg)) now sights sight signs pad nights townAt townCell reason acts at_ cost hole counts worth met ways nextWays image isKept) H := hP
        have hD : va_D A (wX9 cyI cyJ cyZ cyO h (upd book x1.toNatClampNeg (now x1.toNatClampNeg)) now sights sight signs pad nights townAt townCell reason acts at_ cost hole counts worth met ways nextWays image isKept) := hD
        refine lv_iinc (v := (x1 + 1)) (lv' := [(1, .int (x1 + 1)), (0, .ref (h 0))]) hx hb dX9_done_30 hl (k := 1) rfl rfl (by decide) rfl (fun ls hl => ?_)
        refine lv_goto (tgt := 12) hx hb dX9_done_33 (by decide) ?_
        exact ih12 (x1 + 1) (upd book x1.toNatClampNeg (now x1.toNatClampNeg)) now signs pad nights townAt townCell reason acts at_ H locs ls hP hD hS (lv_sub hl [1, 0] rfl) hf
  have main : ∀ (H : Heap) (locs : List Loc) (ls : Array Slot), va_P D vwCl (wX9 cyI cyJ cyZ cyO h book now sights sight signs pad nights townAt townCell reason acts at_ cost hole counts worth met ways nextWays image isKept) H → va_D A (wX9 cyI cyJ cyZ cyO h book now sights sight signs pad nights townAt townCell reason acts at_ cost hole counts worth met ways nextWays image isKept) → va_S A s.heap H locs → lv_has ls 2 [(0, .ref (h 0))] → W p l e ({ frames := 6, cells := 0, slots := 0, locals := 130 } : Room) s m ([.ref (h 0)] : List Value).toArray below meth c H locs 0 0 (MQ below (qI D (wX9 cyI cyJ cyZ cyO h q.2.1 q.2.2.1 sights sight q.2.2.2.1 pad q.2.2.2.2.1 q.2.2.2.2.2.1 q.2.2.2.2.2.2.1 q.2.2.2.2.2.2.2.1 q.2.2.2.2.2.2.2.2.1 q.2.2.2.2.2.2.2.2.2 cost hole counts worth met ways nextWays image isKept) q.1 A) ([.ref (h 0)] : List Value).toArray s 0 0 A) (F0 m 0 ls []) := by
    intro H locs ls hP hD hS hl
    unfold g_X9_done at hf
    refine lv_aload_n hx hb dX9_done_0 rfl (lv_at hl 0 rfl) ?_
    obtain ⟨q1, hq1, hf⟩ := bd_some hf
    have hC : [0, 1, 2, 3, 4, 5, 6, 7, 8, 9, 10, 11, 12, 13].map (fun i => (wX9 cyI cyJ cyZ cyO h book now sights sight signs pad nights townAt townCell reason acts at_ cost hole counts worth met ways nextWays image isKept)[i]?) = (wX9 cyI cyJ cyZ cyO h book now sights sight signs pad nights townAt townCell reason acts at_ cost hole counts worth met ways nextWays image isKept).map some := rfl
    refine cl_i (rn_V (As := []) (rest := []) (C := RX9) hx hb hml hown hT hK hN hP hD [0, 1, 2, 3, 4, 5, 6, 7, 8, 9, 10, 11, 12, 13] hC rfl (c_X9_barOfNights l D cyI cyJ cyZ cyO h H.size book now sights sight signs pad nights townAt townCell reason acts at_ cost hole counts worth met ways nextWays image isKept nf q1 hq1) wm_X9_131 wi_X9_barOfNights wl_X9_barOfNights wz_X9 wc_X9_barOfNights hd_X9_barOfNights ⟨rfl, rfl⟩ ⟨Nat.le_of_ble_eq_true rfl, Nat.le_of_ble_eq_true rfl⟩ (q0 := 0) (ci := 9) rfl rfl rfl rfl hl.1 rfl (Nat.le_of_ble_eq_true rfl) dX9_done_1 ⟨Nat.zero_le _, Nat.zero_le _⟩) hP hD hS hA [0, 1, 2, 3, 4, 5, 6, 7, 8, 9, 10, 11, 12, 13] hC [(true, 0), (true, 1), (true, 2), (true, 3), (true, 4), (true, 5), (true, 6), (true, 7), (true, 8), (true, 9), (true, 10), (true, 11), (true, 12), (true, 13)] (ws' := wX9 cyI cyJ cyZ cyO h book q1.2.1 sights sight signs pad q1.2.2.1 q1.2.2.2.1 q1.2.2.2.2.1 q1.2.2.2.2.2.1 q1.2.2.2.2.2.2.1 q1.2.2.2.2.2.2.2 cost hole counts worth met ways nextWays image isKept) rfl rfl rfl (fun H locs hP hD hS => ?_)
    refine lv_if_ge (tgt := 10) hx hb dX9_done_4 (by decide) (fun cc => ?_) (fun cc => ?_)
    · replace hf := if_t cc hf
      refine lv_iconst (v := 0) hx hb dX9_done_10 (by decide) ?_
      refine lv_istore_n (lv' := [(1, .int 0), (0, .ref (h 0))]) hx hb dX9_done_11 rfl hl (by decide) rfl (fun ls hl => ?_)
      exact l12 nf 0 book q1.2.1 signs pad q1.2.2.1 q1.2.2.2.1 q1.2.2.2.2.1 q1.2.2.2.2.2.1 q1.2.2.2.2.2.2.1 q1.2.2.2.2.2.2.2 H locs ls hP hD hS (lv_sub hl [1, 0] rfl) hf
    · replace hf := if_f cc hf
      refine lv_bipush (v := (-5)) hx hb dX9_done_7 (by decide) ?_
      cases Option.some.inj hf
      exact W.iret hx hb hr (fun t ht hW => ⟨⟨_, (), rfl, rfl, by show va_P D vwCl _ t.heap; rw [ht]; exact hP⟩, hS.F ht⟩) hS.2.2 dX9_done_9
  have hl := lv_entry ([.ref (h 0)]) (n := 2) (Nat.le_of_ble_eq_true rfl)
  rw [lg_entry_eq]
  exact main s.heap [] _ hP hD hS hl
theorem hd_X9_behind : yX9_behind.cls = RX9 ∧ yX9_behind.cls ≠ "java/lang/invoke/MethodHandle" ∧ yX9_behind.cls ≠ "java/lang/invoke/VarHandle" ∧ (parseMethodDescriptor yX9_behind.desc).map (fun d => d.parameters.length) = some 2 := by decide +kernel
set_option maxHeartbeats 4000000 in
set_option maxRecDepth 100000 in
theorem c_X9_behind (l : Launch) (D : va_G) (cyI cyJ cyZ cyO : ClassId) (h : Nat → Nat) (sz : Nat) (book : Nat → Int32) (now : Nat → Int32) (sights : Int32) (sight : Nat → Int32) (signs : Int32) (pad : Nat → Int32) (nights : Int32) (townAt : Int32) (townCell : Int32) (reason : Int32) (acts : Int32) (at_ : Int32) (cost : Nat → Int32) (hole : Nat → Int32) (counts : Nat → Int32) (worth : Nat → Int32) (met : Nat → Int32) (ways : Nat → Int64) (nextWays : Nat → Int64) (image : Nat → Int32) (isKept : Nat → Int32) (p1 : Int32) (p2 : Int32) (nf : Nat) (q : Int32 × (Nat → Int32) × Int32 × Int32 × Int32 × Int32 × Int32 × Int32) (hf : g_X9_behind nf p1 p2 book now signs pad nights townAt townCell reason acts at_ = some q) : Met l yX9_behind (Cond.code yX9_behind cX9_behind 3 (some .int) :: tbG) ({ frames := 6, cells := 0, slots := 0, locals := 130 } : Room) (va_Pc [.ref (h 0), .int p1, .int p2] (pcB D (ty4 cyI cyJ cyZ cyO) sz (wX9 cyI cyJ cyZ cyO h book now sights sight signs pad nights townAt townCell reason acts at_ cost hole counts worth met ways nextWays image isKept))) (qI D (wX9 cyI cyJ cyZ cyO h book q.2.1 sights sight signs pad q.2.2.1 q.2.2.2.1 q.2.2.2.2.1 q.2.2.2.2.2.1 q.2.2.2.2.2.2.1 q.2.2.2.2.2.2.2 cost hole counts worth met ways nextWays image isKept) q.1 (va_A (wX9 cyI cyJ cyZ cyO h book now sights sight signs pad nights townAt townCell reason acts at_ cost hole counts worth met ways nextWays image isKept) sz)) 0 0 (va_A (wX9 cyI cyJ cyZ cyO h book now sights sight signs pad nights townAt townCell reason acts at_ cost hole counts worth met ways nextWays image isKept) sz) := by
  refine Met.ofW (cc := cX9_behind) (maxL := 3) (ret := (some .int)) (by decide) rfl ?_
  intro p e s m args below meth c s₁ B hml hv
  obtain ⟨rfl, hsz, hP, hK, hD0, hN⟩ := hv
  have hx := B.exec
  have hb := B.bytes
  have hr := B.returns
  have hT : ∀ w ∈ tbG, w.before ([.ref (h 0), .int p1, .int p2] : List Value).toArray s = true := fun w h => atoms_spec (ws := (Cond.code yX9_behind cX9_behind 3 (some .int) :: tbG)) B.pre w (List.mem_cons_of_mem _ h)
  have hown : s.vm.findClass RX9 = some m.cls := findClass_of_methodNamed B.named
  have hlocks := B.notSynchronized
  subst hsz
  have hD := hD0.self (sz := s.heap.size)
  generalize hAe : va_A (wX9 cyI cyJ cyZ cyO h book now sights sight signs pad nights townAt townCell reason acts at_ cost hole counts worth met ways nextWays image isKept) s.heap.size = A at hD ⊢
  have hA : ∀ q : Nat, s.heap.size ≤ q → A q := fun q h => by rw [← hAe]; exact Or.inr h
  have hS : va_S A s.heap s.heap [] := va_S.rf
  show W p l e ({ frames := 6, cells := 0, slots := 0, locals := 130 } : Room) s m ([.ref (h 0), .int p1, .int p2] : List Value).toArray below meth c s.heap [] 0 0 (MQ below (qI D (wX9 cyI cyJ cyZ cyO h book q.2.1 sights sight signs pad q.2.2.1 q.2.2.2.1 q.2.2.2.2.1 q.2.2.2.2.2.1 q.2.2.2.2.2.2.1 q.2.2.2.2.2.2.2 cost hole counts worth met ways nextWays image isKept) q.1 A) ([.ref (h 0), .int p1, .int p2] : List Value).toArray s 0 0 A) _
  have main : ∀ (H : Heap) (locs : List Loc) (ls : Array Slot), va_P D vwCl (wX9 cyI cyJ cyZ cyO h book now sights sight signs pad nights townAt townCell reason acts at_ cost hole counts worth met ways nextWays image isKept) H → va_D A (wX9 cyI cyJ cyZ cyO h book now sights sight signs pad nights townAt townCell reason acts at_ cost hole counts worth met ways nextWays image isKept) → va_S A s.heap H locs → lv_has ls 3 [(0, .ref (h 0)), (1, .int p1), (2, .int p2)] → W p l e ({ frames := 6, cells := 0, slots := 0, locals := 130 } : Room) s m ([.ref (h 0), .int p1, .int p2] : List Value).toArray below meth c H locs 0 0 (MQ below (qI D (wX9 cyI cyJ cyZ cyO h book q.2.1 sights sight signs pad q.2.2.1 q.2.2.2.1 q.2.2.2.2.1 q.2.2.2.2.2.1 q.2.2.2.2.2.2.1 q.2.2.2.2.2.2.2 cost hole counts worth met ways nextWays image isKept) q.1 A) ([.ref (h 0), .int p1, .int p2] : List Value).toArray s 0 0 A) (F0 m 0 ls []) := by
    intro H locs ls hP hD hS hl
    unfold g_X9_behind at hf
    refine lv_iload_n hx hb dX9_behind_0 rfl (lv_at hl 1 rfl) ?_
    obtain ⟨q1, hq1, hf⟩ := bd_some hf
    have hC : ([] : List Nat).map (fun i => (wX9 cyI cyJ cyZ cyO h book now sights sight signs pad nights townAt townCell reason acts at_ cost hole counts worth met ways nextWays image isKept)[i]?) = ([] : va_W).map some := rfl
    refine cl_i (rn_S (As := [.int p1]) (rest := []) hx hb hml hown hT hK hN hP hD [] hC rfl (c_X9_isCell l D cyI cyJ cyZ cyO H.size p1 nf q1 hq1) wm_X9_59 wt_X9_isCell wz_X9 wc_X9_isCell hd_X9_isCell ⟨rfl, rfl⟩ ⟨Nat.le_of_ble_eq_true rfl, Nat.le_of_ble_eq_true rfl⟩ rfl hl.1 rfl (Nat.le_of_ble_eq_true rfl) dX9_behind_1 ⟨Nat.zero_le _, Nat.zero_le _⟩) hP hD hS hA [] hC [(false, 0), (false, 1), (false, 2), (false, 3), (false, 4), (false, 5), (false, 6), (false, 7), (false, 8), (false, 9), (false, 10), (false, 11), (false, 12), (false, 13)] (ws' := wX9 cyI cyJ cyZ cyO h book now sights sight signs pad nights townAt townCell reason acts at_ cost hole counts worth met ways nextWays image isKept) rfl rfl rfl (fun H locs hP hD hS => ?_)
    refine lv_if_ne (tgt := 9) hx hb dX9_behind_4 (by decide) (fun cc => ?_) (fun cc => ?_)
    · replace hf := if_f cc hf
      refine lv_iload_n hx hb dX9_behind_9 rfl (lv_at hl 2 rfl) ?_
      refine lv_iconst (v := 0) hx hb dX9_behind_10 (by decide) ?_
      refine lv_iconst (v := 1) hx hb dX9_behind_11 (by decide) ?_
      obtain ⟨q2, hq2, hf⟩ := bd_some hf
      have hC : ([] : List Nat).map (fun i => (wX9 cyI cyJ cyZ cyO h book now sights sight signs pad nights townAt townCell reason acts at_ cost hole counts worth met ways nextWays image isKept)[i]?) = ([] : va_W).map some := rfl
      refine cl_i (rn_S (As := [.int p2, .int 0, .int 1]) (rest := []) hx hb hml hown hT hK hN hP hD [] hC rfl (c_X9_in l D cyI cyJ cyZ cyO H.size p2 0 1 nf q2 hq2) wm_X9_51 wt_X9_in wz_X9 wc_X9_in hd_X9_in ⟨rfl, rfl⟩ ⟨Nat.le_of_ble_eq_true rfl, Nat.le_of_ble_eq_true rfl⟩ rfl hl.1 rfl (Nat.le_of_ble_eq_true rfl) dX9_behind_12 ⟨Nat.zero_le _, Nat.zero_le _⟩) hP hD hS hA [] hC [(false, 0), (false, 1), (false, 2), (false, 3), (false, 4), (false, 5), (false, 6), (false, 7), (false, 8), (false, 9), (false, 10), (false, 11), (false, 12), (false, 13)] (ws' := wX9 cyI cyJ cyZ cyO h book now sights sight signs pad nights townAt townCell reason acts at_ cost hole counts worth met ways nextWays image isKept) rfl rfl rfl (fun H locs hP hD hS => ?_)
      refine lv_if_ne (tgt := 21) hx hb dX9_behind_15 (by decide) (fun cc => ?_) (fun cc => ?_)
      · replace hf := if_f cc hf
        refine lv_aload_n hx hb dX9_behind_21 rfl (lv_at hl 0 rfl) ?_
        obtain ⟨q3, hq3, hf⟩ := bd_some hf
        have hC : [0, 1, 2, 3, 4, 5, 6, 7, 8, 9, 10, 11, 12, 13].map (fun i => (wX9 cyI cyJ cyZ cyO h book now sights sight signs pad nights townAt townCell reason acts at_ cost hole counts worth met ways nextWays image isKept)[i]?) = (wX9 cyI cyJ cyZ cyO h book now sights sight signs pad nights townAt townCell reason acts at_ cost hole counts worth met ways nextWays image isKept).map some := rfl
        refine cl_i (rn_V (As := []) (rest := []) (C := RX9) hx hb hml hown hT hK hN hP hD [0, 1, 2, 3, 4, 5, 6, 7, 8, 9, 10, 11, 12, 13] hC rfl (c_X9_barOfNights l D cyI cyJ cyZ cyO h H.size book now sights sight signs pad nights townAt townCell reason acts at_ cost hole counts worth met ways nextWays image isKept nf q3 hq3) wm_X9_131 wi_X9_barOfNights wl_X9_barOfNights wz_X9 wc_X9_barOfNights hd_X9_barOfNights ⟨rfl, rfl⟩ ⟨Nat.le_of_ble_eq_true rfl, Nat.le_of_ble_eq_true rfl⟩ (q0 := 0) (ci := 9) rfl rfl rfl rfl hl.1 rfl (Nat.le_of_ble_eq_true rfl) dX9_behind_22 ⟨Nat.zero_le _, Nat.zero_le _⟩) hP hD hS hA [0, 1, 2, 3, 4, 5, 6, 7, 8, 9, 10, 11, 12, 13] hC [(true, 0), (true, 1), (true, 2), (true, 3), (true, 4), (true, 5), (true, 6), (true, 7), (true, 8), (true, 9), (true, 10), (true, 11), (true, 12), (true, 13)] (ws' := wX9 cyI cyJ cyZ cyO h book q3.2.1 sights sight signs pad q3.2.2.1 q3.2.2.2.1 q3.2.2.2.2.1 q3.2.2.2.2.2.1 q3.2.2.2.2.2.2.1 q3.2.2.2.2.2.2.2 cost hole counts worth met ways nextWays image isKept) rfl rfl rfl (fun H locs hP hD hS => ?_)
        refine lv_if_ge (tgt := 33) hx hb dX9_behind_25 (by decide) (fun cc => ?_) (fun cc => ?_)
        · replace hf := if_t cc hf
          refine lv_aload_n hx hb dX9_behind_33 rfl (lv_at hl 0 rfl) ?_
          refine va_get (ci := 9) (v := .ref (h 2)) (C := RX9) (T := TX9) (N := 21) hx hb hT hin_X9 hown hK hP 0 rfl rfl 1 (by decide) (hT _ wf_X9_13) (fun _ h9 => h9) rfl dX9_behind_34 ?_
          refine lv_bipush (v := 25) hx hb dX9_behind_37 (by decide) ?_
          refine lv_iload_n hx hb dX9_behind_39 rfl (lv_at hl 2 rfl) ?_
          refine lv_imul hx hb dX9_behind_40 ?_
          refine lv_iload_n hx hb dX9_behind_41 rfl (lv_at hl 1 rfl) ?_
          refine lv_iadd hx hb dX9_behind_42 ?_
          obtain ⟨hi, hf⟩ := ck_some hf
          refine va_iald hx hb hK hP 2 0 rfl rfl hi dX9_behind_43 ?_
          cases Option.some.inj hf
          exact W.iret hx hb hr (fun t ht hW => ⟨⟨_, (), rfl, rfl, by show va_P D vwCl _ t.heap; rw [ht]; exact hP⟩, hS.F ht⟩) hS.2.2 dX9_behind_44
        · replace hf := if_f cc hf
          refine lv_bipush (v := (-5)) hx hb dX9_behind_28 (by decide) ?_
          refine lv_goto (tgt := 44) hx hb dX9_behind_30 (by decide) ?_
          cases Option.some.inj hf
          exact W.iret hx hb hr (fun t ht hW => ⟨⟨_, (), rfl, rfl, by show va_P D vwCl _ t.heap; rw [ht]; exact hP⟩, hS.F ht⟩) hS.2.2 dX9_behind_44
      · replace hf := if_t cc hf
        refine lv_bipush (v := (-2)) hx hb dX9_behind_18 (by decide) ?_
        cases Option.some.inj hf
        exact W.iret hx hb hr (fun t ht hW => ⟨⟨_, (), rfl, rfl, by show va_P D vwCl _ t.heap; rw [ht]; exact hP⟩, hS.F ht⟩) hS.2.2 dX9_behind_20
    · replace hf := if_t cc hf
      refine lv_iconst (v := (-1)) hx hb dX9_behind_7 (by decide) ?_
      cases Option.some.inj hf
      exact W.iret hx hb hr (fun t ht hW => ⟨⟨_, (), rfl, rfl, by show va_P D vwCl _ t.heap; rw [ht]; exact hP⟩, hS.F ht⟩) hS.2.2 dX9_behind_8
  have hl := lv_entry ([.ref (h 0), .int p1, .int p2]) (n := 3) (Nat.le_of_ble_eq_true rfl)
  rw [lg_entry_eq]
  exact main s.heap [] _ hP hD hS hl
theorem hd_X9_flies : yX9_flies.cls = RX9 ∧ yX9_flies.cls ≠ "java/lang/invoke/MethodHandle" ∧ yX9_flies.cls ≠ "java/lang/invoke/VarHandle" ∧ (parseMethodDescriptor yX9_flies.desc).map (fun d => d.parameters.length) = some 2 := by decide +kernel
set_option maxHeartbeats 4000000 in
set_option maxRecDepth 100000 in
theorem c_X9_flies (l : Launch) (D : va_G) (cyI cyJ cyZ cyO : ClassId) (h : Nat → Nat) (sz : Nat) (book : Nat → Int32) (now : Nat → Int32) (sights : Int32) (sight : Nat → Int32) (signs : Int32) (pad : Nat → Int32) (nights : Int32) (townAt : Int32) (townCell : Int32) (reason : Int32) (acts : Int32) (at_ : Int32) (cost : Nat → Int32) (hole : Nat → Int32) (counts : Nat → Int32) (worth : Nat → Int32) (met : Nat → Int32) (ways : Nat → Int64) (nextWays : Nat → Int64) (image : Nat → Int32) (isKept : Nat → Int32) (p1 : Int32) (p2 : Int32) (nf : Nat) (q : Int32 × (Nat → Int32) × Int32 × Int32 × Int32 × Int32 × Int32 × Int32) (hf : g_X9_flies nf p1 p2 book now signs pad nights townAt townCell reason acts at_ = some q) : Met l yX9_flies (Cond.code yX9_flies cX9_flies 3 (some .int) :: tbG) ({ frames := 6, cells := 0, slots := 0, locals := 130 } : Room) (va_Pc [.ref (h 0), .int p1, .int p2] (pcB D (ty4 cyI cyJ cyZ cyO) sz (wX9 cyI cyJ cyZ cyO h book now sights sight signs pad nights townAt townCell reason acts at_ cost hole counts worth met ways nextWays image isKept))) (qI D (wX9 cyI cyJ cyZ cyO h book q.2.1 sights sight signs pad q.2.2.1 q.2.2.2.1 q.2.2.2.2.1 q.2.2.2.2.2.1 q.2.2.2.2.2.2.1 q.2.2.2.2.2.2.2 cost hole counts worth met ways nextWays image isKept) q.1 (va_A (wX9 cyI cyJ cyZ cyO h book now sights sight signs pad nights townAt townCell reason acts at_ cost hole counts worth met ways nextWays image isKept) sz)) 0 0 (va_A (wX9 cyI cyJ cyZ cyO h book now sights sight signs pad nights townAt townCell reason acts at_ cost hole counts worth met ways nextWays image isKept) sz) := by
  refine Met.ofW (cc := cX9_flies) (maxL := 3) (ret := (some .int)) (by decide) rfl ?_
  intro p e s m args below meth c s₁ B hml hv
  obtain ⟨rfl, hsz, hP, hK, hD0, hN⟩ := hv
  have hx := B.exec
  have hb := B.bytes
  have hr := B.returns
  have hT : ∀ w ∈ tbG, w.before ([.ref (h 0), .int p1, .int p2] : List Value).toArray s = true := fun w h => atoms_spec (ws := (Cond.code yX9_flies cX9_flies 3 (some .int) :: tbG)) B.pre w (List.mem_cons_of_mem _ h)
  have hown : s.vm.findClass RX9 = some m.cls := findClass_of_methodNamed B.named
  have hlocks := B.notSynchronized
  subst hsz
  have hD := hD0.self (sz := s.heap.size)
  generalize hAe : va_A (wX9 cyI cyJ cyZ cyO h book now sights sight signs pad nights townAt townCell reason acts at_ cost hole counts worth met ways nextWays image isKept) s.heap.size = A at hD ⊢
  have hA : ∀ q : Nat, s.heap.size ≤ q → A q := fun q h => by rw [← hAe]; exact Or.inr h
  have hS : va_S A s.heap s.heap [] := va_S.rf
  show W p l e ({ frames := 6, cells := 0, slots := 0, locals := 130 } : Room) s m ([.ref (h 0), .int p1, .int p2] : List Value).toArray below meth c s.heap [] 0 0 (MQ below (qI D (wX9 cyI cyJ cyZ cyO h book q.2.1 sights sight signs pad q.2.2.1 q.2.2.2.1 q.2.2.2.2.1 q.2.2.2.2.2.1 q.2.2.2.2.2.2.1 q.2.2.2.2.2.2.2 cost hole counts worth met ways nextWays image isKept) q.1 A) ([.ref (h 0), .int p1, .int p2] : List Value).toArray s 0 0 A) _
  have main : ∀ (H : Heap) (locs : List Loc) (ls : Array Slot), va_P D vwCl (wX9 cyI cyJ cyZ cyO h book now sights sight signs pad nights townAt townCell reason acts at_ cost hole counts worth met ways nextWays image isKept) H → va_D A (wX9 cyI cyJ cyZ cyO h book now sights sight signs pad nights townAt townCell reason acts at_ cost hole counts worth met ways nextWays image isKept) → va_S A s.heap H locs → lv_has ls 3 [(0, .ref (h 0)), (1, .int p1), (2, .int p2)] → W p l e ({ frames := 6, cells := 0, slots := 0, locals := 130 } : Room) s m ([.ref (h 0), .int p1, .int p2] : List Value).toArray below meth c H locs 0 0 (MQ below (qI D (wX9 cyI cyJ cyZ cyO h book q.2.1 sights sight signs pad q.2.2.1 q.2.2.2.1 q.2.2.2.2.1 q.2.2.2.2.2.1 q.2.2.2.2.2.2.1 q.2.2.2.2.2.2.2 cost hole counts worth met ways nextWays image isKept) q.1 A) ([.ref (h 0), .int p1, .int p2] : List Value).toArray s 0 0 A) (F0 m 0 ls []) := by
    intro H locs ls hP hD hS hl
    unfold g_X9_flies at hf
    refine lv_aload_n hx hb dX9_flies_0 rfl (lv_at hl 0 rfl) ?_
    refine lv_iload_n hx hb dX9_flies_1 rfl (lv_at hl 1 rfl) ?_
    obtain ⟨q1, hq1, hf⟩ := bd_some hf
    have hC : [0, 1, 2, 3, 4, 5, 6, 7, 8, 9, 10, 11, 12, 13].map (fun i => (wX9 cyI cyJ cyZ cyO h book now sights sight signs pad nights townAt townCell reason acts at_ cost hole counts worth met ways nextWays image isKept)[i]?) = (wX9 cyI cyJ cyZ cyO h book now sights sight signs pad nights townAt townCell reason acts at_ cost hole counts worth met ways nextWays image isKept).map some := rfl
    refine cl_i (rn_V (As := [.int p1]) (rest := []) (C := RX9) hx hb hml hown hT hK hN hP hD [0, 1, 2, 3, 4, 5, 6, 7, 8, 9, 10, 11, 12, 13] hC rfl (c_X9_isThere l D cyI cyJ cyZ cyO h H.size book now sights sight signs pad nights townAt townCell reason acts at_ cost hole counts worth met ways nextWays image isKept p1 nf q1 hq1) wm_X9_134 wi_X9_isThere wl_X9_isThere wz_X9 wc_X9_isThere hd_X9_isThere ⟨rfl, rfl⟩ ⟨Nat.le_of_ble_eq_true rfl, Nat.le_of_ble_eq_true rfl⟩ (q0 := 0) (ci := 9) rfl rfl rfl rfl hl.1 rfl (Nat.le_of_ble_eq_true rfl) dX9_flies_2 ⟨Nat.zero_le _, Nat.zero_le _⟩) hP hD hS hA [0, 1, 2, 3, 4, 5, 6, 7, 8, 9, 10, 11, 12, 13] hC [(true, 0), (true, 1), (true, 2), (true, 3), (true, 4), (true, 5), (true, 6), (true, 7), (true, 8), (true, 9), (true, 10), (true, 11), (true, 12), (true, 13)] (ws' := wX9 cyI cyJ cyZ cyO h book now sights sight signs pad nights townAt townCell reason acts at_ cost hole counts worth met ways nextWays image isKept) rfl rfl rfl (fun H locs hP hD hS => ?_)
    refine lv_if_ne (tgt := 10) hx hb dX9_flies_5 (by decide) (fun cc => ?_) (fun cc => ?_)
    · replace hf := if_f cc hf
      refine lv_iload_n hx hb dX9_flies_10 rfl (lv_at hl 2 rfl) ?_
      refine lv_iconst (v := 0) hx hb dX9_flies_11 (by decide) ?_
      refine lv_iconst (v := 1) hx hb dX9_flies_12 (by decide) ?_
      obtain ⟨q2, hq2, hf⟩ := bd_some hf
      have hC : ([] : List Nat).map (fun i => (wX9 cyI cyJ cyZ cyO h book now sights sight signs pad nights townAt townCell reason acts at_ cost hole counts worth met ways nextWays image isKept)[i]?) = ([] : va_W).map some := rfl
      refine cl_i (rn_S (As := [.int p2, .int 0, .int 1]) (rest := []) hx hb hml hown hT hK hN hP hD [] hC rfl (c_X9_in l D cyI cyJ cyZ cyO H.size p2 0 1 nf q2 hq2) wm_X9_51 wt_X9_in wz_X9 wc_X9_in hd_X9_in ⟨rfl, rfl⟩ ⟨Nat.le_of_ble_eq_true rfl, Nat.le_of_ble_eq_true rfl⟩ rfl hl.1 rfl (Nat.le_of_ble_eq_true rfl) dX9_flies_13 ⟨Nat.zero_le _, Nat.zero_le _⟩) hP hD hS hA [] hC [(false, 0), (false, 1), (false, 2), (false, 3), (false, 4), (false, 5), (false, 6), (false, 7), (false, 8), (false, 9), (false, 10), (false, 11), (false, 12), (false, 13)] (ws' := wX9 cyI cyJ cyZ cyO h book now sights sight signs pad nights townAt townCell reason acts at_ cost hole counts worth met ways nextWays image isKept) rfl rfl rfl (fun H locs hP hD hS => ?_)
      refine lv_if_ne (tgt := 22) hx hb dX9_flies_16 (by decide) (fun cc => ?_) (fun cc => ?_)
      · replace hf := if_f cc hf
        refine lv_aload_n hx hb dX9_flies_22 rfl (lv_at hl 0 rfl) ?_
        obtain ⟨q3, hq3, hf⟩ := bd_some hf
        have hC : [0, 1, 2, 3, 4, 5, 6, 7, 8, 9, 10, 11, 12, 13].map (fun i => (wX9 cyI cyJ cyZ cyO h book now sights sight signs pad nights townAt townCell reason acts at_ cost hole counts worth met ways nextWays image isKept)[i]?) = (wX9 cyI cyJ cyZ cyO h book now sights sight signs pad nights townAt townCell reason acts at_ cost hole counts worth met ways nextWays image isKept).map some := rfl
        refine cl_i (rn_V (As := []) (rest := []) (C := RX9) hx hb hml hown hT hK hN hP hD [0, 1, 2, 3, 4, 5, 6, 7, 8, 9, 10, 11, 12, 13] hC rfl (c_X9_barOfNights l D cyI cyJ cyZ cyO h H.size book now sights sight signs pad nights townAt townCell reason acts at_ cost hole counts worth met ways nextWays image isKept nf q3 hq3) wm_X9_131 wi_X9_barOfNights wl_X9_barOfNights wz_X9 wc_X9_barOfNights hd_X9_barOfNights ⟨rfl, rfl⟩ ⟨Nat.le_of_ble_eq_true rfl, Nat.le_of_ble_eq_true rfl⟩ (q0 := 0) (ci := 9) rfl rfl rfl rfl hl.1 rfl (Nat.le_of_ble_eq_true rfl) dX9_flies_23 ⟨Nat.zero_le _, Nat.zero_le _⟩) hP hD hS hA [0, 1, 2, 3, 4, 5, 6, 7, 8, 9, 10, 11, 12, 13] hC [(true, 0), (true, 1), (true, 2), (true, 3), (true, 4), (true, 5), (true, 6), (true, 7), (true, 8), (true, 9), (true, 10), (true, 11), (true, 12), (true, 13)] (ws' := wX9 cyI cyJ cyZ cyO h book q3.2.1 sights sight signs pad q3.2.2.1 q3.2.2.2.1 q3.2.2.2.2.1 q3.2.2.2.2.2.1 q3.2.2.2.2.2.2.1 q3.2.2.2.2.2.2.2 cost hole counts worth met ways nextWays image isKept) rfl rfl rfl (fun H locs hP hD hS => ?_)
        refine lv_if_ge (tgt := 32) hx hb dX9_flies_26 (by decide) (fun cc => ?_) (fun cc => ?_)
        · replace hf := if_t cc hf
          refine lv_aload_n hx hb dX9_flies_32 rfl (lv_at hl 0 rfl) ?_
          refine lv_iload_n hx hb dX9_flies_33 rfl (lv_at hl 1 rfl) ?_
          obtain ⟨q4, hq4, hf⟩ := bd_some hf
          have hC : [0, 1, 2, 3, 4, 5, 6, 7, 8, 9, 10, 11, 12, 13].map (fun i => (wX9 cyI cyJ cyZ cyO h book q3.2.1 sights sight signs pad q3.2.2.1 q3.2.2.2.1 q3.2.2.2.2.1 q3.2.2.2.2.2.1 q3.2.2.2.2.2.2.1 q3.2.2.2.2.2.2.2 cost hole counts worth met ways nextWays image isKept)[i]?) = (wX9 cyI cyJ cyZ cyO h book q3.2.1 sights sight signs pad q3.2.2.1 q3.2.2.2.1 q3.2.2.2.2.1 q3.2.2.2.2.2.1 q3.2.2.2.2.2.2.1 q3.2.2.2.2.2.2.2 cost hole counts worth met ways nextWays image isKept).map some := rfl
          refine cl_i (rn_V (As := [.int p1]) (rest := []) (C := RX9) hx hb hml hown hT hK hN hP hD [0, 1, 2, 3, 4, 5, 6, 7, 8, 9, 10, 11, 12, 13] hC rfl (c_X9_flying l D cyI cyJ cyZ cyO h H.size book q3.2.1 sights sight signs pad q3.2.2.1 q3.2.2.2.1 q3.2.2.2.2.1 q3.2.2.2.2.2.1 q3.2.2.2.2.2.2.1 q3.2.2.2.2.2.2.2 cost hole counts worth met ways nextWays image isKept p1 nf q4 hq4) wm_X9_88 wi_X9_flying wl_X9_flying wz_X9 wc_X9_flying hd_X9_flying ⟨rfl, rfl⟩ ⟨Nat.le_of_ble_eq_true rfl, Nat.le_of_ble_eq_true rfl⟩ (q0 := 0) (ci := 9) rfl rfl rfl rfl hl.1 rfl (Nat.le_of_ble_eq_true rfl) dX9_flies_34 ⟨Nat.zero_le _, Nat.zero_le _⟩) hP hD hS hA [0, 1, 2, 3, 4, 5, 6, 7, 8, 9, 10, 11, 12, 13] hC [(true, 0), (true, 1), (true, 2), (true, 3), (true, 4), (true, 5), (true, 6), (true, 7), (true, 8), (true, 9), (true, 10), (true, 11), (true, 12), (true, 13)] (ws' := wX9 cyI cyJ cyZ cyO h book q3.2.1 sights sight signs pad q3.2.2.1 q3.2.2.2.1 q3.2.2.2.2.1 q3.2.2.2.2.2.1 q3.2.2.2.2.2.2.1 q3.2.2.2.2.2.2.2 cost hole counts worth met ways nextWays image isKept) rfl rfl rfl (fun H locs hP hD hS => ?_)
          refine lv_if_eq (tgt := 56) hx hb dX9_flies_37 (by decide) (fun cc => ?_) (fun cc => ?_)
          · replace hf := if_t cc hf
            refine lv_bipush (v := (-6)) hx hb dX9_flies_56 (by decide) ?_
            cases Option.some.inj hf
            exact W.iret hx hb hr (fun t ht hW => ⟨⟨_, (), rfl, rfl, by show va_P D vwCl _ t.heap; rw [ht]; exact hP⟩, hS.F ht⟩) hS.2.2 dX9_flies_58
          · replace hf := if_f cc hf
            refine lv_aload_n hx hb dX9_flies_40 rfl (lv_at hl 0 rfl) ?_
            refine va_get (ci := 9) (v := .ref (h 2)) (C := RX9) (T := TX9) (N := 21) hx hb hT hin_X9 hown hK hP 0 rfl rfl 1 (by decide) (hT _ wf_X9_13) (fun _ h9 => h9) rfl dX9_flies_41 ?_
            refine lv_bipush (v := 50) hx hb dX9_flies_44 (by decide) ?_
            refine lv_iconst (v := 4) hx hb dX9_flies_46 (by decide) ?_
            refine lv_iload_n hx hb dX9_flies_47 rfl (lv_at hl 2 rfl) ?_
            refine lv_imul hx hb dX9_flies_48 ?_
            refine lv_iadd hx hb dX9_flies_49 ?_
            refine lv_iload_n hx hb dX9_flies_50 rfl (lv_at hl 1 rfl) ?_
            refine lv_iadd hx hb dX9_flies_51 ?_
            obtain ⟨hi, hf⟩ := ck_some hf
            refine va_iald hx hb hK hP 2 0 rfl rfl hi dX9_flies_52 ?_
            refine lv_goto (tgt := 58) hx hb dX9_flies_53 (by decide) ?_
            cases Option.some.inj hf
            exact W.iret hx hb hr (fun t ht hW => ⟨⟨_, (), rfl, rfl, by show va_P D vwCl _ t.heap; rw [ht]; exact hP⟩, hS.F ht⟩) hS.2.2 dX9_flies_58
        · replace hf := if_f cc hf
          refine lv_bipush (v := (-5)) hx hb dX9_flies_29 (by decide) ?_
          cases Option.some.inj hf
          exact W.iret hx hb hr (fun t ht hW => ⟨⟨_, (), rfl, rfl, by show va_P D vwCl _ t.heap; rw [ht]; exact hP⟩, hS.F ht⟩) hS.2.2 dX9_flies_31
      · replace hf := if_t cc hf
        refine lv_bipush (v := (-2)) hx hb dX9_flies_19 (by decide) ?_
        cases Option.some.inj hf
        exact W.iret hx hb hr (fun t ht hW => ⟨⟨_, (), rfl, rfl, by show va_P D vwCl _ t.heap; rw [ht]; exact hP⟩, hS.F ht⟩) hS.2.2 dX9_flies_21
    · replace hf := if_t cc hf
      refine lv_iconst (v := (-1)) hx hb dX9_flies_8 (by decide) ?_
      cases Option.some.inj hf
      exact W.iret hx hb hr (fun t ht hW => ⟨⟨_, (), rfl, rfl, by show va_P D vwCl _ t.heap; rw [ht]; exact hP⟩, hS.F ht⟩) hS.2.2 dX9_flies_9
  have hl := lv_entry ([.ref (h 0), .int p1, .int p2]) (n := 3) (Nat.le_of_ble_eq_true rfl)
  rw [lg_entry_eq]
  exact main s.heap [] _ hP hD hS hl
theorem hd_X9_countOf : yX9_countOf.cls = RX9 ∧ yX9_countOf.cls ≠ "java/lang/invoke/MethodHandle" ∧ yX9_countOf.cls ≠ "java/lang/invoke/VarHandle" ∧ (parseMethodDescriptor yX9_countOf.desc).map (fun d => d.parameters.length) = some 1 := by decide +kernel
set_option maxHeartbeats 4000000 in
set_option maxRecDepth 100000 in
theorem c_X9_countOf (l : Launch) (D : va_G) (cyI cyJ cyZ cyO : ClassId) (h : Nat → Nat) (sz : Nat) (book : Nat → Int32) (now : Nat → Int32) (sights : Int32) (sight : Nat → Int32) (signs : Int32) (pad : Nat → Int32) (nights : Int32) (townAt : Int32) (townCell : Int32) (reason : Int32) (acts : Int32) (at_ : Int32) (cost : Nat → Int32) (hole : Nat → Int32) (counts : Nat → Int32) (worth : Nat → Int32) (met : Nat → Int32) (ways : Nat → Int64) (nextWays : Nat → Int64) (image : Nat → Int32) (isKept : Nat → Int32) (p1 : Int32) (nf : Nat) (q : Int32) (hf : g_X9_countOf nf p1 now = some q) : Met l yX9_countOf (Cond.code yX9_countOf cX9_countOf 4 (some .int) :: tbG) ({ frames := 0, cells := 0, slots := 0, locals := 0 } : Room) (va_Pc [.ref (h 0), .int p1] (pcB D (ty4 cyI cyJ cyZ cyO) sz (wX9 cyI cyJ cyZ cyO h book now sights sight signs pad nights townAt townCell reason acts at_ cost hole counts worth met ways nextWays image isKept))) (qI D (wX9 cyI cyJ cyZ cyO h book now sights sight signs pad nights townAt townCell reason acts at_ cost hole counts worth met ways nextWays image isKept) q (va_A (wX9 cyI cyJ cyZ cyO h book now sights sight signs pad nights townAt townCell reason acts at_ cost hole counts worth met ways nextWays image isKept) sz)) 0 0 (va_A (wX9 cyI cyJ cyZ cyO h book now sights sight signs pad nights townAt townCell reason acts at_ cost hole counts worth met ways nextWays image isKept) sz) := by
  refine Met.ofW (cc := cX9_countOf) (maxL := 4) (ret := (some .int)) (by decide) rfl ?_
  intro p e s m args below meth c s₁ B hml hv
  obtain ⟨rfl, hsz, hP, hK, hD0, hN⟩ := hv
  have hx := B.exec
  have hb := B.bytes
  have hr := B.returns
  have hT : ∀ w ∈ tbG, w.before ([.ref (h 0), .int p1] : List Value).toArray s = true := fun w h => atoms_spec (ws := (Cond.code yX9_countOf cX9_countOf 4 (some .int) :: tbG)) B.pre w (List.mem_cons_of_mem _ h)
  have hown : s.vm.findClass RX9 = some m.cls := findClass_of_methodNamed B.named
  have hlocks := B.notSynchronized
  subst hsz
  have hD := hD0.self (sz := s.heap.size)
  generalize hAe : va_A (wX9 cyI cyJ cyZ cyO h book now sights sight signs pad nights townAt townCell reason acts at_ cost hole counts worth met ways nextWays image isKept) s.heap.size = A at hD ⊢
  have hA : ∀ q : Nat, s.heap.size ≤ q → A q := fun q h => by rw [← hAe]; exact Or.inr h
  have hS : va_S A s.heap s.heap [] := va_S.rf
  show W p l e ({ frames := 0, cells := 0, slots := 0, locals := 0 } : Room) s m ([.ref (h 0), .int p1] : List Value).toArray below meth c s.heap [] 0 0 (MQ below (qI D (wX9 cyI cyJ cyZ cyO h book now sights sight signs pad nights townAt townCell reason acts at_ cost hole counts worth met ways nextWays image isKept) q A) ([.ref (h 0), .int p1] : List Value).toArray s 0 0 A) _
  have l4 : ∀ (n4 : Nat) (x1 : Int32) (x2 : Int32) (x3 : Int32) (now : Nat → Int32) (H : Heap) (locs : List Loc) (ls : Array Slot), va_P D vwCl (wX9 cyI cyJ cyZ cyO h book now sights sight signs pad nights townAt townCell reason acts at_ cost hole counts worth met ways nextWays image isKept) H → va_D A (wX9 cyI cyJ cyZ cyO h book now sights sight signs pad nights townAt townCell reason acts at_ cost hole counts worth met ways nextWays image isKept) → va_S A s.heap H locs → lv_has ls 4 [(0, .ref (h 0)), (1, .int x1), (2, .int x2), (3, .int x3)] → g_X9_countOf_l4 nf n4 x1 x2 x3 now = some q → W p l e ({ frames := 0, cells := 0, slots := 0, locals := 0 } : Room) s m ([.ref (h 0), .int p1] : List Value).toArray below meth c H locs 0 0 (MQ below (qI D (wX9 cyI cyJ cyZ cyO h book now sights sight signs pad nights townAt townCell reason acts at_ cost hole counts worth met ways nextWays image isKept) q A) ([.ref (h 0), .int p1] : List Value).toArray s 0 0 A) (F0 m 4 ls []) := by
    intro n4
    induction n4 with
    | zero =>
      intro x1 x2 x3 now H locs ls hP hD hS hl hf
      rw [g_X9_countOf_l4] at hf
      cases hf
    | succ n4 ih4 =>
      have b26 : ∀ (x1 : Int32) (x3 : Int32) (s0 : Int32) (s1 : Int32) (now : Nat → Int32) (H : Heap) (locs : List Loc) (ls : Array Slot), va_P D vwCl (wX9 cyI cyJ cyZ cyO h book now sights sight signs pad nights townAt townCell reason acts at_ cost hole counts worth met ways nextWays image isKept) H → va_D A (wX9 cyI cyJ cyZ cyO h book now sights sight signs pad nights townAt townCell reason acts at_ cost hole counts worth met ways nextWays image isKept) → va_S A s.heap H locs → lv_has ls 4 [(0, .ref (h 0)), (1, .int x1), (3, .int x3)] → g_X9_countOf_b26 nf (g_X9_countOf_l4 nf n4) x1 x3 s0 s1 now = some q → W p l e ({ frames := 0, cells := 0, slots := 0, locals := 0 } : Room) s m ([.ref (h 0), .int p1] : List Value).toArray below meth c H locs 0 0 (MQ below (qI D (wX9 cyI cyJ cyZ cyO h book now sights sight signs pad nights townAt townCell reason acts at_ cost hole counts worth met ways nextWays image isKept) q A) ([.ref (h 0), .int p1] : List Value).toArray s 0 0 A) (F0 m 26 ls [.int s1, .int s0]) := by
        intro x1 x3 s0 s1 now H locs ls hP hD hS hl hf
        unfold g_X9_countOf_b26 at hf
        refine lv_iadd hx hb dX9_countOf_26 ?_
        refine lv_istore_n (lv' := [(2, .int (s0 + s1)), (0, .ref (h 0)), (1, .int x1), (3, .int x3)]) hx hb dX9_countOf_27 rfl hl (by decide) rfl (fun ls hl => ?_)
        refine lv_iinc (v := (x3 + 1)) (lv' := [(3, .int (x3 + 1)), (2, .int (s0 + s1)), (0, .ref (h 0)), (1, .int x1)]) hx hb dX9_countOf_28 hl (k := 3) rfl rfl (by decide) rfl (fun ls hl => ?_)
        refine lv_goto (tgt := 4) hx hb dX9_countOf_31 (by decide) ?_
        exact ih4 x1 (s0 + s1) (x3 + 1) now H locs ls hP hD hS (lv_sub hl [2, 3, 1, 0] rfl) hf
      intro x1 x2 x3 now H locs ls hP hD hS hl hf
      rw [g_X9_countOf_l4] at hf
      refine lv_iload_n hx hb dX9_countOf_4 rfl (lv_at hl 3 rfl) ?_
      refine lv_bipush (v := 25) hx hb dX9_countOf_5 (by decide) ?_
      refine lv_icmp_ge (tgt := 34) hx hb dX9_countOf_7 (by decide) (fun cc => ?_) (fun cc => ?_)
      · replace hf := if_t cc hf
        refine lv_iload_n hx hb dX9_countOf_34 rfl (lv_at hl 2 rfl) ?_
        cases Option.some.inj hf
        exact W.iret hx hb hr (fun t ht hW => ⟨⟨_, (), rfl, rfl, by show va_P D vwCl _ t.heap; rw [ht]; exact hP⟩, hS.F ht⟩) hS.2.2 dX9_countOf_35
      · replace hf := if_f cc hf
        refine lv_iload_n hx hb dX9_countOf_10 rfl (lv_at hl 2 rfl) ?_
        refine lv_aload_n hx hb dX9_countOf_11 rfl (lv_at hl 0 rfl) ?_
        refine va_get (ci := 9) (v := .ref (h 2)) (C := RX9) (T := TX9) (N := 21) hx hb hT hin_X9 hown hK hP 0 rfl rfl 1 (by decide) (hT _ wf_X9_13) (fun _ h9 => h9) rfl dX9_countOf_12 ?_
        refine lv_iload_n hx hb dX9_countOf_15 rfl (lv_at hl 3 rfl) ?_
        obtain ⟨hi, hf⟩ := ck_some hf
        refine va_iald hx hb hK hP 2 0 rfl rfl hi dX9_countOf_16 ?_
        refine lv_iload_n hx hb dX9_countOf_17 rfl (lv_at hl 1 rfl) ?_
        refine lv_icmp_ne (tgt := 25) hx hb dX9_countOf_18 (by decide) (fun cc => ?_) (fun cc => ?_)
        · replace hf := if_f cc hf
          refine lv_iconst (v := 0) hx hb dX9_countOf_25 (by decide) ?_
          exact b26 x1 x3 x2 0 now H locs ls hP hD hS (lv_sub hl [0, 1, 3] rfl) hf
        · replace hf := if_t cc hf
          refine lv_iconst (v := 1) hx hb dX9_countOf_21 (by decide) ?_
          refine lv_goto (tgt := 26) hx hb dX9_countOf_22 (by decide) ?_
          exact b26 x1 x3 x2 1 now H locs ls hP hD hS (lv_sub hl [0, 1, 3] rfl) hf
  have main : ∀ (H : Heap) (locs : List Loc) (ls : Array Slot), va_P D vwCl (wX9 cyI cyJ cyZ cyO h book now sights sight signs pad nights townAt townCell reason acts at_ cost hole counts worth met ways nextWays image isKept) H → va_D A (wX9 cyI cyJ cyZ cyO h book now sights sight signs pad nights townAt townCell reason acts at_ cost hole counts worth met ways nextWays image isKept) → va_S A s.heap H locs → lv_has ls 4 [(0, .ref (h 0)), (1, .int p1)] → W p l e ({ frames := 0, cells := 0, slots := 0, locals := 0 } : Room) s m ([.ref (h 0), .int p1] : List Value).toArray below meth c H locs 0 0 (MQ below (qI D (wX9 cyI cyJ cyZ cyO h book now sights sight signs pad nights townAt townCell reason acts at_ cost hole counts worth met ways nextWays image isKept) q A) ([.ref (h 0), .int p1] : List Value).toArray s 0 0 A) (F0 m 0 ls []) := by
    intro H locs ls hP hD hS hl
    unfold g_X9_countOf at hf
    refine lv_iconst (v := 0) hx hb dX9_countOf_0 (by decide) ?_
    refine lv_istore_n (lv' := [(2, .int 0), (0, .ref (h 0)), (1, .int p1)]) hx hb dX9_countOf_1 rfl hl (by decide) rfl (fun ls hl => ?_)
    refine lv_iconst (v := 0) hx hb dX9_countOf_2 (by decide) ?_
    refine lv_istore_n (lv' := [(3, .int 0), (2, .int 0), (0, .ref (h 0)), (1, .int p1)]) hx hb dX9_countOf_3 rfl hl (by decide) rfl (fun ls hl => ?_)
    exact l4 nf p1 0 0 now H locs ls hP hD hS (lv_sub hl [2, 3, 1, 0] rfl) hf
  have hl := lv_entry ([.ref (h 0), .int p1]) (n := 4) (Nat.le_of_ble_eq_true rfl)
  rw [lg_entry_eq]
  exact main s.heap [] _ hP hD hS hl
theorem hd_X9_then : yX9_then.cls = RX9 ∧ yX9_then.cls ≠ "java/lang/invoke/MethodHandle" ∧ yX9_then.cls ≠ "java/lang/invoke/VarHandle" ∧ (parseMethodDescriptor yX9_then.desc).map (fun d => d.parameters.length) = some 1 := by decide +kernel
set_option maxHeartbeats 4000000 in
set_option maxRecDepth 100000 in
theorem c_X9_then (l : Launch) (D : va_G) (cyI cyJ cyZ cyO : ClassId) (h : Nat → Nat) (sz : Nat) (book : Nat → Int32) (now : Nat → Int32) (sights : Int32) (sight : Nat → Int32) (signs : Int32) (pad : Nat → Int32) (nights : Int32) (townAt : Int32) (townCell : Int32) (reason : Int32) (acts : Int32) (at_ : Int32) (cost : Nat → Int32) (hole : Nat → Int32) (counts : Nat → Int32) (worth : Nat → Int32) (met : Nat → Int32) (ways : Nat → Int64) (nextWays : Nat → Int64) (image : Nat → Int32) (isKept : Nat → Int32) (p1 : Int32) (nf : Nat) (q : Int32 × (Nat → Int32) × Int32 × Int32 × Int32 × Int32 × Int32 × Int32) (hf : g_X9_then nf p1 book now signs pad nights townAt townCell reason acts at_ = some q) : Met l yX9_then (Cond.code yX9_then cX9_then 2 (some .int) :: tbG) ({ frames := 6, cells := 0, slots := 0, locals := 130 } : Room) (va_Pc [.ref (h 0), .int p1] (pcB D (ty4 cyI cyJ cyZ cyO) sz (wX9 cyI cyJ cyZ cyO h book now sights sight signs pad nights townAt townCell reason acts at_ cost hole counts worth met ways nextWays image isKept))) (qI D (wX9 cyI cyJ cyZ cyO h book q.2.1 sights sight signs pad q.2.2.1 q.2.2.2.1 q.2.2.2.2.1 q.2.2.2.2.2.1 q.2.2.2.2.2.2.1 q.2.2.2.2.2.2.2 cost hole counts worth met ways nextWays image isKept) q.1 (va_A (wX9 cyI cyJ cyZ cyO h book now sights sight signs pad nights townAt townCell reason acts at_ cost hole counts worth met ways nextWays image isKept) sz)) 0 0 (va_A (wX9 cyI cyJ cyZ cyO h book now sights sight signs pad nights townAt townCell reason acts at_ cost hole counts worth met ways nextWays image isKept) sz) := by
  refine Met.ofW (cc := cX9_then) (maxL := 2) (ret := (some .int)) (by decide) rfl ?_
  intro p e s m args below meth c s₁ B hml hv
  obtain ⟨rfl, hsz, hP, hK, hD0, hN⟩ := hv
  have hx := B.exec
  have hb := B.bytes
  have hr := B.returns
  have hT : ∀ w ∈ tbG, w.before ([.ref (h 0), .int p1] : List Value).toArray s = true := fun w h => atoms_spec (ws := (Cond.code yX9_then cX9_then 2 (some .int) :: tbG)) B.pre w (List.mem_cons_of_mem _ h)
  have hown : s.vm.findClass RX9 = some m.cls := findClass_of_methodNamed B.named
  have hlocks := B.notSynchronized
  subst hsz
  have hD := hD0.self (sz := s.heap.size)
  generalize hAe : va_A (wX9 cyI cyJ cyZ cyO h book now sights sight signs pad nights townAt townCell reason acts at_ cost hole counts worth met ways nextWays image isKept) s.heap.size = A at hD ⊢
  have hA : ∀ q : Nat, s.heap.size ≤ q → A q := fun q h => by rw [← hAe]; exact Or.inr h
  have hS : va_S A s.heap s.heap [] := va_S.rf
  show W p l e ({ frames := 6, cells := 0, slots := 0, locals := 130 } : Room) s m ([.ref (h 0), .int p1] : List Value).toArray below meth c s.heap [] 0 0 (MQ below (qI D (wX9 cyI cyJ cyZ cyO h book q.2.1 sights sight signs pad q.2.2.1 q.2.2.2.1 q.2.2.2.2.1 q.2.2.2.2.2.1 q.2.2.2.2.2.2.1 q.2.2.2.2.2.2.2 cost hole counts worth met ways nextWays image isKept) q.1 A) ([.ref (h 0), .int p1] : List Value).toArray s 0 0 A) _
  have main : ∀ (H : Heap) (locs : List Loc) (ls : Array Slot), va_P D vwCl (wX9 cyI cyJ cyZ cyO h book now sights sight signs pad nights townAt townCell reason acts at_ cost hole counts worth met ways nextWays image isKept) H → va_D A (wX9 cyI cyJ cyZ cyO h book now sights sight signs pad nights townAt townCell reason acts at_ cost hole counts worth met ways nextWays image isKept) → va_S A s.heap H locs → lv_has ls 2 [(0, .ref (h 0)), (1, .int p1)] → W p l e ({ frames := 6, cells := 0, slots := 0, locals := 130 } : Room) s m ([.ref (h 0), .int p1] : List Value).toArray below meth c H locs 0 0 (MQ below (qI D (wX9 cyI cyJ cyZ cyO h book q.2.1 sights sight signs pad q.2.2.1 q.2.2.2.1 q.2.2.2.2.1 q.2.2.2.2.2.1 q.2.2.2.2.2.2.1 q.2.2.2.2.2.2.2 cost hole counts worth met ways nextWays image isKept) q.1 A) ([.ref (h 0), .int p1] : List Value).toArray s 0 0 A) (F0 m 0 ls []) := by
    intro H locs ls hP hD hS hl
    unfold g_X9_then at hf
    refine lv_iload_n hx hb dX9_then_0 rfl (lv_at hl 1 rfl) ?_
    refine lv_iconst (v := 0) hx hb dX9_then_1 (by decide) ?_
    refine lv_iconst (v := 4) hx hb dX9_then_2 (by decide) ?_
    obtain ⟨q1, hq1, hf⟩ := bd_some hf
    have hC : ([] : List Nat).map (fun i => (wX9 cyI cyJ cyZ cyO h book now sights sight signs pad nights townAt townCell reason acts at_ cost hole counts worth met ways nextWays image isKept)[i]?) = ([] : va_W).map some := rfl
    refine cl_i (rn_S (As := [.int p1, .int 0, .int 4]) (rest := []) hx hb hml hown hT hK hN hP hD [] hC rfl (c_X9_in l D cyI cyJ cyZ cyO H.size p1 0 4 nf q1 hq1) wm_X9_51 wt_X9_in wz_X9 wc_X9_in hd_X9_in ⟨rfl, rfl⟩ ⟨Nat.le_of_ble_eq_true rfl, Nat.le_of_ble_eq_true rfl⟩ rfl hl.1 rfl (Nat.le_of_ble_eq_true rfl) dX9_then_3 ⟨Nat.zero_le _, Nat.zero_le _⟩) hP hD hS hA [] hC [(false, 0), (false, 1), (false, 2), (false, 3), (false, 4), (false, 5), (false, 6), (false, 7), (false, 8), (false, 9), (false, 10), (false, 11), (false, 12), (false, 13)] (ws' := wX9 cyI cyJ cyZ cyO h book now sights sight signs pad nights townAt townCell reason acts at_ cost hole counts worth met ways nextWays image isKept) rfl rfl rfl (fun H locs hP hD hS => ?_)
    refine lv_if_ne (tgt := 12) hx hb dX9_then_6 (by decide) (fun cc => ?_) (fun cc => ?_)
    · replace hf := if_f cc hf
      refine lv_aload_n hx hb dX9_then_12 rfl (lv_at hl 0 rfl) ?_
      obtain ⟨q2, hq2, hf⟩ := bd_some hf
      have hC : [0, 1, 2, 3, 4, 5, 6, 7, 8, 9, 10, 11, 12, 13].map (fun i => (wX9 cyI cyJ cyZ cyO h book now sights sight signs pad nights townAt townCell reason acts at_ cost hole counts worth met ways nextWays image isKept)[i]?) = (wX9 cyI cyJ cyZ cyO h book now sights sight signs pad nights townAt townCell reason acts at_ cost hole counts worth met ways nextWays image isKept).map some := rfl
      refine cl_i (rn_V (As := []) (rest := []) (C := RX9) hx hb hml hown hT hK hN hP hD [0, 1, 2, 3, 4, 5, 6, 7, 8, 9, 10, 11, 12, 13] hC rfl (c_X9_barOfNights l D cyI cyJ cyZ cyO h H.size book now sights sight signs pad nights townAt townCell reason acts at_ cost hole counts worth met ways nextWays image isKept nf q2 hq2) wm_X9_131 wi_X9_barOfNights wl_X9_barOfNights wz_X9 wc_X9_barOfNights hd_X9_barOfNights ⟨rfl, rfl⟩ ⟨Nat.le_of_ble_eq_true rfl, Nat.le_of_ble_eq_true rfl⟩ (q0 := 0) (ci := 9) rfl rfl rfl rfl hl.1 rfl (Nat.le_of_ble_eq_true rfl) dX9_then_13 ⟨Nat.zero_le _, Nat.zero_le _⟩) hP hD hS hA [0, 1, 2, 3, 4, 5, 6, 7, 8, 9, 10, 11, 12, 13] hC [(true, 0), (true, 1), (true, 2), (true, 3), (true, 4), (true, 5), (true, 6), (true, 7), (true, 8), (true, 9), (true, 10), (true, 11), (true, 12), (true, 13)] (ws' := wX9 cyI cyJ cyZ cyO h book q2.2.1 sights sight signs pad q2.2.2.1 q2.2.2.2.1 q2.2.2.2.2.1 q2.2.2.2.2.2.1 q2.2.2.2.2.2.2.1 q2.2.2.2.2.2.2.2 cost hole counts worth met ways nextWays image isKept) rfl rfl rfl (fun H locs hP hD hS => ?_)
      refine lv_if_ge (tgt := 22) hx hb dX9_then_16 (by decide) (fun cc => ?_) (fun cc => ?_)
      · replace hf := if_t cc hf
        refine lv_iload_n hx hb dX9_then_22 rfl (lv_at hl 1 rfl) ?_
        by_cases c0 : p1 = 0
        · replace hf := if_t c0 hf
          refine lv_tableIn (off := 29) (tgt := 52) hx hb dX9_then_23 (by rw [c0]; decide) (by rw [c0]; decide) (by rw [c0]; decide) (by decide) ?_
          refine lv_aload_n hx hb dX9_then_52 rfl (lv_at hl 0 rfl) ?_
          refine lv_iconst (v := 0) hx hb dX9_then_53 (by decide) ?_
          obtain ⟨q3, hq3, hf⟩ := bd_some hf
          have hC : [0, 1, 2, 3, 4, 5, 6, 7, 8, 9, 10, 11, 12, 13].map (fun i => (wX9 cyI cyJ cyZ cyO h book q2.2.1 sights sight signs pad q2.2.2.1 q2.2.2.2.1 q2.2.2.2.2.1 q2.2.2.2.2.2.1 q2.2.2.2.2.2.2.1 q2.2.2.2.2.2.2.2 cost hole counts worth met ways nextWays image isKept)[i]?) = (wX9 cyI cyJ cyZ cyO h book q2.2.1 sights sight signs pad q2.2.2.1 q2.2.2.2.1 q2.2.2.2.2.1 q2.2.2.2.2.2.1 q2.2.2.2.2.2.2.1 q2.2.2.2.2.2.2.2 cost hole counts worth met ways nextWays image isKept).map some := rfl
          refine cl_i (rn_V (As := [.int 0]) (rest := []) (C := RX9) hx hb hml hown hT hK hN hP hD [0, 1, 2, 3, 4, 5, 6, 7, 8, 9, 10, 11, 12, 13] hC rfl (c_X9_countOf l D cyI cyJ cyZ cyO h H.size book q2.2.1 sights sight signs pad q2.2.2.1 q2.2.2.2.1 q2.2.2.2.2.1 q2.2.2.2.2.2.1 q2.2.2.2.2.2.2.1 q2.2.2.2.2.2.2.2 cost hole counts worth met ways nextWays image isKept 0 nf q3 hq3) wm_X9_137 wi_X9_countOf wl_X9_countOf wz_X9 wc_X9_countOf hd_X9_countOf ⟨rfl, rfl⟩ ⟨Nat.le_of_ble_eq_true rfl, Nat.le_of_ble_eq_true rfl⟩ (q0 := 0) (ci := 9) rfl rfl rfl rfl hl.1 rfl (Nat.le_of_ble_eq_true rfl) dX9_then_54 ⟨Nat.zero_le _, Nat.zero_le _⟩) hP hD hS hA [0, 1, 2, 3, 4, 5, 6, 7, 8, 9, 10, 11, 12, 13] hC [(true, 0), (true, 1), (true, 2), (true, 3), (true, 4), (true, 5), (true, 6), (true, 7), (true, 8), (true, 9), (true, 10), (true, 11), (true, 12), (true, 13)] (ws' := wX9 cyI cyJ cyZ cyO h book q2.2.1 sights sight signs pad q2.2.2.1 q2.2.2.2.1 q2.2.2.2.2.1 q2.2.2.2.2.2.1 q2.2.2.2.2.2.2.1 q2.2.2.2.2.2.2.2 cost hole counts worth met ways nextWays image isKept) rfl rfl rfl (fun H locs hP hD hS => ?_)
          cases Option.some.inj hf
          exact W.iret hx hb hr (fun t ht hW => ⟨⟨_, (), rfl, rfl, by show va_P D vwCl _ t.heap; rw [ht]; exact hP⟩, hS.F ht⟩) hS.2.2 dX9_then_57
        · replace hf := if_f c0 hf
          by_cases c1 : p1 = 1
          · replace hf := if_t c1 hf
            refine lv_tableIn (off := 35) (tgt := 58) hx hb dX9_then_23 (by rw [c1]; decide) (by rw [c1]; decide) (by rw [c1]; decide) (by decide) ?_
            refine lv_aload_n hx hb dX9_then_58 rfl (lv_at hl 0 rfl) ?_
            refine va_get (ci := 9) (v := .ref (h 2)) (C := RX9) (T := TX9) (N := 21) hx hb hT hin_X9 hown hK hP 0 rfl rfl 1 (by decide) (hT _ wf_X9_13) (fun _ h9 => h9) rfl dX9_then_59 ?_
            refine lv_bipush (v := 58) hx hb dX9_then_62 (by decide) ?_
            obtain ⟨hi, hf⟩ := ck_some hf
            refine va_iald hx hb hK hP 2 0 rfl rfl hi dX9_then_64 ?_
            refine lv_aload_n hx hb dX9_then_65 rfl (lv_at hl 0 rfl) ?_
            refine va_get (ci := 9) (v := .ref (h 2)) (C := RX9) (T := TX9) (N := 21) hx hb hT hin_X9 hown hK hP 0 rfl rfl 1 (by decide) (hT _ wf_X9_13) (fun _ h9 => h9) rfl dX9_then_66 ?_
            refine lv_bipush (v := 59) hx hb dX9_then_69 (by decide) ?_
            obtain ⟨hi, hf⟩ := ck_some hf
            refine va_iald hx hb hK hP 2 0 rfl rfl hi dX9_then_71 ?_
            refine lv_iadd hx hb dX9_then_72 ?_
            refine lv_aload_n hx hb dX9_then_73 rfl (lv_at hl 0 rfl) ?_
            refine va_get (ci := 9) (v := .ref (h 2)) (C := RX9) (T := TX9) (N := 21) hx hb hT hin_X9 hown hK hP 0 rfl rfl 1 (by decide) (hT _ wf_X9_13) (fun _ h9 => h9) rfl dX9_then_74 ?_
            refine lv_bipush (v := 60) hx hb dX9_then_77 (by decide) ?_
            obtain ⟨hi, hf⟩ := ck_some hf
            refine va_iald hx hb hK hP 2 0 rfl rfl hi dX9_then_79 ?_
            refine lv_iadd hx hb dX9_then_80 ?_
            cases Option.some.inj hf
            exact W.iret hx hb hr (fun t ht hW => ⟨⟨_, (), rfl, rfl, by show va_P D vwCl _ t.heap; rw [ht]; exact hP⟩, hS.F ht⟩) hS.2.2 dX9_then_81
          · replace hf := if_f c1 hf
            by_cases c2 : p1 = 2
            · replace hf := if_t c2 hf
              refine lv_tableIn (off := 59) (tgt := 82) hx hb dX9_then_23 (by rw [c2]; decide) (by rw [c2]; decide) (by rw [c2]; decide) (by decide) ?_
              refine lv_aload_n hx hb dX9_then_82 rfl (lv_at hl 0 rfl) ?_
              refine va_get (ci := 9) (v := .ref (h 2)) (C := RX9) (T := TX9) (N := 21) hx hb hT hin_X9 hown hK hP 0 rfl rfl 1 (by decide) (hT _ wf_X9_13) (fun _ h9 => h9) rfl dX9_then_83 ?_
              refine lv_bipush (v := 62) hx hb dX9_then_86 (by decide) ?_
              obtain ⟨hi, hf⟩ := ck_some hf
              refine va_iald hx hb hK hP 2 0 rfl rfl hi dX9_then_88 ?_
              cases Option.some.inj hf
              exact W.iret hx hb hr (fun t ht hW => ⟨⟨_, (), rfl, rfl, by show va_P D vwCl _ t.heap; rw [ht]; exact hP⟩, hS.F ht⟩) hS.2.2 dX9_then_89
            · replace hf := if_f c2 hf
              by_cases c3 : p1 = 3
              · replace hf := if_t c3 hf
                refine lv_tableIn (off := 67) (tgt := 90) hx hb dX9_then_23 (by rw [c3]; decide) (by rw [c3]; decide) (by rw [c3]; decide) (by decide) ?_
                refine lv_aload_n hx hb dX9_then_90 rfl (lv_at hl 0 rfl) ?_
                refine va_get (ci := 9) (v := .int q2.2.2.2.1) (C := RX9) (T := TX9) (N := 21) hx hb hT hin_X9 hown hK hP 0 rfl rfl 7 (by decide) (hT _ wf_X9_82) (fun _ h9 => h9) rfl dX9_then_91 ?_
                cases Option.some.inj hf
                exact W.iret hx hb hr (fun t ht hW => ⟨⟨_, (), rfl, rfl, by show va_P D vwCl _ t.heap; rw [ht]; exact hP⟩, hS.F ht⟩) hS.2.2 dX9_then_94
              · replace hf := if_f c3 hf
                refine lv_tableOut (tgt := 95) hx hb dX9_then_23 (by have z0 := lv_neT c0 (show (0 : Int32).toInt = 0 by decide); have z1 := lv_neT c1 (show (1 : Int32).toInt = 1 by decide); have z2 := lv_neT c2 (show (2 : Int32).toInt = 2 by decide); have z3 := lv_neT c3 (show (3 : Int32).toInt = 3 by decide); omega) (by decide) ?_
                refine lv_aload_n hx hb dX9_then_95 rfl (lv_at hl 0 rfl) ?_
                refine va_get (ci := 9) (v := .int q2.2.2.2.2.1) (C := RX9) (T := TX9) (N := 21) hx hb hT hin_X9 hown hK hP 0 rfl rfl 8 (by decide) (hT _ wf_X9_85) (fun _ h9 => h9) rfl dX9_then_96 ?_
                cases Option.some.inj hf
                exact W.iret hx hb hr (fun t ht hW => ⟨⟨_, (), rfl, rfl, by show va_P D vwCl _ t.heap; rw [ht]; exact hP⟩, hS.F ht⟩) hS.2.2 dX9_then_99
      · replace hf := if_f cc hf
        refine lv_bipush (v := (-5)) hx hb dX9_then_19 (by decide) ?_
        cases Option.some.inj hf
        exact W.iret hx hb hr (fun t ht hW => ⟨⟨_, (), rfl, rfl, by show va_P D vwCl _ t.heap; rw [ht]; exact hP⟩, hS.F ht⟩) hS.2.2 dX9_then_21
    · replace hf := if_t cc hf
      refine lv_bipush (v := (-2)) hx hb dX9_then_9 (by decide) ?_
      cases Option.some.inj hf
      exact W.iret hx hb hr (fun t ht hW => ⟨⟨_, (), rfl, rfl, by show va_P D vwCl _ t.heap; rw [ht]; exact hP⟩, hS.F ht⟩) hS.2.2 dX9_then_11
  have hl := lv_entry ([.ref (h 0), .int p1]) (n := 2) (Nat.le_of_ble_eq_true rfl)
  rw [lg_entry_eq]
  exact main s.heap [] _ hP hD hS hl
theorem hd_X9_layRoads : yX9_layRoads.cls = RX9 ∧ yX9_layRoads.cls ≠ "java/lang/invoke/MethodHandle" ∧ yX9_layRoads.cls ≠ "java/lang/invoke/VarHandle" ∧ (parseMethodDescriptor yX9_layRoads.desc).map (fun d => d.parameters.length) = some 1 := by decide +kernel
set_option maxHeartbeats 4000000 in
set_option maxRecDepth 100000 in
theorem c_X9_layRoads (l : Launch) (D : va_G) (cyI cyJ cyZ cyO : ClassId) (h : Nat → Nat) (sz : Nat) (book : Nat → Int32) (now : Nat → Int32) (sights : Int32) (sight : Nat → Int32) (signs : Int32) (pad : Nat → Int32) (nights : Int32) (townAt : Int32) (townCell : Int32) (reason : Int32) (acts : Int32) (at_ : Int32) (cost : Nat → Int32) (hole : Nat → Int32) (counts : Nat → Int32) (worth : Nat → Int32) (met : Nat → Int32) (ways : Nat → Int64) (nextWays : Nat → Int64) (image : Nat → Int32) (isKept : Nat → Int32) (p1 : Int32) (nf : Nat) (q : (Nat → Int32)) (hf : g_X9_layRoads nf p1 book cost = some q) : Met l yX9_layRoads (Cond.code yX9_layRoads cX9_layRoads 7 none :: tbG) ({ frames := 1, cells := 0, slots := 0, locals := 23 } : Room) (va_Pc [.ref (h 0), .int p1] (pcB D (ty4 cyI cyJ cyZ cyO) sz (wX9 cyI cyJ cyZ cyO h book now sights sight signs pad nights townAt townCell reason acts at_ cost hole counts worth met ways nextWays image isKept))) (qV D (wX9 cyI cyJ cyZ cyO h book now sights sight signs pad nights townAt townCell reason acts at_ q hole counts worth met ways nextWays image isKept) (va_A (wX9 cyI cyJ cyZ cyO h book now sights sight signs pad nights townAt townCell reason acts at_ cost hole counts worth met ways nextWays image isKept) sz)) 0 0 (va_A (wX9 cyI cyJ cyZ cyO h book now sights sight signs pad nights townAt townCell reason acts at_ cost hole counts worth met ways nextWays image isKept) sz) := by
  refine Met.ofW (cc := cX9_layRoads) (maxL := 7) (ret := none) (by decide) rfl ?_
  intro p e s m args below meth c s₁ B hml hv
  obtain ⟨rfl, hsz, hP, hK, hD0, hN⟩ := hv
  have hx := B.exec
  have hb := B.bytes
  have hr := B.returns
  have hT : ∀ w ∈ tbG, w.before ([.ref (h 0), .int p1] : List Value).toArray s = true := fun w h => atoms_spec (ws := (Cond.code yX9_layRoads cX9_layRoads 7 none :: tbG)) B.pre w (List.mem_cons_of_mem _ h)
  have hown : s.vm.findClass RX9 = some m.cls := findClass_of_methodNamed B.named
  have hlocks := B.notSynchronized
  subst hsz
  have hD := hD0.self (sz := s.heap.size)
  generalize hAe : va_A (wX9 cyI cyJ cyZ cyO h book now sights sight signs pad nights townAt townCell reason acts at_ cost hole counts worth met ways nextWays image isKept) s.heap.size = A at hD ⊢
  have hA : ∀ q : Nat, s.heap.size ≤ q → A q := fun q h => by rw [← hAe]; exact Or.inr h
  have hS : va_S A s.heap s.heap [] := va_S.rf
  show W p l e ({ frames := 1, cells := 0, slots := 0, locals := 23 } : Room) s m ([.ref (h 0), .int p1] : List Value).toArray below meth c s.heap [] 0 0 (MQ below (qV D (wX9 cyI cyJ cyZ cyO h book now sights sight signs pad nights townAt townCell reason acts at_ q hole counts worth met ways nextWays image isKept) A) ([.ref (h 0), .int p1] : List Value).toArray s 0 0 A) _
  have l57 : ∀ (n57 : Nat) (x2 : Int32) (book : Nat → Int32) (cost : Nat → Int32) (H : Heap) (locs : List Loc) (ls : Array Slot), va_P D vwCl (wX9 cyI cyJ cyZ cyO h book now sights sight signs pad nights townAt townCell reason acts at_ cost hole counts worth met ways nextWays image isKept) H → va_D A (wX9 cyI cyJ cyZ cyO h book now sights sight signs pad nights townAt townCell reason acts at_ cost hole counts worth met ways nextWays image isKept) → va_S A s.heap H locs → lv_has ls 7 [(0, .ref (h 0)), (2, .int x2)] → g_X9_layRoads_l57 nf n57 x2 book cost = some q → W p l e ({ frames := 1, cells := 0, slots := 0, locals := 23 } : Room) s m ([.ref (h 0), .int p1] : List Value).toArray below meth c H locs 0 0 (MQ below (qV D (wX9 cyI cyJ cyZ cyO h book now sights sight signs pad nights townAt townCell reason acts at_ q hole counts worth met ways nextWays image isKept) A) ([.ref (h 0), .int p1] : List Value).toArray s 0 0 A) (F0 m 57 ls []) := by
    intro n57
    induction n57 with
    | zero =>
      intro x2 book cost H locs ls hP hD hS hl hf
      rw [g_X9_layRoads_l57] at hf
      cases hf
    | succ n57 ih57 =>
      have l65 : ∀ (n65 : Nat) (x2 : Int32) (x3 : Int32) (book : Nat → Int32) (cost : Nat → Int32) (H : Heap) (locs : List Loc) (ls : Array Slot), va_P D vwCl (wX9 cyI cyJ cyZ cyO h book now sights sight signs pad nights townAt townCell reason acts at_ cost hole counts worth met ways nextWays image isKept) H → va_D A (wX9 cyI cyJ cyZ cyO h book now sights sight signs pad nights townAt townCell reason acts at_ cost hole counts worth met ways nextWays image isKept) → va_S A s.heap H locs → lv_has ls 7 [(0, .ref (h 0)), (2, .int x2), (3, .int x3)] → g_X9_layRoads_l65 nf (g_X9_layRoads_l57 nf n57) n65 x2 x3 book cost = some q → W p l e ({ frames := 1, cells := 0, slots := 0, locals := 23 } : Room) s m ([.ref (h 0), .int p1] : List Value).toArray below meth c H locs 0 0 (MQ below (qV D (wX9 cyI cyJ cyZ cyO h book now sights sight signs pad nights townAt townCell reason acts at_ q hole counts worth met ways nextWays image isKept) A) ([.ref (h 0), .int p1] : List Value).toArray s 0 0 A) (F0 m 65 ls []) := by
        intro n65
        induction n65 with
        | zero =>
          intro x2 x3 book cost H locs ls hP hD hS hl hf
          rw [g_X9_layRoads_l65] at hf
          cases hf
        | succ n65 ih65 =>
          have l74 : ∀ (n74 : Nat) (x2 : Int32) (x3 : Int32) (x4 : Int32) (book : Nat → Int32) (cost : Nat → Int32) (H : Heap) (locs : List Loc) (ls : Array Slot), va_P D vwCl (wX9 cyI cyJ cyZ cyO h book now sights sight signs pad nights townAt townCell reason acts at_ cost hole counts worth met ways nextWays image isKept) H → va_D A (wX9 cyI cyJ cyZ cyO h book now sights sight signs pad nights townAt townCell reason acts at_ cost hole counts worth met ways nextWays image isKept) → va_S A s.heap H locs → lv_has ls 7 [(0, .ref (h 0)), (2, .int x2), (3, .int x3), (4, .int x4)] → g_X9_layRoads_l74 nf (g_X9_layRoads_l57 nf n57) (g_X9_layRoads_l65 nf (g_X9_layRoads_l57 nf n57) n65) n74 x2 x3 x4 book cost = some q → W p l e ({ frames := 1, cells := 0, slots := 0, locals := 23 } : Room) s m ([.ref (h 0), .int p1] : List Value).toArray below meth c H locs 0 0 (MQ below (qV D (wX9 cyI cyJ cyZ cyO h book now sights sight signs pad nights townAt townCell reason acts at_ q hole counts worth met ways nextWays image isKept) A) ([.ref (h 0), .int p1] : List Value).toArray s 0 0 A) (F0 m 74 ls []) := by
            intro n74
            induction n74 with
            | zero =>
              intro x2 x3 x4 book cost H locs ls hP hD hS hl hf
              rw [g_X9_layRoads_l74] at hf
              cases hf
            | succ n74 ih74 =>
              have b166 : ∀ (x2 : Int32) (x3 : Int32) (x4 : Int32) (book : Nat → Int32) (cost : Nat → Int32) (H : Heap) (locs : List Loc) (ls : Array Slot), va_P D vwCl (wX9 cyI cyJ cyZ cyO h book now sights sight signs pad nights townAt townCell reason acts at_ cost hole counts worth met ways nextWays image isKept) H → va_D A (wX9 cyI cyJ cyZ cyO h book now sights sight signs pad nights townAt townCell reason acts at_ cost hole counts worth met ways nextWays image isKept) → va_S A s.heap H locs → lv_has ls 7 [(0, .ref (h 0)), (2, .int x2), (3, .int x3), (4, .int x4)] → g_X9_layRoads_b166 nf (g_X9_layRoads_l57 nf n57) (g_X9_layRoads_l65 nf (g_X9_layRoads_l57 nf n57) n65) (g_X9_layRoads_l74 nf (g_X9_layRoads_l57 nf n57) (g_X9_layRoads_l65 nf (g_X9_layRoads_l57 nf n57) n65) n74) x2 x3 x4 book cost = some q → W p l e ({ frames := 1, cells := 0, slots := 0, locals := 23 } : Room) s m ([.ref (h 0), .int p1] : List Value).toArray below meth c H locs 0 0 (MQ below (qV D (wX9 cyI cyJ cyZ cyO h book now sights sight signs pad nights townAt townCell reason acts at_ q hole counts worth met ways nextWays image isKept) A) ([.ref (h 0), .int p1] : List Value).toArray s 0 0 A) (F0 m 166 ls []) := by
                intro x2 x3 x4 book cost H locs ls hP hD hS hl hf
                unfold g_X9_layRoads_b166 at hf
                refine lv_iinc (v := (x4 + 1)) (lv' := [(4, .int (x4 + 1)), (0, .ref (h 0)), (2, .int x2), (3, .int x3)]) hx hb dX9_layRoads_166 hl (k := 3) rfl rfl (by decide) rfl (fun ls hl => ?_)
                refine lv_goto (tgt := 74) hx hb dX9_layRoads_169 (by decide) ?_
                exact ih74 x2 x3 (x4 + 1) book cost H locs ls hP hD hS (lv_sub hl [1, 2, 3, 0] rfl) hf
              have b134 : ∀ (x2 : Int32) (x3 : Int32) (x4 : Int32) (x5 : Int32) (s0 : Int32) (book : Nat → Int32) (cost : Nat → Int32) (H : Heap) (locs : List Loc) (ls : Array Slot), va_P D vwCl (wX9 cyI cyJ cyZ cyO h book now sights sight signs pad nights townAt townCell reason acts at_ cost hole counts worth met ways nextWays image isKept) H → va_D A (wX9 cyI cyJ cyZ cyO h book now sights sight signs pad nights townAt townCell reason acts at_ cost hole counts worth met ways nextWays image isKept) → va_S A s.heap H locs → lv_has ls 7 [(0, .ref (h 0)), (2, .int x2), (3, .int x3), (4, .int x4), (5, .int x5)] → g_X9_layRoads_b134 nf (g_X9_layRoads_l57 nf n57) (g_X9_layRoads_l65 nf (g_X9_layRoads_l57 nf n57) n65) (g_X9_layRoads_l74 nf (g_X9_layRoads_l57 nf n57) (g_X9_layRoads_l65 nf (g_X9_layRoads_l57 nf n57) n65) n74) x2 x3 x4 x5 s0 book cost = some q → W p l e ({ frames := 1, cells := 0, slots := 0, locals := 23 } : Room) s m ([.ref (h 0), .int p1] : List Value).toArray below meth c H locs 0 0 (MQ below (qV D (wX9 cyI cyJ cyZ cyO h book now sights sight signs pad nights townAt townCell reason acts at_ q hole counts worth met ways nextWays image isKept) A) ([.ref (h 0), .int p1] : List Value).toArray s 0 0 A) (F0 m 134 ls [.int s0]) := by
                intro x2 x3 x4 x5 s0 book cost H locs ls hP hD hS hl hf
                unfold g_X9_layRoads_b134 at hf
                refine lv_istore (lv' := [(6, .int s0), (0, .ref (h 0)), (2, .int x2), (3, .int x3), (4, .int x4), (5, .int x5)]) hx hb dX9_layRoads_134 hl (by decide) rfl (fun ls hl => ?_)
                refine lv_iload hx hb dX9_layRoads_136 (lv_at hl 0 rfl) ?_
                refine lv_ldc (v := 1000000) hx hb hown (hT _ wk_X9_140) dX9_layRoads_138 ?_
                refine lv_icmp_ge (tgt := 166) hx hb dX9_layRoads_140 (by decide) (fun cc => ?_) (fun cc => ?_)
                · replace hf := if_t cc hf
                  exact b166 x2 x3 x4 book cost H locs ls hP hD hS (lv_sub hl [1, 2, 3, 4] rfl) hf
                · replace hf := if_f cc hf
                  refine lv_iload hx hb dX9_layRoads_143 (lv_at hl 0 rfl) ?_
                  refine lv_aload_n hx hb dX9_layRoads_145 rfl (lv_at hl 1 rfl) ?_
                  refine va_get (ci := 9) (v := .ref (h 5)) (C := RX9) (T := TX9) (N := 21) hx hb hT hin_X9 hown hK hP 0 rfl rfl 12 (by decide) (hT _ wf_X9_22) (fun _ h9 => h9) rfl dX9_layRoads_146 ?_
                  refine lv_iload hx hb dX9_layRoads_149 (lv_at hl 5 rfl) ?_
                  obtain ⟨hi, hf⟩ := ck_some hf
                  refine va_iald hx hb hK hP 5 0 rfl rfl hi dX9_layRoads_151 ?_
                  refine lv_icmp_ge (tgt := 166) hx hb dX9_layRoads_152 (by decide) (fun cc => ?_) (fun cc => ?_)
                  · replace hf := if_t cc hf
                    exact b166 x2 x3 x4 book cost H locs ls hP hD hS (lv_sub hl [1, 2, 3, 4] rfl) hf
                  · replace hf := if_f cc hf
                    refine lv_aload_n hx hb dX9_layRoads_155 rfl (lv_at hl 1 rfl) ?_
                    refine va_get (ci := 9) (v := .ref (h 5)) (C := RX9) (T := TX9) (N := 21) hx hb hT hin_X9 hown hK hP 0 rfl rfl 12 (by decide) (hT _ wf_X9_22) (fun _ h9 => h9) rfl dX9_layRoads_156 ?_
                    refine lv_iload hx hb dX9_layRoads_159 (lv_at hl 5 rfl) ?_
                    refine lv_iload hx hb dX9_layRoads_161 (lv_at hl 0 rfl) ?_
                    obtain ⟨hi, hf⟩ := ck_some hf
                    refine va_iast hx hb hK hP hD hS 5 0 rfl rfl hi dX9_layRoads_163 (fun H locs hP hD hS => ?_)
                    have hP : va_P D vwCl (wX9 cyI cyJ cyZ cyO h book now sights sight signs pad nights townAt townCell reason acts at_ (upd cost x5.toNatClampNeg s0) hole counts worth met ways nextWays image isKept) H := hP
                    have hD : va_D A (wX9 cyI cyJ cyZ cyO h book now sights sight signs pad nights townAt townCell reason acts at_ (upd cost x5.toNatClampNeg s0) hole counts worth met ways nextWays image isKept) := hD
                    refine lv_iconst (v := 1) hx hb dX9_layRoads_164 (by decide) ?_
                    refine lv_istore_n (lv' := [(2, .int 1), (6, .int s0), (0, .ref (h 0)), (3, .int x3), (4, .int x4), (5, .int x5)]) hx hb dX9_layRoads_165 rfl hl (by decide) rfl (fun ls hl => ?_)
                    exact b166 1 x3 x4 book (upd cost x5.toNatClampNeg s0) H locs ls hP hD hS (lv_sub hl [2, 0, 3, 4] rfl) hf
              have b104 : ∀ (x2 : Int32) (x3 : Int32) (x4 : Int32) (x5 : Int32) (book : Nat → Int32) (cost : Nat → Int32) (H : Heap) (locs : List Loc) (ls : Array Slot), va_P D vwCl (wX9 cyI cyJ cyZ cyO h book now sights sight signs pad nights townAt townCell reason acts at_ cost hole counts worth met ways nextWays image isKept) H → va_D A (wX9 cyI cyJ cyZ cyO h book now sights sight signs pad nights townAt townCell reason acts at_ cost hole counts worth met ways nextWays image isKept) → va_S A s.heap H locs → lv_has ls 7 [(0, .ref (h 0)), (2, .int x2), (3, .int x3), (4, .int x4), (5, .int x5)] → g_X9_layRoads_b104 nf (g_X9_layRoads_l57 nf n57) (g_X9_layRoads_l65 nf (g_X9_layRoads_l57 nf n57) n65) (g_X9_layRoads_l74 nf (g_X9_layRoads_l57 nf n57) (g_X9_layRoads_l65 nf (g_X9_layRoads_l57 nf n57) n65) n74) x2 x3 x4 x5 book cost = some q → W p l e ({ frames := 1, cells := 0, slots := 0, locals := 23 } : Room) s m ([.ref (h 0), .int p1] : List Value).toArray below meth c H locs 0 0 (MQ below (qV D (wX9 cyI cyJ cyZ cyO h book now sights sight signs pad nights townAt townCell reason acts at_ q hole counts worth met ways nextWays image isKept) A) ([.ref (h 0), .int p1] : List Value).toArray s 0 0 A) (F0 m 104 ls []) := by
                intro x2 x3 x4 x5 book cost H locs ls hP hD hS hl hf
                unfold g_X9_layRoads_b104 at hf
                refine lv_ldc (v := 1000000) hx hb hown (hT _ wk_X9_140) dX9_layRoads_104 ?_
                refine lv_goto (tgt := 134) hx hb dX9_layRoads_106 (by decide) ?_
                exact b134 x2 x3 x4 x5 1000000 book cost H locs ls hP hD hS (lv_sub hl [0, 1, 2, 3, 4] rfl) hf
              have b133 : ∀ (x2 : Int32) (x3 : Int32) (x4 : Int32) (x5 : Int32) (s0 : Int32) (s1 : Int32) (book : Nat → Int32) (cost : Nat → Int32) (H : Heap) (locs : List Loc) (ls : Array Slot), va_P D vwCl (wX9 cyI cyJ cyZ cyO h book now sights sight signs pad nights townAt townCell reason acts at_ cost hole counts worth met ways nextWays image isKept) H → va_D A (wX9 cyI cyJ cyZ cyO h book now sights sight signs pad nights townAt townCell reason acts at_ cost hole counts worth met ways nextWays image isKept) → va_S A s.heap H locs → lv_has ls 7 [(0, .ref (h 0)), (2, .int x2), (3, .int x3), (4, .int x4), (5, .int x5)] → g_X9_layRoads_b133 nf (g_X9_layRoads_l57 nf n57) (g_X9_layRoads_l65 nf (g_X9_layRoads_l57 nf n57) n65) (g_X9_layRoads_l74 nf (g_X9_layRoads_l57 nf n57) (g_X9_layRoads_l65 nf (g_X9_layRoads_l57 nf n57) n65) n74) x2 x3 x4 x5 s0 s1 book cost = some q → W p l e ({ frames := 1, cells := 0, slots := 0, locals := 23 } : Room) s m ([.ref (h 0), .int p1] : List Value).toArray below meth c H locs 0 0 (MQ below (qV D (wX9 cyI cyJ cyZ cyO h book now sights sight signs pad nights townAt townCell reason acts at_ q hole counts worth met ways nextWays image isKept) A) ([.ref (h 0), .int p1] : List Value).toArray s 0 0 A) (F0 m 133 ls [.int s1, .int s0]) := by
                intro x2 x3 x4 x5 s0 s1 book cost H locs ls hP hD hS hl hf
                unfold g_X9_layRoads_b133 at hf
                refine lv_iadd hx hb dX9_layRoads_133 ?_
                exact b134 x2 x3 x4 x5 (s0 + s1) book cost H locs ls hP hD hS (lv_sub hl [0, 1, 2, 3, 4] rfl) hf
              intro x2 x3 x4 book cost H locs ls hP hD hS hl hf
              rw [g_X9_layRoads_l74] at hf
              refine lv_iload hx hb dX9_layRoads_74 (lv_at hl 3 rfl) ?_
              refine lv_iconst (v := 4) hx hb dX9_layRoads_76 (by decide) ?_
              refine lv_icmp_ge (tgt := 172) hx hb dX9_layRoads_77 (by decide) (fun cc => ?_) (fun cc => ?_)
              · replace hf := if_t cc hf
                refine lv_iinc (v := (x3 + 1)) (lv' := [(3, .int (x3 + 1)), (0, .ref (h 0)), (2, .int x2), (4, .int x4)]) hx hb dX9_layRoads_172 hl (k := 2) rfl rfl (by decide) rfl (fun ls hl => ?_)
                refine lv_goto (tgt := 65) hx hb dX9_layRoads_175 (by decide) ?_
                exact ih65 x2 (x3 + 1) book cost H locs ls hP hD hS (lv_sub hl [1, 2, 0] rfl) hf
              · replace hf := if_f cc hf
                refine lv_iload_n hx hb dX9_layRoads_80 rfl (lv_at hl 2 rfl) ?_
                refine lv_iload hx hb dX9_layRoads_81 (lv_at hl 3 rfl) ?_
                obtain ⟨q1, hq1, hf⟩ := bd_some hf
                have hC : ([] : List Nat).map (fun i => (wX9 cyI cyJ cyZ cyO h book now sights sight signs pad nights townAt townCell reason acts at_ cost hole counts worth met ways nextWays image isKept)[i]?) = ([] : va_W).map some := rfl
                refine cl_i (rn_S (As := [.int x3, .int x4]) (rest := []) hx hb hml hown hT hK hN hP hD [] hC rfl (c_X9_beside l D cyI cyJ cyZ cyO H.size x3 x4 nf q1 hq1) wm_X9_91 wt_X9_beside wz_X9 wc_X9_beside hd_X9_beside ⟨rfl, rfl⟩ ⟨Nat.le_of_ble_eq_true rfl, Nat.le_of_ble_eq_true rfl⟩ rfl hl.1 rfl (Nat.le_of_ble_eq_true rfl) dX9_layRoads_83 ⟨Nat.zero_le _, Nat.zero_le _⟩) hP hD hS hA [] hC [(false, 0), (false, 1), (false, 2), (false, 3), (false, 4), (false, 5), (false, 6), (false, 7), (false, 8), (false, 9), (false, 10), (false, 11), (false, 12), (false, 13)] (ws' := wX9 cyI cyJ cyZ cyO h book now sights sight signs pad nights townAt townCell reason acts at_ cost hole counts worth met ways nextWays image isKept) rfl rfl rfl (fun H locs hP hD hS => ?_)
                refine lv_istore (lv' := [(5, .int q1), (0, .ref (h 0)), (2, .int x2), (3, .int x3), (4, .int x4)]) hx hb dX9_layRoads_86 hl (by decide) rfl (fun ls hl => ?_)
                refine lv_iload hx hb dX9_layRoads_88 (lv_at hl 0 rfl) ?_
                refine lv_if_lt (tgt := 104) hx hb dX9_layRoads_90 (by decide) (fun cc => ?_) (fun cc => ?_)
                · replace hf := if_t cc hf
                  exact b104 x2 x3 x4 q1 book cost H locs ls hP hD hS (lv_sub hl [1, 2, 3, 4, 0] rfl) hf
                · replace hf := if_f cc hf
                  refine lv_aload_n hx hb dX9_layRoads_93 rfl (lv_at hl 1 rfl) ?_
                  refine va_get (ci := 9) (v := .ref (h 1)) (C := RX9) (T := TX9) (N := 21) hx hb hT hin_X9 hown hK hP 0 rfl rfl 0 (by decide) (hT _ wf_X9_7) (fun _ h9 => h9) rfl dX9_layRoads_94 ?_
                  refine lv_iload hx hb dX9_layRoads_97 (lv_at hl 0 rfl) ?_
                  obtain ⟨hi, hf⟩ := ck_some hf
                  refine va_iald hx hb hK hP 1 0 rfl rfl hi dX9_layRoads_99 ?_
                  refine lv_iconst (v := 3) hx hb dX9_layRoads_100 (by decide) ?_
                  refine lv_icmp_ne (tgt := 109) hx hb dX9_layRoads_101 (by decide) (fun cc => ?_) (fun cc => ?_)
                  · replace hf := if_f cc hf
                    refine lv_aload_n hx hb dX9_layRoads_109 rfl (lv_at hl 1 rfl) ?_
                    refine va_get (ci := 9) (v := .ref (h 5)) (C := RX9) (T := TX9) (N := 21) hx hb hT hin_X9 hown hK hP 0 rfl rfl 12 (by decide) (hT _ wf_X9_22) (fun _ h9 => h9) rfl dX9_layRoads_110 ?_
                    refine lv_iload_n hx hb dX9_layRoads_113 rfl (lv_at hl 3 rfl) ?_
                    obtain ⟨hi, hf⟩ := ck_some hf
                    refine va_iald hx hb hK hP 5 0 rfl rfl hi dX9_layRoads_114 ?_
                    refine lv_iconst (v := 1) hx hb dX9_layRoads_115 (by decide) ?_
                    refine lv_iadd hx hb dX9_layRoads_116 ?_
                    refine lv_aload_n hx hb dX9_layRoads_117 rfl (lv_at hl 1 rfl) ?_
                    refine va_get (ci := 9) (v := .ref (h 1)) (C := RX9) (T := TX9) (N := 21) hx hb hT hin_X9 hown hK hP 0 rfl rfl 0 (by decide) (hT _ wf_X9_7) (fun _ h9 => h9) rfl dX9_layRoads_118 ?_
                    refine lv_iload hx hb dX9_layRoads_121 (lv_at hl 0 rfl) ?_
                    obtain ⟨hi, hf⟩ := ck_some hf
                    refine va_iald hx hb hK hP 1 0 rfl rfl hi dX9_layRoads_123 ?_
                    refine lv_if_ne (tgt := 132) hx hb dX9_layRoads_124 (by decide) (fun cc => ?_) (fun cc => ?_)
                    · replace hf := if_f cc hf
                      refine lv_iconst (v := 0) hx hb dX9_layRoads_132 (by decide) ?_
                      exact b133 x2 x3 x4 q1 ((cost x3.toNatClampNeg) + 1) 0 book cost H locs ls hP hD hS (lv_sub hl [1, 2, 3, 4, 0] rfl) hf
                    · replace hf := if_t cc hf
                      refine lv_bipush (v := 100) hx hb dX9_layRoads_127 (by decide) ?_
                      refine lv_goto (tgt := 133) hx hb dX9_layRoads_129 (by decide) ?_
                      exact b133 x2 x3 x4 q1 ((cost x3.toNatClampNeg) + 1) 100 book cost H locs ls hP hD hS (lv_sub hl [1, 2, 3, 4, 0] rfl) hf
                  · replace hf := if_t cc hf
                    exact b104 x2 x3 x4 q1 book cost H locs ls hP hD hS (lv_sub hl [1, 2, 3, 4, 0] rfl) hf
          intro x2 x3 book cost H locs ls hP hD hS hl hf
          rw [g_X9_layRoads_l65] at hf
          refine lv_iload_n hx hb dX9_layRoads_65 rfl (lv_at hl 2 rfl) ?_
          refine lv_bipush (v := 25) hx hb dX9_layRoads_66 (by decide) ?_
          refine lv_icmp_ge (tgt := 178) hx hb dX9_layRoads_68 (by decide) (fun cc => ?_) (fun cc => ?_)
          · replace hf := if_t cc hf
            refine lv_goto (tgt := 57) hx hb dX9_layRoads_178 (by decide) ?_
            exact ih57 x2 book cost H locs ls hP hD hS (lv_sub hl [0, 1] rfl) hf
          · replace hf := if_f cc hf
            refine lv_iconst (v := 0) hx hb dX9_layRoads_71 (by decide) ?_
            refine lv_istore (lv' := [(4, .int 0), (0, .ref (h 0)), (2, .int x2), (3, .int x3)]) hx hb dX9_layRoads_72 hl (by decide) rfl (fun ls hl => ?_)
            exact l74 nf x2 x3 0 book cost H locs ls hP hD hS (lv_sub hl [1, 2, 3, 0] rfl) hf
      intro x2 book cost H locs ls hP hD hS hl hf
      rw [g_X9_layRoads_l57] at hf
      refine lv_iload_n hx hb dX9_layRoads_57 rfl (lv_at hl 1 rfl) ?_
      refine lv_if_eq (tgt := 181) hx hb dX9_layRoads_58 (by decide) (fun cc => ?_) (fun cc => ?_)
      · replace hf := if_t cc hf
        cases Option.some.inj hf
        exact W.vret hx hb hr (fun t ht hW => ⟨⟨(), rfl, trivial, by show va_P D vwCl _ t.heap; rw [ht]; exact hP⟩, hS.F ht⟩) hS.2.2 dX9_layRoads_181
      · replace hf := if_f cc hf
        refine lv_iconst (v := 0) hx hb dX9_layRoads_61 (by decide) ?_
        refine lv_istore_n (lv' := [(2, .int 0), (0, .ref (h 0))]) hx hb dX9_layRoads_62 rfl hl (by decide) rfl (fun ls hl => ?_)
        refine lv_iconst (v := 0) hx hb dX9_layRoads_63 (by decide) ?_
        refine lv_istore_n (lv' := [(3, .int 0), (2, .int 0), (0, .ref (h 0))]) hx hb dX9_layRoads_64 rfl hl (by decide) rfl (fun ls hl => ?_)
        exact l65 nf 0 0 book cost H locs ls hP hD hS (lv_sub hl [2, 1, 0] rfl) hf
  have l2 : ∀ (n2 : Nat) (x1 : Int32) (x2 : Int32) (book : Nat → Int32) (cost : Nat → Int32) (H : Heap) (locs : List Loc) (ls : Array Slot), va_P D vwCl (wX9 cyI cyJ cyZ cyO h book now sights sight signs pad nights townAt townCell reason acts at_ cost hole counts worth met ways nextWays image isKept) H → va_D A (wX9 cyI cyJ cyZ cyO h book now sights sight signs pad nights townAt townCell reason acts at_ cost hole counts worth met ways nextWays image isKept) → va_S A s.heap H locs → lv_has ls 7 [(0, .ref (h 0)), (1, .int x1), (2, .int x2)] → g_X9_layRoads_l2 nf n2 x1 x2 book cost = some q → W p l e ({ frames := 1, cells := 0, slots := 0, locals := 23 } : Room) s m ([.ref (h 0), .int p1] : List Value).toArray below meth c H locs 0 0 (MQ below (qV D (wX9 cyI cyJ cyZ cyO h book now sights sight signs pad nights townAt townCell reason acts at_ q hole counts worth met ways nextWays image isKept) A) ([.ref (h 0), .int p1] : List Value).toArray s 0 0 A) (F0 m 2 ls []) := by
    intro n2
    induction n2 with
    | zero =>
      intro x1 x2 book cost H locs ls hP hD hS hl hf
      rw [g_X9_layRoads_l2] at hf
      cases hf
    | succ n2 ih2 =>
      have b48 : ∀ (x1 : Int32) (x2 : Int32) (s1 : Int32) (s2 : Int32) (book : Nat → Int32) (cost : Nat → Int32) (H : Heap) (locs : List Loc) (ls : Array Slot), va_P D vwCl (wX9 cyI cyJ cyZ cyO h book now sights sight signs pad nights townAt townCell reason acts at_ cost hole counts worth met ways nextWays image isKept) H → va_D A (wX9 cyI cyJ cyZ cyO h book now sights sight signs pad nights townAt townCell reason acts at_ cost hole counts worth met ways nextWays image isKept) → va_S A s.heap H locs → lv_has ls 7 [(0, .ref (h 0)), (1, .int x1), (2, .int x2)] → g_X9_layRoads_b48 nf (g_X9_layRoads_l2 nf n2) x1 x2 s1 s2 book cost = some q → W p l e ({ frames := 1, cells := 0, slots := 0, locals := 23 } : Room) s m ([.ref (h 0), .int p1] : List Value).toArray below meth c H locs 0 0 (MQ below (qV D (wX9 cyI cyJ cyZ cyO h book now sights sight signs pad nights townAt townCell reason acts at_ q hole counts worth met ways nextWays image isKept) A) ([.ref (h 0), .int p1] : List Value).toArray s 0 0 A) (F0 m 48 ls [.int s2, .int s1, .ref (h 5)]) := by
        intro x1 x2 s1 s2 book cost H locs ls hP hD hS hl hf
        unfold g_X9_layRoads_b48 at hf
        obtain ⟨hi, hf⟩ := ck_some hf
        refine va_iast hx hb hK hP hD hS 5 0 rfl rfl hi dX9_layRoads_48 (fun H locs hP hD hS => ?_)
        have hP : va_P D vwCl (wX9 cyI cyJ cyZ cyO h book now sights sight signs pad nights townAt townCell reason acts at_ (upd cost s1.toNatClampNeg s2) hole counts worth met ways nextWays image isKept) H := hP
        have hD : va_D A (wX9 cyI cyJ cyZ cyO h book now sights sight signs pad nights townAt townCell reason acts at_ (upd cost s1.toNatClampNeg s2) hole counts worth met ways nextWays image isKept) := hD
        refine lv_iinc (v := (x2 + 1)) (lv' := [(2, .int (x2 + 1)), (0, .ref (h 0)), (1, .int x1)]) hx hb dX9_layRoads_49 hl (k := 2) rfl rfl (by decide) rfl (fun ls hl => ?_)
        refine lv_goto (tgt := 2) hx hb dX9_layRoads_52 (by decide) ?_
        exact ih2 x1 (x2 + 1) book (upd cost s1.toNatClampNeg s2) H locs ls hP hD hS (lv_sub hl [1, 2, 0] rfl) hf
      have b46 : ∀ (x1 : Int32) (x2 : Int32) (s1 : Int32) (book : Nat → Int32) (cost : Nat → Int32) (H : Heap) (locs : List Loc) (ls : Array Slot), va_P D vwCl (wX9 cyI cyJ cyZ cyO h book now sights sight signs pad nights townAt townCell reason acts at_ cost hole counts worth met ways nextWays image isKept) H → va_D A (wX9 cyI cyJ cyZ cyO h book now sights sight signs pad nights townAt townCell reason acts at_ cost hole counts worth met ways nextWays image isKept) → va_S A s.heap H locs → lv_has ls 7 [(0, .ref (h 0)), (1, .int x1), (2, .int x2)] → g_X9_layRoads_b46 nf (g_X9_layRoads_l2 nf n2) x1 x2 s1 book cost = some q → W p l e ({ frames := 1, cells := 0, slots := 0, locals := 23 } : Room) s m ([.ref (h 0), .int p1] : List Value).toArray below meth c H locs 0 0 (MQ below (qV D (wX9 cyI cyJ cyZ cyO h book now sights sight signs pad nights townAt townCell reason acts at_ q hole counts worth met ways nextWays image isKept) A) ([.ref (h 0), .int p1] : List Value).toArray s 0 0 A) (F0 m 46 ls [.int s1, .ref (h 5)]) := by
        intro x1 x2 s1 book cost H locs ls hP hD hS hl hf
        unfold g_X9_layRoads_b46 at hf
        refine lv_ldc (v := 1000000) hx hb hown (hT _ wk_X9_140) dX9_layRoads_46 ?_
        exact b48 x1 x2 s1 1000000 book cost H locs ls hP hD hS (lv_sub hl [0, 1, 2] rfl) hf
      intro x1 x2 book cost H locs ls hP hD hS hl hf
      rw [g_X9_layRoads_l2] at hf
      refine lv_iload_n hx hb dX9_layRoads_2 rfl (lv_at hl 2 rfl) ?_
      refine lv_bipush (v := 25) hx hb dX9_layRoads_3 (by decide) ?_
      refine lv_icmp_ge (tgt := 55) hx hb dX9_layRoads_5 (by decide) (fun cc => ?_) (fun cc => ?_)
      · replace hf := if_t cc hf
        refine lv_iconst (v := 1) hx hb dX9_layRoads_55 (by decide) ?_
        refine lv_istore_n (lv' := [(2, .int 1), (0, .ref (h 0)), (1, .int x1)]) hx hb dX9_layRoads_56 rfl hl (by decide) rfl (fun ls hl => ?_)
        exact l57 nf 1 book cost H locs ls hP hD hS (lv_sub hl [1, 0] rfl) hf
      · replace hf := if_f cc hf
        refine lv_aload_n hx hb dX9_layRoads_8 rfl (lv_at hl 0 rfl) ?_
        refine va_get (ci := 9) (v := .ref (h 5)) (C := RX9) (T := TX9) (N := 21) hx hb hT hin_X9 hown hK hP 0 rfl rfl 12 (by decide) (hT _ wf_X9_22) (fun _ h9 => h9) rfl dX9_layRoads_9 ?_
        refine lv_iload_n hx hb dX9_layRoads_12 rfl (lv_at hl 2 rfl) ?_
        refine lv_iload_n hx hb dX9_layRoads_13 rfl (lv_at hl 2 rfl) ?_
        refine lv_iload_n hx hb dX9_layRoads_14 rfl (lv_at hl 1 rfl) ?_
        refine lv_icmp_ne (tgt := 46) hx hb dX9_layRoads_15 (by decide) (fun cc => ?_) (fun cc => ?_)
        · replace hf := if_f cc hf
          exact b46 x1 x2 x2 book cost H locs ls hP hD hS (lv_sub hl [0, 1, 2] rfl) hf
        · replace hf := if_t cc hf
          refine lv_aload_n hx hb dX9_layRoads_18 rfl (lv_at hl 0 rfl) ?_
          refine va_get (ci := 9) (v := .ref (h 1)) (C := RX9) (T := TX9) (N := 21) hx hb hT hin_X9 hown hK hP 0 rfl rfl 0 (by decide) (hT _ wf_X9_7) (fun _ h9 => h9) rfl dX9_layRoads_19 ?_
          refine lv_iload_n hx hb dX9_layRoads_22 rfl (lv_at hl 2 rfl) ?_
          obtain ⟨hi, hf⟩ := ck_some hf
          refine va_iald hx hb hK hP 1 0 rfl rfl hi dX9_layRoads_23 ?_
          refine lv_iconst (v := 3) hx hb dX9_layRoads_24 (by decide) ?_
          refine lv_icmp_eq (tgt := 46) hx hb dX9_layRoads_25 (by decide) (fun cc => ?_) (fun cc => ?_)
          · replace hf := if_t cc hf
            exact b46 x1 x2 x2 book cost H locs ls hP hD hS (lv_sub hl [0, 1, 2] rfl) hf
          · replace hf := if_f cc hf
            refine lv_aload_n hx hb dX9_layRoads_28 rfl (lv_at hl 0 rfl) ?_
            refine va_get (ci := 9) (v := .ref (h 1)) (C := RX9) (T := TX9) (N := 21) hx hb hT hin_X9 hown hK hP 0 rfl rfl 0 (by decide) (hT _ wf_X9_7) (fun _ h9 => h9) rfl dX9_layRoads_29 ?_
            refine lv_iload_n hx hb dX9_layRoads_32 rfl (lv_at hl 2 rfl) ?_
            obtain ⟨hi, hf⟩ := ck_some hf
            refine va_iald hx hb hK hP 1 0 rfl rfl hi dX9_layRoads_33 ?_
            refine lv_if_ne (tgt := 42) hx hb dX9_layRoads_34 (by decide) (fun cc => ?_) (fun cc => ?_)
            · replace hf := if_f cc hf
              refine lv_iconst (v := 0) hx hb dX9_layRoads_42 (by decide) ?_
              refine lv_goto (tgt := 48) hx hb dX9_layRoads_43 (by decide) ?_
              exact b48 x1 x2 x2 0 book cost H locs ls hP hD hS (lv_sub hl [0, 1, 2] rfl) hf
            · replace hf := if_t cc hf
              refine lv_bipush (v := 100) hx hb dX9_layRoads_37 (by decide) ?_
              refine lv_goto (tgt := 48) hx hb dX9_layRoads_39 (by decide) ?_
              exact b48 x1 x2 x2 100 book cost H locs ls hP hD hS (lv_sub hl [0, 1, 2] rfl) hf
  have main : ∀ (H : Heap) (locs : List Loc) (ls : Array Slot), va_P D vwCl (wX9 cyI cyJ cyZ cyO h book now sights sight signs pad nights townAt townCell reason acts at_ cost hole counts worth met ways nextWays image isKept) H → va_D A (wX9 cyI cyJ cyZ cyO h book now sights sight signs pad nights townAt townCell reason acts at_ cost hole counts worth met ways nextWays image isKept) → va_S A s.heap H locs → lv_has ls 7 [(0, .ref (h 0)), (1, .int p1)] → W p l e ({ frames := 1, cells := 0, slots := 0, locals := 23 } : Room) s m ([.ref (h 0), .int p1] : List Value).toArray below meth c H locs 0 0 (MQ below (qV D (wX9 cyI cyJ cyZ cyO h book now sights sight signs pad nights townAt townCell reason acts at_ q hole counts worth met ways nextWays image isKept) A) ([.ref (h 0), .int p1] : List Value).toArray s 0 0 A) (F0 m 0 ls []) := by
    intro H locs ls hP hD hS hl
    unfold g_X9_layRoads at hf
    refine lv_iconst (v := 0) hx hb dX9_layRoads_0 (by decide) ?_
    refine lv_istore_n (lv' := [(2, .int 0), (0, .ref (h 0)), (1, .int p1)]) hx hb dX9_layRoads_1 rfl hl (by decide) rfl (fun ls hl => ?_)
    exact l2 nf p1 0 book cost H locs ls hP hD hS (lv_sub hl [1, 2, 0] rfl) hf
  have hl := lv_entry ([.ref (h 0), .int p1]) (n := 7) (Nat.le_of_ble_eq_true rfl)
  rw [lg_entry_eq]
  exact main s.heap [] _ hP hD hS hl
theorem hd_X9_road : yX9_road.cls = RX9 ∧ yX9_road.cls ≠ "java/lang/invoke/MethodHandle" ∧ yX9_road.cls ≠ "java/lang/invoke/VarHandle" ∧ (parseMethodDescriptor yX9_road.desc).map (fun d => d.parameters.length) = some 2 := by decide +kernel
set_option maxHeartbeats 4000000 in
set_option maxRecDepth 100000 in
theorem c_X9_road (l : Launch) (D : va_G) (cyI cyJ cyZ cyO : ClassId) (h : Nat → Nat) (sz : Nat) (book : Nat → Int32) (now : Nat → Int32) (sights : Int32) (sight : Nat → Int32) (signs : Int32) (pad : Nat → Int32) (nights : Int32) (townAt : Int32) (townCell : Int32) (reason : Int32) (acts : Int32) (at_ : Int32) (cost : Nat → Int32) (hole : Nat → Int32) (counts : Nat → Int32) (worth : Nat → Int32) (met : Nat → Int32) (ways : Nat → Int64) (nextWays : Nat → Int64) (image : Nat → Int32) (isKept : Nat → Int32) (p1 : Int32) (p2 : Int32) (nf : Nat) (q : Int32 × (Nat → Int32)) (hf : g_X9_road nf p1 p2 book cost = some q) : Met l yX9_road (Cond.code yX9_road cX9_road 3 (some .int) :: tbG) ({ frames := 2, cells := 0, slots := 0, locals := 49 } : Room) (va_Pc [.ref (h 0), .int p1, .int p2] (pcB D (ty4 cyI cyJ cyZ cyO) sz (wX9 cyI cyJ cyZ cyO h book now sights sight signs pad nights townAt townCell reason acts at_ cost hole counts worth met ways nextWays image isKept))) (qI D (wX9 cyI cyJ cyZ cyO h book now sights sight signs pad nights townAt townCell reason acts at_ q.2 hole counts worth met ways nextWays image isKept) q.1 (va_A (wX9 cyI cyJ cyZ cyO h book now sights sight signs pad nights townAt townCell reason acts at_ cost hole counts worth met ways nextWays image isKept) sz)) 0 0 (va_A (wX9 cyI cyJ cyZ cyO h book now sights sight signs pad nights townAt townCell reason acts at_ cost hole counts worth met ways nextWays image isKept) sz) := by
  refine Met.ofW (cc := cX9_road) (maxL := 3) (ret := (some .int)) (by decide) rfl ?_
  intro p e s m args below meth c s₁ B hml hv
  obtain ⟨rfl, hsz, hP, hK, hD0, hN⟩ := hv
  have hx := B.exec
  have hb := B.bytes
  have hr := B.returns
  have hT : ∀ w ∈ tbG, w.before ([.ref (h 0), .int p1, .int p2] : List Value).toArray s = true := fun w h => atoms_spec (ws := (Cond.code yX9_road cX9_road 3 (some .int) :: tbG)) B.pre w (List.mem_cons_of_mem _ h)
  have hown : s.vm.findClass RX9 = some m.cls := findClass_of_methodNamed B.named
  have hlocks := B.notSynchronized
  subst hsz
  have hD := hD0.self (sz := s.heap.size)
  generalize hAe : va_A (wX9 cyI cyJ cyZ cyO h book now sights sight signs pad nights townAt townCell reason acts at_ cost hole counts worth met ways nextWays image isKept) s.heap.size = A at hD ⊢
  have hA : ∀ q : Nat, s.heap.size ≤ q → A q := fun q h => by rw [← hAe]; exact Or.inr h
  have hS : va_S A s.heap s.heap [] := va_S.rf
  show W p l e ({ frames := 2, cells := 0, slots := 0, locals := 49 } : Room) s m ([.ref (h 0), .int p1, .int p2] : List Value).toArray below meth c s.heap [] 0 0 (MQ below (qI D (wX9 cyI cyJ cyZ cyO h book now sights sight signs pad nights townAt townCell reason acts at_ q.2 hole counts worth met ways nextWays image isKept) q.1 A) ([.ref (h 0), .int p1, .int p2] : List Value).toArray s 0 0 A) _
  have main : ∀ (H : Heap) (locs : List Loc) (ls : Array Slot), va_P D vwCl (wX9 cyI cyJ cyZ cyO h book now sights sight signs pad nights townAt townCell reason acts at_ cost hole counts worth met ways nextWays image isKept) H → va_D A (wX9 cyI cyJ cyZ cyO h book now sights sight signs pad nights townAt townCell reason acts at_ cost hole counts worth met ways nextWays image isKept) → va_S A s.heap H locs → lv_has ls 3 [(0, .ref (h 0)), (1, .int p1), (2, .int p2)] → W p l e ({ frames := 2, cells := 0, slots := 0, locals := 49 } : Room) s m ([.ref (h 0), .int p1, .int p2] : List Value).toArray below meth c H locs 0 0 (MQ below (qI D (wX9 cyI cyJ cyZ cyO h book now sights sight signs pad nights townAt townCell reason acts at_ q.2 hole counts worth met ways nextWays image isKept) q.1 A) ([.ref (h 0), .int p1, .int p2] : List Value).toArray s 0 0 A) (F0 m 0 ls []) := by
    intro H locs ls hP hD hS hl
    unfold g_X9_road at hf
    refine lv_iload_n hx hb dX9_road_0 rfl (lv_at hl 1 rfl) ?_
    obtain ⟨q1, hq1, hf⟩ := bd_some hf
    have hC : ([] : List Nat).map (fun i => (wX9 cyI cyJ cyZ cyO h book now sights sight signs pad nights townAt townCell reason acts at_ cost hole counts worth met ways nextWays image isKept)[i]?) = ([] : va_W).map some := rfl
    refine cl_i (rn_S (As := [.int p1]) (rest := []) hx hb hml hown hT hK hN hP hD [] hC rfl (c_X9_isCell l D cyI cyJ cyZ cyO H.size p1 nf q1 hq1) wm_X9_59 wt_X9_isCell wz_X9 wc_X9_isCell hd_X9_isCell ⟨rfl, rfl⟩ ⟨Nat.le_of_ble_eq_true rfl, Nat.le_of_ble_eq_true rfl⟩ rfl hl.1 rfl (Nat.le_of_ble_eq_true rfl) dX9_road_1 ⟨Nat.zero_le _, Nat.zero_le _⟩) hP hD hS hA [] hC [(false, 0), (false, 1), (false, 2), (false, 3), (false, 4), (false, 5), (false, 6), (false, 7), (false, 8), (false, 9), (false, 10), (false, 11), (false, 12), (false, 13)] (ws' := wX9 cyI cyJ cyZ cyO h book now sights sight signs pad nights townAt townCell reason acts at_ cost hole counts worth met ways nextWays image isKept) rfl rfl rfl (fun H locs hP hD hS => ?_)
    refine lv_if_eq (tgt := 14) hx hb dX9_road_4 (by decide) (fun cc => ?_) (fun cc => ?_)
    · replace hf := if_t cc hf
      refine lv_iconst (v := (-1)) hx hb dX9_road_14 (by decide) ?_
      cases Option.some.inj hf
      exact W.iret hx hb hr (fun t ht hW => ⟨⟨_, (), rfl, rfl, by show va_P D vwCl _ t.heap; rw [ht]; exact hP⟩, hS.F ht⟩) hS.2.2 dX9_road_15
    · replace hf := if_f cc hf
      refine lv_iload_n hx hb dX9_road_7 rfl (lv_at hl 2 rfl) ?_
      obtain ⟨q2, hq2, hf⟩ := bd_some hf
      have hC : ([] : List Nat).map (fun i => (wX9 cyI cyJ cyZ cyO h book now sights sight signs pad nights townAt townCell reason acts at_ cost hole counts worth met ways nextWays image isKept)[i]?) = ([] : va_W).map some := rfl
      refine cl_i (rn_S (As := [.int p2]) (rest := []) hx hb hml hown hT hK hN hP hD [] hC rfl (c_X9_isCell l D cyI cyJ cyZ cyO H.size p2 nf q2 hq2) wm_X9_59 wt_X9_isCell wz_X9 wc_X9_isCell hd_X9_isCell ⟨rfl, rfl⟩ ⟨Nat.le_of_ble_eq_true rfl, Nat.le_of_ble_eq_true rfl⟩ rfl hl.1 rfl (Nat.le_of_ble_eq_true rfl) dX9_road_8 ⟨Nat.zero_le _, Nat.zero_le _⟩) hP hD hS hA [] hC [(false, 0), (false, 1), (false, 2), (false, 3), (false, 4), (false, 5), (false, 6), (false, 7), (false, 8), (false, 9), (false, 10), (false, 11), (false, 12), (false, 13)] (ws' := wX9 cyI cyJ cyZ cyO h book now sights sight signs pad nights townAt townCell reason acts at_ cost hole counts worth met ways nextWays image isKept) rfl rfl rfl (fun H locs hP hD hS => ?_)
      refine lv_if_ne (tgt := 16) hx hb dX9_road_11 (by decide) (fun cc => ?_) (fun cc => ?_)
      · replace hf := if_f cc hf
        refine lv_aload_n hx hb dX9_road_16 rfl (lv_at hl 0 rfl) ?_
        refine lv_iload_n hx hb dX9_road_17 rfl (lv_at hl 1 rfl) ?_
        obtain ⟨q3, hq3, hf⟩ := bd_some hf
        have hC : [0, 1, 2, 3, 4, 5, 6, 7, 8, 9, 10, 11, 12, 13].map (fun i => (wX9 cyI cyJ cyZ cyO h book now sights sight signs pad nights townAt townCell reason acts at_ cost hole counts worth met ways nextWays image isKept)[i]?) = (wX9 cyI cyJ cyZ cyO h book now sights sight signs pad nights townAt townCell reason acts at_ cost hole counts worth met ways nextWays image isKept).map some := rfl
        refine cl_v (rn_V (As := [.int p1]) (rest := []) (C := RX9) hx hb hml hown hT hK hN hP hD [0, 1, 2, 3, 4, 5, 6, 7, 8, 9, 10, 11, 12, 13] hC rfl (c_X9_layRoads l D cyI cyJ cyZ cyO h H.size book now sights sight signs pad nights townAt townCell reason acts at_ cost hole counts worth met ways nextWays image isKept p1 nf q3 hq3) wm_X9_141 wi_X9_layRoads wl_X9_layRoads wz_X9 wc_X9_layRoads hd_X9_layRoads ⟨rfl, rfl⟩ ⟨Nat.le_of_ble_eq_true rfl, Nat.le_of_ble_eq_true rfl⟩ (q0 := 0) (ci := 9) rfl rfl rfl rfl hl.1 rfl (Nat.le_of_ble_eq_true rfl) dX9_road_18 ⟨Nat.zero_le _, Nat.zero_le _⟩) hP hD hS hA [0, 1, 2, 3, 4, 5, 6, 7, 8, 9, 10, 11, 12, 13] hC [(true, 0), (true, 1), (true, 2), (true, 3), (true, 4), (true, 5), (true, 6), (true, 7), (true, 8), (true, 9), (true, 10), (true, 11), (true, 12), (true, 13)] (ws' := wX9 cyI cyJ cyZ cyO h book now sights sight signs pad nights townAt townCell reason acts at_ q3 hole counts worth met ways nextWays image isKept) rfl rfl rfl (fun H locs hP hD hS => ?_)
        refine lv_aload_n hx hb dX9_road_21 rfl (lv_at hl 0 rfl) ?_
        refine va_get (ci := 9) (v := .ref (h 5)) (C := RX9) (T := TX9) (N := 21) hx hb hT hin_X9 hown hK hP 0 rfl rfl 12 (by decide) (hT _ wf_X9_22) (fun _ h9 => h9) rfl dX9_road_22 ?_
        refine lv_iload_n hx hb dX9_road_25 rfl (lv_at hl 2 rfl) ?_
        obtain ⟨hi, hf⟩ := ck_some hf
        refine va_iald hx hb hK hP 5 0 rfl rfl hi dX9_road_26 ?_
        refine lv_bipush (v := 100) hx hb dX9_road_27 (by decide) ?_
        refine lv_icmp_ge (tgt := 41) hx hb dX9_road_29 (by decide) (fun cc => ?_) (fun cc => ?_)
        · replace hf := if_t cc hf
          refine lv_bipush (v := (-6)) hx hb dX9_road_41 (by decide) ?_
          cases Option.some.inj hf
          exact W.iret hx hb hr (fun t ht hW => ⟨⟨_, (), rfl, rfl, by show va_P D vwCl _ t.heap; rw [ht]; exact hP⟩, hS.F ht⟩) hS.2.2 dX9_road_43
        · replace hf := if_f cc hf
          refine lv_aload_n hx hb dX9_road_32 rfl (lv_at hl 0 rfl) ?_
          refine va_get (ci := 9) (v := .ref (h 5)) (C := RX9) (T := TX9) (N := 21) hx hb hT hin_X9 hown hK hP 0 rfl rfl 12 (by decide) (hT _ wf_X9_22) (fun _ h9 => h9) rfl dX9_road_33 ?_
          refine lv_iload_n hx hb dX9_road_36 rfl (lv_at hl 2 rfl) ?_
          obtain ⟨hi, hf⟩ := ck_some hf
          refine va_iald hx hb hK hP 5 0 rfl rfl hi dX9_road_37 ?_
          refine lv_goto (tgt := 43) hx hb dX9_road_38 (by decide) ?_
          cases Option.some.inj hf
          exact W.iret hx hb hr (fun t ht hW => ⟨⟨_, (), rfl, rfl, by show va_P D vwCl _ t.heap; rw [ht]; exact hP⟩, hS.F ht⟩) hS.2.2 dX9_road_43
      · replace hf := if_t cc hf
        refine lv_iconst (v := (-1)) hx hb dX9_road_14 (by decide) ?_
        cases Option.some.inj hf
        exact W.iret hx hb hr (fun t ht hW => ⟨⟨_, (), rfl, rfl, by show va_P D vwCl _ t.heap; rw [ht]; exact hP⟩, hS.F ht⟩) hS.2.2 dX9_road_15
  have hl := lv_entry ([.ref (h 0), .int p1, .int p2]) (n := 3) (Nat.le_of_ble_eq_true rfl)
  rw [lg_entry_eq]
  exact main s.heap [] _ hP hD hS hl
theorem hd_X9_whole : yX9_whole.cls = RX9 ∧ yX9_whole.cls ≠ "java/lang/invoke/MethodHandle" ∧ yX9_whole.cls ≠ "java/lang/invoke/VarHandle" ∧ (parseMethodDescriptor yX9_whole.desc).map (fun d => d.parameters.length) = some 3 := by decide +kernel
set_option maxHeartbeats 4000000 in
set_option maxRecDepth 100000 in
theorem c_X9_whole (l : Launch) (D : va_G) (cyI cyJ cyZ cyO : ClassId) (h : Nat → Nat) (sz : Nat) (book : Nat → Int32) (now : Nat → Int32) (sights : Int32) (sight : Nat → Int32) (signs : Int32) (pad : Nat → Int32) (nights : Int32) (townAt : Int32) (townCell : Int32) (reason : Int32) (acts : Int32) (at_ : Int32) (cost : Nat → Int32) (hole : Nat → Int32) (counts : Nat → Int32) (worth : Nat → Int32) (met : Nat → Int32) (ways : Nat → Int64) (nextWays : Nat → Int64) (image : Nat → Int32) (isKept : Nat → Int32) (p1 : Int32) (p2 : Int32) (p3 : Int32) (nf : Nat) (q : Int32 × (Nat → Int32)) (hf : g_X9_whole nf p1 p2 p3 book cost = some q) : Met l yX9_whole (Cond.code yX9_whole cX9_whole 4 (some .int) :: tbG) ({ frames := 2, cells := 0, slots := 0, locals := 49 } : Room) (va_Pc [.ref (h 0), .int p1, .int p2, .int p3] (pcB D (ty4 cyI cyJ cyZ cyO) sz (wX9 cyI cyJ cyZ cyO h book now sights sight signs pad nights townAt townCell reason acts at_ cost hole counts worth met ways nextWays image isKept))) (qI D (wX9 cyI cyJ cyZ cyO h book now sights sight signs pad nights townAt townCell reason acts at_ q.2 hole counts worth met ways nextWays image isKept) q.1 (va_A (wX9 cyI cyJ cyZ cyO h book now sights sight signs pad nights townAt townCell reason acts at_ cost hole counts worth met ways nextWays image isKept) sz)) 0 0 (va_A (wX9 cyI cyJ cyZ cyO h book now sights sight signs pad nights townAt townCell reason acts at_ cost hole counts worth met ways nextWays image isKept) sz) := by
  refine Met.ofW (cc := cX9_whole) (maxL := 4) (ret := (some .int)) (by decide) rfl ?_
  intro p e s m args below meth c s₁ B hml hv
  obtain ⟨rfl, hsz, hP, hK, hD0, hN⟩ := hv
  have hx := B.exec
  have hb := B.bytes
  have hr := B.returns
  have hT : ∀ w ∈ tbG, w.before ([.ref (h 0), .int p1, .int p2, .int p3] : List Value).toArray s = true := fun w h => atoms_spec (ws := (Cond.code yX9_whole cX9_whole 4 (some .int) :: tbG)) B.pre w (List.mem_cons_of_mem _ h)
  have hown : s.vm.findClass RX9 = some m.cls := findClass_of_methodNamed B.named
  have hlocks := B.notSynchronized
  subst hsz
  have hD := hD0.self (sz := s.heap.size)
  generalize hAe : va_A (wX9 cyI cyJ cyZ cyO h book now sights sight signs pad nights townAt townCell reason acts at_ cost hole counts worth met ways nextWays image isKept) s.heap.size = A at hD ⊢
  have hA : ∀ q : Nat, s.heap.size ≤ q → A q := fun q h => by rw [← hAe]; exact Or.inr h
  have hS : va_S A s.heap s.heap [] := va_S.rf
  show W p l e ({ frames := 2, cells := 0, slots := 0, locals := 49 } : Room) s m ([.ref (h 0), .int p1, .int p2, .int p3] : List Value).toArray below meth c s.heap [] 0 0 (MQ below (qI D (wX9 cyI cyJ cyZ cyO h book now sights sight signs pad nights townAt townCell reason acts at_ q.2 hole counts worth met ways nextWays image isKept) q.1 A) ([.ref (h 0), .int p1, .int p2, .int p3] : List Value).toArray s 0 0 A) _
  have main : ∀ (H : Heap) (locs : List Loc) (ls : Array Slot), va_P D vwCl (wX9 cyI cyJ cyZ cyO h book now sights sight signs pad nights townAt townCell reason acts at_ cost hole counts worth met ways nextWays image isKept) H → va_D A (wX9 cyI cyJ cyZ cyO h book now sights sight signs pad nights townAt townCell reason acts at_ cost hole counts worth met ways nextWays image isKept) → va_S A s.heap H locs → lv_has ls 4 [(0, .ref (h 0)), (1, .int p1), (2, .int p2), (3, .int p3)] → W p l e ({ frames := 2, cells := 0, slots := 0, locals := 49 } : Room) s m ([.ref (h 0), .int p1, .int p2, .int p3] : List Value).toArray below meth c H locs 0 0 (MQ below (qI D (wX9 cyI cyJ cyZ cyO h book now sights sight signs pad nights townAt townCell reason acts at_ q.2 hole counts worth met ways nextWays image isKept) q.1 A) ([.ref (h 0), .int p1, .int p2, .int p3] : List Value).toArray s 0 0 A) (F0 m 0 ls []) := by
    intro H locs ls hP hD hS hl
    unfold g_X9_whole at hf
    refine lv_iload_n hx hb dX9_whole_0 rfl (lv_at hl 1 rfl) ?_
    obtain ⟨q1, hq1, hf⟩ := bd_some hf
    have hC : ([] : List Nat).map (fun i => (wX9 cyI cyJ cyZ cyO h book now sights sight signs pad nights townAt townCell reason acts at_ cost hole counts worth met ways nextWays image isKept)[i]?) = ([] : va_W).map some := rfl
    refine cl_i (rn_S (As := [.int p1]) (rest := []) hx hb hml hown hT hK hN hP hD [] hC rfl (c_X9_isCell l D cyI cyJ cyZ cyO H.size p1 nf q1 hq1) wm_X9_59 wt_X9_isCell wz_X9 wc_X9_isCell hd_X9_isCell ⟨rfl, rfl⟩ ⟨Nat.le_of_ble_eq_true rfl, Nat.le_of_ble_eq_true rfl⟩ rfl hl.1 rfl (Nat.le_of_ble_eq_true rfl) dX9_whole_1 ⟨Nat.zero_le _, Nat.zero_le _⟩) hP hD hS hA [] hC [(false, 0), (false, 1), (false, 2), (false, 3), (false, 4), (false, 5), (false, 6), (false, 7), (false, 8), (false, 9), (false, 10), (false, 11), (false, 12), (false, 13)] (ws' := wX9 cyI cyJ cyZ cyO h book now sights sight signs pad nights townAt townCell reason acts at_ cost hole counts worth met ways nextWays image isKept) rfl rfl rfl (fun H locs hP hD hS => ?_)
    refine lv_if_eq (tgt := 14) hx hb dX9_whole_4 (by decide) (fun cc => ?_) (fun cc => ?_)
    · replace hf := if_t cc hf
      refine lv_iconst (v := (-1)) hx hb dX9_whole_14 (by decide) ?_
      cases Option.some.inj hf
      exact W.iret hx hb hr (fun t ht hW => ⟨⟨_, (), rfl, rfl, by show va_P D vwCl _ t.heap; rw [ht]; exact hP⟩, hS.F ht⟩) hS.2.2 dX9_whole_15
    · replace hf := if_f cc hf
      refine lv_iload_n hx hb dX9_whole_7 rfl (lv_at hl 2 rfl) ?_
      obtain ⟨q2, hq2, hf⟩ := bd_some hf
      have hC : ([] : List Nat).map (fun i => (wX9 cyI cyJ cyZ cyO h book now sights sight signs pad nights townAt townCell reason acts at_ cost hole counts worth met ways nextWays image isKept)[i]?) = ([] : va_W).map some := rfl
      refine cl_i (rn_S (As := [.int p2]) (rest := []) hx hb hml hown hT hK hN hP hD [] hC rfl (c_X9_isCell l D cyI cyJ cyZ cyO H.size p2 nf q2 hq2) wm_X9_59 wt_X9_isCell wz_X9 wc_X9_isCell hd_X9_isCell ⟨rfl, rfl⟩ ⟨Nat.le_of_ble_eq_true rfl, Nat.le_of_ble_eq_true rfl⟩ rfl hl.1 rfl (Nat.le_of_ble_eq_true rfl) dX9_whole_8 ⟨Nat.zero_le _, Nat.zero_le _⟩) hP hD hS hA [] hC [(false, 0), (false, 1), (false, 2), (false, 3), (false, 4), (false, 5), (false, 6), (false, 7), (false, 8), (false, 9), (false, 10), (false, 11), (false, 12), (false, 13)] (ws' := wX9 cyI cyJ cyZ cyO h book now sights sight signs pad nights townAt townCell reason acts at_ cost hole counts worth met ways nextWays image isKept) rfl rfl rfl (fun H locs hP hD hS => ?_)
      refine lv_if_ne (tgt := 16) hx hb dX9_whole_11 (by decide) (fun cc => ?_) (fun cc => ?_)
      · replace hf := if_f cc hf
        refine lv_iload_n hx hb dX9_whole_16 rfl (lv_at hl 3 rfl) ?_
        refine lv_iconst (v := 0) hx hb dX9_whole_17 (by decide) ?_
        refine lv_iconst (v := 1) hx hb dX9_whole_18 (by decide) ?_
        obtain ⟨q3, hq3, hf⟩ := bd_some hf
        have hC : ([] : List Nat).map (fun i => (wX9 cyI cyJ cyZ cyO h book now sights sight signs pad nights townAt townCell reason acts at_ cost hole counts worth met ways nextWays image isKept)[i]?) = ([] : va_W).map some := rfl
        refine cl_i (rn_S (As := [.int p3, .int 0, .int 1]) (rest := []) hx hb hml hown hT hK hN hP hD [] hC rfl (c_X9_in l D cyI cyJ cyZ cyO H.size p3 0 1 nf q3 hq3) wm_X9_51 wt_X9_in wz_X9 wc_X9_in hd_X9_in ⟨rfl, rfl⟩ ⟨Nat.le_of_ble_eq_true rfl, Nat.le_of_ble_eq_true rfl⟩ rfl hl.1 rfl (Nat.le_of_ble_eq_true rfl) dX9_whole_19 ⟨Nat.zero_le _, Nat.zero_le _⟩) hP hD hS hA [] hC [(false, 0), (false, 1), (false, 2), (false, 3), (false, 4), (false, 5), (false, 6), (false, 7), (false, 8), (false, 9), (false, 10), (false, 11), (false, 12), (false, 13)] (ws' := wX9 cyI cyJ cyZ cyO h book now sights sight signs pad nights townAt townCell reason acts at_ cost hole counts worth met ways nextWays image isKept) rfl rfl rfl (fun H locs hP hD hS => ?_)
        refine lv_if_ne (tgt := 28) hx hb dX9_whole_22 (by decide) (fun cc => ?_) (fun cc => ?_)
        · replace hf := if_f cc hf
          refine lv_aload_n hx hb dX9_whole_28 rfl (lv_at hl 0 rfl) ?_
          refine lv_iload_n hx hb dX9_whole_29 rfl (lv_at hl 1 rfl) ?_
          obtain ⟨q4, hq4, hf⟩ := bd_some hf
          have hC : [0, 1, 2, 3, 4, 5, 6, 7, 8, 9, 10, 11, 12, 13].map (fun i => (wX9 cyI cyJ cyZ cyO h book now sights sight signs pad nights townAt townCell reason acts at_ cost hole counts worth met ways nextWays image isKept)[i]?) = (wX9 cyI cyJ cyZ cyO h book now sights sight signs pad nights townAt townCell reason acts at_ cost hole counts worth met ways nextWays image isKept).map some := rfl
          refine cl_v (rn_V (As := [.int p1]) (rest := []) (C := RX9) hx hb hml hown hT hK hN hP hD [0, 1, 2, 3, 4, 5, 6, 7, 8, 9, 10, 11, 12, 13] hC rfl (c_X9_layRoads l D cyI cyJ cyZ cyO h H.size book now sights sight signs pad nights townAt townCell reason acts at_ cost hole counts worth met ways nextWays image isKept p1 nf q4 hq4) wm_X9_141 wi_X9_layRoads wl_X9_layRoads wz_X9 wc_X9_layRoads hd_X9_layRoads ⟨rfl, rfl⟩ ⟨Nat.le_of_ble_eq_true rfl, Nat.le_of_ble_eq_true rfl⟩ (q0 := 0) (ci := 9) rfl rfl rfl rfl hl.1 rfl (Nat.le_of_ble_eq_true rfl) dX9_whole_30 ⟨Nat.zero_le _, Nat.zero_le _⟩) hP hD hS hA [0, 1, 2, 3, 4, 5, 6, 7, 8, 9, 10, 11, 12, 13] hC [(true, 0), (true, 1), (true, 2), (true, 3), (true, 4), (true, 5), (true, 6), (true, 7), (true, 8), (true, 9), (true, 10), (true, 11), (true, 12), (true, 13)] (ws' := wX9 cyI cyJ cyZ cyO h book now sights sight signs pad nights townAt townCell reason acts at_ q4 hole counts worth met ways nextWays image isKept) rfl rfl rfl (fun H locs hP hD hS => ?_)
          refine lv_aload_n hx hb dX9_whole_33 rfl (lv_at hl 0 rfl) ?_
          refine va_get (ci := 9) (v := .ref (h 5)) (C := RX9) (T := TX9) (N := 21) hx hb hT hin_X9 hown hK hP 0 rfl rfl 12 (by decide) (hT _ wf_X9_22) (fun _ h9 => h9) rfl dX9_whole_34 ?_
          refine lv_iload_n hx hb dX9_whole_37 rfl (lv_at hl 2 rfl) ?_
          obtain ⟨hi, hf⟩ := ck_some hf
          refine va_iald hx hb hK hP 5 0 rfl rfl hi dX9_whole_38 ?_
          refine lv_ldc (v := 1000000) hx hb hown (hT _ wk_X9_140) dX9_whole_39 ?_
          refine lv_icmp_lt (tgt := 49) hx hb dX9_whole_41 (by decide) (fun cc => ?_) (fun cc => ?_)
          · replace hf := if_t cc hf
            refine lv_iload_n hx hb dX9_whole_49 rfl (lv_at hl 3 rfl) ?_
            refine lv_if_ne (tgt := 65) hx hb dX9_whole_50 (by decide) (fun cc => ?_) (fun cc => ?_)
            · replace hf := if_f cc hf
              refine lv_aload_n hx hb dX9_whole_65 rfl (lv_at hl 0 rfl) ?_
              refine va_get (ci := 9) (v := .ref (h 5)) (C := RX9) (T := TX9) (N := 21) hx hb hT hin_X9 hown hK hP 0 rfl rfl 12 (by decide) (hT _ wf_X9_22) (fun _ h9 => h9) rfl dX9_whole_66 ?_
              refine lv_iload_n hx hb dX9_whole_69 rfl (lv_at hl 2 rfl) ?_
              obtain ⟨hi, hf⟩ := ck_some hf
              refine va_iald hx hb hK hP 5 0 rfl rfl hi dX9_whole_70 ?_
              refine lv_bipush (v := 100) hx hb dX9_whole_71 (by decide) ?_
              refine lv_irem hx hb dX9_whole_73 (by decide) ?_
              cases Option.some.inj hf
              exact W.iret hx hb hr (fun t ht hW => ⟨⟨_, (), rfl, rfl, by show va_P D vwCl _ t.heap; rw [ht]; exact hP⟩, hS.F ht⟩) hS.2.2 dX9_whole_74
            · replace hf := if_t cc hf
              refine lv_aload_n hx hb dX9_whole_53 rfl (lv_at hl 0 rfl) ?_
              refine va_get (ci := 9) (v := .ref (h 5)) (C := RX9) (T := TX9) (N := 21) hx hb hT hin_X9 hown hK hP 0 rfl rfl 12 (by decide) (hT _ wf_X9_22) (fun _ h9 => h9) rfl dX9_whole_54 ?_
              refine lv_iload_n hx hb dX9_whole_57 rfl (lv_at hl 2 rfl) ?_
              obtain ⟨hi, hf⟩ := ck_some hf
              refine va_iald hx hb hK hP 5 0 rfl rfl hi dX9_whole_58 ?_
              refine lv_bipush (v := 100) hx hb dX9_whole_59 (by decide) ?_
              refine lv_idiv hx hb dX9_whole_61 (by decide) ?_
              refine lv_goto (tgt := 74) hx hb dX9_whole_62 (by decide) ?_
              cases Option.some.inj hf
              exact W.iret hx hb hr (fun t ht hW => ⟨⟨_, (), rfl, rfl, by show va_P D vwCl _ t.heap; rw [ht]; exact hP⟩, hS.F ht⟩) hS.2.2 dX9_whole_74
          · replace hf := if_f cc hf
            refine lv_bipush (v := (-6)) hx hb dX9_whole_44 (by decide) ?_
            refine lv_goto (tgt := 74) hx hb dX9_whole_46 (by decide) ?_
            cases Option.some.inj hf
            exact W.iret hx hb hr (fun t ht hW => ⟨⟨_, (), rfl, rfl, by show va_P D vwCl _ t.heap; rw [ht]; exact hP⟩, hS.F ht⟩) hS.2.2 dX9_whole_74
        · replace hf := if_t cc hf
          refine lv_bipush (v := (-2)) hx hb dX9_whole_25 (by decide) ?_
          cases Option.some.inj hf
          exact W.iret hx hb hr (fun t ht hW => ⟨⟨_, (), rfl, rfl, by show va_P D vwCl _ t.heap; rw [ht]; exact hP⟩, hS.F ht⟩) hS.2.2 dX9_whole_27
      · replace hf := if_t cc hf
        refine lv_iconst (v := (-1)) hx hb dX9_whole_14 (by decide) ?_
        cases Option.some.inj hf
        exact W.iret hx hb hr (fun t ht hW => ⟨⟨_, (), rfl, rfl, by show va_P D vwCl _ t.heap; rw [ht]; exact hP⟩, hS.F ht⟩) hS.2.2 dX9_whole_15
  have hl := lv_entry ([.ref (h 0), .int p1, .int p2, .int p3]) (n := 4) (Nat.le_of_ble_eq_true rfl)
  rw [lg_entry_eq]
  exact main s.heap [] _ hP hD hS hl
theorem hd_X9_isSafe : yX9_isSafe.cls = RX9 ∧ yX9_isSafe.cls ≠ "java/lang/invoke/MethodHandle" ∧ yX9_isSafe.cls ≠ "java/lang/invoke/VarHandle" ∧ (parseMethodDescriptor yX9_isSafe.desc).map (fun d => d.parameters.length) = some 2 := by decide +kernel
set_option maxHeartbeats 4000000 in
set_option maxRecDepth 100000 in
theorem c_X9_isSafe (l : Launch) (D : va_G) (cyI cyJ cyZ cyO : ClassId) (h : Nat → Nat) (sz : Nat) (book : Nat → Int32) (now : Nat → Int32) (sights : Int32) (sight : Nat → Int32) (signs : Int32) (pad : Nat → Int32) (nights : Int32) (townAt : Int32) (townCell : Int32) (reason : Int32) (acts : Int32) (at_ : Int32) (cost : Nat → Int32) (hole : Nat → Int32) (counts : Nat → Int32) (worth : Nat → Int32) (met : Nat → Int32) (ways : Nat → Int64) (nextWays : Nat → Int64) (image : Nat → Int32) (isKept : Nat → Int32) (p1 : Int32) (p2 : Int32) (nf : Nat) (q : Int32) (hf : g_X9_isSafe nf p1 p2 book = some q) : Met l yX9_isSafe (Cond.code yX9_isSafe cX9_isSafe 8 (some .boolean) :: tbG) ({ frames := 2, cells := 0, slots := 0, locals := 43 } : Room) (va_Pc [.ref (h 0), .int p1, .int p2] (pcB D (ty4 cyI cyJ cyZ cyO) sz (wX9 cyI cyJ cyZ cyO h book now sights sight signs pad nights townAt townCell reason acts at_ cost hole counts worth met ways nextWays image isKept))) (qI D (wX9 cyI cyJ cyZ cyO h book now sights sight signs pad nights townAt townCell reason acts at_ cost hole counts worth met ways nextWays image isKept) q (va_A (wX9 cyI cyJ cyZ cyO h book now sights sight signs pad nights townAt townCell reason acts at_ cost hole counts worth met ways nextWays image isKept) sz)) 0 0 (va_A (wX9 cyI cyJ cyZ cyO h book now sights sight signs pad nights townAt townCell reason acts at_ cost hole counts worth met ways nextWays image isKept) sz) := by
  refine Met.ofW (cc := cX9_isSafe) (maxL := 8) (ret := (some .boolean)) (by decide) rfl ?_
  intro p e s m args below meth c s₁ B hml hv
  obtain ⟨rfl, hsz, hP, hK, hD0, hN⟩ := hv
  have hx := B.exec
  have hb := B.bytes
  have hr := B.returns
  have hT : ∀ w ∈ tbG, w.before ([.ref (h 0), .int p1, .int p2] : List Value).toArray s = true := fun w h => atoms_spec (ws := (Cond.code yX9_isSafe cX9_isSafe 8 (some .boolean) :: tbG)) B.pre w (List.mem_cons_of_mem _ h)
  have hown : s.vm.findClass RX9 = some m.cls := findClass_of_methodNamed B.named
  have hlocks := B.notSynchronized
  subst hsz
  have hD := hD0.self (sz := s.heap.size)
  generalize hAe : va_A (wX9 cyI cyJ cyZ cyO h book now sights sight signs pad nights townAt townCell reason acts at_ cost hole counts worth met ways nextWays image isKept) s.heap.size = A at hD ⊢
  have hA : ∀ q : Nat, s.heap.size ≤ q → A q := fun q h => by rw [← hAe]; exact Or.inr h
  have hS : va_S A s.heap s.heap [] := va_S.rf
  show W p l e ({ frames := 2, cells := 0, slots := 0, locals := 43 } : Room) s m ([.ref (h 0), .int p1, .int p2] : List Value).toArray below meth c s.heap [] 0 0 (MQ below (qI D (wX9 cyI cyJ cyZ cyO h book now sights sight signs pad nights townAt townCell reason acts at_ cost hole counts worth met ways nextWays image isKept) q A) ([.ref (h 0), .int p1, .int p2] : List Value).toArray s 0 0 A) _
  have l48 : ∀ (n48 : Nat) (x1 : Int32) (x2 : Int32) (x3 : Int32) (x4 : Int32) (book : Nat → Int32) (H : Heap) (locs : List Loc) (ls : Array Slot), va_P D vwCl (wX9 cyI cyJ cyZ cyO h book now sights sight signs pad nights townAt townCell reason acts at_ cost hole counts worth met ways nextWays image isKept) H → va_D A (wX9 cyI cyJ cyZ cyO h book now sights sight signs pad nights townAt townCell reason acts at_ cost hole counts worth met ways nextWays image isKept) → va_S A s.heap H locs → lv_has ls 8 [(1, .int x1), (2, .int x2), (3, .int x3), (4, .int x4)] → g_X9_isSafe_l48 nf n48 x1 x2 x3 x4 book = some q → W p l e ({ frames := 2, cells := 0, slots := 0, locals := 43 } : Room) s m ([.ref (h 0), .int p1, .int p2] : List Value).toArray below meth c H locs 0 0 (MQ below (qI D (wX9 cyI cyJ cyZ cyO h book now sights sight signs pad nights townAt townCell reason acts at_ cost hole counts worth met ways nextWays image isKept) q A) ([.ref (h 0), .int p1, .int p2] : List Value).toArray s 0 0 A) (F0 m 48 ls []) := by
    intro n48
    induction n48 with
    | zero =>
      intro x1 x2 x3 x4 book H locs ls hP hD hS hl hf
      rw [g_X9_isSafe_l48] at hf
      cases hf
    | succ n48 ih48 =>
      have l60 : ∀ (n60 : Nat) (x1 : Int32) (x2 : Int32) (x3 : Int32) (x4 : Int32) (x5 : Int32) (book : Nat → Int32) (H : Heap) (locs : List Loc) (ls : Array Slot), va_P D vwCl (wX9 cyI cyJ cyZ cyO h book now sights sight signs pad nights townAt townCell reason acts at_ cost hole counts worth met ways nextWays image isKept) H → va_D A (wX9 cyI cyJ cyZ cyO h book now sights sight signs pad nights townAt townCell reason acts at_ cost hole counts worth met ways nextWays image isKept) → va_S A s.heap H locs → lv_has ls 8 [(1, .int x1), (2, .int x2), (3, .int x3), (4, .int x4), (5, .int x5)] → g_X9_isSafe_l60 nf (g_X9_isSafe_l48 nf n48) n60 x1 x2 x3 x4 x5 book = some q → W p l e ({ frames := 2, cells := 0, slots := 0, locals := 43 } : Room) s m ([.ref (h 0), .int p1, .int p2] : List Value).toArray below meth c H locs 0 0 (MQ below (qI D (wX9 cyI cyJ cyZ cyO h book now sights sight signs pad nights townAt townCell reason acts at_ cost hole counts worth met ways nextWays image isKept) q A) ([.ref (h 0), .int p1, .int p2] : List Value).toArray s 0 0 A) (F0 m 60 ls []) := by
        intro n60
        induction n60 with
        | zero =>
          intro x1 x2 x3 x4 x5 book H locs ls hP hD hS hl hf
          rw [g_X9_isSafe_l60] at hf
          cases hf
        | succ n60 ih60 =>
          have l70 : ∀ (n70 : Nat) (x1 : Int32) (x2 : Int32) (x3 : Int32) (x4 : Int32) (x5 : Int32) (x6 : Int32) (book : Nat → Int32) (H : Heap) (locs : List Loc) (ls : Array Slot), va_P D vwCl (wX9 cyI cyJ cyZ cyO h book now sights sight signs pad nights townAt townCell reason acts at_ cost hole counts worth met ways nextWays image isKept) H → va_D A (wX9 cyI cyJ cyZ cyO h book now sights sight signs pad nights townAt townCell reason acts at_ cost hole counts worth met ways nextWays image isKept) → va_S A s.heap H locs → lv_has ls 8 [(1, .int x1), (2, .int x2), (3, .int x3), (4, .int x4), (5, .int x5), (6, .int x6)] → g_X9_isSafe_l70 nf (g_X9_isSafe_l48 nf n48) (g_X9_isSafe_l60 nf (g_X9_isSafe_l48 nf n48) n60) n70 x1 x2 x3 x4 x5 x6 book = some q → W p l e ({ frames := 2, cells := 0, slots := 0, locals := 43 } : Room) s m ([.ref (h 0), .int p1, .int p2] : List Value).toArray below meth c H locs 0 0 (MQ below (qI D (wX9 cyI cyJ cyZ cyO h book now sights sight signs pad nights townAt townCell reason acts at_ cost hole counts worth met ways nextWays image isKept) q A) ([.ref (h 0), .int p1, .int p2] : List Value).toArray s 0 0 A) (F0 m 70 ls []) := by
            intro n70
            induction n70 with
            | zero =>
              intro x1 x2 x3 x4 x5 x6 book H locs ls hP hD hS hl hf
              rw [g_X9_isSafe_l70] at hf
              cases hf
            | succ n70 ih70 =>
              have b118 : ∀ (x1 : Int32) (x2 : Int32) (x4 : Int32) (x5 : Int32) (x6 : Int32) (s0 : Int32) (s1 : Int32) (book : Nat → Int32) (H : Heap) (locs : List Loc) (ls : Array Slot), va_P D vwCl (wX9 cyI cyJ cyZ cyO h book now sights sight signs pad nights townAt townCell reason acts at_ cost hole counts worth met ways nextWays image isKept) H → va_D A (wX9 cyI cyJ cyZ cyO h book now sights sight signs pad nights townAt townCell reason acts at_ cost hole counts worth met ways nextWays image isKept) → va_S A s.heap H locs → lv_has ls 8 [(1, .int x1), (2, .int x2), (4, .int x4), (5, .int x5), (6, .int x6)] → g_X9_isSafe_b118 nf (g_X9_isSafe_l48 nf n48) (g_X9_isSafe_l60 nf (g_X9_isSafe_l48 nf n48) n60) (g_X9_isSafe_l70 nf (g_X9_isSafe_l48 nf n48) (g_X9_isSafe_l60 nf (g_X9_isSafe_l48 nf n48) n60) n70) x1 x2 x4 x5 x6 s0 s1 book = some q → W p l e ({ frames := 2, cells := 0, slots := 0, locals := 43 } : Room) s m ([.ref (h 0), .int p1, .int p2] : List Value).toArray below meth c H locs 0 0 (MQ below (qI D (wX9 cyI cyJ cyZ cyO h book now sights sight signs pad nights townAt townCell reason acts at_ cost hole counts worth met ways nextWays image isKept) q A) ([.ref (h 0), .int p1, .int p2] : List Value).toArray s 0 0 A) (F0 m 118 ls [.int s1, .int s0]) := by
                intro x1 x2 x4 x5 x6 s0 s1 book H locs ls hP hD hS hl hf
                unfold g_X9_isSafe_b118 at hf
                refine lv_ior hx hb dX9_isSafe_118 ?_
                refine lv_istore_n (lv' := [(3, .int (s0 ||| s1)), (1, .int x1), (2, .int x2), (4, .int x4), (5, .int x5), (6, .int x6)]) hx hb dX9_isSafe_119 rfl hl (by decide) rfl (fun ls hl => ?_)
                refine lv_iinc (v := (x6 + 1)) (lv' := [(6, .int (x6 + 1)), (3, .int (s0 ||| s1)), (1, .int x1), (2, .int x2), (4, .int x4), (5, .int x5)]) hx hb dX9_isSafe_120 hl (k := 5) rfl rfl (by decide) rfl (fun ls hl => ?_)
                refine lv_goto (tgt := 70) hx hb dX9_isSafe_123 (by decide) ?_
                exact ih70 x1 x2 (s0 ||| s1) x4 x5 (x6 + 1) book H locs ls hP hD hS (lv_sub hl [2, 3, 1, 4, 5, 0] rfl) hf
              have b117 : ∀ (x1 : Int32) (x2 : Int32) (x4 : Int32) (x5 : Int32) (x6 : Int32) (s0 : Int32) (book : Nat → Int32) (H : Heap) (locs : List Loc) (ls : Array Slot), va_P D vwCl (wX9 cyI cyJ cyZ cyO h book now sights sight signs pad nights townAt townCell reason acts at_ cost hole counts worth met ways nextWays image isKept) H → va_D A (wX9 cyI cyJ cyZ cyO h book now sights sight signs pad nights townAt townCell reason acts at_ cost hole counts worth met ways nextWays image isKept) → va_S A s.heap H locs → lv_has ls 8 [(1, .int x1), (2, .int x2), (4, .int x4), (5, .int x5), (6, .int x6)] → g_X9_isSafe_b117 nf (g_X9_isSafe_l48 nf n48) (g_X9_isSafe_l60 nf (g_X9_isSafe_l48 nf n48) n60) (g_X9_isSafe_l70 nf (g_X9_isSafe_l48 nf n48) (g_X9_isSafe_l60 nf (g_X9_isSafe_l48 nf n48) n60) n70) x1 x2 x4 x5 x6 s0 book = some q → W p l e ({ frames := 2, cells := 0, slots := 0, locals := 43 } : Room) s m ([.ref (h 0), .int p1, .int p2] : List Value).toArray below meth c H locs 0 0 (MQ below (qI D (wX9 cyI cyJ cyZ cyO h book now sights sight signs pad nights townAt townCell reason acts at_ cost hole counts worth met ways nextWays image isKept) q A) ([.ref (h 0), .int p1, .int p2] : List Value).toArray s 0 0 A) (F0 m 117 ls [.int s0]) := by
                intro x1 x2 x4 x5 x6 s0 book H locs ls hP hD hS hl hf
                unfold g_X9_isSafe_b117 at hf
                refine lv_iconst (v := 0) hx hb dX9_isSafe_117 (by decide) ?_
                exact b118 x1 x2 x4 x5 x6 s0 0 book H locs ls hP hD hS (lv_sub hl [0, 1, 2, 3, 4] rfl) hf
              intro x1 x2 x3 x4 x5 x6 book H locs ls hP hD hS hl hf
              rw [g_X9_isSafe_l70] at hf
              refine lv_iload hx hb dX9_isSafe_70 (lv_at hl 5 rfl) ?_
              refine lv_iconst (v := 4) hx hb dX9_isSafe_72 (by decide) ?_
              refine lv_icmp_ge (tgt := 126) hx hb dX9_isSafe_73 (by decide) (fun cc => ?_) (fun cc => ?_)
              · replace hf := if_t cc hf
                refine lv_iinc (v := (x5 + 1)) (lv' := [(5, .int (x5 + 1)), (1, .int x1), (2, .int x2), (3, .int x3), (4, .int x4), (6, .int x6)]) hx hb dX9_isSafe_126 hl (k := 4) rfl rfl (by decide) rfl (fun ls hl => ?_)
                refine lv_goto (tgt := 60) hx hb dX9_isSafe_129 (by decide) ?_
                exact ih60 x1 x2 x3 x4 (x5 + 1) book H locs ls hP hD hS (lv_sub hl [1, 2, 3, 4, 0] rfl) hf
              · replace hf := if_f cc hf
                refine lv_iload hx hb dX9_isSafe_76 (lv_at hl 4 rfl) ?_
                refine lv_iload hx hb dX9_isSafe_78 (lv_at hl 5 rfl) ?_
                obtain ⟨q3, hq3, hf⟩ := bd_some hf
                have hC : ([] : List Nat).map (fun i => (wX9 cyI cyJ cyZ cyO h book now sights sight signs pad nights townAt townCell reason acts at_ cost hole counts worth met ways nextWays image isKept)[i]?) = ([] : va_W).map some := rfl
                refine cl_i (rn_S (As := [.int x5, .int x6]) (rest := []) hx hb hml hown hT hK hN hP hD [] hC rfl (c_X9_beside l D cyI cyJ cyZ cyO H.size x5 x6 nf q3 hq3) wm_X9_91 wt_X9_beside wz_X9 wc_X9_beside hd_X9_beside ⟨rfl, rfl⟩ ⟨Nat.le_of_ble_eq_true rfl, Nat.le_of_ble_eq_true rfl⟩ rfl hl.1 rfl (Nat.le_of_ble_eq_true rfl) dX9_isSafe_80 ⟨Nat.zero_le _, Nat.zero_le _⟩) hP hD hS hA [] hC [(false, 0), (false, 1), (false, 2), (false, 3), (false, 4), (false, 5), (false, 6), (false, 7), (false, 8), (false, 9), (false, 10), (false, 11), (false, 12), (false, 13)] (ws' := wX9 cyI cyJ cyZ cyO h book now sights sight signs pad nights townAt townCell reason acts at_ cost hole counts worth met ways nextWays image isKept) rfl rfl rfl (fun H locs hP hD hS => ?_)
                refine lv_istore (lv' := [(7, .int q3), (1, .int x1), (2, .int x2), (3, .int x3), (4, .int x4), (5, .int x5), (6, .int x6)]) hx hb dX9_isSafe_83 hl (by decide) rfl (fun ls hl => ?_)
                refine lv_iload_n hx hb dX9_isSafe_85 rfl (lv_at hl 3 rfl) ?_
                refine lv_iload hx hb dX9_isSafe_86 (lv_at hl 4 rfl) ?_
                refine lv_iload hx hb dX9_isSafe_88 (lv_at hl 5 rfl) ?_
                obtain ⟨q4, hq4, hf⟩ := bd_some hf
                have hC : ([] : List Nat).map (fun i => (wX9 cyI cyJ cyZ cyO h book now sights sight signs pad nights townAt townCell reason acts at_ cost hole counts worth met ways nextWays image isKept)[i]?) = ([] : va_W).map some := rfl
                refine cl_i (rn_S (As := [.int x4, .int x5]) (rest := [.int x3]) hx hb hml hown hT hK hN hP hD [] hC rfl (c_X9_has l D cyI cyJ cyZ cyO H.size x4 x5 nf q4 hq4) wm_X9_55 wt_X9_has wz_X9 wc_X9_has hd_X9_has ⟨rfl, rfl⟩ ⟨Nat.le_of_ble_eq_true rfl, Nat.le_of_ble_eq_true rfl⟩ rfl hl.1 rfl (Nat.le_of_ble_eq_true rfl) dX9_isSafe_90 ⟨Nat.zero_le _, Nat.zero_le _⟩) hP hD hS hA [] hC [(false, 0), (false, 1), (false, 2), (false, 3), (false, 4), (false, 5), (false, 6), (false, 7), (false, 8), (false, 9), (false, 10), (false, 11), (false, 12), (false, 13)] (ws' := wX9 cyI cyJ cyZ cyO h book now sights sight signs pad nights townAt townCell reason acts at_ cost hole counts worth met ways nextWays image isKept) rfl rfl rfl (fun H locs hP hD hS => ?_)
                refine lv_if_eq (tgt := 117) hx hb dX9_isSafe_93 (by decide) (fun cc => ?_) (fun cc => ?_)
                · replace hf := if_t cc hf
                  exact b117 x1 x2 x4 x5 x6 x3 book H locs ls hP hD hS (lv_sub hl [1, 2, 4, 5, 6] rfl) hf
                · replace hf := if_f cc hf
                  refine lv_iload hx hb dX9_isSafe_96 (lv_at hl 0 rfl) ?_
                  refine lv_if_lt (tgt := 117) hx hb dX9_isSafe_98 (by decide) (fun cc => ?_) (fun cc => ?_)
                  · replace hf := if_t cc hf
                    exact b117 x1 x2 x4 x5 x6 x3 book H locs ls hP hD hS (lv_sub hl [1, 2, 4, 5, 6] rfl) hf
                  · replace hf := if_f cc hf
                    refine lv_iload_n hx hb dX9_isSafe_101 rfl (lv_at hl 2 rfl) ?_
                    refine lv_iload hx hb dX9_isSafe_102 (lv_at hl 0 rfl) ?_
                    obtain ⟨q5, hq5, hf⟩ := bd_some hf
                    have hC : ([] : List Nat).map (fun i => (wX9 cyI cyJ cyZ cyO h book now sights sight signs pad nights townAt townCell reason acts at_ cost hole counts worth met ways nextWays image isKept)[i]?) = ([] : va_W).map some := rfl
                    refine cl_i (rn_S (As := [.int x2, .int q3]) (rest := [.int x3]) hx hb hml hown hT hK hN hP hD [] hC rfl (c_X9_has l D cyI cyJ cyZ cyO H.size x2 q3 nf q5 hq5) wm_X9_55 wt_X9_has wz_X9 wc_X9_has hd_X9_has ⟨rfl, rfl⟩ ⟨Nat.le_of_ble_eq_true rfl, Nat.le_of_ble_eq_true rfl⟩ rfl hl.1 rfl (Nat.le_of_ble_eq_true rfl) dX9_isSafe_104 ⟨Nat.zero_le _, Nat.zero_le _⟩) hP hD hS hA [] hC [(false, 0), (false, 1), (false, 2), (false, 3), (false, 4), (false, 5), (false, 6), (false, 7), (false, 8), (false, 9), (false, 10), (false, 11), (false, 12), (false, 13)] (ws' := wX9 cyI cyJ cyZ cyO h book now sights sight signs pad nights townAt townCell reason acts at_ cost hole counts worth met ways nextWays image isKept) rfl rfl rfl (fun H locs hP hD hS => ?_)
                    refine lv_if_ne (tgt := 117) hx hb dX9_isSafe_107 (by decide) (fun cc => ?_) (fun cc => ?_)
                    · replace hf := if_f cc hf
                      exact b117 x1 x2 x4 x5 x6 x3 book H locs ls hP hD hS (lv_sub hl [1, 2, 4, 5, 6] rfl) hf
                    · replace hf := if_t cc hf
                      refine lv_iconst (v := 1) hx hb dX9_isSafe_110 (by decide) ?_
                      refine lv_iload hx hb dX9_isSafe_111 (lv_at hl 0 rfl) ?_
                      refine lv_ishl hx hb dX9_isSafe_113 ?_
                      refine lv_goto (tgt := 118) hx hb dX9_isSafe_114 (by decide) ?_
                      exact b118 x1 x2 x4 x5 x6 x3 ((1 : Int32) <<< (q3 &&& 31)) book H locs ls hP hD hS (lv_sub hl [1, 2, 4, 5, 6] rfl) hf
          intro x1 x2 x3 x4 x5 book H locs ls hP hD hS hl hf
          rw [g_X9_isSafe_l60] at hf
          refine lv_iload hx hb dX9_isSafe_60 (lv_at hl 4 rfl) ?_
          refine lv_bipush (v := 25) hx hb dX9_isSafe_62 (by decide) ?_
          refine lv_icmp_ge (tgt := 132) hx hb dX9_isSafe_64 (by decide) (fun cc => ?_) (fun cc => ?_)
          · replace hf := if_t cc hf
            refine lv_goto (tgt := 48) hx hb dX9_isSafe_132 (by decide) ?_
            exact ih48 x1 x2 x3 x4 book H locs ls hP hD hS (lv_sub hl [0, 1, 2, 3] rfl) hf
          · replace hf := if_f cc hf
            refine lv_iconst (v := 0) hx hb dX9_isSafe_67 (by decide) ?_
            refine lv_istore (lv' := [(6, .int 0), (1, .int x1), (2, .int x2), (3, .int x3), (4, .int x4), (5, .int x5)]) hx hb dX9_isSafe_68 hl (by decide) rfl (fun ls hl => ?_)
            exact l70 nf x1 x2 x3 x4 x5 0 book H locs ls hP hD hS (lv_sub hl [1, 2, 3, 4, 5, 0] rfl) hf
      intro x1 x2 x3 x4 book H locs ls hP hD hS hl hf
      rw [g_X9_isSafe_l48] at hf
      refine lv_iload_n hx hb dX9_isSafe_48 rfl (lv_at hl 2 rfl) ?_
      refine lv_iload hx hb dX9_isSafe_49 (lv_at hl 3 rfl) ?_
      refine lv_icmp_eq (tgt := 135) hx hb dX9_isSafe_51 (by decide) (fun cc => ?_) (fun cc => ?_)
      · replace hf := if_t cc hf
        refine lv_iload_n hx hb dX9_isSafe_135 rfl (lv_at hl 2 rfl) ?_
        refine lv_iload_n hx hb dX9_isSafe_136 rfl (lv_at hl 0 rfl) ?_
        obtain ⟨q2, hq2, hf⟩ := bd_some hf
        have hC : ([] : List Nat).map (fun i => (wX9 cyI cyJ cyZ cyO h book now sights sight signs pad nights townAt townCell reason acts at_ cost hole counts worth met ways nextWays image isKept)[i]?) = ([] : va_W).map some := rfl
        refine cl_i (rn_S (As := [.int x3, .int x1]) (rest := []) hx hb hml hown hT hK hN hP hD [] hC rfl (c_X9_has l D cyI cyJ cyZ cyO H.size x3 x1 nf q2 hq2) wm_X9_55 wt_X9_has wz_X9 wc_X9_has hd_X9_has ⟨rfl, rfl⟩ ⟨Nat.le_of_ble_eq_true rfl, Nat.le_of_ble_eq_true rfl⟩ rfl hl.1 rfl (Nat.le_of_ble_eq_true rfl) dX9_isSafe_137 ⟨Nat.zero_le _, Nat.zero_le _⟩) hP hD hS hA [] hC [(false, 0), (false, 1), (false, 2), (false, 3), (false, 4), (false, 5), (false, 6), (false, 7), (false, 8), (false, 9), (false, 10), (false, 11), (false, 12), (false, 13)] (ws' := wX9 cyI cyJ cyZ cyO h book now sights sight signs pad nights townAt townCell reason acts at_ cost hole counts worth met ways nextWays image isKept) rfl rfl rfl (fun H locs hP hD hS => ?_)
        refine lv_if_ne (tgt := 147) hx hb dX9_isSafe_140 (by decide) (fun cc => ?_) (fun cc => ?_)
        · replace hf := if_f cc hf
          refine lv_iconst (v := 0) hx hb dX9_isSafe_147 (by decide) ?_
          obtain ⟨hz, hf⟩ := bz_some hf
          cases Option.some.inj hf
          exact W.zret hx hb hr (bz_nar hz).2 (fun t ht hW => ⟨⟨_, (), rfl, rfl, by show va_P D vwCl _ t.heap; rw [ht]; exact hP⟩, hS.F ht⟩) hS.2.2 dX9_isSafe_148
        · replace hf := if_t cc hf
          refine lv_iconst (v := 1) hx hb dX9_isSafe_143 (by decide) ?_
          refine lv_goto (tgt := 148) hx hb dX9_isSafe_144 (by decide) ?_
          obtain ⟨hz, hf⟩ := bz_some hf
          cases Option.some.inj hf
          exact W.zret hx hb hr (bz_nar hz).2 (fun t ht hW => ⟨⟨_, (), rfl, rfl, by show va_P D vwCl _ t.heap; rw [ht]; exact hP⟩, hS.F ht⟩) hS.2.2 dX9_isSafe_148
      · replace hf := if_f cc hf
        refine lv_iload_n hx hb dX9_isSafe_54 rfl (lv_at hl 2 rfl) ?_
        refine lv_istore (lv' := [(4, .int x3), (1, .int x1), (2, .int x2), (3, .int x3)]) hx hb dX9_isSafe_55 hl (by decide) rfl (fun ls hl => ?_)
        refine lv_iconst (v := 0) hx hb dX9_isSafe_57 (by decide) ?_
        refine lv_istore (lv' := [(5, .int 0), (4, .int x3), (1, .int x1), (2, .int x2), (3, .int x3)]) hx hb dX9_isSafe_58 hl (by decide) rfl (fun ls hl => ?_)
        exact l60 nf x1 x2 x3 x3 0 book H locs ls hP hD hS (lv_sub hl [2, 3, 4, 1, 0] rfl) hf
  have l5 : ∀ (n5 : Nat) (x1 : Int32) (x2 : Int32) (x3 : Int32) (x4 : Int32) (book : Nat → Int32) (H : Heap) (locs : List Loc) (ls : Array Slot), va_P D vwCl (wX9 cyI cyJ cyZ cyO h book now sights sight signs pad nights townAt townCell reason acts at_ cost hole counts worth met ways nextWays image isKept) H → va_D A (wX9 cyI cyJ cyZ cyO h book now sights sight signs pad nights townAt townCell reason acts at_ cost hole counts worth met ways nextWays image isKept) → va_S A s.heap H locs → lv_has ls 8 [(0, .ref (h 0)), (1, .int x1), (2, .int x2), (3, .int x3), (4, .int x4)] → g_X9_isSafe_l5 nf n5 x1 x2 x3 x4 book = some q → W p l e ({ frames := 2, cells := 0, slots := 0, locals := 43 } : Room) s m ([.ref (h 0), .int p1, .int p2] : List Value).toArray below meth c H locs 0 0 (MQ below (qI D (wX9 cyI cyJ cyZ cyO h book now sights sight signs pad nights townAt townCell reason acts at_ cost hole counts worth met ways nextWays image isKept) q A) ([.ref (h 0), .int p1, .int p2] : List Value).toArray s 0 0 A) (F0 m 5 ls []) := by
    intro n5
    induction n5 with
    | zero =>
      intro x1 x2 x3 x4 book H locs ls hP hD hS hl hf
      rw [g_X9_isSafe_l5] at hf
      cases hf
    | succ n5 ih5 =>
      have b37 : ∀ (x1 : Int32) (x2 : Int32) (x4 : Int32) (s0 : Int32) (s1 : Int32) (book : Nat → Int32) (H : Heap) (locs : List Loc) (ls : Array Slot), va_P D vwCl (wX9 cyI cyJ cyZ cyO h book now sights sight signs pad nights townAt townCell reason acts at_ cost hole counts worth met ways nextWays image isKept) H → va_D A (wX9 cyI cyJ cyZ cyO h book now sights sight signs pad nights townAt townCell reason acts at_ cost hole counts worth met ways nextWays image isKept) → va_S A s.heap H locs → lv_has ls 8 [(0, .ref (h 0)), (1, .int x1), (2, .int x2), (4, .int x4)] → g_X9_isSafe_b37 nf (g_X9_isSafe_l5 nf n5) x1 x2 x4 s0 s1 book = some q → W p l e ({ frames := 2, cells := 0, slots := 0, locals := 43 } : Room) s m ([.ref (h 0), .int p1, .int p2] : List Value).toArray below meth c H locs 0 0 (MQ below (qI D (wX9 cyI cyJ cyZ cyO h book now sights sight signs pad nights townAt townCell reason acts at_ cost hole counts worth met ways nextWays image isKept) q A) ([.ref (h 0), .int p1, .int p2] : List Value).toArray s 0 0 A) (F0 m 37 ls [.int s1, .int s0]) := by
        intro x1 x2 x4 s0 s1 book H locs ls hP hD hS hl hf
        unfold g_X9_isSafe_b37 at hf
        refine lv_ior hx hb dX9_isSafe_37 ?_
        refine lv_istore_n (lv' := [(3, .int (s0 ||| s1)), (0, .ref (h 0)), (1, .int x1), (2, .int x2), (4, .int x4)]) hx hb dX9_isSafe_38 rfl hl (by decide) rfl (fun ls hl => ?_)
        refine lv_iinc (v := (x4 + 1)) (lv' := [(4, .int (x4 + 1)), (3, .int (s0 ||| s1)), (0, .ref (h 0)), (1, .int x1), (2, .int x2)]) hx hb dX9_isSafe_39 hl (k := 4) rfl rfl (by decide) rfl (fun ls hl => ?_)
        refine lv_goto (tgt := 5) hx hb dX9_isSafe_42 (by decide) ?_
        exact ih5 x1 x2 (s0 ||| s1) (x4 + 1) book H locs ls hP hD hS (lv_sub hl [2, 3, 4, 1, 0] rfl) hf
      intro x1 x2 x3 x4 book H locs ls hP hD hS hl hf
      rw [g_X9_isSafe_l5] at hf
      refine lv_iload hx hb dX9_isSafe_5 (lv_at hl 4 rfl) ?_
      refine lv_iconst (v := 4) hx hb dX9_isSafe_7 (by decide) ?_
      refine lv_icmp_ge (tgt := 45) hx hb dX9_isSafe_8 (by decide) (fun cc => ?_) (fun cc => ?_)
      · replace hf := if_t cc hf
        refine lv_iconst (v := (-1)) hx hb dX9_isSafe_45 (by decide) ?_
        refine lv_istore (lv' := [(4, .int (-1)), (0, .ref (h 0)), (1, .int x1), (2, .int x2), (3, .int x3)]) hx hb dX9_isSafe_46 hl (by decide) rfl (fun ls hl => ?_)
        exact l48 nf x1 x2 x3 (-1) book H locs ls hP hD hS (lv_sub hl [2, 3, 4, 0] rfl) hf
      · replace hf := if_f cc hf
        refine lv_iload_n hx hb dX9_isSafe_11 rfl (lv_at hl 3 rfl) ?_
        refine lv_aload_n hx hb dX9_isSafe_12 rfl (lv_at hl 0 rfl) ?_
        refine lv_iload hx hb dX9_isSafe_13 (lv_at hl 4 rfl) ?_
        obtain ⟨q1, hq1, hf⟩ := bd_some hf
        have hC : [0, 1, 2, 3, 4, 5, 6, 7, 8, 9, 10, 11, 12, 13].map (fun i => (wX9 cyI cyJ cyZ cyO h book now sights sight signs pad nights townAt townCell reason acts at_ cost hole counts worth met ways nextWays image isKept)[i]?) = (wX9 cyI cyJ cyZ cyO h book now sights sight signs pad nights townAt townCell reason acts at_ cost hole counts worth met ways nextWays image isKept).map some := rfl
        refine cl_i (rn_V (As := [.int x4]) (rest := [.int x3]) (C := RX9) hx hb hml hown hT hK hN hP hD [0, 1, 2, 3, 4, 5, 6, 7, 8, 9, 10, 11, 12, 13] hC rfl (c_X9_isThere l D cyI cyJ cyZ cyO h H.size book now sights sight signs pad nights townAt townCell reason acts at_ cost hole counts worth met ways nextWays image isKept x4 nf q1 hq1) wm_X9_134 wi_X9_isThere wl_X9_isThere wz_X9 wc_X9_isThere hd_X9_isThere ⟨rfl, rfl⟩ ⟨Nat.le_of_ble_eq_true rfl, Nat.le_of_ble_eq_true rfl⟩ (q0 := 0) (ci := 9) rfl rfl rfl rfl hl.1 rfl (Nat.le_of_ble_eq_true rfl) dX9_isSafe_15 ⟨Nat.zero_le _, Nat.zero_le _⟩) hP hD hS hA [0, 1, 2, 3, 4, 5, 6, 7, 8, 9, 10, 11, 12, 13] hC [(true, 0), (true, 1), (true, 2), (true, 3), (true, 4), (true, 5), (true, 6), (true, 7), (true, 8), (true, 9), (true, 10), (true, 11), (true, 12), (true, 13)] (ws' := wX9 cyI cyJ cyZ cyO h book now sights sight signs pad nights townAt townCell reason acts at_ cost hole counts worth met ways nextWays image isKept) rfl rfl rfl (fun H locs hP hD hS => ?_)
        refine lv_if_eq (tgt := 36) hx hb dX9_isSafe_18 (by decide) (fun cc => ?_) (fun cc => ?_)
        · replace hf := if_t cc hf
          refine lv_iconst (v := 0) hx hb dX9_isSafe_36 (by decide) ?_
          exact b37 x1 x2 x4 x3 0 book H locs ls hP hD hS (lv_sub hl [0, 1, 2, 4] rfl) hf
        · replace hf := if_f cc hf
          refine lv_iconst (v := 1) hx hb dX9_isSafe_21 (by decide) ?_
          refine lv_aload_n hx hb dX9_isSafe_22 rfl (lv_at hl 0 rfl) ?_
          refine va_get (ci := 9) (v := .ref (h 1)) (C := RX9) (T := TX9) (N := 21) hx hb hT hin_X9 hown hK hP 0 rfl rfl 0 (by decide) (hT _ wf_X9_7) (fun _ h9 => h9) rfl dX9_isSafe_23 ?_
          refine lv_bipush (v := 50) hx hb dX9_isSafe_26 (by decide) ?_
          refine lv_iload hx hb dX9_isSafe_28 (lv_at hl 4 rfl) ?_
          refine lv_iadd hx hb dX9_isSafe_30 ?_
          obtain ⟨hi, hf⟩ := ck_some hf
          refine va_iald hx hb hK hP 1 0 rfl rfl hi dX9_isSafe_31 ?_
          refine lv_ishl hx hb dX9_isSafe_32 ?_
          refine lv_goto (tgt := 37) hx hb dX9_isSafe_33 (by decide) ?_
          exact b37 x1 x2 x4 x3 ((1 : Int32) <<< ((book (50 + x4).toNatClampNeg) &&& 31)) book H locs ls hP hD hS (lv_sub hl [0, 1, 2, 4] rfl) hf
  have main : ∀ (H : Heap) (locs : List Loc) (ls : Array Slot), va_P D vwCl (wX9 cyI cyJ cyZ cyO h book now sights sight signs pad nights townAt townCell reason acts at_ cost hole counts worth met ways nextWays image isKept) H → va_D A (wX9 cyI cyJ cyZ cyO h book now sights sight signs pad nights townAt townCell reason acts at_ cost hole counts worth met ways nextWays image isKept) → va_S A s.heap H locs → lv_has ls 8 [(0, .ref (h 0)), (1, .int p1), (2, .int p2)] → W p l e ({ frames := 2, cells := 0, slots := 0, locals := 43 } : Room) s m ([.ref (h 0), .int p1, .int p2] : List Value).toArray below meth c H locs 0 0 (MQ below (qI D (wX9 cyI cyJ cyZ cyO h book now sights sight signs pad nights townAt townCell reason acts at_ cost hole counts worth met ways nextWays image isKept) q A) ([.ref (h 0), .int p1, .int p2] : List Value).toArray s 0 0 A) (F0 m 0 ls []) := by
    intro H locs ls hP hD hS hl
    unfold g_X9_isSafe at hf
    refine lv_iconst (v := 0) hx hb dX9_isSafe_0 (by decide) ?_
    refine lv_istore_n (lv' := [(3, .int 0), (0, .ref (h 0)), (1, .int p1), (2, .int p2)]) hx hb dX9_isSafe_1 rfl hl (by decide) rfl (fun ls hl => ?_)
    refine lv_iconst (v := 0) hx hb dX9_isSafe_2 (by decide) ?_
    refine lv_istore (lv' := [(4, .int 0), (3, .int 0), (0, .ref (h 0)), (1, .int p1), (2, .int p2)]) hx hb dX9_isSafe_3 hl (by decide) rfl (fun ls hl => ?_)
    exact l5 nf p1 p2 0 0 book H locs ls hP hD hS (lv_sub hl [2, 3, 4, 1, 0] rfl) hf
  have hl := lv_entry ([.ref (h 0), .int p1, .int p2]) (n := 8) (Nat.le_of_ble_eq_true rfl)
  rw [lg_entry_eq]
  exact main s.heap [] _ hP hD hS hl
theorem hd_X9_bits : yX9_bits.cls ≠ "java/lang/invoke/MethodHandle" ∧ yX9_bits.cls ≠ "java/lang/invoke/VarHandle" ∧ (parseMethodDescriptor yX9_bits.desc).map (fun d => d.parameters.length) = some 1 := by decide +kernel
set_option maxHeartbeats 4000000 in
set_option maxRecDepth 100000 in
theorem c_X9_bits (l : Launch) (D : va_G) (cyI cyJ cyZ cyO : ClassId) (sz : Nat) (p0 : Int32) (nf : Nat) (q : Int32) (hf : g_X9_bits nf p0 = some q) : Met l yX9_bits (Cond.code yX9_bits cX9_bits 3 (some .int) :: tbG) ({ frames := 0, cells := 0, slots := 0, locals := 0 } : Room) (va_Pc [.int p0] (pcB D (ty4 cyI cyJ cyZ cyO) sz (([] : va_W)))) (qI D (([] : va_W)) q (va_A (([] : va_W)) sz)) 0 0 (va_A (([] : va_W)) sz) := by
  refine Met.ofW (cc := cX9_bits) (maxL := 3) (ret := (some .int)) (by decide) rfl ?_
  intro p e s m args below meth c s₁ B hml hv
  obtain ⟨rfl, hsz, hP, hK, hD0, hN⟩ := hv
  have hx := B.exec
  have hb := B.bytes
  have hr := B.returns
  have hT : ∀ w ∈ tbG, w.before ([.int p0] : List Value).toArray s = true := fun w h => atoms_spec (ws := (Cond.code yX9_bits cX9_bits 3 (some .int) :: tbG)) B.pre w (List.mem_cons_of_mem _ h)
  have hown : s.vm.findClass RX9 = some m.cls := findClass_of_methodNamed B.named
  have hlocks := B.notSynchronized
  subst hsz
  have hD := hD0.self (sz := s.heap.size)
  generalize hAe : va_A (([] : va_W)) s.heap.size = A at hD ⊢
  have hA : ∀ q : Nat, s.heap.size ≤ q → A q := fun q h => by rw [← hAe]; exact Or.inr h
  have hS : va_S A s.heap s.heap [] := va_S.rf
  show W p l e ({ frames := 0, cells := 0, slots := 0, locals := 0 } : Room) s m ([.int p0] : List Value).toArray below meth c s.heap [] 0 0 (MQ below (qI D (([] : va_W)) q A) ([.int p0] : List Value).toArray s 0 0 A) _
  have l4 : ∀ (n4 : Nat) (x0 : Int32) (x1 : Int32) (x2 : Int32) (H : Heap) (locs : List Loc) (ls : Array Slot), va_P D vwCl (([] : va_W)) H → va_D A (([] : va_W)) → va_S A s.heap H locs → lv_has ls 3 [(0, .int x0), (1, .int x1), (2, .int x2)] → g_X9_bits_l4 nf n4 x0 x1 x2 = some q → W p l e ({ frames := 0, cells := 0, slots := 0, locals := 0 } : Room) s m ([.int p0] : List Value).toArray below meth c H locs 0 0 (MQ below (qI D (([] : va_W)) q A) ([.int p0] : List Value).toArray s 0 0 A) (F0 m 4 ls []) := by
    intro n4
    induction n4 with
    | zero =>
      intro x0 x1 x2 H locs ls hP hD hS hl hf
      rw [g_X9_bits_l4] at hf
      cases hf
    | succ n4 ih4 =>
      intro x0 x1 x2 H locs ls hP hD hS hl hf
      rw [g_X9_bits_l4] at hf
      refine lv_iload_n hx hb dX9_bits_4 rfl (lv_at hl 2 rfl) ?_
      refine lv_bipush (v := 25) hx hb dX9_bits_5 (by decide) ?_
      refine lv_icmp_ge (tgt := 24) hx hb dX9_bits_7 (by decide) (fun cc => ?_) (fun cc => ?_)
      · replace hf := if_t cc hf
        refine lv_iload_n hx hb dX9_bits_24 rfl (lv_at hl 1 rfl) ?_
        cases Option.some.inj hf
        exact W.iret hx hb hr (fun t ht hW => ⟨⟨_, (), rfl, rfl, by show va_P D vwCl _ t.heap; rw [ht]; exact hP⟩, hS.F ht⟩) hS.2.2 dX9_bits_25
      · replace hf := if_f cc hf
        refine lv_iload_n hx hb dX9_bits_10 rfl (lv_at hl 1 rfl) ?_
        refine lv_iload_n hx hb dX9_bits_11 rfl (lv_at hl 0 rfl) ?_
        refine lv_iload_n hx hb dX9_bits_12 rfl (lv_at hl 2 rfl) ?_
        refine lv_ishr hx hb dX9_bits_13 ?_
        refine lv_iconst (v := 1) hx hb dX9_bits_14 (by decide) ?_
        refine lv_iand hx hb dX9_bits_15 ?_
        refine lv_iadd hx hb dX9_bits_16 ?_
        refine lv_istore_n (lv' := [(1, .int (x1 + ((x0 >>> (x2 &&& 31)) &&& (1 : Int32)))), (0, .int x0), (2, .int x2)]) hx hb dX9_bits_17 rfl hl (by decide) rfl (fun ls hl => ?_)
        refine lv_iinc (v := (x2 + 1)) (lv' := [(2, .int (x2 + 1)), (1, .int (x1 + ((x0 >>> (x2 &&& 31)) &&& (1 : Int32)))), (0, .int x0)]) hx hb dX9_bits_18 hl (k := 2) rfl rfl (by decide) rfl (fun ls hl => ?_)
        refine lv_goto (tgt := 4) hx hb dX9_bits_21 (by decide) ?_
        exact ih4 x0 (x1 + ((x0 >>> (x2 &&& 31)) &&& (1 : Int32))) (x2 + 1) H locs ls hP hD hS (lv_sub hl [2, 1, 0] rfl) hf
  have main : ∀ (H : Heap) (locs : List Loc) (ls : Array Slot), va_P D vwCl (([] : va_W)) H → va_D A (([] : va_W)) → va_S A s.heap H locs → lv_has ls 3 [(0, .int p0)] → W p l e ({ frames := 0, cells := 0, slots := 0, locals := 0 } : Room) s m ([.int p0] : List Value).toArray below meth c H locs 0 0 (MQ below (qI D (([] : va_W)) q A) ([.int p0] : List Value).toArray s 0 0 A) (F0 m 0 ls []) := by
    intro H locs ls hP hD hS hl
    unfold g_X9_bits at hf
    refine lv_iconst (v := 0) hx hb dX9_bits_0 (by decide) ?_
    refine lv_istore_n (lv' := [(1, .int 0), (0, .int p0)]) hx hb dX9_bits_1 rfl hl (by decide) rfl (fun ls hl => ?_)
    refine lv_iconst (v := 0) hx hb dX9_bits_2 (by decide) ?_
    refine lv_istore_n (lv' := [(2, .int 0), (1, .int 0), (0, .int p0)]) hx hb dX9_bits_3 rfl hl (by decide) rfl (fun ls hl => ?_)
    exact l4 nf p0 0 0 H locs ls hP hD hS (lv_sub hl [2, 1, 0] rfl) hf
  have hl := lv_entry ([.int p0]) (n := 3) (Nat.le_of_ble_eq_true rfl)
  rw [lg_entry_eq]
  exact main s.heap [] _ hP hD hS hl
theorem hd_X9_tryShut : yX9_tryShut.cls = RX9 ∧ yX9_tryShut.cls ≠ "java/lang/invoke/MethodHandle" ∧ yX9_tryShut.cls ≠ "java/lang/invoke/VarHandle" ∧ (parseMethodDescriptor yX9_tryShut.desc).map (fun d => d.parameters.length) = some 3 := by decide +kernel
set_option maxHeartbeats 4000000 in
set_option maxRecDepth 100000 in
theorem c_X9_tryShut (l : Launch) (D : va_G) (cyI cyJ cyZ cyO : ClassId) (h : Nat → Nat) (sz : Nat) (book : Nat → Int32) (now : Nat → Int32) (sights : Int32) (sight : Nat → Int32) (signs : Int32) (pad : Nat → Int32) (nights : Int32) (townAt : Int32) (townCell : Int32) (reason : Int32) (acts : Int32) (at_ : Int32) (cost : Nat → Int32) (hole : Nat → Int32) (counts : Nat → Int32) (worth : Nat → Int32) (met : Nat → Int32) (ways : Nat → Int64) (nextWays : Nat → Int64) (image : Nat → Int32) (isKept : Nat → Int32) (p1 : Int32) (p2 : Int32) (p3 : Int32) (nf : Nat) (q : Int32) (hf : g_X9_tryShut nf p1 p2 p3 book = some q) : Met l yX9_tryShut (Cond.code yX9_tryShut cX9_tryShut 10 (some .int) :: tbG) ({ frames := 3, cells := 0, slots := 0, locals := 70 } : Room) (va_Pc [.ref (h 0), .int p1, .int p2, .int p3] (pcB D (ty4 cyI cyJ cyZ cyO) sz (wX9 cyI cyJ cyZ cyO h book now sights sight signs pad nights townAt townCell reason acts at_ cost hole counts worth met ways nextWays image isKept))) (qI D (wX9 cyI cyJ cyZ cyO h book now sights sight signs pad nights townAt townCell reason acts at_ cost hole counts worth met ways nextWays image isKept) q (va_A (wX9 cyI cyJ cyZ cyO h book now sights sight signs pad nights townAt townCell reason acts at_ cost hole counts worth met ways nextWays image isKept) sz)) 0 0 (va_A (wX9 cyI cyJ cyZ cyO h book now sights sight signs pad nights townAt townCell reason acts at_ cost hole counts worth met ways nextWays image isKept) sz) := by
  refine Met.ofW (cc := cX9_tryShut) (maxL := 10) (ret := (some .int)) (by decide) rfl ?_
  intro p e s m args below meth c s₁ B hml hv
  obtain ⟨rfl, hsz, hP, hK, hD0, hN⟩ := hv
  have hx := B.exec
  have hb := B.bytes
  have hr := B.returns
  have hT : ∀ w ∈ tbG, w.before ([.ref (h 0), .int p1, .int p2, .int p3] : List Value).toArray s = true := fun w h => atoms_spec (ws := (Cond.code yX9_tryShut cX9_tryShut 10 (some .int) :: tbG)) B.pre w (List.mem_cons_of_mem _ h)
  have hown : s.vm.findClass RX9 = some m.cls := findClass_of_methodNamed B.named
  have hlocks := B.notSynchronized
  subst hsz
  have hD := hD0.self (sz := s.heap.size)
  generalize hAe : va_A (wX9 cyI cyJ cyZ cyO h book now sights sight signs pad nights townAt townCell reason acts at_ cost hole counts worth met ways nextWays image isKept) s.heap.size = A at hD ⊢
  have hA : ∀ q : Nat, s.heap.size ≤ q → A q := fun q h => by rw [← hAe]; exact Or.inr h
  have hS : va_S A s.heap s.heap [] := va_S.rf
  show W p l e ({ frames := 3, cells := 0, slots := 0, locals := 70 } : Room) s m ([.ref (h 0), .int p1, .int p2, .int p3] : List Value).toArray below meth c s.heap [] 0 0 (MQ below (qI D (wX9 cyI cyJ cyZ cyO h book now sights sight signs pad nights townAt townCell reason acts at_ cost hole counts worth met ways nextWays image isKept) q A) ([.ref (h 0), .int p1, .int p2, .int p3] : List Value).toArray s 0 0 A) _
  have l23 : ∀ (n23 : Nat) (x1 : Int32) (x2 : Int32) (x3 : Int32) (x4 : Int32) (book : Nat → Int32) (H : Heap) (locs : List Loc) (ls : Array Slot), va_P D vwCl (wX9 cyI cyJ cyZ cyO h book now sights sight signs pad nights townAt townCell reason acts at_ cost hole counts worth met ways nextWays image isKept) H → va_D A (wX9 cyI cyJ cyZ cyO h book now sights sight signs pad nights townAt townCell reason acts at_ cost hole counts worth met ways nextWays image isKept) → va_S A s.heap H locs → lv_has ls 10 [(0, .ref (h 0)), (1, .int x1), (2, .int x2), (3, .int x3), (4, .int x4)] → g_X9_tryShut_l23 nf n23 x1 x2 x3 x4 book = some q → W p l e ({ frames := 3, cells := 0, slots := 0, locals := 70 } : Room) s m ([.ref (h 0), .int p1, .int p2, .int p3] : List Value).toArray below meth c H locs 0 0 (MQ below (qI D (wX9 cyI cyJ cyZ cyO h book now sights sight signs pad nights townAt townCell reason acts at_ cost hole counts worth met ways nextWays image isKept) q A) ([.ref (h 0), .int p1, .int p2, .int p3] : List Value).toArray s 0 0 A) (F0 m 23 ls []) := by
    intro n23
    induction n23 with
    | zero =>
      intro x1 x2 x3 x4 book H locs ls hP hD hS hl hf
      rw [g_X9_tryShut_l23] at hf
      cases hf
    | succ n23 ih23 =>
      have b239 : ∀ (x1 : Int32) (x2 : Int32) (x3 : Int32) (x4 : Int32) (book : Nat → Int32) (H : Heap) (locs : List Loc) (ls : Array Slot), va_P D vwCl (wX9 cyI cyJ cyZ cyO h book now sights sight signs pad nights townAt townCell reason acts at_ cost hole counts worth met ways nextWays image isKept) H → va_D A (wX9 cyI cyJ cyZ cyO h book now sights sight signs pad nights townAt townCell reason acts at_ cost hole counts worth met ways nextWays image isKept) → va_S A s.heap H locs → lv_has ls 10 [(0, .ref (h 0)), (1, .int x1), (2, .int x2), (3, .int x3), (4, .int x4)] → g_X9_tryShut_b239 nf (g_X9_tryShut_l23 nf n23) x1 x2 x3 x4 book = some q → W p l e ({ frames := 3, cells := 0, slots := 0, locals := 70 } : Room) s m ([.ref (h 0), .int p1, .int p2, .int p3] : List Value).toArray below meth c H locs 0 0 (MQ below (qI D (wX9 cyI cyJ cyZ cyO h book now sights sight signs pad nights townAt townCell reason acts at_ cost hole counts worth met ways nextWays image isKept) q A) ([.ref (h 0), .int p1, .int p2, .int p3] : List Value).toArray s 0 0 A) (F0 m 239 ls []) := by
        intro x1 x2 x3 x4 book H locs ls hP hD hS hl hf
        unfold g_X9_tryShut_b239 at hf
        refine lv_iinc (v := (x4 + 1)) (lv' := [(4, .int (x4 + 1)), (0, .ref (h 0)), (1, .int x1), (2, .int x2), (3, .int x3)]) hx hb dX9_tryShut_239 hl (k := 4) rfl rfl (by decide) rfl (fun ls hl => ?_)
        refine lv_goto (tgt := 23) hx hb dX9_tryShut_242 (by decide) ?_
        exact ih23 x1 x2 x3 (x4 + 1) book H locs ls hP hD hS (lv_sub hl [1, 2, 3, 4, 0] rfl) hf
      have l67 : ∀ (n67 : Nat) (x1 : Int32) (x2 : Int32) (x3 : Int32) (x4 : Int32) (x5 : Int32) (book : Nat → Int32) (H : Heap) (locs : List Loc) (ls : Array Slot), va_P D vwCl (wX9 cyI cyJ cyZ cyO h book now sights sight signs pad nights townAt townCell reason acts at_ cost hole counts worth met ways nextWays image isKept) H → va_D A (wX9 cyI cyJ cyZ cyO h book now sights sight signs pad nights townAt townCell reason acts at_ cost hole counts worth met ways nextWays image isKept) → va_S A s.heap H locs → lv_has ls 10 [(0, .ref (h 0)), (1, .int x1), (2, .int x2), (3, .int x3), (4, .int x4), (5, .int x5)] → g_X9_tryShut_l67 nf (g_X9_tryShut_l23 nf n23) n67 x1 x2 x3 x4 x5 book = some q → W p l e ({ frames := 3, cells := 0, slots := 0, locals := 70 } : Room) s m ([.ref (h 0), .int p1, .int p2, .int p3] : List Value).toArray below meth c H locs 0 0 (MQ below (qI D (wX9 cyI cyJ cyZ cyO h book now sights sight signs pad nights townAt townCell reason acts at_ cost hole counts worth met ways nextWays image isKept) q A) ([.ref (h 0), .int p1, .int p2, .int p3] : List Value).toArray s 0 0 A) (F0 m 67 ls []) := by
        intro n67
        induction n67 with
        | zero =>
          intro x1 x2 x3 x4 x5 book H locs ls hP hD hS hl hf
          rw [g_X9_tryShut_l67] at hf
          cases hf
        | succ n67 ih67 =>
          have b233 : ∀ (x1 : Int32) (x2 : Int32) (x3 : Int32) (x4 : Int32) (x5 : Int32) (book : Nat → Int32) (H : Heap) (locs : List Loc) (ls : Array Slot), va_P D vwCl (wX9 cyI cyJ cyZ cyO h book now sights sight signs pad nights townAt townCell reason acts at_ cost hole counts worth met ways nextWays image isKept) H → va_D A (wX9 cyI cyJ cyZ cyO h book now sights sight signs pad nights townAt townCell reason acts at_ cost hole counts worth met ways nextWays image isKept) → va_S A s.heap H locs → lv_has ls 10 [(0, .ref (h 0)), (1, .int x1), (2, .int x2), (3, .int x3), (4, .int x4), (5, .int x5)] → g_X9_tryShut_b233 nf (g_X9_tryShut_l23 nf n23) (g_X9_tryShut_l67 nf (g_X9_tryShut_l23 nf n23) n67) x1 x2 x3 x4 x5 book = some q → W p l e ({ frames := 3, cells := 0, slots := 0, locals := 70 } : Room) s m ([.ref (h 0), .int p1, .int p2, .int p3] : List Value).toArray below meth c H locs 0 0 (MQ below (qI D (wX9 cyI cyJ cyZ cyO h book now sights sight signs pad nights townAt townCell reason acts at_ cost hole counts worth met ways nextWays image isKept) q A) ([.ref (h 0), .int p1, .int p2, .int p3] : List Value).toArray s 0 0 A) (F0 m 233 ls []) := by
            intro x1 x2 x3 x4 x5 book H locs ls hP hD hS hl hf
            unfold g_X9_tryShut_b233 at hf
            refine lv_iinc (v := (x5 + 1)) (lv' := [(5, .int (x5 + 1)), (0, .ref (h 0)), (1, .int x1), (2, .int x2), (3, .int x3), (4, .int x4)]) hx hb dX9_tryShut_233 hl (k := 5) rfl rfl (by decide) rfl (fun ls hl => ?_)
            refine lv_goto (tgt := 67) hx hb dX9_tryShut_236 (by decide) ?_
            exact ih67 x1 x2 x3 x4 (x5 + 1) book H locs ls hP hD hS (lv_sub hl [1, 2, 3, 4, 5, 0] rfl) hf
          have l123 : ∀ (n123 : Nat) (x1 : Int32) (x2 : Int32) (x3 : Int32) (x4 : Int32) (x5 : Int32) (x6 : Int32) (x7 : Int32) (book : Nat → Int32) (H : Heap) (locs : List Loc) (ls : Array Slot), va_P D vwCl (wX9 cyI cyJ cyZ cyO h book now sights sight signs pad nights townAt townCell reason acts at_ cost hole counts worth met ways nextWays image isKept) H → va_D A (wX9 cyI cyJ cyZ cyO h book now sights sight signs pad nights townAt townCell reason acts at_ cost hole counts worth met ways nextWays image isKept) → va_S A s.heap H locs → lv_has ls 10 [(0, .ref (h 0)), (1, .int x1), (2, .int x2), (3, .int x3), (4, .int x4), (5, .int x5), (6, .int x6), (7, .int x7)] → g_X9_tryShut_l123 nf (g_X9_tryShut_l23 nf n23) (g_X9_tryShut_l67 nf (g_X9_tryShut_l23 nf n23) n67) n123 x1 x2 x3 x4 x5 x6 x7 book = some q → W p l e ({ frames := 3, cells := 0, slots := 0, locals := 70 } : Room) s m ([.ref (h 0), .int p1, .int p2, .int p3] : List Value).toArray below meth c H locs 0 0 (MQ below (qI D (wX9 cyI cyJ cyZ cyO h book now sights sight signs pad nights townAt townCell reason acts at_ cost hole counts worth met ways nextWays image isKept) q A) ([.ref (h 0), .int p1, .int p2, .int p3] : List Value).toArray s 0 0 A) (F0 m 123 ls []) := by
            intro n123
            induction n123 with
            | zero =>
              intro x1 x2 x3 x4 x5 x6 x7 book H locs ls hP hD hS hl hf
              rw [g_X9_tryShut_l123] at hf
              cases hf
            | succ n123 ih123 =>
              have b227 : ∀ (x1 : Int32) (x2 : Int32) (x3 : Int32) (x4 : Int32) (x5 : Int32) (x6 : Int32) (x7 : Int32) (book : Nat → Int32) (H : Heap) (locs : List Loc) (ls : Array Slot), va_P D vwCl (wX9 cyI cyJ cyZ cyO h book now sights sight signs pad nights townAt townCell reason acts at_ cost hole counts worth met ways nextWays image isKept) H → va_D A (wX9 cyI cyJ cyZ cyO h book now sights sight signs pad nights townAt townCell reason acts at_ cost hole counts worth met ways nextWays image isKept) → va_S A s.heap H locs → lv_has ls 10 [(0, .ref (h 0)), (1, .int x1), (2, .int x2), (3, .int x3), (4, .int x4), (5, .int x5), (6, .int x6), (7, .int x7)] → g_X9_tryShut_b227 nf (g_X9_tryShut_l23 nf n23) (g_X9_tryShut_l67 nf (g_X9_tryShut_l23 nf n23) n67) (g_X9_tryShut_l123 nf (g_X9_tryShut_l23 nf n23) (g_X9_tryShut_l67 nf (g_X9_tryShut_l23 nf n23) n67) n123) x1 x2 x3 x4 x5 x6 x7 book = some q → W p l e ({ frames := 3, cells := 0, slots := 0, locals := 70 } : Room) s m ([.ref (h 0), .int p1, .int p2, .int p3] : List Value).toArray below meth c H locs 0 0 (MQ below (qI D (wX9 cyI cyJ cyZ cyO h book now sights sight signs pad nights townAt townCell reason acts at_ cost hole counts worth met ways nextWays image isKept) q A) ([.ref (h 0), .int p1, .int p2, .int p3] : List Value).toArray s 0 0 A) (F0 m 227 ls []) := by
                intro x1 x2 x3 x4 x5 x6 x7 book H locs ls hP hD hS hl hf
                unfold g_X9_tryShut_b227 at hf
                refine lv_iinc (v := (x7 + 1)) (lv' := [(7, .int (x7 + 1)), (0, .ref (h 0)), (1, .int x1), (2, .int x2), (3, .int x3), (4, .int x4), (5, .int x5), (6, .int x6)]) hx hb dX9_tryShut_227 hl (k := 7) rfl rfl (by decide) rfl (fun ls hl => ?_)
                refine lv_goto (tgt := 123) hx hb dX9_tryShut_230 (by decide) ?_
                exact ih123 x1 x2 x3 x4 x5 x6 (x7 + 1) book H locs ls hP hD hS (lv_sub hl [1, 2, 3, 4, 5, 6, 7, 0] rfl) hf
              have l177 : ∀ (n177 : Nat) (x1 : Int32) (x2 : Int32) (x3 : Int32) (x4 : Int32) (x5 : Int32) (x6 : Int32) (x7 : Int32) (x8 : Int32) (x9 : Int32) (book : Nat → Int32) (H : Heap) (locs : List Loc) (ls : Array Slot), va_P D vwCl (wX9 cyI cyJ cyZ cyO h book now sights sight signs pad nights townAt townCell reason acts at_ cost hole counts worth met ways nextWays image isKept) H → va_D A (wX9 cyI cyJ cyZ cyO h book now sights sight signs pad nights townAt townCell reason acts at_ cost hole counts worth met ways nextWays image isKept) → va_S A s.heap H locs → lv_has ls 10 [(0, .ref (h 0)), (1, .int x1), (2, .int x2), (3, .int x3), (4, .int x4), (5, .int x5), (6, .int x6), (7, .int x7), (8, .int x8), (9, .int x9)] → g_X9_tryShut_l177 nf (g_X9_tryShut_l23 nf n23) (g_X9_tryShut_l67 nf (g_X9_tryShut_l23 nf n23) n67) (g_X9_tryShut_l123 nf (g_X9_tryShut_l23 nf n23) (g_X9_tryShut_l67 nf (g_X9_tryShut_l23 nf n23) n67) n123) n177 x1 x2 x3 x4 x5 x6 x7 x8 x9 book = some q → W p l e ({ frames := 3, cells := 0, slots := 0, locals := 70 } : Room) s m ([.ref (h 0), .int p1, .int p2, .int p3] : List Value).toArray below meth c H locs 0 0 (MQ below (qI D (wX9 cyI cyJ cyZ cyO h book now sights sight signs pad nights townAt townCell reason acts at_ cost hole counts worth met ways nextWays image isKept) q A) ([.ref (h 0), .int p1, .int p2, .int p3] : List Value).toArray s 0 0 A) (F0 m 177 ls []) := by
                intro n177
                induction n177 with
                | zero =>
                  intro x1 x2 x3 x4 x5 x6 x7 x8 x9 book H locs ls hP hD hS hl hf
                  rw [g_X9_tryShut_l177] at hf
                  cases hf
                | succ n177 ih177 =>
                  have b221 : ∀ (x1 : Int32) (x2 : Int32) (x3 : Int32) (x4 : Int32) (x5 : Int32) (x6 : Int32) (x7 : Int32) (x8 : Int32) (x9 : Int32) (book : Nat → Int32) (H : Heap) (locs : List Loc) (ls : Array Slot), va_P D vwCl (wX9 cyI cyJ cyZ cyO h book now sights sight signs pad nights townAt townCell reason acts at_ cost hole counts worth met ways nextWays image isKept) H → va_D A (wX9 cyI cyJ cyZ cyO h book now sights sight signs pad nights townAt townCell reason acts at_ cost hole counts worth met ways nextWays image isKept) → va_S A s.heap H locs → lv_has ls 10 [(0, .ref (h 0)), (1, .int x1), (2, .int x2), (3, .int x3), (4, .int x4), (5, .int x5), (6, .int x6), (7, .int x7), (8, .int x8), (9, .int x9)] → g_X9_tryShut_b221 nf (g_X9_tryShut_l23 nf n23) (g_X9_tryShut_l67 nf (g_X9_tryShut_l23 nf n23) n67) (g_X9_tryShut_l123 nf (g_X9_tryShut_l23 nf n23) (g_X9_tryShut_l67 nf (g_X9_tryShut_l23 nf n23) n67) n123) (g_X9_tryShut_l177 nf (g_X9_tryShut_l23 nf n23) (g_X9_tryShut_l67 nf (g_X9_tryShut_l23 nf n23) n67) (g_X9_tryShut_l123 nf (g_X9_tryShut_l23 nf n23) (g_X9_tryShut_l67 nf (g_X9_tryShut_l23 nf n23) n67) n123) n177) x1 x2 x3 x4 x5 x6 x7 x8 x9 book = some q → W p l e ({ frames := 3, cells := 0, slots := 0, locals := 70 } : Room) s m ([.ref (h 0), .int p1, .int p2, .int p3] : List Value).toArray below meth c H locs 0 0 (MQ below (qI D (wX9 cyI cyJ cyZ cyO h book now sights sight signs pad nights townAt townCell reason acts at_ cost hole counts worth met ways nextWays image isKept) q A) ([.ref (h 0), .int p1, .int p2, .int p3] : List Value).toArray s 0 0 A) (F0 m 221 ls []) := by
                    intro x1 x2 x3 x4 x5 x6 x7 x8 x9 book H locs ls hP hD hS hl hf
                    unfold g_X9_tryShut_b221 at hf
                    refine lv_iinc (v := (x9 + 1)) (lv' := [(9, .int (x9 + 1)), (0, .ref (h 0)), (1, .int x1), (2, .int x2), (3, .int x3), (4, .int x4), (5, .int x5), (6, .int x6), (7, .int x7), (8, .int x8)]) hx hb dX9_tryShut_221 hl (k := 9) rfl rfl (by decide) rfl (fun ls hl => ?_)
                    refine lv_goto (tgt := 177) hx hb dX9_tryShut_224 (by decide) ?_
                    exact ih177 x1 x2 x3 x4 x5 x6 x7 x8 (x9 + 1) book H locs ls hP hD hS (lv_sub hl [1, 2, 3, 4, 5, 6, 7, 8, 9, 0] rfl) hf
                  intro x1 x2 x3 x4 x5 x6 x7 x8 x9 book H locs ls hP hD hS hl hf
                  rw [g_X9_tryShut_l177] at hf
                  refine lv_iload hx hb dX9_tryShut_177 (lv_at hl 9 rfl) ?_
                  refine lv_iload hx hb dX9_tryShut_179 (lv_at hl 7 rfl) ?_
                  refine lv_icmp_ge (tgt := 227) hx hb dX9_tryShut_181 (by decide) (fun cc => ?_) (fun cc => ?_)
                  · replace hf := if_t cc hf
                    exact b227 x1 x2 x3 x4 x5 x6 x7 book H locs ls hP hD hS (lv_sub hl [0, 1, 2, 3, 4, 5, 6, 7] rfl) hf
                  · replace hf := if_f cc hf
                    refine lv_iload_n hx hb dX9_tryShut_184 rfl (lv_at hl 3 rfl) ?_
                    refine lv_iconst (v := 3) hx hb dX9_tryShut_185 (by decide) ?_
                    refine lv_icmp_le (tgt := 227) hx hb dX9_tryShut_186 (by decide) (fun cc => ?_) (fun cc => ?_)
                    · replace hf := if_t cc hf
                      exact b227 x1 x2 x3 x4 x5 x6 x7 book H locs ls hP hD hS (lv_sub hl [0, 1, 2, 3, 4, 5, 6, 7] rfl) hf
                    · replace hf := if_f cc hf
                      refine lv_iload_n hx hb dX9_tryShut_189 rfl (lv_at hl 2 rfl) ?_
                      refine lv_iload hx hb dX9_tryShut_190 (lv_at hl 9 rfl) ?_
                      obtain ⟨q7, hq7, hf⟩ := bd_some hf
                      have hC : ([] : List Nat).map (fun i => (wX9 cyI cyJ cyZ cyO h book now sights sight signs pad nights townAt townCell reason acts at_ cost hole counts worth met ways nextWays image isKept)[i]?) = ([] : va_W).map some := rfl
                      refine cl_i (rn_S (As := [.int x2, .int x9]) (rest := []) hx hb hml hown hT hK hN hP hD [] hC rfl (c_X9_has l D cyI cyJ cyZ cyO H.size x2 x9 nf q7 hq7) wm_X9_55 wt_X9_has wz_X9 wc_X9_has hd_X9_has ⟨rfl, rfl⟩ ⟨Nat.le_of_ble_eq_true rfl, Nat.le_of_ble_eq_true rfl⟩ rfl hl.1 rfl (Nat.le_of_ble_eq_true rfl) dX9_tryShut_192 ⟨Nat.zero_le _, Nat.zero_le _⟩) hP hD hS hA [] hC [(false, 0), (false, 1), (false, 2), (false, 3), (false, 4), (false, 5), (false, 6), (false, 7), (false, 8), (false, 9), (false, 10), (false, 11), (false, 12), (false, 13)] (ws' := wX9 cyI cyJ cyZ cyO h book now sights sight signs pad nights townAt townCell reason acts at_ cost hole counts worth met ways nextWays image isKept) rfl rfl rfl (fun H locs hP hD hS => ?_)
                      refine lv_if_eq (tgt := 221) hx hb dX9_tryShut_195 (by decide) (fun cc => ?_) (fun cc => ?_)
                      · replace hf := if_t cc hf
                        exact b221 x1 x2 x3 x4 x5 x6 x7 x8 x9 book H locs ls hP hD hS (lv_sub hl [0, 1, 2, 3, 4, 5, 6, 7, 8, 9] rfl) hf
                      · replace hf := if_f cc hf
                        refine lv_aload_n hx hb dX9_tryShut_198 rfl (lv_at hl 0 rfl) ?_
                        refine lv_iload_n hx hb dX9_tryShut_199 rfl (lv_at hl 1 rfl) ?_
                        refine lv_iload hx hb dX9_tryShut_200 (lv_at hl 8 rfl) ?_
                        refine lv_iconst (v := 1) hx hb dX9_tryShut_202 (by decide) ?_
                        refine lv_iload hx hb dX9_tryShut_203 (lv_at hl 9 rfl) ?_
                        refine lv_ishl hx hb dX9_tryShut_205 ?_
                        refine lv_ior hx hb dX9_tryShut_206 ?_
                        obtain ⟨q8, hq8, hf⟩ := bd_some hf
                        have hC : [0, 1, 2, 3, 4, 5, 6, 7, 8, 9, 10, 11, 12, 13].map (fun i => (wX9 cyI cyJ cyZ cyO h book now sights sight signs pad nights townAt townCell reason acts at_ cost hole counts worth met ways nextWays image isKept)[i]?) = (wX9 cyI cyJ cyZ cyO h book now sights sight signs pad nights townAt townCell reason acts at_ cost hole counts worth met ways nextWays image isKept).map some := rfl
                        refine cl_i (rn_V (As := [.int x1, .int (x8 ||| ((1 : Int32) <<< (x9 &&& 31)))]) (rest := []) (C := RX9) hx hb hml hown hT hK hN hP hD [0, 1, 2, 3, 4, 5, 6, 7, 8, 9, 10, 11, 12, 13] hC rfl (c_X9_isSafe l D cyI cyJ cyZ cyO h H.size book now sights sight signs pad nights townAt townCell reason acts at_ cost hole counts worth met ways nextWays image isKept x1 (x8 ||| ((1 : Int32) <<< (x9 &&& 31))) nf q8 hq8) wm_X9_144 wi_X9_isSafe wl_X9_isSafe wz_X9 wc_X9_isSafe hd_X9_isSafe ⟨rfl, rfl⟩ ⟨Nat.le_of_ble_eq_true rfl, Nat.le_of_ble_eq_true rfl⟩ (q0 := 0) (ci := 9) rfl rfl rfl rfl hl.1 rfl (Nat.le_of_ble_eq_true rfl) dX9_tryShut_207 ⟨Nat.zero_le _, Nat.zero_le _⟩) hP hD hS hA [0, 1, 2, 3, 4, 5, 6, 7, 8, 9, 10, 11, 12, 13] hC [(true, 0), (true, 1), (true, 2), (true, 3), (true, 4), (true, 5), (true, 6), (true, 7), (true, 8), (true, 9), (true, 10), (true, 11), (true, 12), (true, 13)] (ws' := wX9 cyI cyJ cyZ cyO h book now sights sight signs pad nights townAt townCell reason acts at_ cost hole counts worth met ways nextWays image isKept) rfl rfl rfl (fun H locs hP hD hS => ?_)
                        refine lv_if_eq (tgt := 221) hx hb dX9_tryShut_210 (by decide) (fun cc => ?_) (fun cc => ?_)
                        · replace hf := if_t cc hf
                          exact b221 x1 x2 x3 x4 x5 x6 x7 x8 x9 book H locs ls hP hD hS (lv_sub hl [0, 1, 2, 3, 4, 5, 6, 7, 8, 9] rfl) hf
                        · replace hf := if_f cc hf
                          refine lv_iload hx hb dX9_tryShut_213 (lv_at hl 8 rfl) ?_
                          refine lv_iconst (v := 1) hx hb dX9_tryShut_215 (by decide) ?_
                          refine lv_iload hx hb dX9_tryShut_216 (lv_at hl 9 rfl) ?_
                          refine lv_ishl hx hb dX9_tryShut_218 ?_
                          refine lv_ior hx hb dX9_tryShut_219 ?_
                          cases Option.some.inj hf
                          exact W.iret hx hb hr (fun t ht hW => ⟨⟨_, (), rfl, rfl, by show va_P D vwCl _ t.heap; rw [ht]; exact hP⟩, hS.F ht⟩) hS.2.2 dX9_tryShut_220
              have b174 : ∀ (x1 : Int32) (x2 : Int32) (x3 : Int32) (x4 : Int32) (x5 : Int32) (x6 : Int32) (x7 : Int32) (x8 : Int32) (book : Nat → Int32) (H : Heap) (locs : List Loc) (ls : Array Slot), va_P D vwCl (wX9 cyI cyJ cyZ cyO h book now sights sight signs pad nights townAt townCell reason acts at_ cost hole counts worth met ways nextWays image isKept) H → va_D A (wX9 cyI cyJ cyZ cyO h book now sights sight signs pad nights townAt townCell reason acts at_ cost hole counts worth met ways nextWays image isKept) → va_S A s.heap H locs → lv_has ls 10 [(0, .ref (h 0)), (1, .int x1), (2, .int x2), (3, .int x3), (4, .int x4), (5, .int x5), (6, .int x6), (7, .int x7), (8, .int x8)] → g_X9_tryShut_b174 nf (g_X9_tryShut_l23 nf n23) (g_X9_tryShut_l67 nf (g_X9_tryShut_l23 nf n23) n67) (g_X9_tryShut_l123 nf (g_X9_tryShut_l23 nf n23) (g_X9_tryShut_l67 nf (g_X9_tryShut_l23 nf n23) n67) n123) x1 x2 x3 x4 x5 x6 x7 x8 book = some q → W p l e ({ frames := 3, cells := 0, slots := 0, locals := 70 } : Room) s m ([.ref (h 0), .int p1, .int p2, .int p3] : List Value).toArray below meth c H locs 0 0 (MQ below (qI D (wX9 cyI cyJ cyZ cyO h book now sights sight signs pad nights townAt townCell reason acts at_ cost hole counts worth met ways nextWays image isKept) q A) ([.ref (h 0), .int p1, .int p2, .int p3] : List Value).toArray s 0 0 A) (F0 m 174 ls []) := by
                intro x1 x2 x3 x4 x5 x6 x7 x8 book H locs ls hP hD hS hl hf
                unfold g_X9_tryShut_b174 at hf
                refine lv_iconst (v := 0) hx hb dX9_tryShut_174 (by decide) ?_
                refine lv_istore (lv' := [(9, .int 0), (0, .ref (h 0)), (1, .int x1), (2, .int x2), (3, .int x3), (4, .int x4), (5, .int x5), (6, .int x6), (7, .int x7), (8, .int x8)]) hx hb dX9_tryShut_175 hl (by decide) rfl (fun ls hl => ?_)
                exact l177 nf x1 x2 x3 x4 x5 x6 x7 x8 0 book H locs ls hP hD hS (lv_sub hl [1, 2, 3, 4, 5, 6, 7, 8, 9, 0] rfl) hf
              intro x1 x2 x3 x4 x5 x6 x7 book H locs ls hP hD hS hl hf
              rw [g_X9_tryShut_l123] at hf
              refine lv_iload hx hb dX9_tryShut_123 (lv_at hl 7 rfl) ?_
              refine lv_iload hx hb dX9_tryShut_125 (lv_at hl 5 rfl) ?_
              refine lv_icmp_ge (tgt := 233) hx hb dX9_tryShut_127 (by decide) (fun cc => ?_) (fun cc => ?_)
              · replace hf := if_t cc hf
                exact b233 x1 x2 x3 x4 x5 book H locs ls hP hD hS (lv_sub hl [0, 1, 2, 3, 4, 5] rfl) hf
              · replace hf := if_f cc hf
                refine lv_iload_n hx hb dX9_tryShut_130 rfl (lv_at hl 3 rfl) ?_
                refine lv_iconst (v := 2) hx hb dX9_tryShut_131 (by decide) ?_
                refine lv_icmp_le (tgt := 233) hx hb dX9_tryShut_132 (by decide) (fun cc => ?_) (fun cc => ?_)
                · replace hf := if_t cc hf
                  exact b233 x1 x2 x3 x4 x5 book H locs ls hP hD hS (lv_sub hl [0, 1, 2, 3, 4, 5] rfl) hf
                · replace hf := if_f cc hf
                  refine lv_iload_n hx hb dX9_tryShut_135 rfl (lv_at hl 2 rfl) ?_
                  refine lv_iload hx hb dX9_tryShut_136 (lv_at hl 7 rfl) ?_
                  obtain ⟨q5, hq5, hf⟩ := bd_some hf
                  have hC : ([] : List Nat).map (fun i => (wX9 cyI cyJ cyZ cyO h book now sights sight signs pad nights townAt townCell reason acts at_ cost hole counts worth met ways nextWays image isKept)[i]?) = ([] : va_W).map some := rfl
                  refine cl_i (rn_S (As := [.int x2, .int x7]) (rest := []) hx hb hml hown hT hK hN hP hD [] hC rfl (c_X9_has l D cyI cyJ cyZ cyO H.size x2 x7 nf q5 hq5) wm_X9_55 wt_X9_has wz_X9 wc_X9_has hd_X9_has ⟨rfl, rfl⟩ ⟨Nat.le_of_ble_eq_true rfl, Nat.le_of_ble_eq_true rfl⟩ rfl hl.1 rfl (Nat.le_of_ble_eq_true rfl) dX9_tryShut_138 ⟨Nat.zero_le _, Nat.zero_le _⟩) hP hD hS hA [] hC [(false, 0), (false, 1), (false, 2), (false, 3), (false, 4), (false, 5), (false, 6), (false, 7), (false, 8), (false, 9), (false, 10), (false, 11), (false, 12), (false, 13)] (ws' := wX9 cyI cyJ cyZ cyO h book now sights sight signs pad nights townAt townCell reason acts at_ cost hole counts worth met ways nextWays image isKept) rfl rfl rfl (fun H locs hP hD hS => ?_)
                  refine lv_if_ne (tgt := 147) hx hb dX9_tryShut_141 (by decide) (fun cc => ?_) (fun cc => ?_)
                  · replace hf := if_f cc hf
                    refine lv_iload hx hb dX9_tryShut_147 (lv_at hl 6 rfl) ?_
                    refine lv_iconst (v := 1) hx hb dX9_tryShut_149 (by decide) ?_
                    refine lv_iload hx hb dX9_tryShut_150 (lv_at hl 7 rfl) ?_
                    refine lv_ishl hx hb dX9_tryShut_152 ?_
                    refine lv_ior hx hb dX9_tryShut_153 ?_
                    refine lv_istore (lv' := [(8, .int (x6 ||| ((1 : Int32) <<< (x7 &&& 31)))), (0, .ref (h 0)), (1, .int x1), (2, .int x2), (3, .int x3), (4, .int x4), (5, .int x5), (6, .int x6), (7, .int x7)]) hx hb dX9_tryShut_154 hl (by decide) rfl (fun ls hl => ?_)
                    refine lv_iload_n hx hb dX9_tryShut_156 rfl (lv_at hl 4 rfl) ?_
                    refine lv_iconst (v := 3) hx hb dX9_tryShut_157 (by decide) ?_
                    refine lv_icmp_ne (tgt := 174) hx hb dX9_tryShut_158 (by decide) (fun cc => ?_) (fun cc => ?_)
                    · replace hf := if_f cc hf
                      exact b174 x1 x2 x3 x4 x5 x6 x7 (x6 ||| ((1 : Int32) <<< (x7 &&& 31))) book H locs ls hP hD hS (lv_sub hl [1, 2, 3, 4, 5, 6, 7, 8, 0] rfl) hf
                    · replace hf := if_t cc hf
                      refine lv_aload_n hx hb dX9_tryShut_161 rfl (lv_at hl 1 rfl) ?_
                      refine lv_iload_n hx hb dX9_tryShut_162 rfl (lv_at hl 2 rfl) ?_
                      refine lv_iload hx hb dX9_tryShut_163 (lv_at hl 0 rfl) ?_
                      obtain ⟨q6, hq6, hf⟩ := bd_some hf
                      have hC : [0, 1, 2, 3, 4, 5, 6, 7, 8, 9, 10, 11, 12, 13].map (fun i => (wX9 cyI cyJ cyZ cyO h book now sights sight signs pad nights townAt townCell reason acts at_ cost hole counts worth met ways nextWays image isKept)[i]?) = (wX9 cyI cyJ cyZ cyO h book now sights sight signs pad nights townAt townCell reason acts at_ cost hole counts worth met ways nextWays image isKept).map some := rfl
                      refine cl_i (rn_V (As := [.int x1, .int (x6 ||| ((1 : Int32) <<< (x7 &&& 31)))]) (rest := []) (C := RX9) hx hb hml hown hT hK hN hP hD [0, 1, 2, 3, 4, 5, 6, 7, 8, 9, 10, 11, 12, 13] hC rfl (c_X9_isSafe l D cyI cyJ cyZ cyO h H.size book now sights sight signs pad nights townAt townCell reason acts at_ cost hole counts worth met ways nextWays image isKept x1 (x6 ||| ((1 : Int32) <<< (x7 &&& 31))) nf q6 hq6) wm_X9_144 wi_X9_isSafe wl_X9_isSafe wz_X9 wc_X9_isSafe hd_X9_isSafe ⟨rfl, rfl⟩ ⟨Nat.le_of_ble_eq_true rfl, Nat.le_of_ble_eq_true rfl⟩ (q0 := 0) (ci := 9) rfl rfl rfl rfl hl.1 rfl (Nat.le_of_ble_eq_true rfl) dX9_tryShut_165 ⟨Nat.zero_le _, Nat.zero_le _⟩) hP hD hS hA [0, 1, 2, 3, 4, 5, 6, 7, 8, 9, 10, 11, 12, 13] hC [(true, 0), (true, 1), (true, 2), (true, 3), (true, 4), (true, 5), (true, 6), (true, 7), (true, 8), (true, 9), (true, 10), (true, 11), (true, 12), (true, 13)] (ws' := wX9 cyI cyJ cyZ cyO h book now sights sight signs pad nights townAt townCell reason acts at_ cost hole counts worth met ways nextWays image isKept) rfl rfl rfl (fun H locs hP hD hS => ?_)
                      refine lv_if_eq (tgt := 174) hx hb dX9_tryShut_168 (by decide) (fun cc => ?_) (fun cc => ?_)
                      · replace hf := if_t cc hf
                        exact b174 x1 x2 x3 x4 x5 x6 x7 (x6 ||| ((1 : Int32) <<< (x7 &&& 31))) book H locs ls hP hD hS (lv_sub hl [1, 2, 3, 4, 5, 6, 7, 8, 0] rfl) hf
                      · replace hf := if_f cc hf
                        refine lv_iload hx hb dX9_tryShut_171 (lv_at hl 0 rfl) ?_
                        cases Option.some.inj hf
                        exact W.iret hx hb hr (fun t ht hW => ⟨⟨_, (), rfl, rfl, by show va_P D vwCl _ t.heap; rw [ht]; exact hP⟩, hS.F ht⟩) hS.2.2 dX9_tryShut_173
                  · replace hf := if_t cc hf
                    refine lv_goto (tgt := 227) hx hb dX9_tryShut_144 (by decide) ?_
                    exact b227 x1 x2 x3 x4 x5 x6 x7 book H locs ls hP hD hS (lv_sub hl [0, 1, 2, 3, 4, 5, 6, 7] rfl) hf
          have b120 : ∀ (x1 : Int32) (x2 : Int32) (x3 : Int32) (x4 : Int32) (x5 : Int32) (x6 : Int32) (book : Nat → Int32) (H : Heap) (locs : List Loc) (ls : Array Slot), va_P D vwCl (wX9 cyI cyJ cyZ cyO h book now sights sight signs pad nights townAt townCell reason acts at_ cost hole counts worth met ways nextWays image isKept) H → va_D A (wX9 cyI cyJ cyZ cyO h book now sights sight signs pad nights townAt townCell reason acts at_ cost hole counts worth met ways nextWays image isKept) → va_S A s.heap H locs → lv_has ls 10 [(0, .ref (h 0)), (1, .int x1), (2, .int x2), (3, .int x3), (4, .int x4), (5, .int x5), (6, .int x6)] → g_X9_tryShut_b120 nf (g_X9_tryShut_l23 nf n23) (g_X9_tryShut_l67 nf (g_X9_tryShut_l23 nf n23) n67) x1 x2 x3 x4 x5 x6 book = some q → W p l e ({ frames := 3, cells := 0, slots := 0, locals := 70 } : Room) s m ([.ref (h 0), .int p1, .int p2, .int p3] : List Value).toArray below meth c H locs 0 0 (MQ below (qI D (wX9 cyI cyJ cyZ cyO h book now sights sight signs pad nights townAt townCell reason acts at_ cost hole counts worth met ways nextWays image isKept) q A) ([.ref (h 0), .int p1, .int p2, .int p3] : List Value).toArray s 0 0 A) (F0 m 120 ls []) := by
            intro x1 x2 x3 x4 x5 x6 book H locs ls hP hD hS hl hf
            unfold g_X9_tryShut_b120 at hf
            refine lv_iconst (v := 0) hx hb dX9_tryShut_120 (by decide) ?_
            refine lv_istore (lv' := [(7, .int 0), (0, .ref (h 0)), (1, .int x1), (2, .int x2), (3, .int x3), (4, .int x4), (5, .int x5), (6, .int x6)]) hx hb dX9_tryShut_121 hl (by decide) rfl (fun ls hl => ?_)
            exact l123 nf x1 x2 x3 x4 x5 x6 0 book H locs ls hP hD hS (lv_sub hl [1, 2, 3, 4, 5, 6, 7, 0] rfl) hf
          intro x1 x2 x3 x4 x5 book H locs ls hP hD hS hl hf
          rw [g_X9_tryShut_l67] at hf
          refine lv_iload hx hb dX9_tryShut_67 (lv_at hl 5 rfl) ?_
          refine lv_iload hx hb dX9_tryShut_69 (lv_at hl 4 rfl) ?_
          refine lv_icmp_ge (tgt := 239) hx hb dX9_tryShut_71 (by decide) (fun cc => ?_) (fun cc => ?_)
          · replace hf := if_t cc hf
            exact b239 x1 x2 x3 x4 book H locs ls hP hD hS (lv_sub hl [0, 1, 2, 3, 4] rfl) hf
          · replace hf := if_f cc hf
            refine lv_iload_n hx hb dX9_tryShut_74 rfl (lv_at hl 3 rfl) ?_
            refine lv_iconst (v := 1) hx hb dX9_tryShut_75 (by decide) ?_
            refine lv_icmp_le (tgt := 239) hx hb dX9_tryShut_76 (by decide) (fun cc => ?_) (fun cc => ?_)
            · replace hf := if_t cc hf
              exact b239 x1 x2 x3 x4 book H locs ls hP hD hS (lv_sub hl [0, 1, 2, 3, 4] rfl) hf
            · replace hf := if_f cc hf
              refine lv_iload_n hx hb dX9_tryShut_79 rfl (lv_at hl 2 rfl) ?_
              refine lv_iload hx hb dX9_tryShut_80 (lv_at hl 5 rfl) ?_
              obtain ⟨q3, hq3, hf⟩ := bd_some hf
              have hC : ([] : List Nat).map (fun i => (wX9 cyI cyJ cyZ cyO h book now sights sight signs pad nights townAt townCell reason acts at_ cost hole counts worth met ways nextWays image isKept)[i]?) = ([] : va_W).map some := rfl
              refine cl_i (rn_S (As := [.int x2, .int x5]) (rest := []) hx hb hml hown hT hK hN hP hD [] hC rfl (c_X9_has l D cyI cyJ cyZ cyO H.size x2 x5 nf q3 hq3) wm_X9_55 wt_X9_has wz_X9 wc_X9_has hd_X9_has ⟨rfl, rfl⟩ ⟨Nat.le_of_ble_eq_true rfl, Nat.le_of_ble_eq_true rfl⟩ rfl hl.1 rfl (Nat.le_of_ble_eq_true rfl) dX9_tryShut_82 ⟨Nat.zero_le _, Nat.zero_le _⟩) hP hD hS hA [] hC [(false, 0), (false, 1), (false, 2), (false, 3), (false, 4), (false, 5), (false, 6), (false, 7), (false, 8), (false, 9), (false, 10), (false, 11), (false, 12), (false, 13)] (ws' := wX9 cyI cyJ cyZ cyO h book now sights sight signs pad nights townAt townCell reason acts at_ cost hole counts worth met ways nextWays image isKept) rfl rfl rfl (fun H locs hP hD hS => ?_)
              refine lv_if_ne (tgt := 91) hx hb dX9_tryShut_85 (by decide) (fun cc => ?_) (fun cc => ?_)
              · replace hf := if_f cc hf
                refine lv_iconst (v := 1) hx hb dX9_tryShut_91 (by decide) ?_
                refine lv_iload hx hb dX9_tryShut_92 (lv_at hl 4 rfl) ?_
                refine lv_ishl hx hb dX9_tryShut_94 ?_
                refine lv_iconst (v := 1) hx hb dX9_tryShut_95 (by decide) ?_
                refine lv_iload hx hb dX9_tryShut_96 (lv_at hl 5 rfl) ?_
                refine lv_ishl hx hb dX9_tryShut_98 ?_
                refine lv_ior hx hb dX9_tryShut_99 ?_
                refine lv_istore (lv' := [(6, .int (((1 : Int32) <<< (x4 &&& 31)) ||| ((1 : Int32) <<< (x5 &&& 31)))), (0, .ref (h 0)), (1, .int x1), (2, .int x2), (3, .int x3), (4, .int x4), (5, .int x5)]) hx hb dX9_tryShut_100 hl (by decide) rfl (fun ls hl => ?_)
                refine lv_iload_n hx hb dX9_tryShut_102 rfl (lv_at hl 4 rfl) ?_
                refine lv_iconst (v := 2) hx hb dX9_tryShut_103 (by decide) ?_
                refine lv_icmp_ne (tgt := 120) hx hb dX9_tryShut_104 (by decide) (fun cc => ?_) (fun cc => ?_)
                · replace hf := if_f cc hf
                  exact b120 x1 x2 x3 x4 x5 (((1 : Int32) <<< (x4 &&& 31)) ||| ((1 : Int32) <<< (x5 &&& 31))) book H locs ls hP hD hS (lv_sub hl [1, 2, 3, 4, 5, 6, 0] rfl) hf
                · replace hf := if_t cc hf
                  refine lv_aload_n hx hb dX9_tryShut_107 rfl (lv_at hl 1 rfl) ?_
                  refine lv_iload_n hx hb dX9_tryShut_108 rfl (lv_at hl 2 rfl) ?_
                  refine lv_iload hx hb dX9_tryShut_109 (lv_at hl 0 rfl) ?_
                  obtain ⟨q4, hq4, hf⟩ := bd_some hf
                  have hC : [0, 1, 2, 3, 4, 5, 6, 7, 8, 9, 10, 11, 12, 13].map (fun i => (wX9 cyI cyJ cyZ cyO h book now sights sight signs pad nights townAt townCell reason acts at_ cost hole counts worth met ways nextWays image isKept)[i]?) = (wX9 cyI cyJ cyZ cyO h book now sights sight signs pad nights townAt townCell reason acts at_ cost hole counts worth met ways nextWays image isKept).map some := rfl
                  refine cl_i (rn_V (As := [.int x1, .int (((1 : Int32) <<< (x4 &&& 31)) ||| ((1 : Int32) <<< (x5 &&& 31)))]) (rest := []) (C := RX9) hx hb hml hown hT hK hN hP hD [0, 1, 2, 3, 4, 5, 6, 7, 8, 9, 10, 11, 12, 13] hC rfl (c_X9_isSafe l D cyI cyJ cyZ cyO h H.size book now sights sight signs pad nights townAt townCell reason acts at_ cost hole counts worth met ways nextWays image isKept x1 (((1 : Int32) <<< (x4 &&& 31)) ||| ((1 : Int32) <<< (x5 &&& 31))) nf q4 hq4) wm_X9_144 wi_X9_isSafe wl_X9_isSafe wz_X9 wc_X9_isSafe hd_X9_isSafe ⟨rfl, rfl⟩ ⟨Nat.le_of_ble_eq_true rfl, Nat.le_of_ble_eq_true rfl⟩ (q0 := 0) (ci := 9) rfl rfl rfl rfl hl.1 rfl (Nat.le_of_ble_eq_true rfl) dX9_tryShut_111 ⟨Nat.zero_le _, Nat.zero_le _⟩) hP hD hS hA [0, 1, 2, 3, 4, 5, 6, 7, 8, 9, 10, 11, 12, 13] hC [(true, 0), (true, 1), (true, 2), (true, 3), (true, 4), (true, 5), (true, 6), (true, 7), (true, 8), (true, 9), (true, 10), (true, 11), (true, 12), (true, 13)] (ws' := wX9 cyI cyJ cyZ cyO h book now sights sight signs pad nights townAt townCell reason acts at_ cost hole counts worth met ways nextWays image isKept) rfl rfl rfl (fun H locs hP hD hS => ?_)
                  refine lv_if_eq (tgt := 120) hx hb dX9_tryShut_114 (by decide) (fun cc => ?_) (fun cc => ?_)
                  · replace hf := if_t cc hf
                    exact b120 x1 x2 x3 x4 x5 (((1 : Int32) <<< (x4 &&& 31)) ||| ((1 : Int32) <<< (x5 &&& 31))) book H locs ls hP hD hS (lv_sub hl [1, 2, 3, 4, 5, 6, 0] rfl) hf
                  · replace hf := if_f cc hf
                    refine lv_iload hx hb dX9_tryShut_117 (lv_at hl 0 rfl) ?_
                    cases Option.some.inj hf
                    exact W.iret hx hb hr (fun t ht hW => ⟨⟨_, (), rfl, rfl, by show va_P D vwCl _ t.heap; rw [ht]; exact hP⟩, hS.F ht⟩) hS.2.2 dX9_tryShut_119
              · replace hf := if_t cc hf
                refine lv_goto (tgt := 233) hx hb dX9_tryShut_88 (by decide) ?_
                exact b233 x1 x2 x3 x4 x5 book H locs ls hP hD hS (lv_sub hl [0, 1, 2, 3, 4, 5] rfl) hf
      have b64 : ∀ (x1 : Int32) (x2 : Int32) (x3 : Int32) (x4 : Int32) (book : Nat → Int32) (H : Heap) (locs : List Loc) (ls : Array Slot), va_P D vwCl (wX9 cyI cyJ cyZ cyO h book now sights sight signs pad nights townAt townCell reason acts at_ cost hole counts worth met ways nextWays image isKept) H → va_D A (wX9 cyI cyJ cyZ cyO h book now sights sight signs pad nights townAt townCell reason acts at_ cost hole counts worth met ways nextWays image isKept) → va_S A s.heap H locs → lv_has ls 10 [(0, .ref (h 0)), (1, .int x1), (2, .int x2), (3, .int x3), (4, .int x4)] → g_X9_tryShut_b64 nf (g_X9_tryShut_l23 nf n23) x1 x2 x3 x4 book = some q → W p l e ({ frames := 3, cells := 0, slots := 0, locals := 70 } : Room) s m ([.ref (h 0), .int p1, .int p2, .int p3] : List Value).toArray below meth c H locs 0 0 (MQ below (qI D (wX9 cyI cyJ cyZ cyO h book now sights sight signs pad nights townAt townCell reason acts at_ cost hole counts worth met ways nextWays image isKept) q A) ([.ref (h 0), .int p1, .int p2, .int p3] : List Value).toArray s 0 0 A) (F0 m 64 ls []) := by
        intro x1 x2 x3 x4 book H locs ls hP hD hS hl hf
        unfold g_X9_tryShut_b64 at hf
        refine lv_iconst (v := 0) hx hb dX9_tryShut_64 (by decide) ?_
        refine lv_istore (lv' := [(5, .int 0), (0, .ref (h 0)), (1, .int x1), (2, .int x2), (3, .int x3), (4, .int x4)]) hx hb dX9_tryShut_65 hl (by decide) rfl (fun ls hl => ?_)
        exact l67 nf x1 x2 x3 x4 0 book H locs ls hP hD hS (lv_sub hl [1, 2, 3, 4, 5, 0] rfl) hf
      intro x1 x2 x3 x4 book H locs ls hP hD hS hl hf
      rw [g_X9_tryShut_l23] at hf
      refine lv_iload hx hb dX9_tryShut_23 (lv_at hl 4 rfl) ?_
      refine lv_bipush (v := 25) hx hb dX9_tryShut_25 (by decide) ?_
      refine lv_icmp_ge (tgt := 245) hx hb dX9_tryShut_27 (by decide) (fun cc => ?_) (fun cc => ?_)
      · replace hf := if_t cc hf
        refine lv_bipush (v := (-6)) hx hb dX9_tryShut_245 (by decide) ?_
        cases Option.some.inj hf
        exact W.iret hx hb hr (fun t ht hW => ⟨⟨_, (), rfl, rfl, by show va_P D vwCl _ t.heap; rw [ht]; exact hP⟩, hS.F ht⟩) hS.2.2 dX9_tryShut_247
      · replace hf := if_f cc hf
        refine lv_iload_n hx hb dX9_tryShut_30 rfl (lv_at hl 2 rfl) ?_
        refine lv_iload hx hb dX9_tryShut_31 (lv_at hl 4 rfl) ?_
        obtain ⟨q1, hq1, hf⟩ := bd_some hf
        have hC : ([] : List Nat).map (fun i => (wX9 cyI cyJ cyZ cyO h book now sights sight signs pad nights townAt townCell reason acts at_ cost hole counts worth met ways nextWays image isKept)[i]?) = ([] : va_W).map some := rfl
        refine cl_i (rn_S (As := [.int x2, .int x4]) (rest := []) hx hb hml hown hT hK hN hP hD [] hC rfl (c_X9_has l D cyI cyJ cyZ cyO H.size x2 x4 nf q1 hq1) wm_X9_55 wt_X9_has wz_X9 wc_X9_has hd_X9_has ⟨rfl, rfl⟩ ⟨Nat.le_of_ble_eq_true rfl, Nat.le_of_ble_eq_true rfl⟩ rfl hl.1 rfl (Nat.le_of_ble_eq_true rfl) dX9_tryShut_33 ⟨Nat.zero_le _, Nat.zero_le _⟩) hP hD hS hA [] hC [(false, 0), (false, 1), (false, 2), (false, 3), (false, 4), (false, 5), (false, 6), (false, 7), (false, 8), (false, 9), (false, 10), (false, 11), (false, 12), (false, 13)] (ws' := wX9 cyI cyJ cyZ cyO h book now sights sight signs pad nights townAt townCell reason acts at_ cost hole counts worth met ways nextWays image isKept) rfl rfl rfl (fun H locs hP hD hS => ?_)
        refine lv_if_ne (tgt := 42) hx hb dX9_tryShut_36 (by decide) (fun cc => ?_) (fun cc => ?_)
        · replace hf := if_f cc hf
          refine lv_iload_n hx hb dX9_tryShut_42 rfl (lv_at hl 3 rfl) ?_
          refine lv_iconst (v := 1) hx hb dX9_tryShut_43 (by decide) ?_
          refine lv_icmp_ne (tgt := 64) hx hb dX9_tryShut_44 (by decide) (fun cc => ?_) (fun cc => ?_)
          · replace hf := if_f cc hf
            exact b64 x1 x2 x3 x4 book H locs ls hP hD hS (lv_sub hl [0, 1, 2, 3, 4] rfl) hf
          · replace hf := if_t cc hf
            refine lv_aload_n hx hb dX9_tryShut_47 rfl (lv_at hl 0 rfl) ?_
            refine lv_iload_n hx hb dX9_tryShut_48 rfl (lv_at hl 1 rfl) ?_
            refine lv_iconst (v := 1) hx hb dX9_tryShut_49 (by decide) ?_
            refine lv_iload hx hb dX9_tryShut_50 (lv_at hl 4 rfl) ?_
            refine lv_ishl hx hb dX9_tryShut_52 ?_
            obtain ⟨q2, hq2, hf⟩ := bd_some hf
            have hC : [0, 1, 2, 3, 4, 5, 6, 7, 8, 9, 10, 11, 12, 13].map (fun i => (wX9 cyI cyJ cyZ cyO h book now sights sight signs pad nights townAt townCell reason acts at_ cost hole counts worth met ways nextWays image isKept)[i]?) = (wX9 cyI cyJ cyZ cyO h book now sights sight signs pad nights townAt townCell reason acts at_ cost hole counts worth met ways nextWays image isKept).map some := rfl
            refine cl_i (rn_V (As := [.int x1, .int ((1 : Int32) <<< (x4 &&& 31))]) (rest := []) (C := RX9) hx hb hml hown hT hK hN hP hD [0, 1, 2, 3, 4, 5, 6, 7, 8, 9, 10, 11, 12, 13] hC rfl (c_X9_isSafe l D cyI cyJ cyZ cyO h H.size book now sights sight signs pad nights townAt townCell reason acts at_ cost hole counts worth met ways nextWays image isKept x1 ((1 : Int32) <<< (x4 &&& 31)) nf q2 hq2) wm_X9_144 wi_X9_isSafe wl_X9_isSafe wz_X9 wc_X9_isSafe hd_X9_isSafe ⟨rfl, rfl⟩ ⟨Nat.le_of_ble_eq_true rfl, Nat.le_of_ble_eq_true rfl⟩ (q0 := 0) (ci := 9) rfl rfl rfl rfl hl.1 rfl (Nat.le_of_ble_eq_true rfl) dX9_tryShut_53 ⟨Nat.zero_le _, Nat.zero_le _⟩) hP hD hS hA [0, 1, 2, 3, 4, 5, 6, 7, 8, 9, 10, 11, 12, 13] hC [(true, 0), (true, 1), (true, 2), (true, 3), (true, 4), (true, 5), (true, 6), (true, 7), (true, 8), (true, 9), (true, 10), (true, 11), (true, 12), (true, 13)] (ws' := wX9 cyI cyJ cyZ cyO h book now sights sight signs pad nights townAt townCell reason acts at_ cost hole counts worth met ways nextWays image isKept) rfl rfl rfl (fun H locs hP hD hS => ?_)
            refine lv_if_eq (tgt := 64) hx hb dX9_tryShut_56 (by decide) (fun cc => ?_) (fun cc => ?_)
            · replace hf := if_t cc hf
              exact b64 x1 x2 x3 x4 book H locs ls hP hD hS (lv_sub hl [0, 1, 2, 3, 4] rfl) hf
            · replace hf := if_f cc hf
              refine lv_iconst (v := 1) hx hb dX9_tryShut_59 (by decide) ?_
              refine lv_iload hx hb dX9_tryShut_60 (lv_at hl 4 rfl) ?_
              refine lv_ishl hx hb dX9_tryShut_62 ?_
              cases Option.some.inj hf
              exact W.iret hx hb hr (fun t ht hW => ⟨⟨_, (), rfl, rfl, by show va_P D vwCl _ t.heap; rw [ht]; exact hP⟩, hS.F ht⟩) hS.2.2 dX9_tryShut_63
        · replace hf := if_t cc hf
          refine lv_goto (tgt := 239) hx hb dX9_tryShut_39 (by decide) ?_
          exact b239 x1 x2 x3 x4 book H locs ls hP hD hS (lv_sub hl [0, 1, 2, 3, 4] rfl) hf
  have main : ∀ (H : Heap) (locs : List Loc) (ls : Array Slot), va_P D vwCl (wX9 cyI cyJ cyZ cyO h book now sights sight signs pad nights townAt townCell reason acts at_ cost hole counts worth met ways nextWays image isKept) H → va_D A (wX9 cyI cyJ cyZ cyO h book now sights sight signs pad nights townAt townCell reason acts at_ cost hole counts worth met ways nextWays image isKept) → va_S A s.heap H locs → lv_has ls 10 [(0, .ref (h 0)), (1, .int p1), (2, .int p2), (3, .int p3)] → W p l e ({ frames := 3, cells := 0, slots := 0, locals := 70 } : Room) s m ([.ref (h 0), .int p1, .int p2, .int p3] : List Value).toArray below meth c H locs 0 0 (MQ below (qI D (wX9 cyI cyJ cyZ cyO h book now sights sight signs pad nights townAt townCell reason acts at_ cost hole counts worth met ways nextWays image isKept) q A) ([.ref (h 0), .int p1, .int p2, .int p3] : List Value).toArray s 0 0 A) (F0 m 0 ls []) := by
    intro H locs ls hP hD hS hl
    unfold g_X9_tryShut at hf
    refine lv_iload_n hx hb dX9_tryShut_0 rfl (lv_at hl 3 rfl) ?_
    refine lv_if_ne (tgt := 20) hx hb dX9_tryShut_1 (by decide) (fun cc => ?_) (fun cc => ?_)
    · replace hf := if_f cc hf
      refine lv_iconst (v := 0) hx hb dX9_tryShut_20 (by decide) ?_
      refine lv_istore (lv' := [(4, .int 0), (0, .ref (h 0)), (1, .int p1), (2, .int p2), (3, .int p3)]) hx hb dX9_tryShut_21 hl (by decide) rfl (fun ls hl => ?_)
      exact l23 nf p1 p2 p3 0 book H locs ls hP hD hS (lv_sub hl [1, 2, 3, 4, 0] rfl) hf
    · replace hf := if_t cc hf
      refine lv_aload_n hx hb dX9_tryShut_4 rfl (lv_at hl 0 rfl) ?_
      refine lv_iload_n hx hb dX9_tryShut_5 rfl (lv_at hl 1 rfl) ?_
      refine lv_iconst (v := 0) hx hb dX9_tryShut_6 (by decide) ?_
      obtain ⟨q9, hq9, hf⟩ := bd_some hf
      have hC : [0, 1, 2, 3, 4, 5, 6, 7, 8, 9, 10, 11, 12, 13].map (fun i => (wX9 cyI cyJ cyZ cyO h book now sights sight signs pad nights townAt townCell reason acts at_ cost hole counts worth met ways nextWays image isKept)[i]?) = (wX9 cyI cyJ cyZ cyO h book now sights sight signs pad nights townAt townCell reason acts at_ cost hole counts worth met ways nextWays image isKept).map some := rfl
      refine cl_i (rn_V (As := [.int p1, .int 0]) (rest := []) (C := RX9) hx hb hml hown hT hK hN hP hD [0, 1, 2, 3, 4, 5, 6, 7, 8, 9, 10, 11, 12, 13] hC rfl (c_X9_isSafe l D cyI cyJ cyZ cyO h H.size book now sights sight signs pad nights townAt townCell reason acts at_ cost hole counts worth met ways nextWays image isKept p1 0 nf q9 hq9) wm_X9_144 wi_X9_isSafe wl_X9_isSafe wz_X9 wc_X9_isSafe hd_X9_isSafe ⟨rfl, rfl⟩ ⟨Nat.le_of_ble_eq_true rfl, Nat.le_of_ble_eq_true rfl⟩ (q0 := 0) (ci := 9) rfl rfl rfl rfl hl.1 rfl (Nat.le_of_ble_eq_true rfl) dX9_tryShut_7 ⟨Nat.zero_le _, Nat.zero_le _⟩) hP hD hS hA [0, 1, 2, 3, 4, 5, 6, 7, 8, 9, 10, 11, 12, 13] hC [(true, 0), (true, 1), (true, 2), (true, 3), (true, 4), (true, 5), (true, 6), (true, 7), (true, 8), (true, 9), (true, 10), (true, 11), (true, 12), (true, 13)] (ws' := wX9 cyI cyJ cyZ cyO h book now sights sight signs pad nights townAt townCell reason acts at_ cost hole counts worth met ways nextWays image isKept) rfl rfl rfl (fun H locs hP hD hS => ?_)
      refine lv_if_eq (tgt := 17) hx hb dX9_tryShut_10 (by decide) (fun cc => ?_) (fun cc => ?_)
      · replace hf := if_t cc hf
        refine lv_bipush (v := (-6)) hx hb dX9_tryShut_17 (by decide) ?_
        cases Option.some.inj hf
        exact W.iret hx hb hr (fun t ht hW => ⟨⟨_, (), rfl, rfl, by show va_P D vwCl _ t.heap; rw [ht]; exact hP⟩, hS.F ht⟩) hS.2.2 dX9_tryShut_19
      · replace hf := if_f cc hf
        refine lv_iconst (v := 0) hx hb dX9_tryShut_13 (by decide) ?_
        refine lv_goto (tgt := 19) hx hb dX9_tryShut_14 (by decide) ?_
        cases Option.some.inj hf
        exact W.iret hx hb hr (fun t ht hW => ⟨⟨_, (), rfl, rfl, by show va_P D vwCl _ t.heap; rw [ht]; exact hP⟩, hS.F ht⟩) hS.2.2 dX9_tryShut_19
  have hl := lv_entry ([.ref (h 0), .int p1, .int p2, .int p3]) (n := 10) (Nat.le_of_ble_eq_true rfl)
  rw [lg_entry_eq]
  exact main s.heap [] _ hP hD hS hl
theorem hd_X9_camphored : yX9_camphored.cls = RX9 ∧ yX9_camphored.cls ≠ "java/lang/invoke/MethodHandle" ∧ yX9_camphored.cls ≠ "java/lang/invoke/VarHandle" ∧ (parseMethodDescriptor yX9_camphored.desc).map (fun d => d.parameters.length) = some 2 := by decide +kernel
set_option maxHeartbeats 4000000 in
set_option maxRecDepth 100000 in
theorem c_X9_camphored (l : Launch) (D : va_G) (cyI cyJ cyZ cyO : ClassId) (h : Nat → Nat) (sz : Nat) (book : Nat → Int32) (now : Nat → Int32) (sights : Int32) (sight : Nat → Int32) (signs : Int32) (pad : Nat → Int32) (nights : Int32) (townAt : Int32) (townCell : Int32) (reason : Int32) (acts : Int32) (at_ : Int32) (cost : Nat → Int32) (hole : Nat → Int32) (counts : Nat → Int32) (worth : Nat → Int32) (met : Nat → Int32) (ways : Nat → Int64) (nextWays : Nat → Int64) (image : Nat → Int32) (isKept : Nat → Int32) (p1 : Int32) (p2 : Int32) (nf : Nat) (q : Int32) (hf : g_X9_camphored nf p1 p2 book = some q) : Met l yX9_camphored (Cond.code yX9_camphored cX9_camphored 6 (some .int) :: tbG) ({ frames := 4, cells := 0, slots := 0, locals := 99 } : Room) (va_Pc [.ref (h 0), .int p1, .int p2] (pcB D (ty4 cyI cyJ cyZ cyO) sz (wX9 cyI cyJ cyZ cyO h book now sights sight signs pad nights townAt townCell reason acts at_ cost hole counts worth met ways nextWays image isKept))) (qI D (wX9 cyI cyJ cyZ cyO h book now sights sight signs pad nights townAt townCell reason acts at_ cost hole counts worth met ways nextWays image isKept) q (va_A (wX9 cyI cyJ cyZ cyO h book now sights sight signs pad nights townAt townCell reason acts at_ cost hole counts worth met ways nextWays image isKept) sz)) 0 0 (va_A (wX9 cyI cyJ cyZ cyO h book now sights sight signs pad nights townAt townCell reason acts at_ cost hole counts worth met ways nextWays image isKept) sz) := by
  refine Met.ofW (cc := cX9_camphored) (maxL := 6) (ret := (some .int)) (by decide) rfl ?_
  intro p e s m args below meth c s₁ B hml hv
  obtain ⟨rfl, hsz, hP, hK, hD0, hN⟩ := hv
  have hx := B.exec
  have hb := B.bytes
  have hr := B.returns
  have hT : ∀ w ∈ tbG, w.before ([.ref (h 0), .int p1, .int p2] : List Value).toArray s = true := fun w h => atoms_spec (ws := (Cond.code yX9_camphored cX9_camphored 6 (some .int) :: tbG)) B.pre w (List.mem_cons_of_mem _ h)
  have hown : s.vm.findClass RX9 = some m.cls := findClass_of_methodNamed B.named
  have hlocks := B.notSynchronized
  subst hsz
  have hD := hD0.self (sz := s.heap.size)
  generalize hAe : va_A (wX9 cyI cyJ cyZ cyO h book now sights sight signs pad nights townAt townCell reason acts at_ cost hole counts worth met ways nextWays image isKept) s.heap.size = A at hD ⊢
  have hA : ∀ q : Nat, s.heap.size ≤ q → A q := fun q h => by rw [← hAe]; exact Or.inr h
  have hS : va_S A s.heap s.heap [] := va_S.rf
  show W p l e ({ frames := 4, cells := 0, slots := 0, locals := 99 } : Room) s m ([.ref (h 0), .int p1, .int p2] : List Value).toArray below meth c s.heap [] 0 0 (MQ below (qI D (wX9 cyI cyJ cyZ cyO h book now sights sight signs pad nights townAt townCell reason acts at_ cost hole counts worth met ways nextWays image isKept) q A) ([.ref (h 0), .int p1, .int p2] : List Value).toArray s 0 0 A) _
  have b131 : ∀ (x4 : Int32) (book : Nat → Int32) (H : Heap) (locs : List Loc) (ls : Array Slot), va_P D vwCl (wX9 cyI cyJ cyZ cyO h book now sights sight signs pad nights townAt townCell reason acts at_ cost hole counts worth met ways nextWays image isKept) H → va_D A (wX9 cyI cyJ cyZ cyO h book now sights sight signs pad nights townAt townCell reason acts at_ cost hole counts worth met ways nextWays image isKept) → va_S A s.heap H locs → lv_has ls 6 [(4, .int x4)] → g_X9_camphored_b131 nf x4 book = some q → W p l e ({ frames := 4, cells := 0, slots := 0, locals := 99 } : Room) s m ([.ref (h 0), .int p1, .int p2] : List Value).toArray below meth c H locs 0 0 (MQ below (qI D (wX9 cyI cyJ cyZ cyO h book now sights sight signs pad nights townAt townCell reason acts at_ cost hole counts worth met ways nextWays image isKept) q A) ([.ref (h 0), .int p1, .int p2] : List Value).toArray s 0 0 A) (F0 m 131 ls []) := by
    intro x4 book H locs ls hP hD hS hl hf
    unfold g_X9_camphored_b131 at hf
    refine lv_iload hx hb dX9_camphored_131 (lv_at hl 0 rfl) ?_
    refine lv_goto (tgt := 141) hx hb dX9_camphored_133 (by decide) ?_
    cases Option.some.inj hf
    exact W.iret hx hb hr (fun t ht hW => ⟨⟨_, (), rfl, rfl, by show va_P D vwCl _ t.heap; rw [ht]; exact hP⟩, hS.F ht⟩) hS.2.2 dX9_camphored_141
  have b121 : ∀ (x2 : Int32) (x4 : Int32) (book : Nat → Int32) (H : Heap) (locs : List Loc) (ls : Array Slot), va_P D vwCl (wX9 cyI cyJ cyZ cyO h book now sights sight signs pad nights townAt townCell reason acts at_ cost hole counts worth met ways nextWays image isKept) H → va_D A (wX9 cyI cyJ cyZ cyO h book now sights sight signs pad nights townAt townCell reason acts at_ cost hole counts worth met ways nextWays image isKept) → va_S A s.heap H locs → lv_has ls 6 [(2, .int x2), (4, .int x4)] → g_X9_camphored_b121 nf x2 x4 book = some q → W p l e ({ frames := 4, cells := 0, slots := 0, locals := 99 } : Room) s m ([.ref (h 0), .int p1, .int p2] : List Value).toArray below meth c H locs 0 0 (MQ below (qI D (wX9 cyI cyJ cyZ cyO h book now sights sight signs pad nights townAt townCell reason acts at_ cost hole counts worth met ways nextWays image isKept) q A) ([.ref (h 0), .int p1, .int p2] : List Value).toArray s 0 0 A) (F0 m 121 ls []) := by
    intro x2 x4 book H locs ls hP hD hS hl hf
    unfold g_X9_camphored_b121 at hf
    refine lv_iload hx hb dX9_camphored_121 (lv_at hl 1 rfl) ?_
    refine lv_if_lt (tgt := 131) hx hb dX9_camphored_123 (by decide) (fun cc => ?_) (fun cc => ?_)
    · replace hf := if_t cc hf
      exact b131 x4 book H locs ls hP hD hS (lv_sub hl [1] rfl) hf
    · replace hf := if_f cc hf
      refine lv_iload_n hx hb dX9_camphored_126 rfl (lv_at hl 0 rfl) ?_
      refine lv_iconst (v := 1) hx hb dX9_camphored_127 (by decide) ?_
      refine lv_icmp_ne (tgt := 136) hx hb dX9_camphored_128 (by decide) (fun cc => ?_) (fun cc => ?_)
      · replace hf := if_f cc hf
        refine lv_iload hx hb dX9_camphored_136 (lv_at hl 1 rfl) ?_
        obtain ⟨q4, hq4, hf⟩ := bd_some hf
        have hC : ([] : List Nat).map (fun i => (wX9 cyI cyJ cyZ cyO h book now sights sight signs pad nights townAt townCell reason acts at_ cost hole counts worth met ways nextWays image isKept)[i]?) = ([] : va_W).map some := rfl
        refine cl_i (rn_S (As := [.int x4]) (rest := []) hx hb hml hown hT hK hN hP hD [] hC rfl (c_X9_bits l D cyI cyJ cyZ cyO H.size x4 nf q4 hq4) wm_X9_152 wt_X9_bits wz_X9 wc_X9_bits hd_X9_bits ⟨rfl, rfl⟩ ⟨Nat.le_of_ble_eq_true rfl, Nat.le_of_ble_eq_true rfl⟩ rfl hl.1 rfl (Nat.le_of_ble_eq_true rfl) dX9_camphored_138 ⟨Nat.zero_le _, Nat.zero_le _⟩) hP hD hS hA [] hC [(false, 0), (false, 1), (false, 2), (false, 3), (false, 4), (false, 5), (false, 6), (false, 7), (false, 8), (false, 9), (false, 10), (false, 11), (false, 12), (false, 13)] (ws' := wX9 cyI cyJ cyZ cyO h book now sights sight signs pad nights townAt townCell reason acts at_ cost hole counts worth met ways nextWays image isKept) rfl rfl rfl (fun H locs hP hD hS => ?_)
        cases Option.some.inj hf
        exact W.iret hx hb hr (fun t ht hW => ⟨⟨_, (), rfl, rfl, by show va_P D vwCl _ t.heap; rw [ht]; exact hP⟩, hS.F ht⟩) hS.2.2 dX9_camphored_141
      · replace hf := if_t cc hf
        exact b131 x4 book H locs ls hP hD hS (lv_sub hl [1] rfl) hf
  have l94 : ∀ (n94 : Nat) (x1 : Int32) (x2 : Int32) (x3 : Int32) (x4 : Int32) (x5 : Int32) (book : Nat → Int32) (H : Heap) (locs : List Loc) (ls : Array Slot), va_P D vwCl (wX9 cyI cyJ cyZ cyO h book now sights sight signs pad nights townAt townCell reason acts at_ cost hole counts worth met ways nextWays image isKept) H → va_D A (wX9 cyI cyJ cyZ cyO h book now sights sight signs pad nights townAt townCell reason acts at_ cost hole counts worth met ways nextWays image isKept) → va_S A s.heap H locs → lv_has ls 6 [(0, .ref (h 0)), (1, .int x1), (2, .int x2), (3, .int x3), (4, .int x4), (5, .int x5)] → g_X9_camphored_l94 nf n94 x1 x2 x3 x4 x5 book = some q → W p l e ({ frames := 4, cells := 0, slots := 0, locals := 99 } : Room) s m ([.ref (h 0), .int p1, .int p2] : List Value).toArray below meth c H locs 0 0 (MQ below (qI D (wX9 cyI cyJ cyZ cyO h book now sights sight signs pad nights townAt townCell reason acts at_ cost hole counts worth met ways nextWays image isKept) q A) ([.ref (h 0), .int p1, .int p2] : List Value).toArray s 0 0 A) (F0 m 94 ls []) := by
    intro n94
    induction n94 with
    | zero =>
      intro x1 x2 x3 x4 x5 book H locs ls hP hD hS hl hf
      rw [g_X9_camphored_l94] at hf
      cases hf
    | succ n94 ih94 =>
      intro x1 x2 x3 x4 x5 book H locs ls hP hD hS hl hf
      rw [g_X9_camphored_l94] at hf
      refine lv_iload hx hb dX9_camphored_94 (lv_at hl 5 rfl) ?_
      refine lv_iconst (v := 5) hx hb dX9_camphored_96 (by decide) ?_
      refine lv_icmp_ge (tgt := 121) hx hb dX9_camphored_97 (by decide) (fun cc => ?_) (fun cc => ?_)
      · replace hf := if_t cc hf
        exact b121 x2 x4 book H locs ls hP hD hS (lv_sub hl [2, 4] rfl) hf
      · replace hf := if_f cc hf
        refine lv_iload hx hb dX9_camphored_100 (lv_at hl 4 rfl) ?_
        refine lv_if_ge (tgt := 121) hx hb dX9_camphored_102 (by decide) (fun cc => ?_) (fun cc => ?_)
        · replace hf := if_t cc hf
          exact b121 x2 x4 book H locs ls hP hD hS (lv_sub hl [2, 4] rfl) hf
        · replace hf := if_f cc hf
          refine lv_aload_n hx hb dX9_camphored_105 rfl (lv_at hl 0 rfl) ?_
          refine lv_iload_n hx hb dX9_camphored_106 rfl (lv_at hl 1 rfl) ?_
          refine lv_iload_n hx hb dX9_camphored_107 rfl (lv_at hl 3 rfl) ?_
          refine lv_iload hx hb dX9_camphored_108 (lv_at hl 5 rfl) ?_
          obtain ⟨q3, hq3, hf⟩ := bd_some hf
          have hC : [0, 1, 2, 3, 4, 5, 6, 7, 8, 9, 10, 11, 12, 13].map (fun i => (wX9 cyI cyJ cyZ cyO h book now sights sight signs pad nights townAt townCell reason acts at_ cost hole counts worth met ways nextWays image isKept)[i]?) = (wX9 cyI cyJ cyZ cyO h book now sights sight signs pad nights townAt townCell reason acts at_ cost hole counts worth met ways nextWays image isKept).map some := rfl
          refine cl_i (rn_V (As := [.int x1, .int x3, .int x5]) (rest := []) (C := RX9) hx hb hml hown hT hK hN hP hD [0, 1, 2, 3, 4, 5, 6, 7, 8, 9, 10, 11, 12, 13] hC rfl (c_X9_tryShut l D cyI cyJ cyZ cyO h H.size book now sights sight signs pad nights townAt townCell reason acts at_ cost hole counts worth met ways nextWays image isKept x1 x3 x5 nf q3 hq3) wm_X9_148 wi_X9_tryShut wl_X9_tryShut wz_X9 wc_X9_tryShut hd_X9_tryShut ⟨rfl, rfl⟩ ⟨Nat.le_of_ble_eq_true rfl, Nat.le_of_ble_eq_true rfl⟩ (q0 := 0) (ci := 9) rfl rfl rfl rfl hl.1 rfl (Nat.le_of_ble_eq_true rfl) dX9_camphored_110 ⟨Nat.zero_le _, Nat.zero_le _⟩) hP hD hS hA [0, 1, 2, 3, 4, 5, 6, 7, 8, 9, 10, 11, 12, 13] hC [(true, 0), (true, 1), (true, 2), (true, 3), (true, 4), (true, 5), (true, 6), (true, 7), (true, 8), (true, 9), (true, 10), (true, 11), (true, 12), (true, 13)] (ws' := wX9 cyI cyJ cyZ cyO h book now sights sight signs pad nights townAt townCell reason acts at_ cost hole counts worth met ways nextWays image isKept) rfl rfl rfl (fun H locs hP hD hS => ?_)
          refine lv_istore (lv' := [(4, .int q3), (0, .ref (h 0)), (1, .int x1), (2, .int x2), (3, .int x3), (5, .int x5)]) hx hb dX9_camphored_113 hl (by decide) rfl (fun ls hl => ?_)
          refine lv_iinc (v := (x5 + 1)) (lv' := [(5, .int (x5 + 1)), (4, .int q3), (0, .ref (h 0)), (1, .int x1), (2, .int x2), (3, .int x3)]) hx hb dX9_camphored_115 hl (k := 5) rfl rfl (by decide) rfl (fun ls hl => ?_)
          refine lv_goto (tgt := 94) hx hb dX9_camphored_118 (by decide) ?_
          exact ih94 x1 x2 x3 q3 (x5 + 1) book H locs ls hP hD hS (lv_sub hl [2, 3, 4, 5, 1, 0] rfl) hf
  have l33 : ∀ (n33 : Nat) (x1 : Int32) (x2 : Int32) (x3 : Int32) (x4 : Int32) (book : Nat → Int32) (H : Heap) (locs : List Loc) (ls : Array Slot), va_P D vwCl (wX9 cyI cyJ cyZ cyO h book now sights sight signs pad nights townAt townCell reason acts at_ cost hole counts worth met ways nextWays image isKept) H → va_D A (wX9 cyI cyJ cyZ cyO h book now sights sight signs pad nights townAt townCell reason acts at_ cost hole counts worth met ways nextWays image isKept) → va_S A s.heap H locs → lv_has ls 6 [(0, .ref (h 0)), (1, .int x1), (2, .int x2), (3, .int x3), (4, .int x4)] → g_X9_camphored_l33 nf n33 x1 x2 x3 x4 book = some q → W p l e ({ frames := 4, cells := 0, slots := 0, locals := 99 } : Room) s m ([.ref (h 0), .int p1, .int p2] : List Value).toArray below meth c H locs 0 0 (MQ below (qI D (wX9 cyI cyJ cyZ cyO h book now sights sight signs pad nights townAt townCell reason acts at_ cost hole counts worth met ways nextWays image isKept) q A) ([.ref (h 0), .int p1, .int p2] : List Value).toArray s 0 0 A) (F0 m 33 ls []) := by
    intro n33
    induction n33 with
    | zero =>
      intro x1 x2 x3 x4 book H locs ls hP hD hS hl hf
      rw [g_X9_camphored_l33] at hf
      cases hf
    | succ n33 ih33 =>
      have b67 : ∀ (x1 : Int32) (x2 : Int32) (x4 : Int32) (s0 : Int32) (s1 : Int32) (book : Nat → Int32) (H : Heap) (locs : List Loc) (ls : Array Slot), va_P D vwCl (wX9 cyI cyJ cyZ cyO h book now sights sight signs pad nights townAt townCell reason acts at_ cost hole counts worth met ways nextWays image isKept) H → va_D A (wX9 cyI cyJ cyZ cyO h book now sights sight signs pad nights townAt townCell reason acts at_ cost hole counts worth met ways nextWays image isKept) → va_S A s.heap H locs → lv_has ls 6 [(0, .ref (h 0)), (1, .int x1), (2, .int x2), (4, .int x4)] → g_X9_camphored_b67 nf (g_X9_camphored_l33 nf n33) x1 x2 x4 s0 s1 book = some q → W p l e ({ frames := 4, cells := 0, slots := 0, locals := 99 } : Room) s m ([.ref (h 0), .int p1, .int p2] : List Value).toArray below meth c H locs 0 0 (MQ below (qI D (wX9 cyI cyJ cyZ cyO h book now sights sight signs pad nights townAt townCell reason acts at_ cost hole counts worth met ways nextWays image isKept) q A) ([.ref (h 0), .int p1, .int p2] : List Value).toArray s 0 0 A) (F0 m 67 ls [.int s1, .int s0]) := by
        intro x1 x2 x4 s0 s1 book H locs ls hP hD hS hl hf
        unfold g_X9_camphored_b67 at hf
        refine lv_iand hx hb dX9_camphored_67 ?_
        refine lv_istore_n (lv' := [(3, .int (s0 &&& s1)), (0, .ref (h 0)), (1, .int x1), (2, .int x2), (4, .int x4)]) hx hb dX9_camphored_68 rfl hl (by decide) rfl (fun ls hl => ?_)
        refine lv_iinc (v := (x4 + 1)) (lv' := [(4, .int (x4 + 1)), (3, .int (s0 &&& s1)), (0, .ref (h 0)), (1, .int x1), (2, .int x2)]) hx hb dX9_camphored_69 hl (k := 4) rfl rfl (by decide) rfl (fun ls hl => ?_)
        refine lv_goto (tgt := 33) hx hb dX9_camphored_72 (by decide) ?_
        exact ih33 x1 x2 (s0 &&& s1) (x4 + 1) book H locs ls hP hD hS (lv_sub hl [2, 3, 4, 1, 0] rfl) hf
      intro x1 x2 x3 x4 book H locs ls hP hD hS hl hf
      rw [g_X9_camphored_l33] at hf
      refine lv_iload hx hb dX9_camphored_33 (lv_at hl 4 rfl) ?_
      refine lv_iconst (v := 4) hx hb dX9_camphored_35 (by decide) ?_
      refine lv_icmp_ge (tgt := 75) hx hb dX9_camphored_36 (by decide) (fun cc => ?_) (fun cc => ?_)
      · replace hf := if_t cc hf
        refine lv_aload_n hx hb dX9_camphored_75 rfl (lv_at hl 0 rfl) ?_
        refine lv_iload_n hx hb dX9_camphored_76 rfl (lv_at hl 1 rfl) ?_
        refine lv_iload_n hx hb dX9_camphored_77 rfl (lv_at hl 3 rfl) ?_
        obtain ⟨q1, hq1, hf⟩ := bd_some hf
        have hC : [0, 1, 2, 3, 4, 5, 6, 7, 8, 9, 10, 11, 12, 13].map (fun i => (wX9 cyI cyJ cyZ cyO h book now sights sight signs pad nights townAt townCell reason acts at_ cost hole counts worth met ways nextWays image isKept)[i]?) = (wX9 cyI cyJ cyZ cyO h book now sights sight signs pad nights townAt townCell reason acts at_ cost hole counts worth met ways nextWays image isKept).map some := rfl
        refine cl_i (rn_V (As := [.int x1, .int x3]) (rest := []) (C := RX9) hx hb hml hown hT hK hN hP hD [0, 1, 2, 3, 4, 5, 6, 7, 8, 9, 10, 11, 12, 13] hC rfl (c_X9_isSafe l D cyI cyJ cyZ cyO h H.size book now sights sight signs pad nights townAt townCell reason acts at_ cost hole counts worth met ways nextWays image isKept x1 x3 nf q1 hq1) wm_X9_144 wi_X9_isSafe wl_X9_isSafe wz_X9 wc_X9_isSafe hd_X9_isSafe ⟨rfl, rfl⟩ ⟨Nat.le_of_ble_eq_true rfl, Nat.le_of_ble_eq_true rfl⟩ (q0 := 0) (ci := 9) rfl rfl rfl rfl hl.1 rfl (Nat.le_of_ble_eq_true rfl) dX9_camphored_78 ⟨Nat.zero_le _, Nat.zero_le _⟩) hP hD hS hA [0, 1, 2, 3, 4, 5, 6, 7, 8, 9, 10, 11, 12, 13] hC [(true, 0), (true, 1), (true, 2), (true, 3), (true, 4), (true, 5), (true, 6), (true, 7), (true, 8), (true, 9), (true, 10), (true, 11), (true, 12), (true, 13)] (ws' := wX9 cyI cyJ cyZ cyO h book now sights sight signs pad nights townAt townCell reason acts at_ cost hole counts worth met ways nextWays image isKept) rfl rfl rfl (fun H locs hP hD hS => ?_)
        refine lv_if_ne (tgt := 87) hx hb dX9_camphored_81 (by decide) (fun cc => ?_) (fun cc => ?_)
        · replace hf := if_f cc hf
          refine lv_bipush (v := (-6)) hx hb dX9_camphored_87 (by decide) ?_
          refine lv_istore (lv' := [(4, .int (-6)), (0, .ref (h 0)), (1, .int x1), (2, .int x2), (3, .int x3)]) hx hb dX9_camphored_89 hl (by decide) rfl (fun ls hl => ?_)
          refine lv_iconst (v := 0) hx hb dX9_camphored_91 (by decide) ?_
          refine lv_istore (lv' := [(5, .int 0), (4, .int (-6)), (0, .ref (h 0)), (1, .int x1), (2, .int x2), (3, .int x3)]) hx hb dX9_camphored_92 hl (by decide) rfl (fun ls hl => ?_)
          exact l94 nf x1 x2 x3 (-6) 0 book H locs ls hP hD hS (lv_sub hl [2, 3, 4, 5, 1, 0] rfl) hf
        · replace hf := if_t cc hf
          refine lv_bipush (v := (-6)) hx hb dX9_camphored_84 (by decide) ?_
          cases Option.some.inj hf
          exact W.iret hx hb hr (fun t ht hW => ⟨⟨_, (), rfl, rfl, by show va_P D vwCl _ t.heap; rw [ht]; exact hP⟩, hS.F ht⟩) hS.2.2 dX9_camphored_86
      · replace hf := if_f cc hf
        refine lv_iload_n hx hb dX9_camphored_39 rfl (lv_at hl 3 rfl) ?_
        refine lv_aload_n hx hb dX9_camphored_40 rfl (lv_at hl 0 rfl) ?_
        refine lv_iload hx hb dX9_camphored_41 (lv_at hl 4 rfl) ?_
        obtain ⟨q2, hq2, hf⟩ := bd_some hf
        have hC : [0, 1, 2, 3, 4, 5, 6, 7, 8, 9, 10, 11, 12, 13].map (fun i => (wX9 cyI cyJ cyZ cyO h book now sights sight signs pad nights townAt townCell reason acts at_ cost hole counts worth met ways nextWays image isKept)[i]?) = (wX9 cyI cyJ cyZ cyO h book now sights sight signs pad nights townAt townCell reason acts at_ cost hole counts worth met ways nextWays image isKept).map some := rfl
        refine cl_i (rn_V (As := [.int x4]) (rest := [.int x3]) (C := RX9) hx hb hml hown hT hK hN hP hD [0, 1, 2, 3, 4, 5, 6, 7, 8, 9, 10, 11, 12, 13] hC rfl (c_X9_isThere l D cyI cyJ cyZ cyO h H.size book now sights sight signs pad nights townAt townCell reason acts at_ cost hole counts worth met ways nextWays image isKept x4 nf q2 hq2) wm_X9_134 wi_X9_isThere wl_X9_isThere wz_X9 wc_X9_isThere hd_X9_isThere ⟨rfl, rfl⟩ ⟨Nat.le_of_ble_eq_true rfl, Nat.le_of_ble_eq_true rfl⟩ (q0 := 0) (ci := 9) rfl rfl rfl rfl hl.1 rfl (Nat.le_of_ble_eq_true rfl) dX9_camphored_43 ⟨Nat.zero_le _, Nat.zero_le _⟩) hP hD hS hA [0, 1, 2, 3, 4, 5, 6, 7, 8, 9, 10, 11, 12, 13] hC [(true, 0), (true, 1), (true, 2), (true, 3), (true, 4), (true, 5), (true, 6), (true, 7), (true, 8), (true, 9), (true, 10), (true, 11), (true, 12), (true, 13)] (ws' := wX9 cyI cyJ cyZ cyO h book now sights sight signs pad nights townAt townCell reason acts at_ cost hole counts worth met ways nextWays image isKept) rfl rfl rfl (fun H locs hP hD hS => ?_)
        refine lv_if_eq (tgt := 66) hx hb dX9_camphored_46 (by decide) (fun cc => ?_) (fun cc => ?_)
        · replace hf := if_t cc hf
          refine lv_iconst (v := (-1)) hx hb dX9_camphored_66 (by decide) ?_
          exact b67 x1 x2 x4 x3 (-1) book H locs ls hP hD hS (lv_sub hl [0, 1, 2, 4] rfl) hf
        · replace hf := if_f cc hf
          refine lv_iconst (v := 1) hx hb dX9_camphored_49 (by decide) ?_
          refine lv_aload_n hx hb dX9_camphored_50 rfl (lv_at hl 0 rfl) ?_
          refine va_get (ci := 9) (v := .ref (h 1)) (C := RX9) (T := TX9) (N := 21) hx hb hT hin_X9 hown hK hP 0 rfl rfl 0 (by decide) (hT _ wf_X9_7) (fun _ h9 => h9) rfl dX9_camphored_51 ?_
          refine lv_bipush (v := 50) hx hb dX9_camphored_54 (by decide) ?_
          refine lv_iload hx hb dX9_camphored_56 (lv_at hl 4 rfl) ?_
          refine lv_iadd hx hb dX9_camphored_58 ?_
          obtain ⟨hi, hf⟩ := ck_some hf
          refine va_iald hx hb hK hP 1 0 rfl rfl hi dX9_camphored_59 ?_
          refine lv_ishl hx hb dX9_camphored_60 ?_
          refine lv_iconst (v := (-1)) hx hb dX9_camphored_61 (by decide) ?_
          refine lv_ixor hx hb dX9_camphored_62 ?_
          refine lv_goto (tgt := 67) hx hb dX9_camphored_63 (by decide) ?_
          exact b67 x1 x2 x4 x3 (((1 : Int32) <<< ((book (50 + x4).toNatClampNeg) &&& 31)) ^^^ ((-1) : Int32)) book H locs ls hP hD hS (lv_sub hl [0, 1, 2, 4] rfl) hf
  have main : ∀ (H : Heap) (locs : List Loc) (ls : Array Slot), va_P D vwCl (wX9 cyI cyJ cyZ cyO h book now sights sight signs pad nights townAt townCell reason acts at_ cost hole counts worth met ways nextWays image isKept) H → va_D A (wX9 cyI cyJ cyZ cyO h book now sights sight signs pad nights townAt townCell reason acts at_ cost hole counts worth met ways nextWays image isKept) → va_S A s.heap H locs → lv_has ls 6 [(0, .ref (h 0)), (1, .int p1), (2, .int p2)] → W p l e ({ frames := 4, cells := 0, slots := 0, locals := 99 } : Room) s m ([.ref (h 0), .int p1, .int p2] : List Value).toArray below meth c H locs 0 0 (MQ below (qI D (wX9 cyI cyJ cyZ cyO h book now sights sight signs pad nights townAt townCell reason acts at_ cost hole counts worth met ways nextWays image isKept) q A) ([.ref (h 0), .int p1, .int p2] : List Value).toArray s 0 0 A) (F0 m 0 ls []) := by
    intro H locs ls hP hD hS hl
    unfold g_X9_camphored at hf
    refine lv_iload_n hx hb dX9_camphored_0 rfl (lv_at hl 1 rfl) ?_
    obtain ⟨q5, hq5, hf⟩ := bd_some hf
    have hC : ([] : List Nat).map (fun i => (wX9 cyI cyJ cyZ cyO h book now sights sight signs pad nights townAt townCell reason acts at_ cost hole counts worth met ways nextWays image isKept)[i]?) = ([] : va_W).map some := rfl
    refine cl_i (rn_S (As := [.int p1]) (rest := []) hx hb hml hown hT hK hN hP hD [] hC rfl (c_X9_isCell l D cyI cyJ cyZ cyO H.size p1 nf q5 hq5) wm_X9_59 wt_X9_isCell wz_X9 wc_X9_isCell hd_X9_isCell ⟨rfl, rfl⟩ ⟨Nat.le_of_ble_eq_true rfl, Nat.le_of_ble_eq_true rfl⟩ rfl hl.1 rfl (Nat.le_of_ble_eq_true rfl) dX9_camphored_1 ⟨Nat.zero_le _, Nat.zero_le _⟩) hP hD hS hA [] hC [(false, 0), (false, 1), (false, 2), (false, 3), (false, 4), (false, 5), (false, 6), (false, 7), (false, 8), (false, 9), (false, 10), (false, 11), (false, 12), (false, 13)] (ws' := wX9 cyI cyJ cyZ cyO h book now sights sight signs pad nights townAt townCell reason acts at_ cost hole counts worth met ways nextWays image isKept) rfl rfl rfl (fun H locs hP hD hS => ?_)
    refine lv_if_ne (tgt := 9) hx hb dX9_camphored_4 (by decide) (fun cc => ?_) (fun cc => ?_)
    · replace hf := if_f cc hf
      refine lv_iload_n hx hb dX9_camphored_9 rfl (lv_at hl 2 rfl) ?_
      refine lv_iconst (v := 0) hx hb dX9_camphored_10 (by decide) ?_
      refine lv_iconst (v := 1) hx hb dX9_camphored_11 (by decide) ?_
      obtain ⟨q6, hq6, hf⟩ := bd_some hf
      have hC : ([] : List Nat).map (fun i => (wX9 cyI cyJ cyZ cyO h book now sights sight signs pad nights townAt townCell reason acts at_ cost hole counts worth met ways nextWays image isKept)[i]?) = ([] : va_W).map some := rfl
      refine cl_i (rn_S (As := [.int p2, .int 0, .int 1]) (rest := []) hx hb hml hown hT hK hN hP hD [] hC rfl (c_X9_in l D cyI cyJ cyZ cyO H.size p2 0 1 nf q6 hq6) wm_X9_51 wt_X9_in wz_X9 wc_X9_in hd_X9_in ⟨rfl, rfl⟩ ⟨Nat.le_of_ble_eq_true rfl, Nat.le_of_ble_eq_true rfl⟩ rfl hl.1 rfl (Nat.le_of_ble_eq_true rfl) dX9_camphored_12 ⟨Nat.zero_le _, Nat.zero_le _⟩) hP hD hS hA [] hC [(false, 0), (false, 1), (false, 2), (false, 3), (false, 4), (false, 5), (false, 6), (false, 7), (false, 8), (false, 9), (false, 10), (false, 11), (false, 12), (false, 13)] (ws' := wX9 cyI cyJ cyZ cyO h book now sights sight signs pad nights townAt townCell reason acts at_ cost hole counts worth met ways nextWays image isKept) rfl rfl rfl (fun H locs hP hD hS => ?_)
      refine lv_if_ne (tgt := 21) hx hb dX9_camphored_15 (by decide) (fun cc => ?_) (fun cc => ?_)
      · replace hf := if_f cc hf
        refine lv_ldc (v := 33554431) hx hb hown (hT _ wk_X9_147) dX9_camphored_21 ?_
        refine lv_iconst (v := 1) hx hb dX9_camphored_23 (by decide) ?_
        refine lv_iload_n hx hb dX9_camphored_24 rfl (lv_at hl 1 rfl) ?_
        refine lv_ishl hx hb dX9_camphored_25 ?_
        refine lv_iconst (v := (-1)) hx hb dX9_camphored_26 (by decide) ?_
        refine lv_ixor hx hb dX9_camphored_27 ?_
        refine lv_iand hx hb dX9_camphored_28 ?_
        refine lv_istore_n (lv' := [(3, .int ((33554431 : Int32) &&& (((1 : Int32) <<< (p1 &&& 31)) ^^^ ((-1) : Int32)))), (0, .ref (h 0)), (1, .int p1), (2, .int p2)]) hx hb dX9_camphored_29 rfl hl (by decide) rfl (fun ls hl => ?_)
        refine lv_iconst (v := 0) hx hb dX9_camphored_30 (by decide) ?_
        refine lv_istore (lv' := [(4, .int 0), (3, .int ((33554431 : Int32) &&& (((1 : Int32) <<< (p1 &&& 31)) ^^^ ((-1) : Int32)))), (0, .ref (h 0)), (1, .int p1), (2, .int p2)]) hx hb dX9_camphored_31 hl (by decide) rfl (fun ls hl => ?_)
        exact l33 nf p1 p2 ((33554431 : Int32) &&& (((1 : Int32) <<< (p1 &&& 31)) ^^^ ((-1) : Int32))) 0 book H locs ls hP hD hS (lv_sub hl [2, 3, 4, 1, 0] rfl) hf
      · replace hf := if_t cc hf
        refine lv_bipush (v := (-2)) hx hb dX9_camphored_18 (by decide) ?_
        cases Option.some.inj hf
        exact W.iret hx hb hr (fun t ht hW => ⟨⟨_, (), rfl, rfl, by show va_P D vwCl _ t.heap; rw [ht]; exact hP⟩, hS.F ht⟩) hS.2.2 dX9_camphored_20
    · replace hf := if_t cc hf
      refine lv_iconst (v := (-1)) hx hb dX9_camphored_7 (by decide) ?_
      cases Option.some.inj hf
      exact W.iret hx hb hr (fun t ht hW => ⟨⟨_, (), rfl, rfl, by show va_P D vwCl _ t.heap; rw [ht]; exact hP⟩, hS.F ht⟩) hS.2.2 dX9_camphored_8
  have hl := lv_entry ([.ref (h 0), .int p1, .int p2]) (n := 6) (Nat.le_of_ble_eq_true rfl)
  rw [lg_entry_eq]
  exact main s.heap [] _ hP hD hS hl
theorem hd_X9_threadOf : yX9_threadOf.cls ≠ "java/lang/invoke/MethodHandle" ∧ yX9_threadOf.cls ≠ "java/lang/invoke/VarHandle" ∧ (parseMethodDescriptor yX9_threadOf.desc).map (fun d => d.parameters.length) = some 3 := by decide +kernel
set_option maxHeartbeats 4000000 in
set_option maxRecDepth 100000 in
theorem c_X9_threadOf (l : Launch) (D : va_G) (cyI cyJ cyZ cyO : ClassId) (sz : Nat) (p0 : Int32) (p1 : Int32) (p2 : Int32) (nf : Nat) (q : Int32) (hf : g_X9_threadOf nf p0 p1 p2 = some q) : Met l yX9_threadOf (Cond.code yX9_threadOf cX9_threadOf 5 (some .int) :: tbG) ({ frames := 0, cells := 0, slots := 0, locals := 0 } : Room) (va_Pc [.int p0, .int p1, .int p2] (pcB D (ty4 cyI cyJ cyZ cyO) sz (([] : va_W)))) (qI D (([] : va_W)) q (va_A (([] : va_W)) sz)) 0 0 (va_A (([] : va_W)) sz) := by
  refine Met.ofW (cc := cX9_threadOf) (maxL := 5) (ret := (some .int)) (by decide) rfl ?_
  intro p e s m args below meth c s₁ B hml hv
  obtain ⟨rfl, hsz, hP, hK, hD0, hN⟩ := hv
  have hx := B.exec
  have hb := B.bytes
  have hr := B.returns
  have hT : ∀ w ∈ tbG, w.before ([.int p0, .int p1, .int p2] : List Value).toArray s = true := fun w h => atoms_spec (ws := (Cond.code yX9_threadOf cX9_threadOf 5 (some .int) :: tbG)) B.pre w (List.mem_cons_of_mem _ h)
  have hown : s.vm.findClass RX9 = some m.cls := findClass_of_methodNamed B.named
  have hlocks := B.notSynchronized
  subst hsz
  have hD := hD0.self (sz := s.heap.size)
  generalize hAe : va_A (([] : va_W)) s.heap.size = A at hD ⊢
  have hA : ∀ q : Nat, s.heap.size ≤ q → A q := fun q h => by rw [← hAe]; exact Or.inr h
  have hS : va_S A s.heap s.heap [] := va_S.rf
  show W p l e ({ frames := 0, cells := 0, slots := 0, locals := 0 } : Room) s m ([.int p0, .int p1, .int p2] : List Value).toArray below meth c s.heap [] 0 0 (MQ below (qI D (([] : va_W)) q A) ([.int p0, .int p1, .int p2] : List Value).toArray s 0 0 A) _
  have l7 : ∀ (n7 : Nat) (x2 : Int32) (x3 : Int32) (x4 : Int32) (H : Heap) (locs : List Loc) (ls : Array Slot), va_P D vwCl (([] : va_W)) H → va_D A (([] : va_W)) → va_S A s.heap H locs → lv_has ls 5 [(2, .int x2), (3, .int x3), (4, .int x4)] → g_X9_threadOf_l7 nf n7 x2 x3 x4 = some q → W p l e ({ frames := 0, cells := 0, slots := 0, locals := 0 } : Room) s m ([.int p0, .int p1, .int p2] : List Value).toArray below meth c H locs 0 0 (MQ below (qI D (([] : va_W)) q A) ([.int p0, .int p1, .int p2] : List Value).toArray s 0 0 A) (F0 m 7 ls []) := by
    intro n7
    induction n7 with
    | zero =>
      intro x2 x3 x4 H locs ls hP hD hS hl hf
      rw [g_X9_threadOf_l7] at hf
      cases hf
    | succ n7 ih7 =>
      intro x2 x3 x4 H locs ls hP hD hS hl hf
      rw [g_X9_threadOf_l7] at hf
      refine lv_iload hx hb dX9_threadOf_7 (lv_at hl 2 rfl) ?_
      refine lv_iload_n hx hb dX9_threadOf_9 rfl (lv_at hl 0 rfl) ?_
      refine lv_icmp_le (tgt := 23) hx hb dX9_threadOf_10 (by decide) (fun cc => ?_) (fun cc => ?_)
      · replace hf := if_t cc hf
        refine lv_iload_n hx hb dX9_threadOf_23 rfl (lv_at hl 1 rfl) ?_
        refine lv_iconst (v := 3) hx hb dX9_threadOf_24 (by decide) ?_
        refine lv_irem hx hb dX9_threadOf_25 (by decide) ?_
        refine lv_iconst (v := 1) hx hb dX9_threadOf_26 (by decide) ?_
        refine lv_iadd hx hb dX9_threadOf_27 ?_
        cases Option.some.inj hf
        exact W.iret hx hb hr (fun t ht hW => ⟨⟨_, (), rfl, rfl, by show va_P D vwCl _ t.heap; rw [ht]; exact hP⟩, hS.F ht⟩) hS.2.2 dX9_threadOf_28
      · replace hf := if_f cc hf
        refine lv_iload_n hx hb dX9_threadOf_13 rfl (lv_at hl 1 rfl) ?_
        refine lv_iconst (v := 3) hx hb dX9_threadOf_14 (by decide) ?_
        refine lv_idiv hx hb dX9_threadOf_15 (by decide) ?_
        refine lv_istore_n (lv' := [(3, .int (x3 / 3)), (2, .int x2), (4, .int x4)]) hx hb dX9_threadOf_16 rfl hl (by decide) rfl (fun ls hl => ?_)
        refine lv_iinc (v := (x4 + (-1))) (lv' := [(4, .int (x4 + (-1))), (3, .int (x3 / 3)), (2, .int x2)]) hx hb dX9_threadOf_17 hl (k := 2) rfl rfl (by decide) rfl (fun ls hl => ?_)
        refine lv_goto (tgt := 7) hx hb dX9_threadOf_20 (by decide) ?_
        exact ih7 x2 (x3 / 3) (x4 + (-1)) H locs ls hP hD hS (lv_sub hl [2, 1, 0] rfl) hf
  have main : ∀ (H : Heap) (locs : List Loc) (ls : Array Slot), va_P D vwCl (([] : va_W)) H → va_D A (([] : va_W)) → va_S A s.heap H locs → lv_has ls 5 [(0, .int p0), (1, .int p1), (2, .int p2)] → W p l e ({ frames := 0, cells := 0, slots := 0, locals := 0 } : Room) s m ([.int p0, .int p1, .int p2] : List Value).toArray below meth c H locs 0 0 (MQ below (qI D (([] : va_W)) q A) ([.int p0, .int p1, .int p2] : List Value).toArray s 0 0 A) (F0 m 0 ls []) := by
    intro H locs ls hP hD hS hl
    unfold g_X9_threadOf at hf
    refine lv_iload_n hx hb dX9_threadOf_0 rfl (lv_at hl 0 rfl) ?_
    refine lv_istore_n (lv' := [(3, .int p0), (0, .int p0), (1, .int p1), (2, .int p2)]) hx hb dX9_threadOf_1 rfl hl (by decide) rfl (fun ls hl => ?_)
    refine lv_iload_n hx hb dX9_threadOf_2 rfl (lv_at hl 2 rfl) ?_
    refine lv_iconst (v := 1) hx hb dX9_threadOf_3 (by decide) ?_
    refine lv_isub hx hb dX9_threadOf_4 ?_
    refine lv_istore (lv' := [(4, .int (p1 - 1)), (3, .int p0), (0, .int p0), (1, .int p1), (2, .int p2)]) hx hb dX9_threadOf_5 hl (by decide) rfl (fun ls hl => ?_)
    exact l7 nf p2 p0 (p1 - 1) H locs ls hP hD hS (lv_sub hl [4, 1, 0] rfl) hf
  have hl := lv_entry ([.int p0, .int p1, .int p2]) (n := 5) (Nat.le_of_ble_eq_true rfl)
  rw [lg_entry_eq]
  exact main s.heap [] _ hP hD hS hl
theorem hd_X9_canDarn : yX9_canDarn.cls = RX9 ∧ yX9_canDarn.cls ≠ "java/lang/invoke/MethodHandle" ∧ yX9_canDarn.cls ≠ "java/lang/invoke/VarHandle" ∧ (parseMethodDescriptor yX9_canDarn.desc).map (fun d => d.parameters.length) = some 2 := by decide +kernel
set_option maxHeartbeats 4000000 in
set_option maxRecDepth 100000 in
theorem c_X9_canDarn (l : Launch) (D : va_G) (cyI cyJ cyZ cyO : ClassId) (h : Nat → Nat) (sz : Nat) (book : Nat → Int32) (now : Nat → Int32) (sights : Int32) (sight : Nat → Int32) (signs : Int32) (pad : Nat → Int32) (nights : Int32) (townAt : Int32) (townCell : Int32) (reason : Int32) (acts : Int32) (at_ : Int32) (cost : Nat → Int32) (hole : Nat → Int32) (counts : Nat → Int32) (worth : Nat → Int32) (met : Nat → Int32) (ways : Nat → Int64) (nextWays : Nat → Int64) (image : Nat → Int32) (isKept : Nat → Int32) (p1 : Int32) (p2 : Int32) (nf : Nat) (q : Int32) (hf : g_X9_canDarn nf p1 p2 book hole = some q) : Met l yX9_canDarn (Cond.code yX9_canDarn cX9_canDarn 9 (some .boolean) :: tbG) ({ frames := 1, cells := 0, slots := 0, locals := 24 } : Room) (va_Pc [.ref (h 0), .int p1, .int p2] (pcB D (ty4 cyI cyJ cyZ cyO) sz (wX9 cyI cyJ cyZ cyO h book now sights sight signs pad nights townAt townCell reason acts at_ cost hole counts worth met ways nextWays image isKept))) (qI D (wX9 cyI cyJ cyZ cyO h book now sights sight signs pad nights townAt townCell reason acts at_ cost hole counts worth met ways nextWays image isKept) q (va_A (wX9 cyI cyJ cyZ cyO h book now sights sight signs pad nights townAt townCell reason acts at_ cost hole counts worth met ways nextWays image isKept) sz)) 0 0 (va_A (wX9 cyI cyJ cyZ cyO h book now sights sight signs pad nights townAt townCell reason acts at_ cost hole counts worth met ways nextWays image isKept) sz) := by
  refine Met.ofW (cc := cX9_canDarn) (maxL := 9) (ret := (some .boolean)) (by decide) rfl ?_
  intro p e s m args below meth c s₁ B hml hv
  obtain ⟨rfl, hsz, hP, hK, hD0, hN⟩ := hv
  have hx := B.exec
  have hb := B.bytes
  have hr := B.returns
  have hT : ∀ w ∈ tbG, w.before ([.ref (h 0), .int p1, .int p2] : List Value).toArray s = true := fun w h => atoms_spec (ws := (Cond.code yX9_canDarn cX9_canDarn 9 (some .boolean) :: tbG)) B.pre w (List.mem_cons_of_mem _ h)
  have hown : s.vm.findClass RX9 = some m.cls := findClass_of_methodNamed B.named
  have hlocks := B.notSynchronized
  subst hsz
  have hD := hD0.self (sz := s.heap.size)
  generalize hAe : va_A (wX9 cyI cyJ cyZ cyO h book now sights sight signs pad nights townAt townCell reason acts at_ cost hole counts worth met ways nextWays image isKept) s.heap.size = A at hD ⊢
  have hA : ∀ q : Nat, s.heap.size ≤ q → A q := fun q h => by rw [← hAe]; exact Or.inr h
  have hS : va_S A s.heap s.heap [] := va_S.rf
  show W p l e ({ frames := 1, cells := 0, slots := 0, locals := 24 } : Room) s m ([.ref (h 0), .int p1, .int p2] : List Value).toArray below meth c s.heap [] 0 0 (MQ below (qI D (wX9 cyI cyJ cyZ cyO h book now sights sight signs pad nights townAt townCell reason acts at_ cost hole counts worth met ways nextWays image isKept) q A) ([.ref (h 0), .int p1, .int p2] : List Value).toArray s 0 0 A) _
  have l5 : ∀ (n5 : Nat) (x1 : Int32) (x2 : Int32) (x3 : Int32) (x4 : Int32) (book : Nat → Int32) (hole : Nat → Int32) (H : Heap) (locs : List Loc) (ls : Array Slot), va_P D vwCl (wX9 cyI cyJ cyZ cyO h book now sights sight signs pad nights townAt townCell reason acts at_ cost hole counts worth met ways nextWays image isKept) H → va_D A (wX9 cyI cyJ cyZ cyO h book now sights sight signs pad nights townAt townCell reason acts at_ cost hole counts worth met ways nextWays image isKept) → va_S A s.heap H locs → lv_has ls 9 [(0, .ref (h 0)), (1, .int x1), (2, .int x2), (3, .int x3), (4, .int x4)] → g_X9_canDarn_l5 nf n5 x1 x2 x3 x4 book hole = some q → W p l e ({ frames := 1, cells := 0, slots := 0, locals := 24 } : Room) s m ([.ref (h 0), .int p1, .int p2] : List Value).toArray below meth c H locs 0 0 (MQ below (qI D (wX9 cyI cyJ cyZ cyO h book now sights sight signs pad nights townAt townCell reason acts at_ cost hole counts worth met ways nextWays image isKept) q A) ([.ref (h 0), .int p1, .int p2] : List Value).toArray s 0 0 A) (F0 m 5 ls []) := by
    intro n5
    induction n5 with
    | zero =>
      intro x1 x2 x3 x4 book hole H locs ls hP hD hS hl hf
      rw [g_X9_canDarn_l5] at hf
      cases hf
    | succ n5 ih5 =>
      have l27 : ∀ (n27 : Nat) (x1 : Int32) (x2 : Int32) (x3 : Int32) (x4 : Int32) (x5 : Int32) (x6 : Int32) (book : Nat → Int32) (hole : Nat → Int32) (H : Heap) (locs : List Loc) (ls : Array Slot), va_P D vwCl (wX9 cyI cyJ cyZ cyO h book now sights sight signs pad nights townAt townCell reason acts at_ cost hole counts worth met ways nextWays image isKept) H → va_D A (wX9 cyI cyJ cyZ cyO h book now sights sight signs pad nights townAt townCell reason acts at_ cost hole counts worth met ways nextWays image isKept) → va_S A s.heap H locs → lv_has ls 9 [(0, .ref (h 0)), (1, .int x1), (2, .int x2), (3, .int x3), (4, .int x4), (5, .int x5), (6, .int x6)] → g_X9_canDarn_l27 nf (g_X9_canDarn_l5 nf n5) n27 x1 x2 x3 x4 x5 x6 book hole = some q → W p l e ({ frames := 1, cells := 0, slots := 0, locals := 24 } : Room) s m ([.ref (h 0), .int p1, .int p2] : List Value).toArray below meth c H locs 0 0 (MQ below (qI D (wX9 cyI cyJ cyZ cyO h book now sights sight signs pad nights townAt townCell reason acts at_ cost hole counts worth met ways nextWays image isKept) q A) ([.ref (h 0), .int p1, .int p2] : List Value).toArray s 0 0 A) (F0 m 27 ls []) := by
        intro n27
        induction n27 with
        | zero =>
          intro x1 x2 x3 x4 x5 x6 book hole H locs ls hP hD hS hl hf
          rw [g_X9_canDarn_l27] at hf
          cases hf
        | succ n27 ih27 =>
          have l82 : ∀ (n82 : Nat) (x1 : Int32) (x2 : Int32) (x3 : Int32) (x4 : Int32) (x5 : Int32) (x6 : Int32) (x7 : Int32) (x8 : Int32) (book : Nat → Int32) (hole : Nat → Int32) (H : Heap) (locs : List Loc) (ls : Array Slot), va_P D vwCl (wX9 cyI cyJ cyZ cyO h book now sights sight signs pad nights townAt townCell reason acts at_ cost hole counts worth met ways nextWays image isKept) H → va_D A (wX9 cyI cyJ cyZ cyO h book now sights sight signs pad nights townAt townCell reason acts at_ cost hole counts worth met ways nextWays image isKept) → va_S A s.heap H locs → lv_has ls 9 [(0, .ref (h 0)), (1, .int x1), (2, .int x2), (3, .int x3), (4, .int x4), (5, .int x5), (6, .int x6), (7, .int x7), (8, .int x8)] → g_X9_canDarn_l82 nf (g_X9_canDarn_l5 nf n5) (g_X9_canDarn_l27 nf (g_X9_canDarn_l5 nf n5) n27) n82 x1 x2 x3 x4 x5 x6 x7 x8 book hole = some q → W p l e ({ frames := 1, cells := 0, slots := 0, locals := 24 } : Room) s m ([.ref (h 0), .int p1, .int p2] : List Value).toArray below meth c H locs 0 0 (MQ below (qI D (wX9 cyI cyJ cyZ cyO h book now sights sight signs pad nights townAt townCell reason acts at_ cost hole counts worth met ways nextWays image isKept) q A) ([.ref (h 0), .int p1, .int p2] : List Value).toArray s 0 0 A) (F0 m 82 ls []) := by
            intro n82
            induction n82 with
            | zero =>
              intro x1 x2 x3 x4 x5 x6 x7 x8 book hole H locs ls hP hD hS hl hf
              rw [g_X9_canDarn_l82] at hf
              cases hf
            | succ n82 ih82 =>
              have b122 : ∀ (x1 : Int32) (x2 : Int32) (x4 : Int32) (x5 : Int32) (x6 : Int32) (x7 : Int32) (x8 : Int32) (s0 : Int32) (book : Nat → Int32) (hole : Nat → Int32) (H : Heap) (locs : List Loc) (ls : Array Slot), va_P D vwCl (wX9 cyI cyJ cyZ cyO h book now sights sight signs pad nights townAt townCell reason acts at_ cost hole counts worth met ways nextWays image isKept) H → va_D A (wX9 cyI cyJ cyZ cyO h book now sights sight signs pad nights townAt townCell reason acts at_ cost hole counts worth met ways nextWays image isKept) → va_S A s.heap H locs → lv_has ls 9 [(0, .ref (h 0)), (1, .int x1), (2, .int x2), (4, .int x4), (5, .int x5), (6, .int x6), (7, .int x7), (8, .int x8)] → g_X9_canDarn_b122 nf (g_X9_canDarn_l5 nf n5) (g_X9_canDarn_l27 nf (g_X9_canDarn_l5 nf n5) n27) (g_X9_canDarn_l82 nf (g_X9_canDarn_l5 nf n5) (g_X9_canDarn_l27 nf (g_X9_canDarn_l5 nf n5) n27) n82) x1 x2 x4 x5 x6 x7 x8 s0 book hole = some q → W p l e ({ frames := 1, cells := 0, slots := 0, locals := 24 } : Room) s m ([.ref (h 0), .int p1, .int p2] : List Value).toArray below meth c H locs 0 0 (MQ below (qI D (wX9 cyI cyJ cyZ cyO h book now sights sight signs pad nights townAt townCell reason acts at_ cost hole counts worth met ways nextWays image isKept) q A) ([.ref (h 0), .int p1, .int p2] : List Value).toArray s 0 0 A) (F0 m 122 ls [.int s0]) := by
                intro x1 x2 x4 x5 x6 x7 x8 s0 book hole H locs ls hP hD hS hl hf
                unfold g_X9_canDarn_b122 at hf
                refine lv_istore_n (lv' := [(3, .int s0), (0, .ref (h 0)), (1, .int x1), (2, .int x2), (4, .int x4), (5, .int x5), (6, .int x6), (7, .int x7), (8, .int x8)]) hx hb dX9_canDarn_122 rfl hl (by decide) rfl (fun ls hl => ?_)
                refine lv_iinc (v := (x8 + 1)) (lv' := [(8, .int (x8 + 1)), (3, .int s0), (0, .ref (h 0)), (1, .int x1), (2, .int x2), (4, .int x4), (5, .int x5), (6, .int x6), (7, .int x7)]) hx hb dX9_canDarn_123 hl (k := 8) rfl rfl (by decide) rfl (fun ls hl => ?_)
                refine lv_goto (tgt := 82) hx hb dX9_canDarn_126 (by decide) ?_
                exact ih82 x1 x2 s0 x4 x5 x6 x7 (x8 + 1) book hole H locs ls hP hD hS (lv_sub hl [2, 3, 4, 1, 5, 6, 7, 8, 0] rfl) hf
              have b117 : ∀ (x1 : Int32) (x2 : Int32) (x4 : Int32) (x5 : Int32) (x6 : Int32) (x7 : Int32) (x8 : Int32) (book : Nat → Int32) (hole : Nat → Int32) (H : Heap) (locs : List Loc) (ls : Array Slot), va_P D vwCl (wX9 cyI cyJ cyZ cyO h book now sights sight signs pad nights townAt townCell reason acts at_ cost hole counts worth met ways nextWays image isKept) H → va_D A (wX9 cyI cyJ cyZ cyO h book now sights sight signs pad nights townAt townCell reason acts at_ cost hole counts worth met ways nextWays image isKept) → va_S A s.heap H locs → lv_has ls 9 [(0, .ref (h 0)), (1, .int x1), (2, .int x2), (4, .int x4), (5, .int x5), (6, .int x6), (7, .int x7), (8, .int x8)] → g_X9_canDarn_b117 nf (g_X9_canDarn_l5 nf n5) (g_X9_canDarn_l27 nf (g_X9_canDarn_l5 nf n5) n27) (g_X9_canDarn_l82 nf (g_X9_canDarn_l5 nf n5) (g_X9_canDarn_l27 nf (g_X9_canDarn_l5 nf n5) n27) n82) x1 x2 x4 x5 x6 x7 x8 book hole = some q → W p l e ({ frames := 1, cells := 0, slots := 0, locals := 24 } : Room) s m ([.ref (h 0), .int p1, .int p2] : List Value).toArray below meth c H locs 0 0 (MQ below (qI D (wX9 cyI cyJ cyZ cyO h book now sights sight signs pad nights townAt townCell reason acts at_ cost hole counts worth met ways nextWays image isKept) q A) ([.ref (h 0), .int p1, .int p2] : List Value).toArray s 0 0 A) (F0 m 117 ls []) := by
                intro x1 x2 x4 x5 x6 x7 x8 book hole H locs ls hP hD hS hl hf
                unfold g_X9_canDarn_b117 at hf
                refine lv_iconst (v := 1) hx hb dX9_canDarn_117 (by decide) ?_
                refine lv_goto (tgt := 122) hx hb dX9_canDarn_118 (by decide) ?_
                exact b122 x1 x2 x4 x5 x6 x7 x8 1 book hole H locs ls hP hD hS (lv_sub hl [0, 1, 2, 3, 4, 5, 6, 7] rfl) hf
              have b121 : ∀ (x1 : Int32) (x2 : Int32) (x4 : Int32) (x5 : Int32) (x6 : Int32) (x7 : Int32) (x8 : Int32) (book : Nat → Int32) (hole : Nat → Int32) (H : Heap) (locs : List Loc) (ls : Array Slot), va_P D vwCl (wX9 cyI cyJ cyZ cyO h book now sights sight signs pad nights townAt townCell reason acts at_ cost hole counts worth met ways nextWays image isKept) H → va_D A (wX9 cyI cyJ cyZ cyO h book now sights sight signs pad nights townAt townCell reason acts at_ cost hole counts worth met ways nextWays image isKept) → va_S A s.heap H locs → lv_has ls 9 [(0, .ref (h 0)), (1, .int x1), (2, .int x2), (4, .int x4), (5, .int x5), (6, .int x6), (7, .int x7), (8, .int x8)] → g_X9_canDarn_b121 nf (g_X9_canDarn_l5 nf n5) (g_X9_canDarn_l27 nf (g_X9_canDarn_l5 nf n5) n27) (g_X9_canDarn_l82 nf (g_X9_canDarn_l5 nf n5) (g_X9_canDarn_l27 nf (g_X9_canDarn_l5 nf n5) n27) n82) x1 x2 x4 x5 x6 x7 x8 book hole = some q → W p l e ({ frames := 1, cells := 0, slots := 0, locals := 24 } : Room) s m ([.ref (h 0), .int p1, .int p2] : List Value).toArray below meth c H locs 0 0 (MQ below (qI D (wX9 cyI cyJ cyZ cyO h book now sights sight signs pad nights townAt townCell reason acts at_ cost hole counts worth met ways nextWays image isKept) q A) ([.ref (h 0), .int p1, .int p2] : List Value).toArray s 0 0 A) (F0 m 121 ls []) := by
                intro x1 x2 x4 x5 x6 x7 x8 book hole H locs ls hP hD hS hl hf
                unfold g_X9_canDarn_b121 at hf
                refine lv_iconst (v := 0) hx hb dX9_canDarn_121 (by decide) ?_
                exact b122 x1 x2 x4 x5 x6 x7 x8 0 book hole H locs ls hP hD hS (lv_sub hl [0, 1, 2, 3, 4, 5, 6, 7] rfl) hf
              intro x1 x2 x3 x4 x5 x6 x7 x8 book hole H locs ls hP hD hS hl hf
              rw [g_X9_canDarn_l82] at hf
              refine lv_iload hx hb dX9_canDarn_82 (lv_at hl 8 rfl) ?_
              refine lv_iload hx hb dX9_canDarn_84 (lv_at hl 4 rfl) ?_
              refine lv_icmp_ge (tgt := 129) hx hb dX9_canDarn_86 (by decide) (fun cc => ?_) (fun cc => ?_)
              · replace hf := if_t cc hf
                refine lv_iinc (v := (x6 + 1)) (lv' := [(6, .int (x6 + 1)), (0, .ref (h 0)), (1, .int x1), (2, .int x2), (3, .int x3), (4, .int x4), (5, .int x5), (7, .int x7), (8, .int x8)]) hx hb dX9_canDarn_129 hl (k := 6) rfl rfl (by decide) rfl (fun ls hl => ?_)
                refine lv_goto (tgt := 27) hx hb dX9_canDarn_132 (by decide) ?_
                exact ih27 x1 x2 x3 x4 x5 (x6 + 1) book hole H locs ls hP hD hS (lv_sub hl [1, 2, 3, 4, 5, 6, 0] rfl) hf
              · replace hf := if_f cc hf
                refine lv_iload_n hx hb dX9_canDarn_89 rfl (lv_at hl 3 rfl) ?_
                refine lv_if_eq (tgt := 121) hx hb dX9_canDarn_90 (by decide) (fun cc => ?_) (fun cc => ?_)
                · replace hf := if_t cc hf
                  exact b121 x1 x2 x4 x5 x6 x7 x8 book hole H locs ls hP hD hS (lv_sub hl [0, 1, 2, 4, 5, 6, 7, 8] rfl) hf
                · replace hf := if_f cc hf
                  refine lv_aload_n hx hb dX9_canDarn_93 rfl (lv_at hl 0 rfl) ?_
                  refine va_get (ci := 9) (v := .ref (h 6)) (C := RX9) (T := TX9) (N := 21) hx hb hT hin_X9 hown hK hP 0 rfl rfl 13 (by decide) (hT _ wf_X9_25) (fun _ h9 => h9) rfl dX9_canDarn_94 ?_
                  refine lv_iload hx hb dX9_canDarn_97 (lv_at hl 8 rfl) ?_
                  obtain ⟨hi, hf⟩ := ck_some hf
                  refine va_iald hx hb hK hP 6 0 rfl rfl hi dX9_canDarn_99 ?_
                  refine lv_iload hx hb dX9_canDarn_100 (lv_at hl 7 rfl) ?_
                  refine lv_icmp_ne (tgt := 117) hx hb dX9_canDarn_102 (by decide) (fun cc => ?_) (fun cc => ?_)
                  · replace hf := if_f cc hf
                    exact b117 x1 x2 x4 x5 x6 x7 x8 book hole H locs ls hP hD hS (lv_sub hl [0, 1, 2, 4, 5, 6, 7, 8] rfl) hf
                  · replace hf := if_t cc hf
                    refine lv_iload_n hx hb dX9_canDarn_105 rfl (lv_at hl 1 rfl) ?_
                    refine lv_iload_n hx hb dX9_canDarn_106 rfl (lv_at hl 2 rfl) ?_
                    refine lv_iload hx hb dX9_canDarn_107 (lv_at hl 8 rfl) ?_
                    obtain ⟨q3, hq3, hf⟩ := bd_some hf
                    have hC : ([] : List Nat).map (fun i => (wX9 cyI cyJ cyZ cyO h book now sights sight signs pad nights townAt townCell reason acts at_ cost hole counts worth met ways nextWays image isKept)[i]?) = ([] : va_W).map some := rfl
                    refine cl_i (rn_S (As := [.int x1, .int x2, .int x8]) (rest := []) hx hb hml hown hT hK hN hP hD [] hC rfl (c_X9_threadOf l D cyI cyJ cyZ cyO H.size x1 x2 x8 nf q3 hq3) wm_X9_158 wt_X9_threadOf wz_X9 wc_X9_threadOf hd_X9_threadOf ⟨rfl, rfl⟩ ⟨Nat.le_of_ble_eq_true rfl, Nat.le_of_ble_eq_true rfl⟩ rfl hl.1 rfl (Nat.le_of_ble_eq_true rfl) dX9_canDarn_109 ⟨Nat.zero_le _, Nat.zero_le _⟩) hP hD hS hA [] hC [(false, 0), (false, 1), (false, 2), (false, 3), (false, 4), (false, 5), (false, 6), (false, 7), (false, 8), (false, 9), (false, 10), (false, 11), (false, 12), (false, 13)] (ws' := wX9 cyI cyJ cyZ cyO h book now sights sight signs pad nights townAt townCell reason acts at_ cost hole counts worth met ways nextWays image isKept) rfl rfl rfl (fun H locs hP hD hS => ?_)
                    refine lv_iload hx hb dX9_canDarn_112 (lv_at hl 5 rfl) ?_
                    refine lv_icmp_eq (tgt := 121) hx hb dX9_canDarn_114 (by decide) (fun cc => ?_) (fun cc => ?_)
                    · replace hf := if_t cc hf
                      exact b121 x1 x2 x4 x5 x6 x7 x8 book hole H locs ls hP hD hS (lv_sub hl [0, 1, 2, 4, 5, 6, 7, 8] rfl) hf
                    · replace hf := if_f cc hf
                      exact b117 x1 x2 x4 x5 x6 x7 x8 book hole H locs ls hP hD hS (lv_sub hl [0, 1, 2, 4, 5, 6, 7, 8] rfl) hf
          have b78 : ∀ (x1 : Int32) (x2 : Int32) (x4 : Int32) (x5 : Int32) (x6 : Int32) (x7 : Int32) (s0 : Int32) (book : Nat → Int32) (hole : Nat → Int32) (H : Heap) (locs : List Loc) (ls : Array Slot), va_P D vwCl (wX9 cyI cyJ cyZ cyO h book now sights sight signs pad nights townAt townCell reason acts at_ cost hole counts worth met ways nextWays image isKept) H → va_D A (wX9 cyI cyJ cyZ cyO h book now sights sight signs pad nights townAt townCell reason acts at_ cost hole counts worth met ways nextWays image isKept) → va_S A s.heap H locs → lv_has ls 9 [(0, .ref (h 0)), (1, .int x1), (2, .int x2), (4, .int x4), (5, .int x5), (6, .int x6), (7, .int x7)] → g_X9_canDarn_b78 nf (g_X9_canDarn_l5 nf n5) (g_X9_canDarn_l27 nf (g_X9_canDarn_l5 nf n5) n27) x1 x2 x4 x5 x6 x7 s0 book hole = some q → W p l e ({ frames := 1, cells := 0, slots := 0, locals := 24 } : Room) s m ([.ref (h 0), .int p1, .int p2] : List Value).toArray below meth c H locs 0 0 (MQ below (qI D (wX9 cyI cyJ cyZ cyO h book now sights sight signs pad nights townAt townCell reason acts at_ cost hole counts worth met ways nextWays image isKept) q A) ([.ref (h 0), .int p1, .int p2] : List Value).toArray s 0 0 A) (F0 m 78 ls [.int s0]) := by
            intro x1 x2 x4 x5 x6 x7 s0 book hole H locs ls hP hD hS hl hf
            unfold g_X9_canDarn_b78 at hf
            refine lv_istore_n (lv' := [(3, .int s0), (0, .ref (h 0)), (1, .int x1), (2, .int x2), (4, .int x4), (5, .int x5), (6, .int x6), (7, .int x7)]) hx hb dX9_canDarn_78 rfl hl (by decide) rfl (fun ls hl => ?_)
            refine lv_iconst (v := 0) hx hb dX9_canDarn_79 (by decide) ?_
            refine lv_istore (lv' := [(8, .int 0), (3, .int s0), (0, .ref (h 0)), (1, .int x1), (2, .int x2), (4, .int x4), (5, .int x5), (6, .int x6), (7, .int x7)]) hx hb dX9_canDarn_80 hl (by decide) rfl (fun ls hl => ?_)
            exact l82 nf x1 x2 s0 x4 x5 x6 x7 0 book hole H locs ls hP hD hS (lv_sub hl [2, 3, 4, 1, 5, 6, 7, 8, 0] rfl) hf
          have b73 : ∀ (x1 : Int32) (x2 : Int32) (x4 : Int32) (x5 : Int32) (x6 : Int32) (x7 : Int32) (book : Nat → Int32) (hole : Nat → Int32) (H : Heap) (locs : List Loc) (ls : Array Slot), va_P D vwCl (wX9 cyI cyJ cyZ cyO h book now sights sight signs pad nights townAt townCell reason acts at_ cost hole counts worth met ways nextWays image isKept) H → va_D A (wX9 cyI cyJ cyZ cyO h book now sights sight signs pad nights townAt townCell reason acts at_ cost hole counts worth met ways nextWays image isKept) → va_S A s.heap H locs → lv_has ls 9 [(0, .ref (h 0)), (1, .int x1), (2, .int x2), (4, .int x4), (5, .int x5), (6, .int x6), (7, .int x7)] → g_X9_canDarn_b73 nf (g_X9_canDarn_l5 nf n5) (g_X9_canDarn_l27 nf (g_X9_canDarn_l5 nf n5) n27) x1 x2 x4 x5 x6 x7 book hole = some q → W p l e ({ frames := 1, cells := 0, slots := 0, locals := 24 } : Room) s m ([.ref (h 0), .int p1, .int p2] : List Value).toArray below meth c H locs 0 0 (MQ below (qI D (wX9 cyI cyJ cyZ cyO h book now sights sight signs pad nights townAt townCell reason acts at_ cost hole counts worth met ways nextWays image isKept) q A) ([.ref (h 0), .int p1, .int p2] : List Value).toArray s 0 0 A) (F0 m 73 ls []) := by
            intro x1 x2 x4 x5 x6 x7 book hole H locs ls hP hD hS hl hf
            unfold g_X9_canDarn_b73 at hf
            refine lv_iconst (v := 1) hx hb dX9_canDarn_73 (by decide) ?_
            refine lv_goto (tgt := 78) hx hb dX9_canDarn_74 (by decide) ?_
            exact b78 x1 x2 x4 x5 x6 x7 1 book hole H locs ls hP hD hS (lv_sub hl [0, 1, 2, 3, 4, 5, 6] rfl) hf
          have b77 : ∀ (x1 : Int32) (x2 : Int32) (x4 : Int32) (x5 : Int32) (x6 : Int32) (x7 : Int32) (book : Nat → Int32) (hole : Nat → Int32) (H : Heap) (locs : List Loc) (ls : Array Slot), va_P D vwCl (wX9 cyI cyJ cyZ cyO h book now sights sight signs pad nights townAt townCell reason acts at_ cost hole counts worth met ways nextWays image isKept) H → va_D A (wX9 cyI cyJ cyZ cyO h book now sights sight signs pad nights townAt townCell reason acts at_ cost hole counts worth met ways nextWays image isKept) → va_S A s.heap H locs → lv_has ls 9 [(0, .ref (h 0)), (1, .int x1), (2, .int x2), (4, .int x4), (5, .int x5), (6, .int x6), (7, .int x7)] → g_X9_canDarn_b77 nf (g_X9_canDarn_l5 nf n5) (g_X9_canDarn_l27 nf (g_X9_canDarn_l5 nf n5) n27) x1 x2 x4 x5 x6 x7 book hole = some q → W p l e ({ frames := 1, cells := 0, slots := 0, locals := 24 } : Room) s m ([.ref (h 0), .int p1, .int p2] : List Value).toArray below meth c H locs 0 0 (MQ below (qI D (wX9 cyI cyJ cyZ cyO h book now sights sight signs pad nights townAt townCell reason acts at_ cost hole counts worth met ways nextWays image isKept) q A) ([.ref (h 0), .int p1, .int p2] : List Value).toArray s 0 0 A) (F0 m 77 ls []) := by
            intro x1 x2 x4 x5 x6 x7 book hole H locs ls hP hD hS hl hf
            unfold g_X9_canDarn_b77 at hf
            refine lv_iconst (v := 0) hx hb dX9_canDarn_77 (by decide) ?_
            exact b78 x1 x2 x4 x5 x6 x7 0 book hole H locs ls hP hD hS (lv_sub hl [0, 1, 2, 3, 4, 5, 6] rfl) hf
          intro x1 x2 x3 x4 x5 x6 book hole H locs ls hP hD hS hl hf
          rw [g_X9_canDarn_l27] at hf
          refine lv_iload hx hb dX9_canDarn_27 (lv_at hl 6 rfl) ?_
          refine lv_iconst (v := 4) hx hb dX9_canDarn_29 (by decide) ?_
          refine lv_icmp_ge (tgt := 135) hx hb dX9_canDarn_30 (by decide) (fun cc => ?_) (fun cc => ?_)
          · replace hf := if_t cc hf
            refine lv_iinc (v := (x4 + 1)) (lv' := [(4, .int (x4 + 1)), (0, .ref (h 0)), (1, .int x1), (2, .int x2), (3, .int x3), (5, .int x5), (6, .int x6)]) hx hb dX9_canDarn_135 hl (k := 4) rfl rfl (by decide) rfl (fun ls hl => ?_)
            refine lv_goto (tgt := 5) hx hb dX9_canDarn_138 (by decide) ?_
            exact ih5 x1 x2 x3 (x4 + 1) book hole H locs ls hP hD hS (lv_sub hl [1, 2, 3, 4, 0] rfl) hf
          · replace hf := if_f cc hf
            refine lv_aload_n hx hb dX9_canDarn_33 rfl (lv_at hl 0 rfl) ?_
            refine va_get (ci := 9) (v := .ref (h 6)) (C := RX9) (T := TX9) (N := 21) hx hb hT hin_X9 hown hK hP 0 rfl rfl 13 (by decide) (hT _ wf_X9_25) (fun _ h9 => h9) rfl dX9_canDarn_34 ?_
            refine lv_iload hx hb dX9_canDarn_37 (lv_at hl 4 rfl) ?_
            obtain ⟨hi, hf⟩ := ck_some hf
            refine va_iald hx hb hK hP 6 0 rfl rfl hi dX9_canDarn_39 ?_
            refine lv_iload hx hb dX9_canDarn_40 (lv_at hl 6 rfl) ?_
            obtain ⟨q2, hq2, hf⟩ := bd_some hf
            have hC : ([] : List Nat).map (fun i => (wX9 cyI cyJ cyZ cyO h book now sights sight signs pad nights townAt townCell reason acts at_ cost hole counts worth met ways nextWays image isKept)[i]?) = ([] : va_W).map some := rfl
            refine cl_i (rn_S (As := [.int (hole x4.toNatClampNeg), .int x6]) (rest := []) hx hb hml hown hT hK hN hP hD [] hC rfl (c_X9_beside l D cyI cyJ cyZ cyO H.size (hole x4.toNatClampNeg) x6 nf q2 hq2) wm_X9_91 wt_X9_beside wz_X9 wc_X9_beside hd_X9_beside ⟨rfl, rfl⟩ ⟨Nat.le_of_ble_eq_true rfl, Nat.le_of_ble_eq_true rfl⟩ rfl hl.1 rfl (Nat.le_of_ble_eq_true rfl) dX9_canDarn_42 ⟨Nat.zero_le _, Nat.zero_le _⟩) hP hD hS hA [] hC [(false, 0), (false, 1), (false, 2), (false, 3), (false, 4), (false, 5), (false, 6), (false, 7), (false, 8), (false, 9), (false, 10), (false, 11), (false, 12), (false, 13)] (ws' := wX9 cyI cyJ cyZ cyO h book now sights sight signs pad nights townAt townCell reason acts at_ cost hole counts worth met ways nextWays image isKept) rfl rfl rfl (fun H locs hP hD hS => ?_)
            refine lv_istore (lv' := [(7, .int q2), (0, .ref (h 0)), (1, .int x1), (2, .int x2), (3, .int x3), (4, .int x4), (5, .int x5), (6, .int x6)]) hx hb dX9_canDarn_45 hl (by decide) rfl (fun ls hl => ?_)
            refine lv_iload_n hx hb dX9_canDarn_47 rfl (lv_at hl 4 rfl) ?_
            refine lv_if_eq (tgt := 77) hx hb dX9_canDarn_48 (by decide) (fun cc => ?_) (fun cc => ?_)
            · replace hf := if_t cc hf
              exact b77 x1 x2 x4 x5 x6 q2 book hole H locs ls hP hD hS (lv_sub hl [1, 2, 3, 5, 6, 7, 0] rfl) hf
            · replace hf := if_f cc hf
              refine lv_iload hx hb dX9_canDarn_51 (lv_at hl 0 rfl) ?_
              refine lv_if_lt (tgt := 73) hx hb dX9_canDarn_53 (by decide) (fun cc => ?_) (fun cc => ?_)
              · replace hf := if_t cc hf
                exact b73 x1 x2 x4 x5 x6 q2 book hole H locs ls hP hD hS (lv_sub hl [1, 2, 3, 5, 6, 7, 0] rfl) hf
              · replace hf := if_f cc hf
                refine lv_iload hx hb dX9_canDarn_56 (lv_at hl 6 rfl) ?_
                refine lv_iconst (v := 2) hx hb dX9_canDarn_58 (by decide) ?_
                refine lv_icmp_ne (tgt := 73) hx hb dX9_canDarn_59 (by decide) (fun cc => ?_) (fun cc => ?_)
                · replace hf := if_f cc hf
                  exact b73 x1 x2 x4 x5 x6 q2 book hole H locs ls hP hD hS (lv_sub hl [1, 2, 3, 5, 6, 7, 0] rfl) hf
                · replace hf := if_t cc hf
                  refine lv_aload_n hx hb dX9_canDarn_62 rfl (lv_at hl 1 rfl) ?_
                  refine va_get (ci := 9) (v := .ref (h 1)) (C := RX9) (T := TX9) (N := 21) hx hb hT hin_X9 hown hK hP 0 rfl rfl 0 (by decide) (hT _ wf_X9_7) (fun _ h9 => h9) rfl dX9_canDarn_63 ?_
                  refine lv_iload hx hb dX9_canDarn_66 (lv_at hl 0 rfl) ?_
                  obtain ⟨hi, hf⟩ := ck_some hf
                  refine va_iald hx hb hK hP 1 0 rfl rfl hi dX9_canDarn_68 ?_
                  refine lv_iconst (v := 4) hx hb dX9_canDarn_69 (by decide) ?_
                  refine lv_icmp_eq (tgt := 77) hx hb dX9_canDarn_70 (by decide) (fun cc => ?_) (fun cc => ?_)
                  · replace hf := if_t cc hf
                    exact b77 x1 x2 x4 x5 x6 q2 book hole H locs ls hP hD hS (lv_sub hl [1, 2, 3, 5, 6, 7, 0] rfl) hf
                  · replace hf := if_f cc hf
                    exact b73 x1 x2 x4 x5 x6 q2 book hole H locs ls hP hD hS (lv_sub hl [1, 2, 3, 5, 6, 7, 0] rfl) hf
      intro x1 x2 x3 x4 book hole H locs ls hP hD hS hl hf
      rw [g_X9_canDarn_l5] at hf
      refine lv_iload hx hb dX9_canDarn_5 (lv_at hl 4 rfl) ?_
      refine lv_iload_n hx hb dX9_canDarn_7 rfl (lv_at hl 2 rfl) ?_
      refine lv_icmp_ge (tgt := 141) hx hb dX9_canDarn_8 (by decide) (fun cc => ?_) (fun cc => ?_)
      · replace hf := if_t cc hf
        refine lv_iload_n hx hb dX9_canDarn_141 rfl (lv_at hl 3 rfl) ?_
        obtain ⟨hz, hf⟩ := bz_some hf
        cases Option.some.inj hf
        exact W.zret hx hb hr (bz_nar hz).2 (fun t ht hW => ⟨⟨_, (), rfl, rfl, by show va_P D vwCl _ t.heap; rw [ht]; exact hP⟩, hS.F ht⟩) hS.2.2 dX9_canDarn_142
      · replace hf := if_f cc hf
        refine lv_iload_n hx hb dX9_canDarn_11 rfl (lv_at hl 3 rfl) ?_
        refine lv_if_eq (tgt := 141) hx hb dX9_canDarn_12 (by decide) (fun cc => ?_) (fun cc => ?_)
        · replace hf := if_t cc hf
          refine lv_iload_n hx hb dX9_canDarn_141 rfl (lv_at hl 3 rfl) ?_
          obtain ⟨hz, hf⟩ := bz_some hf
          cases Option.some.inj hf
          exact W.zret hx hb hr (bz_nar hz).2 (fun t ht hW => ⟨⟨_, (), rfl, rfl, by show va_P D vwCl _ t.heap; rw [ht]; exact hP⟩, hS.F ht⟩) hS.2.2 dX9_canDarn_142
        · replace hf := if_f cc hf
          refine lv_iload_n hx hb dX9_canDarn_15 rfl (lv_at hl 1 rfl) ?_
          refine lv_iload_n hx hb dX9_canDarn_16 rfl (lv_at hl 2 rfl) ?_
          refine lv_iload hx hb dX9_canDarn_17 (lv_at hl 4 rfl) ?_
          obtain ⟨q1, hq1, hf⟩ := bd_some hf
          have hC : ([] : List Nat).map (fun i => (wX9 cyI cyJ cyZ cyO h book now sights sight signs pad nights townAt townCell reason acts at_ cost hole counts worth met ways nextWays image isKept)[i]?) = ([] : va_W).map some := rfl
          refine cl_i (rn_S (As := [.int x1, .int x2, .int x4]) (rest := []) hx hb hml hown hT hK hN hP hD [] hC rfl (c_X9_threadOf l D cyI cyJ cyZ cyO H.size x1 x2 x4 nf q1 hq1) wm_X9_158 wt_X9_threadOf wz_X9 wc_X9_threadOf hd_X9_threadOf ⟨rfl, rfl⟩ ⟨Nat.le_of_ble_eq_true rfl, Nat.le_of_ble_eq_true rfl⟩ rfl hl.1 rfl (Nat.le_of_ble_eq_true rfl) dX9_canDarn_19 ⟨Nat.zero_le _, Nat.zero_le _⟩) hP hD hS hA [] hC [(false, 0), (false, 1), (false, 2), (false, 3), (false, 4), (false, 5), (false, 6), (false, 7), (false, 8), (false, 9), (false, 10), (false, 11), (false, 12), (false, 13)] (ws' := wX9 cyI cyJ cyZ cyO h book now sights sight signs pad nights townAt townCell reason acts at_ cost hole counts worth met ways nextWays image isKept) rfl rfl rfl (fun H locs hP hD hS => ?_)
          refine lv_istore (lv' := [(5, .int q1), (0, .ref (h 0)), (1, .int x1), (2, .int x2), (3, .int x3), (4, .int x4)]) hx hb dX9_canDarn_22 hl (by decide) rfl (fun ls hl => ?_)
          refine lv_iconst (v := 0) hx hb dX9_canDarn_24 (by decide) ?_
          refine lv_istore (lv' := [(6, .int 0), (5, .int q1), (0, .ref (h 0)), (1, .int x1), (2, .int x2), (3, .int x3), (4, .int x4)]) hx hb dX9_canDarn_25 hl (by decide) rfl (fun ls hl => ?_)
          exact l27 nf x1 x2 x3 x4 q1 0 book hole H locs ls hP hD hS (lv_sub hl [2, 3, 4, 5, 6, 1, 0] rfl) hf
  have main : ∀ (H : Heap) (locs : List Loc) (ls : Array Slot), va_P D vwCl (wX9 cyI cyJ cyZ cyO h book now sights sight signs pad nights townAt townCell reason acts at_ cost hole counts worth met ways nextWays image isKept) H → va_D A (wX9 cyI cyJ cyZ cyO h book now sights sight signs pad nights townAt townCell reason acts at_ cost hole counts worth met ways nextWays image isKept) → va_S A s.heap H locs → lv_has ls 9 [(0, .ref (h 0)), (1, .int p1), (2, .int p2)] → W p l e ({ frames := 1, cells := 0, slots := 0, locals := 24 } : Room) s m ([.ref (h 0), .int p1, .int p2] : List Value).toArray below meth c H locs 0 0 (MQ below (qI D (wX9 cyI cyJ cyZ cyO h book now sights sight signs pad nights townAt townCell reason acts at_ cost hole counts worth met ways nextWays image isKept) q A) ([.ref (h 0), .int p1, .int p2] : List Value).toArray s 0 0 A) (F0 m 0 ls []) := by
    intro H locs ls hP hD hS hl
    unfold g_X9_canDarn at hf
    refine lv_iconst (v := 1) hx hb dX9_canDarn_0 (by decide) ?_
    refine lv_istore_n (lv' := [(3, .int 1), (0, .ref (h 0)), (1, .int p1), (2, .int p2)]) hx hb dX9_canDarn_1 rfl hl (by decide) rfl (fun ls hl => ?_)
    refine lv_iconst (v := 0) hx hb dX9_canDarn_2 (by decide) ?_
    refine lv_istore (lv' := [(4, .int 0), (3, .int 1), (0, .ref (h 0)), (1, .int p1), (2, .int p2)]) hx hb dX9_canDarn_3 hl (by decide) rfl (fun ls hl => ?_)
    exact l5 nf p1 p2 1 0 book hole H locs ls hP hD hS (lv_sub hl [2, 3, 4, 1, 0] rfl) hf
  have hl := lv_entry ([.ref (h 0), .int p1, .int p2]) (n := 9) (Nat.le_of_ble_eq_true rfl)
  rw [lg_entry_eq]
  exact main s.heap [] _ hP hD hS hl
theorem hd_X9_darned : yX9_darned.cls = RX9 ∧ yX9_darned.cls ≠ "java/lang/invoke/MethodHandle" ∧ yX9_darned.cls ≠ "java/lang/invoke/VarHandle" ∧ (parseMethodDescriptor yX9_darned.desc).map (fun d => d.parameters.length) = some 1 := by decide +kernel
set_option maxHeartbeats 4000000 in
set_option maxRecDepth 100000 in
theorem c_X9_darned (l : Launch) (D : va_G) (cyI cyJ cyZ cyO : ClassId) (h : Nat → Nat) (sz : Nat) (book : Nat → Int32) (now : Nat → Int32) (sights : Int32) (sight : Nat → Int32) (signs : Int32) (pad : Nat → Int32) (nights : Int32) (townAt : Int32) (townCell : Int32) (reason : Int32) (acts : Int32) (at_ : Int32) (cost : Nat → Int32) (hole : Nat → Int32) (counts : Nat → Int32) (worth : Nat → Int32) (met : Nat → Int32) (ways : Nat → Int64) (nextWays : Nat → Int64) (image : Nat → Int32) (isKept : Nat → Int32) (p1 : Int32) (nf : Nat) (q : Int32 × (Nat → Int32)) (hf : g_X9_darned nf p1 book hole = some q) : Met l yX9_darned (Cond.code yX9_darned cX9_darned 8 (some .int) :: tbG) ({ frames := 2, cells := 0, slots := 0, locals := 52 } : Room) (va_Pc [.ref (h 0), .int p1] (pcB D (ty4 cyI cyJ cyZ cyO) sz (wX9 cyI cyJ cyZ cyO h book now sights sight signs pad nights townAt townCell reason acts at_ cost hole counts worth met ways nextWays image isKept))) (qI D (wX9 cyI cyJ cyZ cyO h book now sights sight signs pad nights townAt townCell reason acts at_ cost q.2 counts worth met ways nextWays image isKept) q.1 (va_A (wX9 cyI cyJ cyZ cyO h book now sights sight signs pad nights townAt townCell reason acts at_ cost hole counts worth met ways nextWays image isKept) sz)) 0 0 (va_A (wX9 cyI cyJ cyZ cyO h book now sights sight signs pad nights townAt townCell reason acts at_ cost hole counts worth met ways nextWays image isKept) sz) := by
  refine Met.ofW (cc := cX9_darned) (maxL := 8) (ret := (some .int)) (by decide) rfl ?_
  intro p e s m args below meth c s₁ B hml hv
  obtain ⟨rfl, hsz, hP, hK, hD0, hN⟩ := hv
  have hx := B.exec
  have hb := B.bytes
  have hr := B.returns
  have hT : ∀ w ∈ tbG, w.before ([.ref (h 0), .int p1] : List Value).toArray s = true := fun w h => atoms_spec (ws := (Cond.code yX9_darned cX9_darned 8 (some .int) :: tbG)) B.pre w (List.mem_cons_of_mem _ h)
  have hown : s.vm.findClass RX9 = some m.cls := findClass_of_methodNamed B.named
  have hlocks := B.notSynchronized
  subst hsz
  have hD := hD0.self (sz := s.heap.size)
  generalize hAe : va_A (wX9 cyI cyJ cyZ cyO h book now sights sight signs pad nights townAt townCell reason acts at_ cost hole counts worth met ways nextWays image isKept) s.heap.size = A at hD ⊢
  have hA : ∀ q : Nat, s.heap.size ≤ q → A q := fun q h => by rw [← hAe]; exact Or.inr h
  have hS : va_S A s.heap s.heap [] := va_S.rf
  show W p l e ({ frames := 2, cells := 0, slots := 0, locals := 52 } : Room) s m ([.ref (h 0), .int p1] : List Value).toArray below meth c s.heap [] 0 0 (MQ below (qI D (wX9 cyI cyJ cyZ cyO h book now sights sight signs pad nights townAt townCell reason acts at_ cost q.2 counts worth met ways nextWays image isKept) q.1 A) ([.ref (h 0), .int p1] : List Value).toArray s 0 0 A) _
  have b126 : ∀ (x1 : Int32) (x4 : Int32) (book : Nat → Int32) (hole : Nat → Int32) (H : Heap) (locs : List Loc) (ls : Array Slot), va_P D vwCl (wX9 cyI cyJ cyZ cyO h book now sights sight signs pad nights townAt townCell reason acts at_ cost hole counts worth met ways nextWays image isKept) H → va_D A (wX9 cyI cyJ cyZ cyO h book now sights sight signs pad nights townAt townCell reason acts at_ cost hole counts worth met ways nextWays image isKept) → va_S A s.heap H locs → lv_has ls 8 [(1, .int x1), (4, .int x4)] → g_X9_darned_b126 nf x1 x4 book hole = some q → W p l e ({ frames := 2, cells := 0, slots := 0, locals := 52 } : Room) s m ([.ref (h 0), .int p1] : List Value).toArray below meth c H locs 0 0 (MQ below (qI D (wX9 cyI cyJ cyZ cyO h book now sights sight signs pad nights townAt townCell reason acts at_ cost q.2 counts worth met ways nextWays image isKept) q.1 A) ([.ref (h 0), .int p1] : List Value).toArray s 0 0 A) (F0 m 126 ls []) := by
    intro x1 x4 book hole H locs ls hP hD hS hl hf
    unfold g_X9_darned_b126 at hf
    refine lv_iload_n hx hb dX9_darned_126 rfl (lv_at hl 0 rfl) ?_
    refine lv_if_ne (tgt := 135) hx hb dX9_darned_127 (by decide) (fun cc => ?_) (fun cc => ?_)
    · replace hf := if_f cc hf
      refine lv_bipush (v := (-6)) hx hb dX9_darned_135 (by decide) ?_
      cases Option.some.inj hf
      exact W.iret hx hb hr (fun t ht hW => ⟨⟨_, (), rfl, rfl, by show va_P D vwCl _ t.heap; rw [ht]; exact hP⟩, hS.F ht⟩) hS.2.2 dX9_darned_137
    · replace hf := if_t cc hf
      refine lv_iload hx hb dX9_darned_130 (lv_at hl 1 rfl) ?_
      refine lv_goto (tgt := 137) hx hb dX9_darned_132 (by decide) ?_
      cases Option.some.inj hf
      exact W.iret hx hb hr (fun t ht hW => ⟨⟨_, (), rfl, rfl, by show va_P D vwCl _ t.heap; rw [ht]; exact hP⟩, hS.F ht⟩) hS.2.2 dX9_darned_137
  have l144 : ∀ (n144 : Nat) (x2 : Int32) (x5 : Int32) (x6 : Int32) (x7 : Int32) (book : Nat → Int32) (hole : Nat → Int32) (H : Heap) (locs : List Loc) (ls : Array Slot), va_P D vwCl (wX9 cyI cyJ cyZ cyO h book now sights sight signs pad nights townAt townCell reason acts at_ cost hole counts worth met ways nextWays image isKept) H → va_D A (wX9 cyI cyJ cyZ cyO h book now sights sight signs pad nights townAt townCell reason acts at_ cost hole counts worth met ways nextWays image isKept) → va_S A s.heap H locs → lv_has ls 8 [(2, .int x2), (5, .int x5), (6, .int x6), (7, .int x7)] → g_X9_darned_l144 nf n144 x2 x5 x6 x7 book hole = some q → W p l e ({ frames := 2, cells := 0, slots := 0, locals := 52 } : Room) s m ([.ref (h 0), .int p1] : List Value).toArray below meth c H locs 0 0 (MQ below (qI D (wX9 cyI cyJ cyZ cyO h book now sights sight signs pad nights townAt townCell reason acts at_ cost q.2 counts worth met ways nextWays image isKept) q.1 A) ([.ref (h 0), .int p1] : List Value).toArray s 0 0 A) (F0 m 144 ls []) := by
    intro n144
    induction n144 with
    | zero =>
      intro x2 x5 x6 x7 book hole H locs ls hP hD hS hl hf
      rw [g_X9_darned_l144] at hf
      cases hf
    | succ n144 ih144 =>
      intro x2 x5 x6 x7 book hole H locs ls hP hD hS hl hf
      rw [g_X9_darned_l144] at hf
      refine lv_iload hx hb dX9_darned_144 (lv_at hl 3 rfl) ?_
      refine lv_iload_n hx hb dX9_darned_146 rfl (lv_at hl 0 rfl) ?_
      refine lv_icmp_ge (tgt := 172) hx hb dX9_darned_147 (by decide) (fun cc => ?_) (fun cc => ?_)
      · replace hf := if_t cc hf
        refine lv_iload hx hb dX9_darned_172 (lv_at hl 2 rfl) ?_
        cases Option.some.inj hf
        exact W.iret hx hb hr (fun t ht hW => ⟨⟨_, (), rfl, rfl, by show va_P D vwCl _ t.heap; rw [ht]; exact hP⟩, hS.F ht⟩) hS.2.2 dX9_darned_174
      · replace hf := if_f cc hf
        refine lv_bipush (v := 10) hx hb dX9_darned_150 (by decide) ?_
        refine lv_iload hx hb dX9_darned_152 (lv_at hl 2 rfl) ?_
        refine lv_imul hx hb dX9_darned_154 ?_
        refine lv_iload hx hb dX9_darned_155 (lv_at hl 1 rfl) ?_
        refine lv_iload_n hx hb dX9_darned_157 rfl (lv_at hl 0 rfl) ?_
        refine lv_iload hx hb dX9_darned_158 (lv_at hl 3 rfl) ?_
        obtain ⟨q2, hq2, hf⟩ := bd_some hf
        have hC : ([] : List Nat).map (fun i => (wX9 cyI cyJ cyZ cyO h book now sights sight signs pad nights townAt townCell reason acts at_ cost hole counts worth met ways nextWays image isKept)[i]?) = ([] : va_W).map some := rfl
        refine cl_i (rn_S (As := [.int x5, .int x2, .int x7]) (rest := [.int (10 * x6)]) hx hb hml hown hT hK hN hP hD [] hC rfl (c_X9_threadOf l D cyI cyJ cyZ cyO H.size x5 x2 x7 nf q2 hq2) wm_X9_158 wt_X9_threadOf wz_X9 wc_X9_threadOf hd_X9_threadOf ⟨rfl, rfl⟩ ⟨Nat.le_of_ble_eq_true rfl, Nat.le_of_ble_eq_true rfl⟩ rfl hl.1 rfl (Nat.le_of_ble_eq_true rfl) dX9_darned_160 ⟨Nat.zero_le _, Nat.zero_le _⟩) hP hD hS hA [] hC [(false, 0), (false, 1), (false, 2), (false, 3), (false, 4), (false, 5), (false, 6), (false, 7), (false, 8), (false, 9), (false, 10), (false, 11), (false, 12), (false, 13)] (ws' := wX9 cyI cyJ cyZ cyO h book now sights sight signs pad nights townAt townCell reason acts at_ cost hole counts worth met ways nextWays image isKept) rfl rfl rfl (fun H locs hP hD hS => ?_)
        refine lv_iadd hx hb dX9_darned_163 ?_
        refine lv_istore (lv' := [(6, .int ((10 * x6) + q2)), (2, .int x2), (5, .int x5), (7, .int x7)]) hx hb dX9_darned_164 hl (by decide) rfl (fun ls hl => ?_)
        refine lv_iinc (v := (x7 + 1)) (lv' := [(7, .int (x7 + 1)), (6, .int ((10 * x6) + q2)), (2, .int x2), (5, .int x5)]) hx hb dX9_darned_166 hl (k := 3) rfl rfl (by decide) rfl (fun ls hl => ?_)
        refine lv_goto (tgt := 144) hx hb dX9_darned_169 (by decide) ?_
        exact ih144 x2 x5 ((10 * x6) + q2) (x7 + 1) book hole H locs ls hP hD hS (lv_sub hl [2, 3, 1, 0] rfl) hf
  have l89 : ∀ (n89 : Nat) (x1 : Int32) (x2 : Int32) (x4 : Int32) (x5 : Int32) (x6 : Int32) (book : Nat → Int32) (hole : Nat → Int32) (H : Heap) (locs : List Loc) (ls : Array Slot), va_P D vwCl (wX9 cyI cyJ cyZ cyO h book now sights sight signs pad nights townAt townCell reason acts at_ cost hole counts worth met ways nextWays image isKept) H → va_D A (wX9 cyI cyJ cyZ cyO h book now sights sight signs pad nights townAt townCell reason acts at_ cost hole counts worth met ways nextWays image isKept) → va_S A s.heap H locs → lv_has ls 8 [(0, .ref (h 0)), (1, .int x1), (2, .int x2), (4, .int x4), (5, .int x5), (6, .int x6)] → g_X9_darned_l89 nf n89 x1 x2 x4 x5 x6 book hole = some q → W p l e ({ frames := 2, cells := 0, slots := 0, locals := 52 } : Room) s m ([.ref (h 0), .int p1] : List Value).toArray below meth c H locs 0 0 (MQ below (qI D (wX9 cyI cyJ cyZ cyO h book now sights sight signs pad nights townAt townCell reason acts at_ cost q.2 counts worth met ways nextWays image isKept) q.1 A) ([.ref (h 0), .int p1] : List Value).toArray s 0 0 A) (F0 m 89 ls []) := by
    intro n89
    induction n89 with
    | zero =>
      intro x1 x2 x4 x5 x6 book hole H locs ls hP hD hS hl hf
      rw [g_X9_darned_l89] at hf
      cases hf
    | succ n89 ih89 =>
      have b111 : ∀ (x1 : Int32) (x2 : Int32) (x4 : Int32) (x5 : Int32) (x6 : Int32) (book : Nat → Int32) (hole : Nat → Int32) (H : Heap) (locs : List Loc) (ls : Array Slot), va_P D vwCl (wX9 cyI cyJ cyZ cyO h book now sights sight signs pad nights townAt townCell reason acts at_ cost hole counts worth met ways nextWays image isKept) H → va_D A (wX9 cyI cyJ cyZ cyO h book now sights sight signs pad nights townAt townCell reason acts at_ cost hole counts worth met ways nextWays image isKept) → va_S A s.heap H locs → lv_has ls 8 [(0, .ref (h 0)), (1, .int x1), (2, .int x2), (4, .int x4), (5, .int x5), (6, .int x6)] → g_X9_darned_b111 nf (g_X9_darned_l89 nf n89) x1 x2 x4 x5 x6 book hole = some q → W p l e ({ frames := 2, cells := 0, slots := 0, locals := 52 } : Room) s m ([.ref (h 0), .int p1] : List Value).toArray below meth c H locs 0 0 (MQ below (qI D (wX9 cyI cyJ cyZ cyO h book now sights sight signs pad nights townAt townCell reason acts at_ cost q.2 counts worth met ways nextWays image isKept) q.1 A) ([.ref (h 0), .int p1] : List Value).toArray s 0 0 A) (F0 m 111 ls []) := by
        intro x1 x2 x4 x5 x6 book hole H locs ls hP hD hS hl hf
        unfold g_X9_darned_b111 at hf
        refine lv_iinc (v := (x6 + (-1))) (lv' := [(6, .int (x6 + (-1))), (0, .ref (h 0)), (1, .int x1), (2, .int x2), (4, .int x4), (5, .int x5)]) hx hb dX9_darned_111 hl (k := 5) rfl rfl (by decide) rfl (fun ls hl => ?_)
        refine lv_goto (tgt := 89) hx hb dX9_darned_114 (by decide) ?_
        exact ih89 x1 x2 x4 x5 (x6 + (-1)) book hole H locs ls hP hD hS (lv_sub hl [1, 2, 3, 4, 5, 0] rfl) hf
      intro x1 x2 x4 x5 x6 book hole H locs ls hP hD hS hl hf
      rw [g_X9_darned_l89] at hf
      refine lv_iload hx hb dX9_darned_89 (lv_at hl 5 rfl) ?_
      refine lv_if_lt (tgt := 117) hx hb dX9_darned_91 (by decide) (fun cc => ?_) (fun cc => ?_)
      · replace hf := if_t cc hf
        refine lv_iload_n hx hb dX9_darned_117 rfl (lv_at hl 1 rfl) ?_
        refine lv_if_eq (tgt := 126) hx hb dX9_darned_118 (by decide) (fun cc => ?_) (fun cc => ?_)
        · replace hf := if_t cc hf
          exact b126 x1 x4 book hole H locs ls hP hD hS (lv_sub hl [1, 3] rfl) hf
        · replace hf := if_f cc hf
          refine lv_iload hx hb dX9_darned_121 (lv_at hl 4 rfl) ?_
          refine lv_if_ge (tgt := 138) hx hb dX9_darned_123 (by decide) (fun cc => ?_) (fun cc => ?_)
          · replace hf := if_t cc hf
            refine lv_iconst (v := 0) hx hb dX9_darned_138 (by decide) ?_
            refine lv_istore (lv' := [(6, .int 0), (0, .ref (h 0)), (1, .int x1), (2, .int x2), (4, .int x4), (5, .int x5)]) hx hb dX9_darned_139 hl (by decide) rfl (fun ls hl => ?_)
            refine lv_iconst (v := 0) hx hb dX9_darned_141 (by decide) ?_
            refine lv_istore (lv' := [(7, .int 0), (6, .int 0), (0, .ref (h 0)), (1, .int x1), (2, .int x2), (4, .int x4), (5, .int x5)]) hx hb dX9_darned_142 hl (by decide) rfl (fun ls hl => ?_)
            exact l144 nf x2 x5 0 0 book hole H locs ls hP hD hS (lv_sub hl [4, 6, 1, 0] rfl) hf
          · replace hf := if_f cc hf
            exact b126 x1 x4 book hole H locs ls hP hD hS (lv_sub hl [1, 3] rfl) hf
      · replace hf := if_f cc hf
        refine lv_aload_n hx hb dX9_darned_94 rfl (lv_at hl 0 rfl) ?_
        refine lv_iload hx hb dX9_darned_95 (lv_at hl 5 rfl) ?_
        refine lv_iload_n hx hb dX9_darned_97 rfl (lv_at hl 2 rfl) ?_
        obtain ⟨q1, hq1, hf⟩ := bd_some hf
        have hC : [0, 1, 2, 3, 4, 5, 6, 7, 8, 9, 10, 11, 12, 13].map (fun i => (wX9 cyI cyJ cyZ cyO h book now sights sight signs pad nights townAt townCell reason acts at_ cost hole counts worth met ways nextWays image isKept)[i]?) = (wX9 cyI cyJ cyZ cyO h book now sights sight signs pad nights townAt townCell reason acts at_ cost hole counts worth met ways nextWays image isKept).map some := rfl
        refine cl_i (rn_V (As := [.int x6, .int x2]) (rest := []) (C := RX9) hx hb hml hown hT hK hN hP hD [0, 1, 2, 3, 4, 5, 6, 7, 8, 9, 10, 11, 12, 13] hC rfl (c_X9_canDarn l D cyI cyJ cyZ cyO h H.size book now sights sight signs pad nights townAt townCell reason acts at_ cost hole counts worth met ways nextWays image isKept x6 x2 nf q1 hq1) wm_X9_155 wi_X9_canDarn wl_X9_canDarn wz_X9 wc_X9_canDarn hd_X9_canDarn ⟨rfl, rfl⟩ ⟨Nat.le_of_ble_eq_true rfl, Nat.le_of_ble_eq_true rfl⟩ (q0 := 0) (ci := 9) rfl rfl rfl rfl hl.1 rfl (Nat.le_of_ble_eq_true rfl) dX9_darned_98 ⟨Nat.zero_le _, Nat.zero_le _⟩) hP hD hS hA [0, 1, 2, 3, 4, 5, 6, 7, 8, 9, 10, 11, 12, 13] hC [(true, 0), (true, 1), (true, 2), (true, 3), (true, 4), (true, 5), (true, 6), (true, 7), (true, 8), (true, 9), (true, 10), (true, 11), (true, 12), (true, 13)] (ws' := wX9 cyI cyJ cyZ cyO h book now sights sight signs pad nights townAt townCell reason acts at_ cost hole counts worth met ways nextWays image isKept) rfl rfl rfl (fun H locs hP hD hS => ?_)
        refine lv_if_eq (tgt := 111) hx hb dX9_darned_101 (by decide) (fun cc => ?_) (fun cc => ?_)
        · replace hf := if_t cc hf
          exact b111 x1 x2 x4 x5 x6 book hole H locs ls hP hD hS (lv_sub hl [0, 1, 2, 3, 4, 5] rfl) hf
        · replace hf := if_f cc hf
          refine lv_iinc (v := (x4 + 1)) (lv' := [(4, .int (x4 + 1)), (0, .ref (h 0)), (1, .int x1), (2, .int x2), (5, .int x5), (6, .int x6)]) hx hb dX9_darned_104 hl (k := 3) rfl rfl (by decide) rfl (fun ls hl => ?_)
          refine lv_iload hx hb dX9_darned_107 (lv_at hl 5 rfl) ?_
          refine lv_istore (lv' := [(5, .int x6), (4, .int (x4 + 1)), (0, .ref (h 0)), (1, .int x1), (2, .int x2), (6, .int x6)]) hx hb dX9_darned_109 hl (by decide) rfl (fun ls hl => ?_)
          exact b111 x1 x2 (x4 + 1) x6 x6 book hole H locs ls hP hD hS (lv_sub hl [2, 3, 4, 1, 0, 5] rfl) hf
  have l61 : ∀ (n61 : Nat) (x1 : Int32) (x2 : Int32) (x3 : Int32) (x4 : Int32) (book : Nat → Int32) (hole : Nat → Int32) (H : Heap) (locs : List Loc) (ls : Array Slot), va_P D vwCl (wX9 cyI cyJ cyZ cyO h book now sights sight signs pad nights townAt townCell reason acts at_ cost hole counts worth met ways nextWays image isKept) H → va_D A (wX9 cyI cyJ cyZ cyO h book now sights sight signs pad nights townAt townCell reason acts at_ cost hole counts worth met ways nextWays image isKept) → va_S A s.heap H locs → lv_has ls 8 [(0, .ref (h 0)), (1, .int x1), (2, .int x2), (3, .int x3), (4, .int x4)] → g_X9_darned_l61 nf n61 x1 x2 x3 x4 book hole = some q → W p l e ({ frames := 2, cells := 0, slots := 0, locals := 52 } : Room) s m ([.ref (h 0), .int p1] : List Value).toArray below meth c H locs 0 0 (MQ below (qI D (wX9 cyI cyJ cyZ cyO h book now sights sight signs pad nights townAt townCell reason acts at_ cost q.2 counts worth met ways nextWays image isKept) q.1 A) ([.ref (h 0), .int p1] : List Value).toArray s 0 0 A) (F0 m 61 ls []) := by
    intro n61
    induction n61 with
    | zero =>
      intro x1 x2 x3 x4 book hole H locs ls hP hD hS hl hf
      rw [g_X9_darned_l61] at hf
      cases hf
    | succ n61 ih61 =>
      intro x1 x2 x3 x4 book hole H locs ls hP hD hS hl hf
      rw [g_X9_darned_l61] at hf
      refine lv_iload hx hb dX9_darned_61 (lv_at hl 4 rfl) ?_
      refine lv_iload_n hx hb dX9_darned_63 rfl (lv_at hl 2 rfl) ?_
      refine lv_icmp_ge (tgt := 77) hx hb dX9_darned_64 (by decide) (fun cc => ?_) (fun cc => ?_)
      · replace hf := if_t cc hf
        refine lv_iconst (v := 0) hx hb dX9_darned_77 (by decide) ?_
        refine lv_istore (lv' := [(4, .int 0), (0, .ref (h 0)), (1, .int x1), (2, .int x2), (3, .int x3)]) hx hb dX9_darned_78 hl (by decide) rfl (fun ls hl => ?_)
        refine lv_bipush (v := (-6)) hx hb dX9_darned_80 (by decide) ?_
        refine lv_istore (lv' := [(5, .int (-6)), (4, .int 0), (0, .ref (h 0)), (1, .int x1), (2, .int x2), (3, .int x3)]) hx hb dX9_darned_82 hl (by decide) rfl (fun ls hl => ?_)
        refine lv_iload_n hx hb dX9_darned_84 rfl (lv_at hl 5 rfl) ?_
        refine lv_iconst (v := 1) hx hb dX9_darned_85 (by decide) ?_
        refine lv_isub hx hb dX9_darned_86 ?_
        refine lv_istore (lv' := [(6, .int (x3 - 1)), (5, .int (-6)), (4, .int 0), (0, .ref (h 0)), (1, .int x1), (2, .int x2), (3, .int x3)]) hx hb dX9_darned_87 hl (by decide) rfl (fun ls hl => ?_)
        exact l89 nf x1 x2 0 (-6) (x3 - 1) book hole H locs ls hP hD hS (lv_sub hl [3, 4, 5, 2, 1, 0] rfl) hf
      · replace hf := if_f cc hf
        refine lv_iload_n hx hb dX9_darned_67 rfl (lv_at hl 3 rfl) ?_
        refine lv_iconst (v := 3) hx hb dX9_darned_68 (by decide) ?_
        refine lv_imul hx hb dX9_darned_69 ?_
        refine lv_istore_n (lv' := [(3, .int (x3 * 3)), (0, .ref (h 0)), (1, .int x1), (2, .int x2), (4, .int x4)]) hx hb dX9_darned_70 rfl hl (by decide) rfl (fun ls hl => ?_)
        refine lv_iinc (v := (x4 + 1)) (lv' := [(4, .int (x4 + 1)), (3, .int (x3 * 3)), (0, .ref (h 0)), (1, .int x1), (2, .int x2)]) hx hb dX9_darned_71 hl (k := 4) rfl rfl (by decide) rfl (fun ls hl => ?_)
        refine lv_goto (tgt := 61) hx hb dX9_darned_74 (by decide) ?_
        exact ih61 x1 x2 (x3 * 3) (x4 + 1) book hole H locs ls hP hD hS (lv_sub hl [2, 3, 4, 1, 0] rfl) hf
  have l16 : ∀ (n16 : Nat) (x1 : Int32) (x2 : Int32) (x3 : Int32) (book : Nat → Int32) (hole : Nat → Int32) (H : Heap) (locs : List Loc) (ls : Array Slot), va_P D vwCl (wX9 cyI cyJ cyZ cyO h book now sights sight signs pad nights townAt townCell reason acts at_ cost hole counts worth met ways nextWays image isKept) H → va_D A (wX9 cyI cyJ cyZ cyO h book now sights sight signs pad nights townAt townCell reason acts at_ cost hole counts worth met ways nextWays image isKept) → va_S A s.heap H locs → lv_has ls 8 [(0, .ref (h 0)), (1, .int x1), (2, .int x2), (3, .int x3)] → g_X9_darned_l16 nf n16 x1 x2 x3 book hole = some q → W p l e ({ frames := 2, cells := 0, slots := 0, locals := 52 } : Room) s m ([.ref (h 0), .int p1] : List Value).toArray below meth c H locs 0 0 (MQ below (qI D (wX9 cyI cyJ cyZ cyO h book now sights sight signs pad nights townAt townCell reason acts at_ cost q.2 counts worth met ways nextWays image isKept) q.1 A) ([.ref (h 0), .int p1] : List Value).toArray s 0 0 A) (F0 m 16 ls []) := by
    intro n16
    induction n16 with
    | zero =>
      intro x1 x2 x3 book hole H locs ls hP hD hS hl hf
      rw [g_X9_darned_l16] at hf
      cases hf
    | succ n16 ih16 =>
      have b41 : ∀ (x1 : Int32) (x2 : Int32) (x3 : Int32) (book : Nat → Int32) (hole : Nat → Int32) (H : Heap) (locs : List Loc) (ls : Array Slot), va_P D vwCl (wX9 cyI cyJ cyZ cyO h book now sights sight signs pad nights townAt townCell reason acts at_ cost hole counts worth met ways nextWays image isKept) H → va_D A (wX9 cyI cyJ cyZ cyO h book now sights sight signs pad nights townAt townCell reason acts at_ cost hole counts worth met ways nextWays image isKept) → va_S A s.heap H locs → lv_has ls 8 [(0, .ref (h 0)), (1, .int x1), (2, .int x2), (3, .int x3)] → g_X9_darned_b41 nf (g_X9_darned_l16 nf n16) x1 x2 x3 book hole = some q → W p l e ({ frames := 2, cells := 0, slots := 0, locals := 52 } : Room) s m ([.ref (h 0), .int p1] : List Value).toArray below meth c H locs 0 0 (MQ below (qI D (wX9 cyI cyJ cyZ cyO h book now sights sight signs pad nights townAt townCell reason acts at_ cost q.2 counts worth met ways nextWays image isKept) q.1 A) ([.ref (h 0), .int p1] : List Value).toArray s 0 0 A) (F0 m 41 ls []) := by
        intro x1 x2 x3 book hole H locs ls hP hD hS hl hf
        unfold g_X9_darned_b41 at hf
        refine lv_iinc (v := (x3 + 1)) (lv' := [(3, .int (x3 + 1)), (0, .ref (h 0)), (1, .int x1), (2, .int x2)]) hx hb dX9_darned_41 hl (k := 3) rfl rfl (by decide) rfl (fun ls hl => ?_)
        refine lv_goto (tgt := 16) hx hb dX9_darned_44 (by decide) ?_
        exact ih16 x1 x2 (x3 + 1) book hole H locs ls hP hD hS (lv_sub hl [1, 2, 3, 0] rfl) hf
      intro x1 x2 x3 book hole H locs ls hP hD hS hl hf
      rw [g_X9_darned_l16] at hf
      refine lv_iload_n hx hb dX9_darned_16 rfl (lv_at hl 3 rfl) ?_
      refine lv_bipush (v := 25) hx hb dX9_darned_17 (by decide) ?_
      refine lv_icmp_ge (tgt := 47) hx hb dX9_darned_19 (by decide) (fun cc => ?_) (fun cc => ?_)
      · replace hf := if_t cc hf
        refine lv_iload_n hx hb dX9_darned_47 rfl (lv_at hl 2 rfl) ?_
        refine lv_bipush (v := 9) hx hb dX9_darned_48 (by decide) ?_
        refine lv_icmp_le (tgt := 56) hx hb dX9_darned_50 (by decide) (fun cc => ?_) (fun cc => ?_)
        · replace hf := if_t cc hf
          refine lv_iconst (v := 1) hx hb dX9_darned_56 (by decide) ?_
          refine lv_istore_n (lv' := [(3, .int 1), (0, .ref (h 0)), (1, .int x1), (2, .int x2)]) hx hb dX9_darned_57 rfl hl (by decide) rfl (fun ls hl => ?_)
          refine lv_iconst (v := 0) hx hb dX9_darned_58 (by decide) ?_
          refine lv_istore (lv' := [(4, .int 0), (3, .int 1), (0, .ref (h 0)), (1, .int x1), (2, .int x2)]) hx hb dX9_darned_59 hl (by decide) rfl (fun ls hl => ?_)
          exact l61 nf x1 x2 1 0 book hole H locs ls hP hD hS (lv_sub hl [2, 3, 4, 1, 0] rfl) hf
        · replace hf := if_f cc hf
          refine lv_bipush (v := (-3)) hx hb dX9_darned_53 (by decide) ?_
          cases Option.some.inj hf
          exact W.iret hx hb hr (fun t ht hW => ⟨⟨_, (), rfl, rfl, by show va_P D vwCl _ t.heap; rw [ht]; exact hP⟩, hS.F ht⟩) hS.2.2 dX9_darned_55
      · replace hf := if_f cc hf
        refine lv_aload_n hx hb dX9_darned_22 rfl (lv_at hl 0 rfl) ?_
        refine va_get (ci := 9) (v := .ref (h 1)) (C := RX9) (T := TX9) (N := 21) hx hb hT hin_X9 hown hK hP 0 rfl rfl 0 (by decide) (hT _ wf_X9_7) (fun _ h9 => h9) rfl dX9_darned_23 ?_
        refine lv_iload_n hx hb dX9_darned_26 rfl (lv_at hl 3 rfl) ?_
        obtain ⟨hi, hf⟩ := ck_some hf
        refine va_iald hx hb hK hP 1 0 rfl rfl hi dX9_darned_27 ?_
        refine lv_if_ne (tgt := 41) hx hb dX9_darned_28 (by decide) (fun cc => ?_) (fun cc => ?_)
        · replace hf := if_f cc hf
          exact b41 x1 x2 x3 book hole H locs ls hP hD hS (lv_sub hl [0, 1, 2, 3] rfl) hf
        · replace hf := if_t cc hf
          refine lv_aload_n hx hb dX9_darned_31 rfl (lv_at hl 0 rfl) ?_
          refine va_get (ci := 9) (v := .ref (h 6)) (C := RX9) (T := TX9) (N := 21) hx hb hT hin_X9 hown hK hP 0 rfl rfl 13 (by decide) (hT _ wf_X9_25) (fun _ h9 => h9) rfl dX9_darned_32 ?_
          refine lv_iload_n hx hb dX9_darned_35 rfl (lv_at hl 2 rfl) ?_
          refine lv_iload_n hx hb dX9_darned_36 rfl (lv_at hl 3 rfl) ?_
          obtain ⟨hi, hf⟩ := ck_some hf
          refine va_iast hx hb hK hP hD hS 6 0 rfl rfl hi dX9_darned_37 (fun H locs hP hD hS => ?_)
          have hP : va_P D vwCl (wX9 cyI cyJ cyZ cyO h book now sights sight signs pad nights townAt townCell reason acts at_ cost (upd hole x2.toNatClampNeg x3) counts worth met ways nextWays image isKept) H := hP
          have hD : va_D A (wX9 cyI cyJ cyZ cyO h book now sights sight signs pad nights townAt townCell reason acts at_ cost (upd hole x2.toNatClampNeg x3) counts worth met ways nextWays image isKept) := hD
          refine lv_iinc (v := (x2 + 1)) (lv' := [(2, .int (x2 + 1)), (0, .ref (h 0)), (1, .int x1), (3, .int x3)]) hx hb dX9_darned_38 hl (k := 2) rfl rfl (by decide) rfl (fun ls hl => ?_)
          exact b41 x1 (x2 + 1) x3 book (upd hole x2.toNatClampNeg x3) H locs ls hP hD hS (lv_sub hl [1, 2, 0, 3] rfl) hf
  have main : ∀ (H : Heap) (locs : List Loc) (ls : Array Slot), va_P D vwCl (wX9 cyI cyJ cyZ cyO h book now sights sight signs pad nights townAt townCell reason acts at_ cost hole counts worth met ways nextWays image isKept) H → va_D A (wX9 cyI cyJ cyZ cyO h book now sights sight signs pad nights townAt townCell reason acts at_ cost hole counts worth met ways nextWays image isKept) → va_S A s.heap H locs → lv_has ls 8 [(0, .ref (h 0)), (1, .int p1)] → W p l e ({ frames := 2, cells := 0, slots := 0, locals := 52 } : Room) s m ([.ref (h 0), .int p1] : List Value).toArray below meth c H locs 0 0 (MQ below (qI D (wX9 cyI cyJ cyZ cyO h book now sights sight signs pad nights townAt townCell reason acts at_ cost q.2 counts worth met ways nextWays image isKept) q.1 A) ([.ref (h 0), .int p1] : List Value).toArray s 0 0 A) (F0 m 0 ls []) := by
    intro H locs ls hP hD hS hl
    unfold g_X9_darned at hf
    refine lv_iload_n hx hb dX9_darned_0 rfl (lv_at hl 1 rfl) ?_
    refine lv_iconst (v := 0) hx hb dX9_darned_1 (by decide) ?_
    refine lv_iconst (v := 1) hx hb dX9_darned_2 (by decide) ?_
    obtain ⟨q3, hq3, hf⟩ := bd_some hf
    have hC : ([] : List Nat).map (fun i => (wX9 cyI cyJ cyZ cyO h book now sights sight signs pad nights townAt townCell reason acts at_ cost hole counts worth met ways nextWays image isKept)[i]?) = ([] : va_W).map some := rfl
    refine cl_i (rn_S (As := [.int p1, .int 0, .int 1]) (rest := []) hx hb hml hown hT hK hN hP hD [] hC rfl (c_X9_in l D cyI cyJ cyZ cyO H.size p1 0 1 nf q3 hq3) wm_X9_51 wt_X9_in wz_X9 wc_X9_in hd_X9_in ⟨rfl, rfl⟩ ⟨Nat.le_of_ble_eq_true rfl, Nat.le_of_ble_eq_true rfl⟩ rfl hl.1 rfl (Nat.le_of_ble_eq_true rfl) dX9_darned_3 ⟨Nat.zero_le _, Nat.zero_le _⟩) hP hD hS hA [] hC [(false, 0), (false, 1), (false, 2), (false, 3), (false, 4), (false, 5), (false, 6), (false, 7), (false, 8), (false, 9), (false, 10), (false, 11), (false, 12), (false, 13)] (ws' := wX9 cyI cyJ cyZ cyO h book now sights sight signs pad nights townAt townCell reason acts at_ cost hole counts worth met ways nextWays image isKept) rfl rfl rfl (fun H locs hP hD hS => ?_)
    refine lv_if_ne (tgt := 12) hx hb dX9_darned_6 (by decide) (fun cc => ?_) (fun cc => ?_)
    · replace hf := if_f cc hf
      refine lv_iconst (v := 0) hx hb dX9_darned_12 (by decide) ?_
      refine lv_istore_n (lv' := [(2, .int 0), (0, .ref (h 0)), (1, .int p1)]) hx hb dX9_darned_13 rfl hl (by decide) rfl (fun ls hl => ?_)
      refine lv_iconst (v := 0) hx hb dX9_darned_14 (by decide) ?_
      refine lv_istore_n (lv' := [(3, .int 0), (2, .int 0), (0, .ref (h 0)), (1, .int p1)]) hx hb dX9_darned_15 rfl hl (by decide) rfl (fun ls hl => ?_)
      exact l16 nf p1 0 0 book hole H locs ls hP hD hS (lv_sub hl [2, 3, 1, 0] rfl) hf
    · replace hf := if_t cc hf
      refine lv_bipush (v := (-2)) hx hb dX9_darned_9 (by decide) ?_
      cases Option.some.inj hf
      exact W.iret hx hb hr (fun t ht hW => ⟨⟨_, (), rfl, rfl, by show va_P D vwCl _ t.heap; rw [ht]; exact hP⟩, hS.F ht⟩) hS.2.2 dX9_darned_11
  have hl := lv_entry ([.ref (h 0), .int p1]) (n := 8) (Nat.le_of_ble_eq_true rfl)
  rw [lg_entry_eq]
  exact main s.heap [] _ hP hD hS hl
theorem hd_X9_sheet : yX9_sheet.cls = RX9 ∧ yX9_sheet.cls ≠ "java/lang/invoke/MethodHandle" ∧ yX9_sheet.cls ≠ "java/lang/invoke/VarHandle" ∧ (parseMethodDescriptor yX9_sheet.desc).map (fun d => d.parameters.length) = some 2 := by decide +kernel
set_option maxHeartbeats 4000000 in
set_option maxRecDepth 100000 in
theorem c_X9_sheet (l : Launch) (D : va_G) (cyI cyJ cyZ cyO : ClassId) (h : Nat → Nat) (sz : Nat) (book : Nat → Int32) (now : Nat → Int32) (sights : Int32) (sight : Nat → Int32) (signs : Int32) (pad : Nat → Int32) (nights : Int32) (townAt : Int32) (townCell : Int32) (reason : Int32) (acts : Int32) (at_ : Int32) (cost : Nat → Int32) (hole : Nat → Int32) (counts : Nat → Int32) (worth : Nat → Int32) (met : Nat → Int32) (ways : Nat → Int64) (nextWays : Nat → Int64) (image : Nat → Int32) (isKept : Nat → Int32) (p1 : Int32) (p2 : Int32) (nf : Nat) (q : Int32) (hf : g_X9_sheet nf p1 p2 book = some q) : Met l yX9_sheet (Cond.code yX9_sheet cX9_sheet 9 (some .int) :: tbG) ({ frames := 1, cells := 0, slots := 0, locals := 22 } : Room) (va_Pc [.ref (h 0), .int p1, .int p2] (pcB D (ty4 cyI cyJ cyZ cyO) sz (wX9 cyI cyJ cyZ cyO h book now sights sight signs pad nights townAt townCell reason acts at_ cost hole counts worth met ways nextWays image isKept))) (qI D (wX9 cyI cyJ cyZ cyO h book now sights sight signs pad nights townAt townCell reason acts at_ cost hole counts worth met ways nextWays image isKept) q (va_A (wX9 cyI cyJ cyZ cyO h book now sights sight signs pad nights townAt townCell reason acts at_ cost hole counts worth met ways nextWays image isKept) sz)) 0 0 (va_A (wX9 cyI cyJ cyZ cyO h book now sights sight signs pad nights townAt townCell reason acts at_ cost hole counts worth met ways nextWays image isKept) sz) := by
  refine Met.ofW (cc := cX9_sheet) (maxL := 9) (ret := (some .int)) (by decide) rfl ?_
  intro p e s m args below meth c s₁ B hml hv
  obtain ⟨rfl, hsz, hP, hK, hD0, hN⟩ := hv
  have hx := B.exec
  have hb := B.bytes
  have hr := B.returns
  have hT : ∀ w ∈ tbG, w.before ([.ref (h 0), .int p1, .int p2] : List Value).toArray s = true := fun w h => atoms_spec (ws := (Cond.code yX9_sheet cX9_sheet 9 (some .int) :: tbG)) B.pre w (List.mem_cons_of_mem _ h)
  have hown : s.vm.findClass RX9 = some m.cls := findClass_of_methodNamed B.named
  have hlocks := B.notSynchronized
  subst hsz
  have hD := hD0.self (sz := s.heap.size)
  generalize hAe : va_A (wX9 cyI cyJ cyZ cyO h book now sights sight signs pad nights townAt townCell reason acts at_ cost hole counts worth met ways nextWays image isKept) s.heap.size = A at hD ⊢
  have hA : ∀ q : Nat, s.heap.size ≤ q → A q := fun q h => by rw [← hAe]; exact Or.inr h
  have hS : va_S A s.heap s.heap [] := va_S.rf
  show W p l e ({ frames := 1, cells := 0, slots := 0, locals := 22 } : Room) s m ([.ref (h 0), .int p1, .int p2] : List Value).toArray below meth c s.heap [] 0 0 (MQ below (qI D (wX9 cyI cyJ cyZ cyO h book now sights sight signs pad nights townAt townCell reason acts at_ cost hole counts worth met ways nextWays image isKept) q A) ([.ref (h 0), .int p1, .int p2] : List Value).toArray s 0 0 A) _
  have l89 : ∀ (n89 : Nat) (x1 : Int32) (x2 : Int32) (x5 : Int32) (x6 : Int32) (x7 : Int32) (book : Nat → Int32) (H : Heap) (locs : List Loc) (ls : Array Slot), va_P D vwCl (wX9 cyI cyJ cyZ cyO h book now sights sight signs pad nights townAt townCell reason acts at_ cost hole counts worth met ways nextWays image isKept) H → va_D A (wX9 cyI cyJ cyZ cyO h book now sights sight signs pad nights townAt townCell reason acts at_ cost hole counts worth met ways nextWays image isKept) → va_S A s.heap H locs → lv_has ls 9 [(0, .ref (h 0)), (1, .int x1), (2, .int x2), (5, .int x5), (6, .int x6), (7, .int x7)] → g_X9_sheet_l89 nf n89 x1 x2 x5 x6 x7 book = some q → W p l e ({ frames := 1, cells := 0, slots := 0, locals := 22 } : Room) s m ([.ref (h 0), .int p1, .int p2] : List Value).toArray below meth c H locs 0 0 (MQ below (qI D (wX9 cyI cyJ cyZ cyO h book now sights sight signs pad nights townAt townCell reason acts at_ cost hole counts worth met ways nextWays image isKept) q A) ([.ref (h 0), .int p1, .int p2] : List Value).toArray s 0 0 A) (F0 m 89 ls []) := by
    intro n89
    induction n89 with
    | zero =>
      intro x1 x2 x5 x6 x7 book H locs ls hP hD hS hl hf
      rw [g_X9_sheet_l89] at hf
      cases hf
    | succ n89 ih89 =>
      have b188 : ∀ (x1 : Int32) (x2 : Int32) (x5 : Int32) (x7 : Int32) (s0 : Int32) (book : Nat → Int32) (H : Heap) (locs : List Loc) (ls : Array Slot), va_P D vwCl (wX9 cyI cyJ cyZ cyO h book now sights sight signs pad nights townAt townCell reason acts at_ cost hole counts worth met ways nextWays image isKept) H → va_D A (wX9 cyI cyJ cyZ cyO h book now sights sight signs pad nights townAt townCell reason acts at_ cost hole counts worth met ways nextWays image isKept) → va_S A s.heap H locs → lv_has ls 9 [(0, .ref (h 0)), (1, .int x1), (2, .int x2), (5, .int x5), (7, .int x7)] → g_X9_sheet_b188 nf (g_X9_sheet_l89 nf n89) x1 x2 x5 x7 s0 book = some q → W p l e ({ frames := 1, cells := 0, slots := 0, locals := 22 } : Room) s m ([.ref (h 0), .int p1, .int p2] : List Value).toArray below meth c H locs 0 0 (MQ below (qI D (wX9 cyI cyJ cyZ cyO h book now sights sight signs pad nights townAt townCell reason acts at_ cost hole counts worth met ways nextWays image isKept) q A) ([.ref (h 0), .int p1, .int p2] : List Value).toArray s 0 0 A) (F0 m 188 ls [.int s0]) := by
        intro x1 x2 x5 x7 s0 book H locs ls hP hD hS hl hf
        unfold g_X9_sheet_b188 at hf
        refine lv_istore (lv' := [(6, .int s0), (0, .ref (h 0)), (1, .int x1), (2, .int x2), (5, .int x5), (7, .int x7)]) hx hb dX9_sheet_188 hl (by decide) rfl (fun ls hl => ?_)
        refine lv_iinc (v := (x7 + (-1))) (lv' := [(7, .int (x7 + (-1))), (6, .int s0), (0, .ref (h 0)), (1, .int x1), (2, .int x2), (5, .int x5)]) hx hb dX9_sheet_190 hl (k := 5) rfl rfl (by decide) rfl (fun ls hl => ?_)
        refine lv_goto (tgt := 89) hx hb dX9_sheet_193 (by decide) ?_
        exact ih89 x1 x2 x5 s0 (x7 + (-1)) book H locs ls hP hD hS (lv_sub hl [2, 3, 4, 5, 1, 0] rfl) hf
      have b173 : ∀ (x1 : Int32) (x2 : Int32) (x6 : Int32) (x7 : Int32) (x8 : Int32) (s0 : Int32) (s1 : Int32) (book : Nat → Int32) (H : Heap) (locs : List Loc) (ls : Array Slot), va_P D vwCl (wX9 cyI cyJ cyZ cyO h book now sights sight signs pad nights townAt townCell reason acts at_ cost hole counts worth met ways nextWays image isKept) H → va_D A (wX9 cyI cyJ cyZ cyO h book now sights sight signs pad nights townAt townCell reason acts at_ cost hole counts worth met ways nextWays image isKept) → va_S A s.heap H locs → lv_has ls 9 [(0, .ref (h 0)), (1, .int x1), (2, .int x2), (6, .int x6), (7, .int x7), (8, .int x8)] → g_X9_sheet_b173 nf (g_X9_sheet_l89 nf n89) x1 x2 x6 x7 x8 s0 s1 book = some q → W p l e ({ frames := 1, cells := 0, slots := 0, locals := 22 } : Room) s m ([.ref (h 0), .int p1, .int p2] : List Value).toArray below meth c H locs 0 0 (MQ below (qI D (wX9 cyI cyJ cyZ cyO h book now sights sight signs pad nights townAt townCell reason acts at_ cost hole counts worth met ways nextWays image isKept) q A) ([.ref (h 0), .int p1, .int p2] : List Value).toArray s 0 0 A) (F0 m 173 ls [.int s1, .int s0]) := by
        intro x1 x2 x6 x7 x8 s0 s1 book H locs ls hP hD hS hl hf
        unfold g_X9_sheet_b173 at hf
        refine lv_iadd hx hb dX9_sheet_173 ?_
        refine lv_istore (lv' := [(5, .int (s0 + s1)), (0, .ref (h 0)), (1, .int x1), (2, .int x2), (6, .int x6), (7, .int x7), (8, .int x8)]) hx hb dX9_sheet_174 hl (by decide) rfl (fun ls hl => ?_)
        refine lv_iload hx hb dX9_sheet_176 (lv_at hl 6 rfl) ?_
        refine lv_if_eq (tgt := 186) hx hb dX9_sheet_178 (by decide) (fun cc => ?_) (fun cc => ?_)
        · replace hf := if_t cc hf
          refine lv_iload hx hb dX9_sheet_186 (lv_at hl 4 rfl) ?_
          exact b188 x1 x2 (s0 + s1) x7 x6 book H locs ls hP hD hS (lv_sub hl [1, 2, 3, 0, 5] rfl) hf
        · replace hf := if_f cc hf
          refine lv_iload hx hb dX9_sheet_181 (lv_at hl 5 rfl) ?_
          refine lv_goto (tgt := 188) hx hb dX9_sheet_183 (by decide) ?_
          exact b188 x1 x2 (s0 + s1) x7 x7 book H locs ls hP hD hS (lv_sub hl [1, 2, 3, 0, 5] rfl) hf
      have b159 : ∀ (x1 : Int32) (x2 : Int32) (x5 : Int32) (x6 : Int32) (x7 : Int32) (s0 : Int32) (book : Nat → Int32) (H : Heap) (locs : List Loc) (ls : Array Slot), va_P D vwCl (wX9 cyI cyJ cyZ cyO h book now sights sight signs pad nights townAt townCell reason acts at_ cost hole counts worth met ways nextWays image isKept) H → va_D A (wX9 cyI cyJ cyZ cyO h book now sights sight signs pad nights townAt townCell reason acts at_ cost hole counts worth met ways nextWays image isKept) → va_S A s.heap H locs → lv_has ls 9 [(0, .ref (h 0)), (1, .int x1), (2, .int x2), (5, .int x5), (6, .int x6), (7, .int x7)] → g_X9_sheet_b159 nf (g_X9_sheet_l89 nf n89) x1 x2 x5 x6 x7 s0 book = some q → W p l e ({ frames := 1, cells := 0, slots := 0, locals := 22 } : Room) s m ([.ref (h 0), .int p1, .int p2] : List Value).toArray below meth c H locs 0 0 (MQ below (qI D (wX9 cyI cyJ cyZ cyO h book now sights sight signs pad nights townAt townCell reason acts at_ cost hole counts worth met ways nextWays image isKept) q A) ([.ref (h 0), .int p1, .int p2] : List Value).toArray s 0 0 A) (F0 m 159 ls [.int s0]) := by
        intro x1 x2 x5 x6 x7 s0 book H locs ls hP hD hS hl hf
        unfold g_X9_sheet_b159 at hf
        refine lv_istore (lv' := [(8, .int s0), (0, .ref (h 0)), (1, .int x1), (2, .int x2), (5, .int x5), (6, .int x6), (7, .int x7)]) hx hb dX9_sheet_159 hl (by decide) rfl (fun ls hl => ?_)
        refine lv_iload hx hb dX9_sheet_161 (lv_at hl 4 rfl) ?_
        refine lv_iload hx hb dX9_sheet_163 (lv_at hl 0 rfl) ?_
        refine lv_if_eq (tgt := 172) hx hb dX9_sheet_165 (by decide) (fun cc => ?_) (fun cc => ?_)
        · replace hf := if_t cc hf
          refine lv_iconst (v := 0) hx hb dX9_sheet_172 (by decide) ?_
          exact b173 x1 x2 x6 x7 s0 x5 0 book H locs ls hP hD hS (lv_sub hl [1, 2, 3, 5, 6, 0] rfl) hf
        · replace hf := if_f cc hf
          refine lv_iconst (v := 1) hx hb dX9_sheet_168 (by decide) ?_
          refine lv_goto (tgt := 173) hx hb dX9_sheet_169 (by decide) ?_
          exact b173 x1 x2 x6 x7 s0 x5 1 book H locs ls hP hD hS (lv_sub hl [1, 2, 3, 5, 6, 0] rfl) hf
      have b158 : ∀ (x1 : Int32) (x2 : Int32) (x5 : Int32) (x6 : Int32) (x7 : Int32) (book : Nat → Int32) (H : Heap) (locs : List Loc) (ls : Array Slot), va_P D vwCl (wX9 cyI cyJ cyZ cyO h book now sights sight signs pad nights townAt townCell reason acts at_ cost hole counts worth met ways nextWays image isKept) H → va_D A (wX9 cyI cyJ cyZ cyO h book now sights sight signs pad nights townAt townCell reason acts at_ cost hole counts worth met ways nextWays image isKept) → va_S A s.heap H locs → lv_has ls 9 [(0, .ref (h 0)), (1, .int x1), (2, .int x2), (5, .int x5), (6, .int x6), (7, .int x7)] → g_X9_sheet_b158 nf (g_X9_sheet_l89 nf n89) x1 x2 x5 x6 x7 book = some q → W p l e ({ frames := 1, cells := 0, slots := 0, locals := 22 } : Room) s m ([.ref (h 0), .int p1, .int p2] : List Value).toArray below meth c H locs 0 0 (MQ below (qI D (wX9 cyI cyJ cyZ cyO h book now sights sight signs pad nights townAt townCell reason acts at_ cost hole counts worth met ways nextWays image isKept) q A) ([.ref (h 0), .int p1, .int p2] : List Value).toArray s 0 0 A) (F0 m 158 ls []) := by
        intro x1 x2 x5 x6 x7 book H locs ls hP hD hS hl hf
        unfold g_X9_sheet_b158 at hf
        refine lv_iconst (v := 0) hx hb dX9_sheet_158 (by decide) ?_
        exact b159 x1 x2 x5 x6 x7 0 book H locs ls hP hD hS (lv_sub hl [0, 1, 2, 3, 4, 5] rfl) hf
      intro x1 x2 x5 x6 x7 book H locs ls hP hD hS hl hf
      rw [g_X9_sheet_l89] at hf
      refine lv_iload hx hb dX9_sheet_89 (lv_at hl 5 rfl) ?_
      refine lv_if_lt (tgt := 196) hx hb dX9_sheet_91 (by decide) (fun cc => ?_) (fun cc => ?_)
      · replace hf := if_t cc hf
        refine lv_iload_n hx hb dX9_sheet_196 rfl (lv_at hl 2 rfl) ?_
        refine lv_if_ne (tgt := 205) hx hb dX9_sheet_197 (by decide) (fun cc => ?_) (fun cc => ?_)
        · replace hf := if_f cc hf
          refine lv_iload hx hb dX9_sheet_205 (lv_at hl 4 rfl) ?_
          cases Option.some.inj hf
          exact W.iret hx hb hr (fun t ht hW => ⟨⟨_, (), rfl, rfl, by show va_P D vwCl _ t.heap; rw [ht]; exact hP⟩, hS.F ht⟩) hS.2.2 dX9_sheet_207
        · replace hf := if_t cc hf
          refine lv_iload hx hb dX9_sheet_200 (lv_at hl 3 rfl) ?_
          refine lv_goto (tgt := 207) hx hb dX9_sheet_202 (by decide) ?_
          cases Option.some.inj hf
          exact W.iret hx hb hr (fun t ht hW => ⟨⟨_, (), rfl, rfl, by show va_P D vwCl _ t.heap; rw [ht]; exact hP⟩, hS.F ht⟩) hS.2.2 dX9_sheet_207
      · replace hf := if_f cc hf
        refine lv_iload hx hb dX9_sheet_94 (lv_at hl 5 rfl) ?_
        refine lv_iconst (v := 5) hx hb dX9_sheet_96 (by decide) ?_
        refine lv_irem hx hb dX9_sheet_97 (by decide) ?_
        refine lv_iconst (v := 4) hx hb dX9_sheet_98 (by decide) ?_
        refine lv_icmp_ge (tgt := 158) hx hb dX9_sheet_99 (by decide) (fun cc => ?_) (fun cc => ?_)
        · replace hf := if_t cc hf
          exact b158 x1 x2 x5 x6 x7 book H locs ls hP hD hS (lv_sub hl [0, 1, 2, 3, 4, 5] rfl) hf
        · replace hf := if_f cc hf
          refine lv_sipush (v := 1000) hx hb dX9_sheet_102 (by decide) ?_
          refine lv_aload_n hx hb dX9_sheet_105 rfl (lv_at hl 0 rfl) ?_
          refine va_get (ci := 9) (v := .ref (h 1)) (C := RX9) (T := TX9) (N := 21) hx hb hT hin_X9 hown hK hP 0 rfl rfl 0 (by decide) (hT _ wf_X9_7) (fun _ h9 => h9) rfl dX9_sheet_106 ?_
          refine lv_iload hx hb dX9_sheet_109 (lv_at hl 5 rfl) ?_
          obtain ⟨hi, hf⟩ := ck_some hf
          refine va_iald hx hb hK hP 1 0 rfl rfl hi dX9_sheet_111 ?_
          refine lv_imul hx hb dX9_sheet_112 ?_
          refine lv_bipush (v := 100) hx hb dX9_sheet_113 (by decide) ?_
          refine lv_aload_n hx hb dX9_sheet_115 rfl (lv_at hl 0 rfl) ?_
          refine va_get (ci := 9) (v := .ref (h 1)) (C := RX9) (T := TX9) (N := 21) hx hb hT hin_X9 hown hK hP 0 rfl rfl 0 (by decide) (hT _ wf_X9_7) (fun _ h9 => h9) rfl dX9_sheet_116 ?_
          refine lv_iload hx hb dX9_sheet_119 (lv_at hl 5 rfl) ?_
          refine lv_iconst (v := 1) hx hb dX9_sheet_121 (by decide) ?_
          refine lv_iadd hx hb dX9_sheet_122 ?_
          obtain ⟨hi, hf⟩ := ck_some hf
          refine va_iald hx hb hK hP 1 0 rfl rfl hi dX9_sheet_123 ?_
          refine lv_imul hx hb dX9_sheet_124 ?_
          refine lv_iadd hx hb dX9_sheet_125 ?_
          refine lv_bipush (v := 10) hx hb dX9_sheet_126 (by decide) ?_
          refine lv_aload_n hx hb dX9_sheet_128 rfl (lv_at hl 0 rfl) ?_
          refine va_get (ci := 9) (v := .ref (h 1)) (C := RX9) (T := TX9) (N := 21) hx hb hT hin_X9 hown hK hP 0 rfl rfl 0 (by decide) (hT _ wf_X9_7) (fun _ h9 => h9) rfl dX9_sheet_129 ?_
          refine lv_iload hx hb dX9_sheet_132 (lv_at hl 5 rfl) ?_
          refine lv_iconst (v := 5) hx hb dX9_sheet_134 (by decide) ?_
          refine lv_iadd hx hb dX9_sheet_135 ?_
          obtain ⟨hi, hf⟩ := ck_some hf
          refine va_iald hx hb hK hP 1 0 rfl rfl hi dX9_sheet_136 ?_
          refine lv_imul hx hb dX9_sheet_137 ?_
          refine lv_iadd hx hb dX9_sheet_138 ?_
          refine lv_aload_n hx hb dX9_sheet_139 rfl (lv_at hl 0 rfl) ?_
          refine va_get (ci := 9) (v := .ref (h 1)) (C := RX9) (T := TX9) (N := 21) hx hb hT hin_X9 hown hK hP 0 rfl rfl 0 (by decide) (hT _ wf_X9_7) (fun _ h9 => h9) rfl dX9_sheet_140 ?_
          refine lv_iload hx hb dX9_sheet_143 (lv_at hl 5 rfl) ?_
          refine lv_bipush (v := 6) hx hb dX9_sheet_145 (by decide) ?_
          refine lv_iadd hx hb dX9_sheet_147 ?_
          obtain ⟨hi, hf⟩ := ck_some hf
          refine va_iald hx hb hK hP 1 0 rfl rfl hi dX9_sheet_148 ?_
          refine lv_iadd hx hb dX9_sheet_149 ?_
          refine lv_iload_n hx hb dX9_sheet_150 rfl (lv_at hl 1 rfl) ?_
          refine lv_icmp_ne (tgt := 158) hx hb dX9_sheet_151 (by decide) (fun cc => ?_) (fun cc => ?_)
          · replace hf := if_f cc hf
            exact b158 x1 x2 x5 x6 x7 book H locs ls hP hD hS (lv_sub hl [0, 1, 2, 3, 4, 5] rfl) hf
          · replace hf := if_t cc hf
            refine lv_iconst (v := 1) hx hb dX9_sheet_154 (by decide) ?_
            refine lv_goto (tgt := 159) hx hb dX9_sheet_155 (by decide) ?_
            exact b159 x1 x2 x5 x6 x7 1 book H locs ls hP hD hS (lv_sub hl [0, 1, 2, 3, 4, 5] rfl) hf
  have l32 : ∀ (n32 : Nat) (x1 : Int32) (x2 : Int32) (x3 : Int32) (x4 : Int32) (x5 : Int32) (book : Nat → Int32) (H : Heap) (locs : List Loc) (ls : Array Slot), va_P D vwCl (wX9 cyI cyJ cyZ cyO h book now sights sight signs pad nights townAt townCell reason acts at_ cost hole counts worth met ways nextWays image isKept) H → va_D A (wX9 cyI cyJ cyZ cyO h book now sights sight signs pad nights townAt townCell reason acts at_ cost hole counts worth met ways nextWays image isKept) → va_S A s.heap H locs → lv_has ls 9 [(0, .ref (h 0)), (1, .int x1), (2, .int x2), (3, .int x3), (4, .int x4), (5, .int x5)] → g_X9_sheet_l32 nf n32 x1 x2 x3 x4 x5 book = some q → W p l e ({ frames := 1, cells := 0, slots := 0, locals := 22 } : Room) s m ([.ref (h 0), .int p1, .int p2] : List Value).toArray below meth c H locs 0 0 (MQ below (qI D (wX9 cyI cyJ cyZ cyO h book now sights sight signs pad nights townAt townCell reason acts at_ cost hole counts worth met ways nextWays image isKept) q A) ([.ref (h 0), .int p1, .int p2] : List Value).toArray s 0 0 A) (F0 m 32 ls []) := by
    intro n32
    induction n32 with
    | zero =>
      intro x1 x2 x3 x4 x5 book H locs ls hP hD hS hl hf
      rw [g_X9_sheet_l32] at hf
      cases hf
    | succ n32 ih32 =>
      have b57 : ∀ (x1 : Int32) (x2 : Int32) (x4 : Int32) (x5 : Int32) (s0 : Int32) (book : Nat → Int32) (H : Heap) (locs : List Loc) (ls : Array Slot), va_P D vwCl (wX9 cyI cyJ cyZ cyO h book now sights sight signs pad nights townAt townCell reason acts at_ cost hole counts worth met ways nextWays image isKept) H → va_D A (wX9 cyI cyJ cyZ cyO h book now sights sight signs pad nights townAt townCell reason acts at_ cost hole counts worth met ways nextWays image isKept) → va_S A s.heap H locs → lv_has ls 9 [(0, .ref (h 0)), (1, .int x1), (2, .int x2), (4, .int x4), (5, .int x5)] → g_X9_sheet_b57 nf (g_X9_sheet_l32 nf n32) x1 x2 x4 x5 s0 book = some q → W p l e ({ frames := 1, cells := 0, slots := 0, locals := 22 } : Room) s m ([.ref (h 0), .int p1, .int p2] : List Value).toArray below meth c H locs 0 0 (MQ below (qI D (wX9 cyI cyJ cyZ cyO h book now sights sight signs pad nights townAt townCell reason acts at_ cost hole counts worth met ways nextWays image isKept) q A) ([.ref (h 0), .int p1, .int p2] : List Value).toArray s 0 0 A) (F0 m 57 ls [.int s0]) := by
        intro x1 x2 x4 x5 s0 book H locs ls hP hD hS hl hf
        unfold g_X9_sheet_b57 at hf
        refine lv_istore_n (lv' := [(3, .int s0), (0, .ref (h 0)), (1, .int x1), (2, .int x2), (4, .int x4), (5, .int x5)]) hx hb dX9_sheet_57 rfl hl (by decide) rfl (fun ls hl => ?_)
        refine lv_iload hx hb dX9_sheet_58 (lv_at hl 4 rfl) ?_
        refine lv_bipush (v := 10) hx hb dX9_sheet_60 (by decide) ?_
        refine lv_idiv hx hb dX9_sheet_62 (by decide) ?_
        refine lv_istore (lv' := [(4, .int (x4 / 10)), (3, .int s0), (0, .ref (h 0)), (1, .int x1), (2, .int x2), (5, .int x5)]) hx hb dX9_sheet_63 hl (by decide) rfl (fun ls hl => ?_)
        refine lv_iinc (v := (x5 + 1)) (lv' := [(5, .int (x5 + 1)), (4, .int (x4 / 10)), (3, .int s0), (0, .ref (h 0)), (1, .int x1), (2, .int x2)]) hx hb dX9_sheet_65 hl (k := 5) rfl rfl (by decide) rfl (fun ls hl => ?_)
        refine lv_goto (tgt := 32) hx hb dX9_sheet_68 (by decide) ?_
        exact ih32 x1 x2 s0 (x4 / 10) (x5 + 1) book H locs ls hP hD hS (lv_sub hl [3, 4, 5, 2, 1, 0] rfl) hf
      have b56 : ∀ (x1 : Int32) (x2 : Int32) (x4 : Int32) (x5 : Int32) (book : Nat → Int32) (H : Heap) (locs : List Loc) (ls : Array Slot), va_P D vwCl (wX9 cyI cyJ cyZ cyO h book now sights sight signs pad nights townAt townCell reason acts at_ cost hole counts worth met ways nextWays image isKept) H → va_D A (wX9 cyI cyJ cyZ cyO h book now sights sight signs pad nights townAt townCell reason acts at_ cost hole counts worth met ways nextWays image isKept) → va_S A s.heap H locs → lv_has ls 9 [(0, .ref (h 0)), (1, .int x1), (2, .int x2), (4, .int x4), (5, .int x5)] → g_X9_sheet_b56 nf (g_X9_sheet_l32 nf n32) x1 x2 x4 x5 book = some q → W p l e ({ frames := 1, cells := 0, slots := 0, locals := 22 } : Room) s m ([.ref (h 0), .int p1, .int p2] : List Value).toArray below meth c H locs 0 0 (MQ below (qI D (wX9 cyI cyJ cyZ cyO h book now sights sight signs pad nights townAt townCell reason acts at_ cost hole counts worth met ways nextWays image isKept) q A) ([.ref (h 0), .int p1, .int p2] : List Value).toArray s 0 0 A) (F0 m 56 ls []) := by
        intro x1 x2 x4 x5 book H locs ls hP hD hS hl hf
        unfold g_X9_sheet_b56 at hf
        refine lv_iconst (v := 0) hx hb dX9_sheet_56 (by decide) ?_
        exact b57 x1 x2 x4 x5 0 book H locs ls hP hD hS (lv_sub hl [0, 1, 2, 3, 4] rfl) hf
      intro x1 x2 x3 x4 x5 book H locs ls hP hD hS hl hf
      rw [g_X9_sheet_l32] at hf
      refine lv_iload hx hb dX9_sheet_32 (lv_at hl 5 rfl) ?_
      refine lv_iconst (v := 4) hx hb dX9_sheet_34 (by decide) ?_
      refine lv_icmp_ge (tgt := 71) hx hb dX9_sheet_35 (by decide) (fun cc => ?_) (fun cc => ?_)
      · replace hf := if_t cc hf
        refine lv_iload_n hx hb dX9_sheet_71 rfl (lv_at hl 3 rfl) ?_
        refine lv_if_ne (tgt := 78) hx hb dX9_sheet_72 (by decide) (fun cc => ?_) (fun cc => ?_)
        · replace hf := if_f cc hf
          refine lv_iconst (v := 0) hx hb dX9_sheet_78 (by decide) ?_
          refine lv_istore (lv' := [(5, .int 0), (0, .ref (h 0)), (1, .int x1), (2, .int x2), (3, .int x3), (4, .int x4)]) hx hb dX9_sheet_79 hl (by decide) rfl (fun ls hl => ?_)
          refine lv_bipush (v := (-6)) hx hb dX9_sheet_81 (by decide) ?_
          refine lv_istore (lv' := [(6, .int (-6)), (5, .int 0), (0, .ref (h 0)), (1, .int x1), (2, .int x2), (3, .int x3), (4, .int x4)]) hx hb dX9_sheet_83 hl (by decide) rfl (fun ls hl => ?_)
          refine lv_bipush (v := 18) hx hb dX9_sheet_85 (by decide) ?_
          refine lv_istore (lv' := [(7, .int 18), (6, .int (-6)), (5, .int 0), (0, .ref (h 0)), (1, .int x1), (2, .int x2), (3, .int x3), (4, .int x4)]) hx hb dX9_sheet_87 hl (by decide) rfl (fun ls hl => ?_)
          exact l89 nf x1 x2 0 (-6) 18 book H locs ls hP hD hS (lv_sub hl [3, 4, 5, 2, 1, 0] rfl) hf
        · replace hf := if_t cc hf
          refine lv_bipush (v := (-2)) hx hb dX9_sheet_75 (by decide) ?_
          cases Option.some.inj hf
          exact W.iret hx hb hr (fun t ht hW => ⟨⟨_, (), rfl, rfl, by show va_P D vwCl _ t.heap; rw [ht]; exact hP⟩, hS.F ht⟩) hS.2.2 dX9_sheet_77
      · replace hf := if_f cc hf
        refine lv_iload_n hx hb dX9_sheet_38 rfl (lv_at hl 3 rfl) ?_
        refine lv_if_eq (tgt := 56) hx hb dX9_sheet_39 (by decide) (fun cc => ?_) (fun cc => ?_)
        · replace hf := if_t cc hf
          exact b56 x1 x2 x4 x5 book H locs ls hP hD hS (lv_sub hl [0, 1, 2, 4, 5] rfl) hf
        · replace hf := if_f cc hf
          refine lv_iload hx hb dX9_sheet_42 (lv_at hl 4 rfl) ?_
          refine lv_bipush (v := 10) hx hb dX9_sheet_44 (by decide) ?_
          refine lv_irem hx hb dX9_sheet_46 (by decide) ?_
          refine lv_bipush (v := 6) hx hb dX9_sheet_47 (by decide) ?_
          refine lv_icmp_ge (tgt := 56) hx hb dX9_sheet_49 (by decide) (fun cc => ?_) (fun cc => ?_)
          · replace hf := if_t cc hf
            exact b56 x1 x2 x4 x5 book H locs ls hP hD hS (lv_sub hl [0, 1, 2, 4, 5] rfl) hf
          · replace hf := if_f cc hf
            refine lv_iconst (v := 1) hx hb dX9_sheet_52 (by decide) ?_
            refine lv_goto (tgt := 57) hx hb dX9_sheet_53 (by decide) ?_
            exact b57 x1 x2 x4 x5 1 book H locs ls hP hD hS (lv_sub hl [0, 1, 2, 4, 5] rfl) hf
  have b25 : ∀ (x1 : Int32) (x2 : Int32) (s0 : Int32) (book : Nat → Int32) (H : Heap) (locs : List Loc) (ls : Array Slot), va_P D vwCl (wX9 cyI cyJ cyZ cyO h book now sights sight signs pad nights townAt townCell reason acts at_ cost hole counts worth met ways nextWays image isKept) H → va_D A (wX9 cyI cyJ cyZ cyO h book now sights sight signs pad nights townAt townCell reason acts at_ cost hole counts worth met ways nextWays image isKept) → va_S A s.heap H locs → lv_has ls 9 [(0, .ref (h 0)), (1, .int x1), (2, .int x2)] → g_X9_sheet_b25 nf x1 x2 s0 book = some q → W p l e ({ frames := 1, cells := 0, slots := 0, locals := 22 } : Room) s m ([.ref (h 0), .int p1, .int p2] : List Value).toArray below meth c H locs 0 0 (MQ below (qI D (wX9 cyI cyJ cyZ cyO h book now sights sight signs pad nights townAt townCell reason acts at_ cost hole counts worth met ways nextWays image isKept) q A) ([.ref (h 0), .int p1, .int p2] : List Value).toArray s 0 0 A) (F0 m 25 ls [.int s0]) := by
    intro x1 x2 s0 book H locs ls hP hD hS hl hf
    unfold g_X9_sheet_b25 at hf
    refine lv_istore_n (lv' := [(3, .int s0), (0, .ref (h 0)), (1, .int x1), (2, .int x2)]) hx hb dX9_sheet_25 rfl hl (by decide) rfl (fun ls hl => ?_)
    refine lv_iload_n hx hb dX9_sheet_26 rfl (lv_at hl 2 rfl) ?_
    refine lv_istore (lv' := [(4, .int x1), (3, .int s0), (0, .ref (h 0)), (1, .int x1), (2, .int x2)]) hx hb dX9_sheet_27 hl (by decide) rfl (fun ls hl => ?_)
    refine lv_iconst (v := 0) hx hb dX9_sheet_29 (by decide) ?_
    refine lv_istore (lv' := [(5, .int 0), (4, .int x1), (3, .int s0), (0, .ref (h 0)), (1, .int x1), (2, .int x2)]) hx hb dX9_sheet_30 hl (by decide) rfl (fun ls hl => ?_)
    exact l32 nf x1 x2 s0 x1 0 book H locs ls hP hD hS (lv_sub hl [3, 4, 5, 2, 1, 0] rfl) hf
  have b24 : ∀ (x1 : Int32) (x2 : Int32) (book : Nat → Int32) (H : Heap) (locs : List Loc) (ls : Array Slot), va_P D vwCl (wX9 cyI cyJ cyZ cyO h book now sights sight signs pad nights townAt townCell reason acts at_ cost hole counts worth met ways nextWays image isKept) H → va_D A (wX9 cyI cyJ cyZ cyO h book now sights sight signs pad nights townAt townCell reason acts at_ cost hole counts worth met ways nextWays image isKept) → va_S A s.heap H locs → lv_has ls 9 [(0, .ref (h 0)), (1, .int x1), (2, .int x2)] → g_X9_sheet_b24 nf x1 x2 book = some q → W p l e ({ frames := 1, cells := 0, slots := 0, locals := 22 } : Room) s m ([.ref (h 0), .int p1, .int p2] : List Value).toArray below meth c H locs 0 0 (MQ below (qI D (wX9 cyI cyJ cyZ cyO h book now sights sight signs pad nights townAt townCell reason acts at_ cost hole counts worth met ways nextWays image isKept) q A) ([.ref (h 0), .int p1, .int p2] : List Value).toArray s 0 0 A) (F0 m 24 ls []) := by
    intro x1 x2 book H locs ls hP hD hS hl hf
    unfold g_X9_sheet_b24 at hf
    refine lv_iconst (v := 0) hx hb dX9_sheet_24 (by decide) ?_
    exact b25 x1 x2 0 book H locs ls hP hD hS (lv_sub hl [0, 1, 2] rfl) hf
  have main : ∀ (H : Heap) (locs : List Loc) (ls : Array Slot), va_P D vwCl (wX9 cyI cyJ cyZ cyO h book now sights sight signs pad nights townAt townCell reason acts at_ cost hole counts worth met ways nextWays image isKept) H → va_D A (wX9 cyI cyJ cyZ cyO h book now sights sight signs pad nights townAt townCell reason acts at_ cost hole counts worth met ways nextWays image isKept) → va_S A s.heap H locs → lv_has ls 9 [(0, .ref (h 0)), (1, .int p1), (2, .int p2)] → W p l e ({ frames := 1, cells := 0, slots := 0, locals := 22 } : Room) s m ([.ref (h 0), .int p1, .int p2] : List Value).toArray below meth c H locs 0 0 (MQ below (qI D (wX9 cyI cyJ cyZ cyO h book now sights sight signs pad nights townAt townCell reason acts at_ cost hole counts worth met ways nextWays image isKept) q A) ([.ref (h 0), .int p1, .int p2] : List Value).toArray s 0 0 A) (F0 m 0 ls []) := by
    intro H locs ls hP hD hS hl
    unfold g_X9_sheet at hf
    refine lv_iload_n hx hb dX9_sheet_0 rfl (lv_at hl 1 rfl) ?_
    refine lv_iconst (v := 0) hx hb dX9_sheet_1 (by decide) ?_
    refine lv_sipush (v := 5555) hx hb dX9_sheet_2 (by decide) ?_
    obtain ⟨q1, hq1, hf⟩ := bd_some hf
    have hC : ([] : List Nat).map (fun i => (wX9 cyI cyJ cyZ cyO h book now sights sight signs pad nights townAt townCell reason acts at_ cost hole counts worth met ways nextWays image isKept)[i]?) = ([] : va_W).map some := rfl
    refine cl_i (rn_S (As := [.int p1, .int 0, .int 5555]) (rest := []) hx hb hml hown hT hK hN hP hD [] hC rfl (c_X9_in l D cyI cyJ cyZ cyO H.size p1 0 5555 nf q1 hq1) wm_X9_51 wt_X9_in wz_X9 wc_X9_in hd_X9_in ⟨rfl, rfl⟩ ⟨Nat.le_of_ble_eq_true rfl, Nat.le_of_ble_eq_true rfl⟩ rfl hl.1 rfl (Nat.le_of_ble_eq_true rfl) dX9_sheet_5 ⟨Nat.zero_le _, Nat.zero_le _⟩) hP hD hS hA [] hC [(false, 0), (false, 1), (false, 2), (false, 3), (false, 4), (false, 5), (false, 6), (false, 7), (false, 8), (false, 9), (false, 10), (false, 11), (false, 12), (false, 13)] (ws' := wX9 cyI cyJ cyZ cyO h book now sights sight signs pad nights townAt townCell reason acts at_ cost hole counts worth met ways nextWays image isKept) rfl rfl rfl (fun H locs hP hD hS => ?_)
    refine lv_if_eq (tgt := 24) hx hb dX9_sheet_8 (by decide) (fun cc => ?_) (fun cc => ?_)
    · replace hf := if_t cc hf
      exact b24 p1 p2 book H locs ls hP hD hS (lv_sub hl [0, 1, 2] rfl) hf
    · replace hf := if_f cc hf
      refine lv_iload_n hx hb dX9_sheet_11 rfl (lv_at hl 2 rfl) ?_
      refine lv_iconst (v := 0) hx hb dX9_sheet_12 (by decide) ?_
      refine lv_iconst (v := 1) hx hb dX9_sheet_13 (by decide) ?_
      obtain ⟨q2, hq2, hf⟩ := bd_some hf
      have hC : ([] : List Nat).map (fun i => (wX9 cyI cyJ cyZ cyO h book now sights sight signs pad nights townAt townCell reason acts at_ cost hole counts worth met ways nextWays image isKept)[i]?) = ([] : va_W).map some := rfl
      refine cl_i (rn_S (As := [.int p2, .int 0, .int 1]) (rest := []) hx hb hml hown hT hK hN hP hD [] hC rfl (c_X9_in l D cyI cyJ cyZ cyO H.size p2 0 1 nf q2 hq2) wm_X9_51 wt_X9_in wz_X9 wc_X9_in hd_X9_in ⟨rfl, rfl⟩ ⟨Nat.le_of_ble_eq_true rfl, Nat.le_of_ble_eq_true rfl⟩ rfl hl.1 rfl (Nat.le_of_ble_eq_true rfl) dX9_sheet_14 ⟨Nat.zero_le _, Nat.zero_le _⟩) hP hD hS hA [] hC [(false, 0), (false, 1), (false, 2), (false, 3), (false, 4), (false, 5), (false, 6), (false, 7), (false, 8), (false, 9), (false, 10), (false, 11), (false, 12), (false, 13)] (ws' := wX9 cyI cyJ cyZ cyO h book now sights sight signs pad nights townAt townCell reason acts at_ cost hole counts worth met ways nextWays image isKept) rfl rfl rfl (fun H locs hP hD hS => ?_)
      refine lv_if_eq (tgt := 24) hx hb dX9_sheet_17 (by decide) (fun cc => ?_) (fun cc => ?_)
      · replace hf := if_t cc hf
        exact b24 p1 p2 book H locs ls hP hD hS (lv_sub hl [0, 1, 2] rfl) hf
      · replace hf := if_f cc hf
        refine lv_iconst (v := 1) hx hb dX9_sheet_20 (by decide) ?_
        refine lv_goto (tgt := 25) hx hb dX9_sheet_21 (by decide) ?_
        exact b25 p1 p2 1 book H locs ls hP hD hS (lv_sub hl [0, 1, 2] rfl) hf
  have hl := lv_entry ([.ref (h 0), .int p1, .int p2]) (n := 9) (Nat.le_of_ble_eq_true rfl)
  rw [lg_entry_eq]
  exact main s.heap [] _ hP hD hS hl
theorem hd_X9_seen : yX9_seen.cls = RX9 ∧ yX9_seen.cls ≠ "java/lang/invoke/MethodHandle" ∧ yX9_seen.cls ≠ "java/lang/invoke/VarHandle" ∧ (parseMethodDescriptor yX9_seen.desc).map (fun d => d.parameters.length) = some 2 := by decide +kernel
set_option maxHeartbeats 4000000 in
set_option maxRecDepth 100000 in
theorem c_X9_seen (l : Launch) (D : va_G) (cyI cyJ cyZ cyO : ClassId) (h : Nat → Nat) (sz : Nat) (book : Nat → Int32) (now : Nat → Int32) (sights : Int32) (sight : Nat → Int32) (signs : Int32) (pad : Nat → Int32) (nights : Int32) (townAt : Int32) (townCell : Int32) (reason : Int32) (acts : Int32) (at_ : Int32) (cost : Nat → Int32) (hole : Nat → Int32) (counts : Nat → Int32) (worth : Nat → Int32) (met : Nat → Int32) (ways : Nat → Int64) (nextWays : Nat → Int64) (image : Nat → Int32) (isKept : Nat → Int32) (p1 : Int32) (p2 : Int32) (nf : Nat) (q : Int32 × Int32 × (Nat → Int32)) (hf : g_X9_seen nf p1 p2 sights sight = some q) : Met l yX9_seen (Cond.code yX9_seen cX9_seen 3 (some .int) :: tbG) ({ frames := 2, cells := 0, slots := 0, locals := 42 } : Room) (va_Pc [.ref (h 0), .int p1, .int p2] (pcB D (ty4 cyI cyJ cyZ cyO) sz (wX9 cyI cyJ cyZ cyO h book now sights sight signs pad nights townAt townCell reason acts at_ cost hole counts worth met ways nextWays image isKept))) (qI D (wX9 cyI cyJ cyZ cyO h book now q.2.1 q.2.2 signs pad nights townAt townCell reason acts at_ cost hole counts worth met ways nextWays image isKept) q.1 (va_A (wX9 cyI cyJ cyZ cyO h book now sights sight signs pad nights townAt townCell reason acts at_ cost hole counts worth met ways nextWays image isKept) sz)) 0 0 (va_A (wX9 cyI cyJ cyZ cyO h book now sights sight signs pad nights townAt townCell reason acts at_ cost hole counts worth met ways nextWays image isKept) sz) := by
  refine Met.ofW (cc := cX9_seen) (maxL := 3) (ret := (some .int)) (by decide) rfl ?_
  intro p e s m args below meth c s₁ B hml hv
  obtain ⟨rfl, hsz, hP, hK, hD0, hN⟩ := hv
  have hx := B.exec
  have hb := B.bytes
  have hr := B.returns
  have hT : ∀ w ∈ tbG, w.before ([.ref (h 0), .int p1, .int p2] : List Value).toArray s = true := fun w h => atoms_spec (ws := (Cond.code yX9_seen cX9_seen 3 (some .int) :: tbG)) B.pre w (List.mem_cons_of_mem _ h)
  have hown : s.vm.findClass RX9 = some m.cls := findClass_of_methodNamed B.named
  have hlocks := B.notSynchronized
  subst hsz
  have hD := hD0.self (sz := s.heap.size)
  generalize hAe : va_A (wX9 cyI cyJ cyZ cyO h book now sights sight signs pad nights townAt townCell reason acts at_ cost hole counts worth met ways nextWays image isKept) s.heap.size = A at hD ⊢
  have hA : ∀ q : Nat, s.heap.size ≤ q → A q := fun q h => by rw [← hAe]; exact Or.inr h
  have hS : va_S A s.heap s.heap [] := va_S.rf
  show W p l e ({ frames := 2, cells := 0, slots := 0, locals := 42 } : Room) s m ([.ref (h 0), .int p1, .int p2] : List Value).toArray below meth c s.heap [] 0 0 (MQ below (qI D (wX9 cyI cyJ cyZ cyO h book now q.2.1 q.2.2 signs pad nights townAt townCell reason acts at_ cost hole counts worth met ways nextWays image isKept) q.1 A) ([.ref (h 0), .int p1, .int p2] : List Value).toArray s 0 0 A) _
  have main : ∀ (H : Heap) (locs : List Loc) (ls : Array Slot), va_P D vwCl (wX9 cyI cyJ cyZ cyO h book now sights sight signs pad nights townAt townCell reason acts at_ cost hole counts worth met ways nextWays image isKept) H → va_D A (wX9 cyI cyJ cyZ cyO h book now sights sight signs pad nights townAt townCell reason acts at_ cost hole counts worth met ways nextWays image isKept) → va_S A s.heap H locs → lv_has ls 3 [(0, .ref (h 0)), (1, .int p1), (2, .int p2)] → W p l e ({ frames := 2, cells := 0, slots := 0, locals := 42 } : Room) s m ([.ref (h 0), .int p1, .int p2] : List Value).toArray below meth c H locs 0 0 (MQ below (qI D (wX9 cyI cyJ cyZ cyO h book now q.2.1 q.2.2 signs pad nights townAt townCell reason acts at_ cost hole counts worth met ways nextWays image isKept) q.1 A) ([.ref (h 0), .int p1, .int p2] : List Value).toArray s 0 0 A) (F0 m 0 ls []) := by
    intro H locs ls hP hD hS hl
    unfold g_X9_seen at hf
    refine lv_iload_n hx hb dX9_seen_0 rfl (lv_at hl 2 rfl) ?_
    obtain ⟨q1, hq1, hf⟩ := bd_some hf
    have hC : ([] : List Nat).map (fun i => (wX9 cyI cyJ cyZ cyO h book now sights sight signs pad nights townAt townCell reason acts at_ cost hole counts worth met ways nextWays image isKept)[i]?) = ([] : va_W).map some := rfl
    refine cl_i (rn_S (As := [.int p2]) (rest := []) hx hb hml hown hT hK hN hP hD [] hC rfl (c_X9_isCell l D cyI cyJ cyZ cyO H.size p2 nf q1 hq1) wm_X9_59 wt_X9_isCell wz_X9 wc_X9_isCell hd_X9_isCell ⟨rfl, rfl⟩ ⟨Nat.le_of_ble_eq_true rfl, Nat.le_of_ble_eq_true rfl⟩ rfl hl.1 rfl (Nat.le_of_ble_eq_true rfl) dX9_seen_1 ⟨Nat.zero_le _, Nat.zero_le _⟩) hP hD hS hA [] hC [(false, 0), (false, 1), (false, 2), (false, 3), (false, 4), (false, 5), (false, 6), (false, 7), (false, 8), (false, 9), (false, 10), (false, 11), (false, 12), (false, 13)] (ws' := wX9 cyI cyJ cyZ cyO h book now sights sight signs pad nights townAt townCell reason acts at_ cost hole counts worth met ways nextWays image isKept) rfl rfl rfl (fun H locs hP hD hS => ?_)
    refine lv_if_ne (tgt := 9) hx hb dX9_seen_4 (by decide) (fun cc => ?_) (fun cc => ?_)
    · replace hf := if_f cc hf
      refine lv_iload_n hx hb dX9_seen_9 rfl (lv_at hl 1 rfl) ?_
      refine lv_iconst (v := 0) hx hb dX9_seen_10 (by decide) ?_
      refine lv_bipush (v := 40) hx hb dX9_seen_11 (by decide) ?_
      obtain ⟨q2, hq2, hf⟩ := bd_some hf
      have hC : ([] : List Nat).map (fun i => (wX9 cyI cyJ cyZ cyO h book now sights sight signs pad nights townAt townCell reason acts at_ cost hole counts worth met ways nextWays image isKept)[i]?) = ([] : va_W).map some := rfl
      refine cl_i (rn_S (As := [.int p1, .int 0, .int 40]) (rest := []) hx hb hml hown hT hK hN hP hD [] hC rfl (c_X9_in l D cyI cyJ cyZ cyO H.size p1 0 40 nf q2 hq2) wm_X9_51 wt_X9_in wz_X9 wc_X9_in hd_X9_in ⟨rfl, rfl⟩ ⟨Nat.le_of_ble_eq_true rfl, Nat.le_of_ble_eq_true rfl⟩ rfl hl.1 rfl (Nat.le_of_ble_eq_true rfl) dX9_seen_13 ⟨Nat.zero_le _, Nat.zero_le _⟩) hP hD hS hA [] hC [(false, 0), (false, 1), (false, 2), (false, 3), (false, 4), (false, 5), (false, 6), (false, 7), (false, 8), (false, 9), (false, 10), (false, 11), (false, 12), (false, 13)] (ws' := wX9 cyI cyJ cyZ cyO h book now sights sight signs pad nights townAt townCell reason acts at_ cost hole counts worth met ways nextWays image isKept) rfl rfl rfl (fun H locs hP hD hS => ?_)
      refine lv_if_ne (tgt := 22) hx hb dX9_seen_16 (by decide) (fun cc => ?_) (fun cc => ?_)
      · replace hf := if_f cc hf
        refine lv_aload_n hx hb dX9_seen_22 rfl (lv_at hl 0 rfl) ?_
        refine va_get (ci := 9) (v := .int sights) (C := RX9) (T := TX9) (N := 21) hx hb hT hin_X9 hown hK hP 0 rfl rfl 2 (by decide) (hT _ wf_X9_161) (fun _ h9 => h9) rfl dX9_seen_23 ?_
        refine lv_bipush (v := 8) hx hb dX9_seen_26 (by decide) ?_
        refine lv_icmp_ne (tgt := 34) hx hb dX9_seen_28 (by decide) (fun cc => ?_) (fun cc => ?_)
        · replace hf := if_f cc hf
          refine lv_aload_n hx hb dX9_seen_34 rfl (lv_at hl 0 rfl) ?_
          refine va_get (ci := 9) (v := .ref (h 3)) (C := RX9) (T := TX9) (N := 21) hx hb hT hin_X9 hown hK hP 0 rfl rfl 3 (by decide) (hT _ wf_X9_16) (fun _ h9 => h9) rfl dX9_seen_35 ?_
          refine lv_iconst (v := 2) hx hb dX9_seen_38 (by decide) ?_
          refine lv_aload_n hx hb dX9_seen_39 rfl (lv_at hl 0 rfl) ?_
          refine va_get (ci := 9) (v := .int sights) (C := RX9) (T := TX9) (N := 21) hx hb hT hin_X9 hown hK hP 0 rfl rfl 2 (by decide) (hT _ wf_X9_161) (fun _ h9 => h9) rfl dX9_seen_40 ?_
          refine lv_imul hx hb dX9_seen_43 ?_
          refine lv_iload_n hx hb dX9_seen_44 rfl (lv_at hl 1 rfl) ?_
          obtain ⟨hi, hf⟩ := ck_some hf
          refine va_iast hx hb hK hP hD hS 3 0 rfl rfl hi dX9_seen_45 (fun H locs hP hD hS => ?_)
          have hP : va_P D vwCl (wX9 cyI cyJ cyZ cyO h book now sights (upd sight (2 * sights).toNatClampNeg p1) signs pad nights townAt townCell reason acts at_ cost hole counts worth met ways nextWays image isKept) H := hP
          have hD : va_D A (wX9 cyI cyJ cyZ cyO h book now sights (upd sight (2 * sights).toNatClampNeg p1) signs pad nights townAt townCell reason acts at_ cost hole counts worth met ways nextWays image isKept) := hD
          refine lv_aload_n hx hb dX9_seen_46 rfl (lv_at hl 0 rfl) ?_
          refine va_get (ci := 9) (v := .ref (h 3)) (C := RX9) (T := TX9) (N := 21) hx hb hT hin_X9 hown hK hP 0 rfl rfl 3 (by decide) (hT _ wf_X9_16) (fun _ h9 => h9) rfl dX9_seen_47 ?_
          refine lv_iconst (v := 2) hx hb dX9_seen_50 (by decide) ?_
          refine lv_aload_n hx hb dX9_seen_51 rfl (lv_at hl 0 rfl) ?_
          refine va_get (ci := 9) (v := .int sights) (C := RX9) (T := TX9) (N := 21) hx hb hT hin_X9 hown hK hP 0 rfl rfl 2 (by decide) (hT _ wf_X9_161) (fun _ h9 => h9) rfl dX9_seen_52 ?_
          refine lv_imul hx hb dX9_seen_55 ?_
          refine lv_iconst (v := 1) hx hb dX9_seen_56 (by decide) ?_
          refine lv_iadd hx hb dX9_seen_57 ?_
          refine lv_iload_n hx hb dX9_seen_58 rfl (lv_at hl 2 rfl) ?_
          obtain ⟨hi, hf⟩ := ck_some hf
          refine va_iast hx hb hK hP hD hS 3 0 rfl rfl hi dX9_seen_59 (fun H locs hP hD hS => ?_)
          have hP : va_P D vwCl (wX9 cyI cyJ cyZ cyO h book now sights (upd (upd sight (2 * sights).toNatClampNeg p1) ((2 * sights) + 1).toNatClampNeg p2) signs pad nights townAt townCell reason acts at_ cost hole counts worth met ways nextWays image isKept) H := hP
          have hD : va_D A (wX9 cyI cyJ cyZ cyO h book now sights (upd (upd sight (2 * sights).toNatClampNeg p1) ((2 * sights) + 1).toNatClampNeg p2) signs pad nights townAt townCell reason acts at_ cost hole counts worth met ways nextWays image isKept) := hD
          refine lv_aload_n hx hb dX9_seen_60 rfl (lv_at hl 0 rfl) ?_
          refine lv_dup hx hb dX9_seen_61 rfl ?_
          refine va_get (ci := 9) (v := .int sights) (C := RX9) (T := TX9) (N := 21) hx hb hT hin_X9 hown hK hP 0 rfl rfl 2 (by decide) (hT _ wf_X9_161) (fun _ h9 => h9) rfl dX9_seen_62 ?_
          refine lv_iconst (v := 1) hx hb dX9_seen_65 (by decide) ?_
          refine lv_iadd hx hb dX9_seen_66 ?_
          refine va_put (ci := 9) (v := .int (sights + 1)) (ty := .int) (C := RX9) (T := TX9) (N := 21) hx hb hT hin_X9 tyX9 tyX9_ok nmX9 hown hK hP hD hS 0 rfl rfl 2 (by decide) (hT _ wf_X9_161) (fun _ h9 => h9) rfl (tyX9_ok 2 (by decide)) rfl rfl (Nat.le_of_ble_eq_true rfl) dX9_seen_67 (fun H locs hP hD hS => ?_)
          have hP : va_P D vwCl (wX9 cyI cyJ cyZ cyO h book now (sights + 1) (upd (upd sight (2 * sights).toNatClampNeg p1) ((2 * sights) + 1).toNatClampNeg p2) signs pad nights townAt townCell reason acts at_ cost hole counts worth met ways nextWays image isKept) H := hP
          have hD : va_D A (wX9 cyI cyJ cyZ cyO h book now (sights + 1) (upd (upd sight (2 * sights).toNatClampNeg p1) ((2 * sights) + 1).toNatClampNeg p2) signs pad nights townAt townCell reason acts at_ cost hole counts worth met ways nextWays image isKept) := hD
          refine lv_aload_n hx hb dX9_seen_70 rfl (lv_at hl 0 rfl) ?_
          refine va_get (ci := 9) (v := .int (sights + 1)) (C := RX9) (T := TX9) (N := 21) hx hb hT hin_X9 hown hK hP 0 rfl rfl 2 (by decide) (hT _ wf_X9_161) (fun _ h9 => h9) rfl dX9_seen_71 ?_
          cases Option.some.inj hf
          exact W.iret hx hb hr (fun t ht hW => ⟨⟨_, (), rfl, rfl, by show va_P D vwCl _ t.heap; rw [ht]; exact hP⟩, hS.F ht⟩) hS.2.2 dX9_seen_74
        · replace hf := if_t cc hf
          refine lv_bipush (v := (-4)) hx hb dX9_seen_31 (by decide) ?_
          cases Option.some.inj hf
          exact W.iret hx hb hr (fun t ht hW => ⟨⟨_, (), rfl, rfl, by show va_P D vwCl _ t.heap; rw [ht]; exact hP⟩, hS.F ht⟩) hS.2.2 dX9_seen_33
      · replace hf := if_t cc hf
        refine lv_bipush (v := (-2)) hx hb dX9_seen_19 (by decide) ?_
        cases Option.some.inj hf
        exact W.iret hx hb hr (fun t ht hW => ⟨⟨_, (), rfl, rfl, by show va_P D vwCl _ t.heap; rw [ht]; exact hP⟩, hS.F ht⟩) hS.2.2 dX9_seen_21
    · replace hf := if_t cc hf
      refine lv_iconst (v := (-1)) hx hb dX9_seen_7 (by decide) ?_
      cases Option.some.inj hf
      exact W.iret hx hb hr (fun t ht hW => ⟨⟨_, (), rfl, rfl, by show va_P D vwCl _ t.heap; rw [ht]; exact hP⟩, hS.F ht⟩) hS.2.2 dX9_seen_8
  have hl := lv_entry ([.ref (h 0), .int p1, .int p2]) (n := 3) (Nat.le_of_ble_eq_true rfl)
  rw [lg_entry_eq]
  exact main s.heap [] _ hP hD hS hl
theorem hd_X9_forget : yX9_forget.cls = RX9 ∧ yX9_forget.cls ≠ "java/lang/invoke/MethodHandle" ∧ yX9_forget.cls ≠ "java/lang/invoke/VarHandle" ∧ (parseMethodDescriptor yX9_forget.desc).map (fun d => d.parameters.length) = some 0 := by decide +kernel
set_option maxHeartbeats 4000000 in
set_option maxRecDepth 100000 in
theorem c_X9_forget (l : Launch) (D : va_G) (cyI cyJ cyZ cyO : ClassId) (h : Nat → Nat) (sz : Nat) (book : Nat → Int32) (now : Nat → Int32) (sights : Int32) (sight : Nat → Int32) (signs : Int32) (pad : Nat → Int32) (nights : Int32) (townAt : Int32) (townCell : Int32) (reason : Int32) (acts : Int32) (at_ : Int32) (cost : Nat → Int32) (hole : Nat → Int32) (counts : Nat → Int32) (worth : Nat → Int32) (met : Nat → Int32) (ways : Nat → Int64) (nextWays : Nat → Int64) (image : Nat → Int32) (isKept : Nat → Int32) (nf : Nat) (q : Int32 × Int32) (hf : g_X9_forget nf sights = some q) : Met l yX9_forget (Cond.code yX9_forget cX9_forget 2 (some .int) :: tbG) ({ frames := 0, cells := 0, slots := 0, locals := 0 } : Room) (va_Pc [.ref (h 0)] (pcB D (ty4 cyI cyJ cyZ cyO) sz (wX9 cyI cyJ cyZ cyO h book now sights sight signs pad nights townAt townCell reason acts at_ cost hole counts worth met ways nextWays image isKept))) (qI D (wX9 cyI cyJ cyZ cyO h book now q.2 sight signs pad nights townAt townCell reason acts at_ cost hole counts worth met ways nextWays image isKept) q.1 (va_A (wX9 cyI cyJ cyZ cyO h book now sights sight signs pad nights townAt townCell reason acts at_ cost hole counts worth met ways nextWays image isKept) sz)) 0 0 (va_A (wX9 cyI cyJ cyZ cyO h book now sights sight signs pad nights townAt townCell reason acts at_ cost hole counts worth met ways nextWays image isKept) sz) := by
  refine Met.ofW (cc := cX9_forget) (maxL := 2) (ret := (some .int)) (by decide) rfl ?_
  intro p e s m args below meth c s₁ B hml hv
  obtain ⟨rfl, hsz, hP, hK, hD0, hN⟩ := hv
  have hx := B.exec
  have hb := B.bytes
  have hr := B.returns
  have hT : ∀ w ∈ tbG, w.before ([.ref (h 0)] : List Value).toArray s = true := fun w h => atoms_spec (ws := (Cond.code yX9_forget cX9_forget 2 (some .int) :: tbG)) B.pre w (List.mem_cons_of_mem _ h)
  have hown : s.vm.findClass RX9 = some m.cls := findClass_of_methodNamed B.named
  have hlocks := B.notSynchronized
  subst hsz
  have hD := hD0.self (sz := s.heap.size)
  generalize hAe : va_A (wX9 cyI cyJ cyZ cyO h book now sights sight signs pad nights townAt townCell reason acts at_ cost hole counts worth met ways nextWays image isKept) s.heap.size = A at hD ⊢
  have hA : ∀ q : Nat, s.heap.size ≤ q → A q := fun q h => by rw [← hAe]; exact Or.inr h
  have hS : va_S A s.heap s.heap [] := va_S.rf
  show W p l e ({ frames := 0, cells := 0, slots := 0, locals := 0 } : Room) s m ([.ref (h 0)] : List Value).toArray below meth c s.heap [] 0 0 (MQ below (qI D (wX9 cyI cyJ cyZ cyO h book now q.2 sight signs pad nights townAt townCell reason acts at_ cost hole counts worth met ways nextWays image isKept) q.1 A) ([.ref (h 0)] : List Value).toArray s 0 0 A) _
  have main : ∀ (H : Heap) (locs : List Loc) (ls : Array Slot), va_P D vwCl (wX9 cyI cyJ cyZ cyO h book now sights sight signs pad nights townAt townCell reason acts at_ cost hole counts worth met ways nextWays image isKept) H → va_D A (wX9 cyI cyJ cyZ cyO h book now sights sight signs pad nights townAt townCell reason acts at_ cost hole counts worth met ways nextWays image isKept) → va_S A s.heap H locs → lv_has ls 2 [(0, .ref (h 0))] → W p l e ({ frames := 0, cells := 0, slots := 0, locals := 0 } : Room) s m ([.ref (h 0)] : List Value).toArray below meth c H locs 0 0 (MQ below (qI D (wX9 cyI cyJ cyZ cyO h book now q.2 sight signs pad nights townAt townCell reason acts at_ cost hole counts worth met ways nextWays image isKept) q.1 A) ([.ref (h 0)] : List Value).toArray s 0 0 A) (F0 m 0 ls []) := by
    intro H locs ls hP hD hS hl
    unfold g_X9_forget at hf
    refine lv_aload_n hx hb dX9_forget_0 rfl (lv_at hl 0 rfl) ?_
    refine va_get (ci := 9) (v := .int sights) (C := RX9) (T := TX9) (N := 21) hx hb hT hin_X9 hown hK hP 0 rfl rfl 2 (by decide) (hT _ wf_X9_161) (fun _ h9 => h9) rfl dX9_forget_1 ?_
    refine lv_istore_n (lv' := [(1, .int sights), (0, .ref (h 0))]) hx hb dX9_forget_4 rfl hl (by decide) rfl (fun ls hl => ?_)
    refine lv_aload_n hx hb dX9_forget_5 rfl (lv_at hl 1 rfl) ?_
    refine lv_iconst (v := 0) hx hb dX9_forget_6 (by decide) ?_
    refine va_put (ci := 9) (v := .int 0) (ty := .int) (C := RX9) (T := TX9) (N := 21) hx hb hT hin_X9 tyX9 tyX9_ok nmX9 hown hK hP hD hS 0 rfl rfl 2 (by decide) (hT _ wf_X9_161) (fun _ h9 => h9) rfl (tyX9_ok 2 (by decide)) rfl rfl (Nat.le_of_ble_eq_true rfl) dX9_forget_7 (fun H locs hP hD hS => ?_)
    have hP : va_P D vwCl (wX9 cyI cyJ cyZ cyO h book now 0 sight signs pad nights townAt townCell reason acts at_ cost hole counts worth met ways nextWays image isKept) H := hP
    have hD : va_D A (wX9 cyI cyJ cyZ cyO h book now 0 sight signs pad nights townAt townCell reason acts at_ cost hole counts worth met ways nextWays image isKept) := hD
    refine lv_iload_n hx hb dX9_forget_10 rfl (lv_at hl 0 rfl) ?_
    cases Option.some.inj hf
    exact W.iret hx hb hr (fun t ht hW => ⟨⟨_, (), rfl, rfl, by show va_P D vwCl _ t.heap; rw [ht]; exact hP⟩, hS.F ht⟩) hS.2.2 dX9_forget_11
  have hl := lv_entry ([.ref (h 0)]) (n := 2) (Nat.le_of_ble_eq_true rfl)
  rw [lg_entry_eq]
  exact main s.heap [] _ hP hD hS hl
theorem hd_X9_cellAfter : yX9_cellAfter.cls ≠ "java/lang/invoke/MethodHandle" ∧ yX9_cellAfter.cls ≠ "java/lang/invoke/VarHandle" ∧ (parseMethodDescriptor yX9_cellAfter.desc).map (fun d => d.parameters.length) = some 2 := by decide +kernel
set_option maxHeartbeats 4000000 in
set_option maxRecDepth 100000 in
theorem c_X9_cellAfter (l : Launch) (D : va_G) (cyI cyJ cyZ cyO : ClassId) (sz : Nat) (p0 : Int32) (p1 : Int32) (nf : Nat) (q : Int32) (hf : g_X9_cellAfter nf p0 p1 = some q) : Met l yX9_cellAfter (Cond.code yX9_cellAfter cX9_cellAfter 5 (some .int) :: tbG) ({ frames := 1, cells := 0, slots := 0, locals := 23 } : Room) (va_Pc [.int p0, .int p1] (pcB D (ty4 cyI cyJ cyZ cyO) sz (([] : va_W)))) (qI D (([] : va_W)) q (va_A (([] : va_W)) sz)) 0 0 (va_A (([] : va_W)) sz) := by
  refine Met.ofW (cc := cX9_cellAfter) (maxL := 5) (ret := (some .int)) (by decide) rfl ?_
  intro p e s m args below meth c s₁ B hml hv
  obtain ⟨rfl, hsz, hP, hK, hD0, hN⟩ := hv
  have hx := B.exec
  have hb := B.bytes
  have hr := B.returns
  have hT : ∀ w ∈ tbG, w.before ([.int p0, .int p1] : List Value).toArray s = true := fun w h => atoms_spec (ws := (Cond.code yX9_cellAfter cX9_cellAfter 5 (some .int) :: tbG)) B.pre w (List.mem_cons_of_mem _ h)
  have hown : s.vm.findClass RX9 = some m.cls := findClass_of_methodNamed B.named
  have hlocks := B.notSynchronized
  subst hsz
  have hD := hD0.self (sz := s.heap.size)
  generalize hAe : va_A (([] : va_W)) s.heap.size = A at hD ⊢
  have hA : ∀ q : Nat, s.heap.size ≤ q → A q := fun q h => by rw [← hAe]; exact Or.inr h
  have hS : va_S A s.heap s.heap [] := va_S.rf
  show W p l e ({ frames := 1, cells := 0, slots := 0, locals := 23 } : Room) s m ([.int p0, .int p1] : List Value).toArray below meth c s.heap [] 0 0 (MQ below (qI D (([] : va_W)) q A) ([.int p0, .int p1] : List Value).toArray s 0 0 A) _
  have l13 : ∀ (n13 : Nat) (x1 : Int32) (x2 : Int32) (x3 : Int32) (x4 : Int32) (H : Heap) (locs : List Loc) (ls : Array Slot), va_P D vwCl (([] : va_W)) H → va_D A (([] : va_W)) → va_S A s.heap H locs → lv_has ls 5 [(1, .int x1), (2, .int x2), (3, .int x3), (4, .int x4)] → g_X9_cellAfter_l13 nf n13 x1 x2 x3 x4 = some q → W p l e ({ frames := 1, cells := 0, slots := 0, locals := 23 } : Room) s m ([.int p0, .int p1] : List Value).toArray below meth c H locs 0 0 (MQ below (qI D (([] : va_W)) q A) ([.int p0, .int p1] : List Value).toArray s 0 0 A) (F0 m 13 ls []) := by
    intro n13
    induction n13 with
    | zero =>
      intro x1 x2 x3 x4 H locs ls hP hD hS hl hf
      rw [g_X9_cellAfter_l13] at hf
      cases hf
    | succ n13 ih13 =>
      have l19 : ∀ (n19 : Nat) (x1 : Int32) (x2 : Int32) (x3 : Int32) (x4 : Int32) (H : Heap) (locs : List Loc) (ls : Array Slot), va_P D vwCl (([] : va_W)) H → va_D A (([] : va_W)) → va_S A s.heap H locs → lv_has ls 5 [(1, .int x1), (2, .int x2), (3, .int x3), (4, .int x4)] → g_X9_cellAfter_l19 nf (g_X9_cellAfter_l13 nf n13) n19 x1 x2 x3 x4 = some q → W p l e ({ frames := 1, cells := 0, slots := 0, locals := 23 } : Room) s m ([.int p0, .int p1] : List Value).toArray below meth c H locs 0 0 (MQ below (qI D (([] : va_W)) q A) ([.int p0, .int p1] : List Value).toArray s 0 0 A) (F0 m 19 ls []) := by
        intro n19
        induction n19 with
        | zero =>
          intro x1 x2 x3 x4 H locs ls hP hD hS hl hf
          rw [g_X9_cellAfter_l19] at hf
          cases hf
        | succ n19 ih19 =>
          intro x1 x2 x3 x4 H locs ls hP hD hS hl hf
          rw [g_X9_cellAfter_l19] at hf
          refine lv_iload_n hx hb dX9_cellAfter_19 rfl (lv_at hl 1 rfl) ?_
          refine lv_iload_n hx hb dX9_cellAfter_20 rfl (lv_at hl 2 rfl) ?_
          obtain ⟨q1, hq1, hf⟩ := bd_some hf
          have hC : ([] : List Nat).map (fun i => (([] : va_W))[i]?) = ([] : va_W).map some := rfl
          refine cl_i (rn_S (As := [.int x2, .int x3]) (rest := []) hx hb hml hown hT hK hN hP hD [] hC rfl (c_X9_beside l D cyI cyJ cyZ cyO H.size x2 x3 nf q1 hq1) wm_X9_91 wt_X9_beside wz_X9 wc_X9_beside hd_X9_beside ⟨rfl, rfl⟩ ⟨Nat.le_of_ble_eq_true rfl, Nat.le_of_ble_eq_true rfl⟩ rfl hl.1 rfl (Nat.le_of_ble_eq_true rfl) dX9_cellAfter_21 ⟨Nat.zero_le _, Nat.zero_le _⟩) hP hD hS hA [] hC [] (ws' := ([] : va_W)) rfl rfl rfl (fun H locs hP hD hS => ?_)
          refine lv_if_ge (tgt := 36) hx hb dX9_cellAfter_24 (by decide) (fun cc => ?_) (fun cc => ?_)
          · replace hf := if_t cc hf
            refine lv_iload_n hx hb dX9_cellAfter_36 rfl (lv_at hl 1 rfl) ?_
            refine lv_iload_n hx hb dX9_cellAfter_37 rfl (lv_at hl 2 rfl) ?_
            obtain ⟨q2, hq2, hf⟩ := bd_some hf
            have hC : ([] : List Nat).map (fun i => (([] : va_W))[i]?) = ([] : va_W).map some := rfl
            refine cl_i (rn_S (As := [.int x2, .int x3]) (rest := []) hx hb hml hown hT hK hN hP hD [] hC rfl (c_X9_beside l D cyI cyJ cyZ cyO H.size x2 x3 nf q2 hq2) wm_X9_91 wt_X9_beside wz_X9 wc_X9_beside hd_X9_beside ⟨rfl, rfl⟩ ⟨Nat.le_of_ble_eq_true rfl, Nat.le_of_ble_eq_true rfl⟩ rfl hl.1 rfl (Nat.le_of_ble_eq_true rfl) dX9_cellAfter_38 ⟨Nat.zero_le _, Nat.zero_le _⟩) hP hD hS hA [] hC [] (ws' := ([] : va_W)) rfl rfl rfl (fun H locs hP hD hS => ?_)
            refine lv_istore_n (lv' := [(2, .int q2), (1, .int x1), (3, .int x3), (4, .int x4)]) hx hb dX9_cellAfter_41 rfl hl (by decide) rfl (fun ls hl => ?_)
            refine lv_iinc (v := (x4 + 1)) (lv' := [(4, .int (x4 + 1)), (2, .int q2), (1, .int x1), (3, .int x3)]) hx hb dX9_cellAfter_42 hl (k := 3) rfl rfl (by decide) rfl (fun ls hl => ?_)
            refine lv_goto (tgt := 13) hx hb dX9_cellAfter_45 (by decide) ?_
            exact ih13 x1 q2 x3 (x4 + 1) H locs ls hP hD hS (lv_sub hl [2, 1, 3, 0] rfl) hf
          · replace hf := if_f cc hf
            refine lv_iload_n hx hb dX9_cellAfter_27 rfl (lv_at hl 2 rfl) ?_
            refine lv_iconst (v := 1) hx hb dX9_cellAfter_28 (by decide) ?_
            refine lv_iadd hx hb dX9_cellAfter_29 ?_
            refine lv_iconst (v := 4) hx hb dX9_cellAfter_30 (by decide) ?_
            refine lv_irem hx hb dX9_cellAfter_31 (by decide) ?_
            refine lv_istore_n (lv' := [(3, .int ((x3 + 1) - (x3 + 1) / 4 * 4)), (1, .int x1), (2, .int x2), (4, .int x4)]) hx hb dX9_cellAfter_32 rfl hl (by decide) rfl (fun ls hl => ?_)
            refine lv_goto (tgt := 19) hx hb dX9_cellAfter_33 (by decide) ?_
            exact ih19 x1 x2 ((x3 + 1) - (x3 + 1) / 4 * 4) x4 H locs ls hP hD hS (lv_sub hl [1, 2, 0, 3] rfl) hf
      intro x1 x2 x3 x4 H locs ls hP hD hS hl hf
      rw [g_X9_cellAfter_l13] at hf
      refine lv_iload hx hb dX9_cellAfter_13 (lv_at hl 3 rfl) ?_
      refine lv_iload_n hx hb dX9_cellAfter_15 rfl (lv_at hl 0 rfl) ?_
      refine lv_icmp_ge (tgt := 48) hx hb dX9_cellAfter_16 (by decide) (fun cc => ?_) (fun cc => ?_)
      · replace hf := if_t cc hf
        refine lv_iload_n hx hb dX9_cellAfter_48 rfl (lv_at hl 1 rfl) ?_
        cases Option.some.inj hf
        exact W.iret hx hb hr (fun t ht hW => ⟨⟨_, (), rfl, rfl, by show va_P D vwCl _ t.heap; rw [ht]; exact hP⟩, hS.F ht⟩) hS.2.2 dX9_cellAfter_49
      · replace hf := if_f cc hf
        exact l19 nf x1 x2 x3 x4 H locs ls hP hD hS (lv_sub hl [0, 1, 2, 3] rfl) hf
  have main : ∀ (H : Heap) (locs : List Loc) (ls : Array Slot), va_P D vwCl (([] : va_W)) H → va_D A (([] : va_W)) → va_S A s.heap H locs → lv_has ls 5 [(0, .int p0), (1, .int p1)] → W p l e ({ frames := 1, cells := 0, slots := 0, locals := 23 } : Room) s m ([.int p0, .int p1] : List Value).toArray below meth c H locs 0 0 (MQ below (qI D (([] : va_W)) q A) ([.int p0, .int p1] : List Value).toArray s 0 0 A) (F0 m 0 ls []) := by
    intro H locs ls hP hD hS hl
    unfold g_X9_cellAfter at hf
    refine lv_iload_n hx hb dX9_cellAfter_0 rfl (lv_at hl 0 rfl) ?_
    refine lv_bipush (v := 10) hx hb dX9_cellAfter_1 (by decide) ?_
    refine lv_idiv hx hb dX9_cellAfter_3 (by decide) ?_
    refine lv_istore_n (lv' := [(2, .int (p0 / 10)), (0, .int p0), (1, .int p1)]) hx hb dX9_cellAfter_4 rfl hl (by decide) rfl (fun ls hl => ?_)
    refine lv_iload_n hx hb dX9_cellAfter_5 rfl (lv_at hl 1 rfl) ?_
    refine lv_bipush (v := 10) hx hb dX9_cellAfter_6 (by decide) ?_
    refine lv_irem hx hb dX9_cellAfter_8 (by decide) ?_
    refine lv_istore_n (lv' := [(3, .int (p0 - p0 / 10 * 10)), (2, .int (p0 / 10)), (0, .int p0), (1, .int p1)]) hx hb dX9_cellAfter_9 rfl hl (by decide) rfl (fun ls hl => ?_)
    refine lv_iconst (v := 0) hx hb dX9_cellAfter_10 (by decide) ?_
    refine lv_istore (lv' := [(4, .int 0), (3, .int (p0 - p0 / 10 * 10)), (2, .int (p0 / 10)), (0, .int p0), (1, .int p1)]) hx hb dX9_cellAfter_11 hl (by decide) rfl (fun ls hl => ?_)
    exact l13 nf p1 (p0 / 10) (p0 - p0 / 10 * 10) 0 H locs ls hP hD hS (lv_sub hl [4, 2, 1, 0] rfl) hf
  have hl := lv_entry ([.int p0, .int p1]) (n := 5) (Nat.le_of_ble_eq_true rfl)
  rw [lg_entry_eq]
  exact main s.heap [] _ hP hD hS hl
theorem hd_X9_isFit : yX9_isFit.cls = RX9 ∧ yX9_isFit.cls ≠ "java/lang/invoke/MethodHandle" ∧ yX9_isFit.cls ≠ "java/lang/invoke/VarHandle" ∧ (parseMethodDescriptor yX9_isFit.desc).map (fun d => d.parameters.length) = some 1 := by decide +kernel
set_option maxHeartbeats 4000000 in
set_option maxRecDepth 100000 in
theorem c_X9_isFit (l : Launch) (D : va_G) (cyI cyJ cyZ cyO : ClassId) (h : Nat → Nat) (sz : Nat) (book : Nat → Int32) (now : Nat → Int32) (sights : Int32) (sight : Nat → Int32) (signs : Int32) (pad : Nat → Int32) (nights : Int32) (townAt : Int32) (townCell : Int32) (reason : Int32) (acts : Int32) (at_ : Int32) (cost : Nat → Int32) (hole : Nat → Int32) (counts : Nat → Int32) (worth : Nat → Int32) (met : Nat → Int32) (ways : Nat → Int64) (nextWays : Nat → Int64) (image : Nat → Int32) (isKept : Nat → Int32) (p1 : Int32) (nf : Nat) (q : Int32) (hf : g_X9_isFit nf p1 sights sight = some q) : Met l yX9_isFit (Cond.code yX9_isFit cX9_isFit 4 (some .boolean) :: tbG) ({ frames := 2, cells := 0, slots := 0, locals := 47 } : Room) (va_Pc [.ref (h 0), .int p1] (pcB D (ty4 cyI cyJ cyZ cyO) sz (wX9 cyI cyJ cyZ cyO h book now sights sight signs pad nights townAt townCell reason acts at_ cost hole counts worth met ways nextWays image isKept))) (qI D (wX9 cyI cyJ cyZ cyO h book now sights sight signs pad nights townAt townCell reason acts at_ cost hole counts worth met ways nextWays image isKept) q (va_A (wX9 cyI cyJ cyZ cyO h book now sights sight signs pad nights townAt townCell reason acts at_ cost hole counts worth met ways nextWays image isKept) sz)) 0 0 (va_A (wX9 cyI cyJ cyZ cyO h book now sights sight signs pad nights townAt townCell reason acts at_ cost hole counts worth met ways nextWays image isKept) sz) := by
  refine Met.ofW (cc := cX9_isFit) (maxL := 4) (ret := (some .boolean)) (by decide) rfl ?_
  intro p e s m args below meth c s₁ B hml hv
  obtain ⟨rfl, hsz, hP, hK, hD0, hN⟩ := hv
  have hx := B.exec
  have hb := B.bytes
  have hr := B.returns
  have hT : ∀ w ∈ tbG, w.before ([.ref (h 0), .int p1] : List Value).toArray s = true := fun w h => atoms_spec (ws := (Cond.code yX9_isFit cX9_isFit 4 (some .boolean) :: tbG)) B.pre w (List.mem_cons_of_mem _ h)
  have hown : s.vm.findClass RX9 = some m.cls := findClass_of_methodNamed B.named
  have hlocks := B.notSynchronized
  subst hsz
  have hD := hD0.self (sz := s.heap.size)
  generalize hAe : va_A (wX9 cyI cyJ cyZ cyO h book now sights sight signs pad nights townAt townCell reason acts at_ cost hole counts worth met ways nextWays image isKept) s.heap.size = A at hD ⊢
  have hA : ∀ q : Nat, s.heap.size ≤ q → A q := fun q h => by rw [← hAe]; exact Or.inr h
  have hS : va_S A s.heap s.heap [] := va_S.rf
  show W p l e ({ frames := 2, cells := 0, slots := 0, locals := 47 } : Room) s m ([.ref (h 0), .int p1] : List Value).toArray below meth c s.heap [] 0 0 (MQ below (qI D (wX9 cyI cyJ cyZ cyO h book now sights sight signs pad nights townAt townCell reason acts at_ cost hole counts worth met ways nextWays image isKept) q A) ([.ref (h 0), .int p1] : List Value).toArray s 0 0 A) _
  have l16 : ∀ (n16 : Nat) (x1 : Int32) (x2 : Int32) (x3 : Int32) (sights : Int32) (sight : Nat → Int32) (H : Heap) (locs : List Loc) (ls : Array Slot), va_P D vwCl (wX9 cyI cyJ cyZ cyO h book now sights sight signs pad nights townAt townCell reason acts at_ cost hole counts worth met ways nextWays image isKept) H → va_D A (wX9 cyI cyJ cyZ cyO h book now sights sight signs pad nights townAt townCell reason acts at_ cost hole counts worth met ways nextWays image isKept) → va_S A s.heap H locs → lv_has ls 4 [(0, .ref (h 0)), (1, .int x1), (2, .int x2), (3, .int x3)] → g_X9_isFit_l16 nf n16 x1 x2 x3 sights sight = some q → W p l e ({ frames := 2, cells := 0, slots := 0, locals := 47 } : Room) s m ([.ref (h 0), .int p1] : List Value).toArray below meth c H locs 0 0 (MQ below (qI D (wX9 cyI cyJ cyZ cyO h book now sights sight signs pad nights townAt townCell reason acts at_ cost hole counts worth met ways nextWays image isKept) q A) ([.ref (h 0), .int p1] : List Value).toArray s 0 0 A) (F0 m 16 ls []) := by
    intro n16
    induction n16 with
    | zero =>
      intro x1 x2 x3 sights sight H locs ls hP hD hS hl hf
      rw [g_X9_isFit_l16] at hf
      cases hf
    | succ n16 ih16 =>
      have b58 : ∀ (x1 : Int32) (x3 : Int32) (s0 : Int32) (sights : Int32) (sight : Nat → Int32) (H : Heap) (locs : List Loc) (ls : Array Slot), va_P D vwCl (wX9 cyI cyJ cyZ cyO h book now sights sight signs pad nights townAt townCell reason acts at_ cost hole counts worth met ways nextWays image isKept) H → va_D A (wX9 cyI cyJ cyZ cyO h book now sights sight signs pad nights townAt townCell reason acts at_ cost hole counts worth met ways nextWays image isKept) → va_S A s.heap H locs → lv_has ls 4 [(0, .ref (h 0)), (1, .int x1), (3, .int x3)] → g_X9_isFit_b58 nf (g_X9_isFit_l16 nf n16) x1 x3 s0 sights sight = some q → W p l e ({ frames := 2, cells := 0, slots := 0, locals := 47 } : Room) s m ([.ref (h 0), .int p1] : List Value).toArray below meth c H locs 0 0 (MQ below (qI D (wX9 cyI cyJ cyZ cyO h book now sights sight signs pad nights townAt townCell reason acts at_ cost hole counts worth met ways nextWays image isKept) q A) ([.ref (h 0), .int p1] : List Value).toArray s 0 0 A) (F0 m 58 ls [.int s0]) := by
        intro x1 x3 s0 sights sight H locs ls hP hD hS hl hf
        unfold g_X9_isFit_b58 at hf
        refine lv_istore_n (lv' := [(2, .int s0), (0, .ref (h 0)), (1, .int x1), (3, .int x3)]) hx hb dX9_isFit_58 rfl hl (by decide) rfl (fun ls hl => ?_)
        refine lv_iinc (v := (x3 + 1)) (lv' := [(3, .int (x3 + 1)), (2, .int s0), (0, .ref (h 0)), (1, .int x1)]) hx hb dX9_isFit_59 hl (k := 3) rfl rfl (by decide) rfl (fun ls hl => ?_)
        refine lv_goto (tgt := 16) hx hb dX9_isFit_62 (by decide) ?_
        exact ih16 x1 s0 (x3 + 1) sights sight H locs ls hP hD hS (lv_sub hl [2, 3, 1, 0] rfl) hf
      intro x1 x2 x3 sights sight H locs ls hP hD hS hl hf
      rw [g_X9_isFit_l16] at hf
      refine lv_iload_n hx hb dX9_isFit_16 rfl (lv_at hl 3 rfl) ?_
      refine lv_aload_n hx hb dX9_isFit_17 rfl (lv_at hl 0 rfl) ?_
      refine va_get (ci := 9) (v := .int sights) (C := RX9) (T := TX9) (N := 21) hx hb hT hin_X9 hown hK hP 0 rfl rfl 2 (by decide) (hT _ wf_X9_161) (fun _ h9 => h9) rfl dX9_isFit_18 ?_
      refine lv_icmp_ge (tgt := 65) hx hb dX9_isFit_21 (by decide) (fun cc => ?_) (fun cc => ?_)
      · replace hf := if_t cc hf
        refine lv_iload_n hx hb dX9_isFit_65 rfl (lv_at hl 2 rfl) ?_
        obtain ⟨hz, hf⟩ := bz_some hf
        cases Option.some.inj hf
        exact W.zret hx hb hr (bz_nar hz).2 (fun t ht hW => ⟨⟨_, (), rfl, rfl, by show va_P D vwCl _ t.heap; rw [ht]; exact hP⟩, hS.F ht⟩) hS.2.2 dX9_isFit_66
      · replace hf := if_f cc hf
        refine lv_iload_n hx hb dX9_isFit_24 rfl (lv_at hl 2 rfl) ?_
        refine lv_if_eq (tgt := 65) hx hb dX9_isFit_25 (by decide) (fun cc => ?_) (fun cc => ?_)
        · replace hf := if_t cc hf
          refine lv_iload_n hx hb dX9_isFit_65 rfl (lv_at hl 2 rfl) ?_
          obtain ⟨hz, hf⟩ := bz_some hf
          cases Option.some.inj hf
          exact W.zret hx hb hr (bz_nar hz).2 (fun t ht hW => ⟨⟨_, (), rfl, rfl, by show va_P D vwCl _ t.heap; rw [ht]; exact hP⟩, hS.F ht⟩) hS.2.2 dX9_isFit_66
        · replace hf := if_f cc hf
          refine lv_iload_n hx hb dX9_isFit_28 rfl (lv_at hl 1 rfl) ?_
          refine lv_aload_n hx hb dX9_isFit_29 rfl (lv_at hl 0 rfl) ?_
          refine va_get (ci := 9) (v := .ref (h 3)) (C := RX9) (T := TX9) (N := 21) hx hb hT hin_X9 hown hK hP 0 rfl rfl 3 (by decide) (hT _ wf_X9_16) (fun _ h9 => h9) rfl dX9_isFit_30 ?_
          refine lv_iconst (v := 2) hx hb dX9_isFit_33 (by decide) ?_
          refine lv_iload_n hx hb dX9_isFit_34 rfl (lv_at hl 3 rfl) ?_
          refine lv_imul hx hb dX9_isFit_35 ?_
          obtain ⟨hi, hf⟩ := ck_some hf
          refine va_iald hx hb hK hP 3 0 rfl rfl hi dX9_isFit_36 ?_
          obtain ⟨q1, hq1, hf⟩ := bd_some hf
          have hC : ([] : List Nat).map (fun i => (wX9 cyI cyJ cyZ cyO h book now sights sight signs pad nights townAt townCell reason acts at_ cost hole counts worth met ways nextWays image isKept)[i]?) = ([] : va_W).map some := rfl
          refine cl_i (rn_S (As := [.int x1, .int (sight (2 * x3).toNatClampNeg)]) (rest := []) hx hb hml hown hT hK hN hP hD [] hC rfl (c_X9_cellAfter l D cyI cyJ cyZ cyO H.size x1 (sight (2 * x3).toNatClampNeg) nf q1 hq1) wm_X9_164 wt_X9_cellAfter wz_X9 wc_X9_cellAfter hd_X9_cellAfter ⟨rfl, rfl⟩ ⟨Nat.le_of_ble_eq_true rfl, Nat.le_of_ble_eq_true rfl⟩ rfl hl.1 rfl (Nat.le_of_ble_eq_true rfl) dX9_isFit_37 ⟨Nat.zero_le _, Nat.zero_le _⟩) hP hD hS hA [] hC [(false, 0), (false, 1), (false, 2), (false, 3), (false, 4), (false, 5), (false, 6), (false, 7), (false, 8), (false, 9), (false, 10), (false, 11), (false, 12), (false, 13)] (ws' := wX9 cyI cyJ cyZ cyO h book now sights sight signs pad nights townAt townCell reason acts at_ cost hole counts worth met ways nextWays image isKept) rfl rfl rfl (fun H locs hP hD hS => ?_)
          refine lv_aload_n hx hb dX9_isFit_40 rfl (lv_at hl 0 rfl) ?_
          refine va_get (ci := 9) (v := .ref (h 3)) (C := RX9) (T := TX9) (N := 21) hx hb hT hin_X9 hown hK hP 0 rfl rfl 3 (by decide) (hT _ wf_X9_16) (fun _ h9 => h9) rfl dX9_isFit_41 ?_
          refine lv_iconst (v := 2) hx hb dX9_isFit_44 (by decide) ?_
          refine lv_iload_n hx hb dX9_isFit_45 rfl (lv_at hl 3 rfl) ?_
          refine lv_imul hx hb dX9_isFit_46 ?_
          refine lv_iconst (v := 1) hx hb dX9_isFit_47 (by decide) ?_
          refine lv_iadd hx hb dX9_isFit_48 ?_
          obtain ⟨hi, hf⟩ := ck_some hf
          refine va_iald hx hb hK hP 3 0 rfl rfl hi dX9_isFit_49 ?_
          refine lv_icmp_ne (tgt := 57) hx hb dX9_isFit_50 (by decide) (fun cc => ?_) (fun cc => ?_)
          · replace hf := if_f cc hf
            refine lv_iconst (v := 0) hx hb dX9_isFit_57 (by decide) ?_
            exact b58 x1 x3 0 sights sight H locs ls hP hD hS (lv_sub hl [0, 1, 3] rfl) hf
          · replace hf := if_t cc hf
            refine lv_iconst (v := 1) hx hb dX9_isFit_53 (by decide) ?_
            refine lv_goto (tgt := 58) hx hb dX9_isFit_54 (by decide) ?_
            exact b58 x1 x3 1 sights sight H locs ls hP hD hS (lv_sub hl [0, 1, 3] rfl) hf
  have b13 : ∀ (x1 : Int32) (s0 : Int32) (sights : Int32) (sight : Nat → Int32) (H : Heap) (locs : List Loc) (ls : Array Slot), va_P D vwCl (wX9 cyI cyJ cyZ cyO h book now sights sight signs pad nights townAt townCell reason acts at_ cost hole counts worth met ways nextWays image isKept) H → va_D A (wX9 cyI cyJ cyZ cyO h book now sights sight signs pad nights townAt townCell reason acts at_ cost hole counts worth met ways nextWays image isKept) → va_S A s.heap H locs → lv_has ls 4 [(0, .ref (h 0)), (1, .int x1)] → g_X9_isFit_b13 nf x1 s0 sights sight = some q → W p l e ({ frames := 2, cells := 0, slots := 0, locals := 47 } : Room) s m ([.ref (h 0), .int p1] : List Value).toArray below meth c H locs 0 0 (MQ below (qI D (wX9 cyI cyJ cyZ cyO h book now sights sight signs pad nights townAt townCell reason acts at_ cost hole counts worth met ways nextWays image isKept) q A) ([.ref (h 0), .int p1] : List Value).toArray s 0 0 A) (F0 m 13 ls [.int s0]) := by
    intro x1 s0 sights sight H locs ls hP hD hS hl hf
    unfold g_X9_isFit_b13 at hf
    refine lv_istore_n (lv' := [(2, .int s0), (0, .ref (h 0)), (1, .int x1)]) hx hb dX9_isFit_13 rfl hl (by decide) rfl (fun ls hl => ?_)
    refine lv_iconst (v := 0) hx hb dX9_isFit_14 (by decide) ?_
    refine lv_istore_n (lv' := [(3, .int 0), (2, .int s0), (0, .ref (h 0)), (1, .int x1)]) hx hb dX9_isFit_15 rfl hl (by decide) rfl (fun ls hl => ?_)
    exact l16 nf x1 s0 0 sights sight H locs ls hP hD hS (lv_sub hl [2, 3, 1, 0] rfl) hf
  have main : ∀ (H : Heap) (locs : List Loc) (ls : Array Slot), va_P D vwCl (wX9 cyI cyJ cyZ cyO h book now sights sight signs pad nights townAt townCell reason acts at_ cost hole counts worth met ways nextWays image isKept) H → va_D A (wX9 cyI cyJ cyZ cyO h book now sights sight signs pad nights townAt townCell reason acts at_ cost hole counts worth met ways nextWays image isKept) → va_S A s.heap H locs → lv_has ls 4 [(0, .ref (h 0)), (1, .int p1)] → W p l e ({ frames := 2, cells := 0, slots := 0, locals := 47 } : Room) s m ([.ref (h 0), .int p1] : List Value).toArray below meth c H locs 0 0 (MQ below (qI D (wX9 cyI cyJ cyZ cyO h book now sights sight signs pad nights townAt townCell reason acts at_ cost hole counts worth met ways nextWays image isKept) q A) ([.ref (h 0), .int p1] : List Value).toArray s 0 0 A) (F0 m 0 ls []) := by
    intro H locs ls hP hD hS hl
    unfold g_X9_isFit at hf
    refine lv_iload_n hx hb dX9_isFit_0 rfl (lv_at hl 1 rfl) ?_
    refine lv_bipush (v := 10) hx hb dX9_isFit_1 (by decide) ?_
    refine lv_irem hx hb dX9_isFit_3 (by decide) ?_
    refine lv_iconst (v := 4) hx hb dX9_isFit_4 (by decide) ?_
    refine lv_icmp_ge (tgt := 12) hx hb dX9_isFit_5 (by decide) (fun cc => ?_) (fun cc => ?_)
    · replace hf := if_t cc hf
      refine lv_iconst (v := 0) hx hb dX9_isFit_12 (by decide) ?_
      exact b13 p1 0 sights sight H locs ls hP hD hS (lv_sub hl [0, 1] rfl) hf
    · replace hf := if_f cc hf
      refine lv_iconst (v := 1) hx hb dX9_isFit_8 (by decide) ?_
      refine lv_goto (tgt := 13) hx hb dX9_isFit_9 (by decide) ?_
      exact b13 p1 1 sights sight H locs ls hP hD hS (lv_sub hl [0, 1] rfl) hf
  have hl := lv_entry ([.ref (h 0), .int p1]) (n := 4) (Nat.le_of_ble_eq_true rfl)
  rw [lg_entry_eq]
  exact main s.heap [] _ hP hD hS hl
theorem hd_X9_began : yX9_began.cls = RX9 ∧ yX9_began.cls ≠ "java/lang/invoke/MethodHandle" ∧ yX9_began.cls ≠ "java/lang/invoke/VarHandle" ∧ (parseMethodDescriptor yX9_began.desc).map (fun d => d.parameters.length) = some 1 := by decide +kernel
set_option maxHeartbeats 4000000 in
set_option maxRecDepth 100000 in
theorem c_X9_began (l : Launch) (D : va_G) (cyI cyJ cyZ cyO : ClassId) (h : Nat → Nat) (sz : Nat) (book : Nat → Int32) (now : Nat → Int32) (sights : Int32) (sight : Nat → Int32) (signs : Int32) (pad : Nat → Int32) (nights : Int32) (townAt : Int32) (townCell : Int32) (reason : Int32) (acts : Int32) (at_ : Int32) (cost : Nat → Int32) (hole : Nat → Int32) (counts : Nat → Int32) (worth : Nat → Int32) (met : Nat → Int32) (ways : Nat → Int64) (nextWays : Nat → Int64) (image : Nat → Int32) (isKept : Nat → Int32) (p1 : Int32) (nf : Nat) (q : Int32) (hf : g_X9_began nf p1 sights sight = some q) : Met l yX9_began (Cond.code yX9_began cX9_began 4 (some .int) :: tbG) ({ frames := 3, cells := 0, slots := 0, locals := 70 } : Room) (va_Pc [.ref (h 0), .int p1] (pcB D (ty4 cyI cyJ cyZ cyO) sz (wX9 cyI cyJ cyZ cyO h book now sights sight signs pad nights townAt townCell reason acts at_ cost hole counts worth met ways nextWays image isKept))) (qI D (wX9 cyI cyJ cyZ cyO h book now sights sight signs pad nights townAt townCell reason acts at_ cost hole counts worth met ways nextWays image isKept) q (va_A (wX9 cyI cyJ cyZ cyO h book now sights sight signs pad nights townAt townCell reason acts at_ cost hole counts worth met ways nextWays image isKept) sz)) 0 0 (va_A (wX9 cyI cyJ cyZ cyO h book now sights sight signs pad nights townAt townCell reason acts at_ cost hole counts worth met ways nextWays image isKept) sz) := by
  refine Met.ofW (cc := cX9_began) (maxL := 4) (ret := (some .int)) (by decide) rfl ?_
  intro p e s m args below meth c s₁ B hml hv
  obtain ⟨rfl, hsz, hP, hK, hD0, hN⟩ := hv
  have hx := B.exec
  have hb := B.bytes
  have hr := B.returns
  have hT : ∀ w ∈ tbG, w.before ([.ref (h 0), .int p1] : List Value).toArray s = true := fun w h => atoms_spec (ws := (Cond.code yX9_began cX9_began 4 (some .int) :: tbG)) B.pre w (List.mem_cons_of_mem _ h)
  have hown : s.vm.findClass RX9 = some m.cls := findClass_of_methodNamed B.named
  have hlocks := B.notSynchronized
  subst hsz
  have hD := hD0.self (sz := s.heap.size)
  generalize hAe : va_A (wX9 cyI cyJ cyZ cyO h book now sights sight signs pad nights townAt townCell reason acts at_ cost hole counts worth met ways nextWays image isKept) s.heap.size = A at hD ⊢
  have hA : ∀ q : Nat, s.heap.size ≤ q → A q := fun q h => by rw [← hAe]; exact Or.inr h
  have hS : va_S A s.heap s.heap [] := va_S.rf
  show W p l e ({ frames := 3, cells := 0, slots := 0, locals := 70 } : Room) s m ([.ref (h 0), .int p1] : List Value).toArray below meth c s.heap [] 0 0 (MQ below (qI D (wX9 cyI cyJ cyZ cyO h book now sights sight signs pad nights townAt townCell reason acts at_ cost hole counts worth met ways nextWays image isKept) q A) ([.ref (h 0), .int p1] : List Value).toArray s 0 0 A) _
  have l4 : ∀ (n4 : Nat) (x1 : Int32) (x2 : Int32) (x3 : Int32) (sights : Int32) (sight : Nat → Int32) (H : Heap) (locs : List Loc) (ls : Array Slot), va_P D vwCl (wX9 cyI cyJ cyZ cyO h book now sights sight signs pad nights townAt townCell reason acts at_ cost hole counts worth met ways nextWays image isKept) H → va_D A (wX9 cyI cyJ cyZ cyO h book now sights sight signs pad nights townAt townCell reason acts at_ cost hole counts worth met ways nextWays image isKept) → va_S A s.heap H locs → lv_has ls 4 [(0, .ref (h 0)), (1, .int x1), (2, .int x2), (3, .int x3)] → g_X9_began_l4 nf n4 x1 x2 x3 sights sight = some q → W p l e ({ frames := 3, cells := 0, slots := 0, locals := 70 } : Room) s m ([.ref (h 0), .int p1] : List Value).toArray below meth c H locs 0 0 (MQ below (qI D (wX9 cyI cyJ cyZ cyO h book now sights sight signs pad nights townAt townCell reason acts at_ cost hole counts worth met ways nextWays image isKept) q A) ([.ref (h 0), .int p1] : List Value).toArray s 0 0 A) (F0 m 4 ls []) := by
    intro n4
    induction n4 with
    | zero =>
      intro x1 x2 x3 sights sight H locs ls hP hD hS hl hf
      rw [g_X9_began_l4] at hf
      cases hf
    | succ n4 ih4 =>
      have b29 : ∀ (x1 : Int32) (x2 : Int32) (x3 : Int32) (sights : Int32) (sight : Nat → Int32) (H : Heap) (locs : List Loc) (ls : Array Slot), va_P D vwCl (wX9 cyI cyJ cyZ cyO h book now sights sight signs pad nights townAt townCell reason acts at_ cost hole counts worth met ways nextWays image isKept) H → va_D A (wX9 cyI cyJ cyZ cyO h book now sights sight signs pad nights townAt townCell reason acts at_ cost hole counts worth met ways nextWays image isKept) → va_S A s.heap H locs → lv_has ls 4 [(0, .ref (h 0)), (1, .int x1), (2, .int x2), (3, .int x3)] → g_X9_began_b29 nf (g_X9_began_l4 nf n4) x1 x2 x3 sights sight = some q → W p l e ({ frames := 3, cells := 0, slots := 0, locals := 70 } : Room) s m ([.ref (h 0), .int p1] : List Value).toArray below meth c H locs 0 0 (MQ below (qI D (wX9 cyI cyJ cyZ cyO h book now sights sight signs pad nights townAt townCell reason acts at_ cost hole counts worth met ways nextWays image isKept) q A) ([.ref (h 0), .int p1] : List Value).toArray s 0 0 A) (F0 m 29 ls []) := by
        intro x1 x2 x3 sights sight H locs ls hP hD hS hl hf
        unfold g_X9_began_b29 at hf
        refine lv_iinc (v := (x3 + 1)) (lv' := [(3, .int (x3 + 1)), (0, .ref (h 0)), (1, .int x1), (2, .int x2)]) hx hb dX9_began_29 hl (k := 3) rfl rfl (by decide) rfl (fun ls hl => ?_)
        refine lv_goto (tgt := 4) hx hb dX9_began_32 (by decide) ?_
        exact ih4 x1 x2 (x3 + 1) sights sight H locs ls hP hD hS (lv_sub hl [1, 2, 3, 0] rfl) hf
      intro x1 x2 x3 sights sight H locs ls hP hD hS hl hf
      rw [g_X9_began_l4] at hf
      refine lv_iload_n hx hb dX9_began_4 rfl (lv_at hl 3 rfl) ?_
      refine lv_sipush (v := 250) hx hb dX9_began_5 (by decide) ?_
      refine lv_icmp_ge (tgt := 35) hx hb dX9_began_8 (by decide) (fun cc => ?_) (fun cc => ?_)
      · replace hf := if_t cc hf
        refine lv_iload_n hx hb dX9_began_35 rfl (lv_at hl 1 rfl) ?_
        refine lv_iconst (v := (-1)) hx hb dX9_began_36 (by decide) ?_
        refine lv_icmp_ne (tgt := 44) hx hb dX9_began_37 (by decide) (fun cc => ?_) (fun cc => ?_)
        · replace hf := if_f cc hf
          refine lv_bipush (v := (-6)) hx hb dX9_began_44 (by decide) ?_
          cases Option.some.inj hf
          exact W.iret hx hb hr (fun t ht hW => ⟨⟨_, (), rfl, rfl, by show va_P D vwCl _ t.heap; rw [ht]; exact hP⟩, hS.F ht⟩) hS.2.2 dX9_began_46
        · replace hf := if_t cc hf
          refine lv_iload_n hx hb dX9_began_40 rfl (lv_at hl 2 rfl) ?_
          refine lv_goto (tgt := 46) hx hb dX9_began_41 (by decide) ?_
          cases Option.some.inj hf
          exact W.iret hx hb hr (fun t ht hW => ⟨⟨_, (), rfl, rfl, by show va_P D vwCl _ t.heap; rw [ht]; exact hP⟩, hS.F ht⟩) hS.2.2 dX9_began_46
      · replace hf := if_f cc hf
        refine lv_aload_n hx hb dX9_began_11 rfl (lv_at hl 0 rfl) ?_
        refine lv_iload_n hx hb dX9_began_12 rfl (lv_at hl 3 rfl) ?_
        obtain ⟨q1, hq1, hf⟩ := bd_some hf
        have hC : [0, 1, 2, 3, 4, 5, 6, 7, 8, 9, 10, 11, 12, 13].map (fun i => (wX9 cyI cyJ cyZ cyO h book now sights sight signs pad nights townAt townCell reason acts at_ cost hole counts worth met ways nextWays image isKept)[i]?) = (wX9 cyI cyJ cyZ cyO h book now sights sight signs pad nights townAt townCell reason acts at_ cost hole counts worth met ways nextWays image isKept).map some := rfl
        refine cl_i (rn_V (As := [.int x3]) (rest := []) (C := RX9) hx hb hml hown hT hK hN hP hD [0, 1, 2, 3, 4, 5, 6, 7, 8, 9, 10, 11, 12, 13] hC rfl (c_X9_isFit l D cyI cyJ cyZ cyO h H.size book now sights sight signs pad nights townAt townCell reason acts at_ cost hole counts worth met ways nextWays image isKept x3 nf q1 hq1) wm_X9_167 wi_X9_isFit wl_X9_isFit wz_X9 wc_X9_isFit hd_X9_isFit ⟨rfl, rfl⟩ ⟨Nat.le_of_ble_eq_true rfl, Nat.le_of_ble_eq_true rfl⟩ (q0 := 0) (ci := 9) rfl rfl rfl rfl hl.1 rfl (Nat.le_of_ble_eq_true rfl) dX9_began_13 ⟨Nat.zero_le _, Nat.zero_le _⟩) hP hD hS hA [0, 1, 2, 3, 4, 5, 6, 7, 8, 9, 10, 11, 12, 13] hC [(true, 0), (true, 1), (true, 2), (true, 3), (true, 4), (true, 5), (true, 6), (true, 7), (true, 8), (true, 9), (true, 10), (true, 11), (true, 12), (true, 13)] (ws' := wX9 cyI cyJ cyZ cyO h book now sights sight signs pad nights townAt townCell reason acts at_ cost hole counts worth met ways nextWays image isKept) rfl rfl rfl (fun H locs hP hD hS => ?_)
        refine lv_if_eq (tgt := 29) hx hb dX9_began_16 (by decide) (fun cc => ?_) (fun cc => ?_)
        · replace hf := if_t cc hf
          exact b29 x1 x2 x3 sights sight H locs ls hP hD hS (lv_sub hl [0, 1, 2, 3] rfl) hf
        · replace hf := if_f cc hf
          refine lv_iload_n hx hb dX9_began_19 rfl (lv_at hl 2 rfl) ?_
          refine lv_iload_n hx hb dX9_began_20 rfl (lv_at hl 1 rfl) ?_
          refine lv_icmp_ne (tgt := 26) hx hb dX9_began_21 (by decide) (fun cc => ?_) (fun cc => ?_)
          · replace hf := if_f cc hf
            refine lv_iinc (v := (x2 + 1)) (lv' := [(2, .int (x2 + 1)), (0, .ref (h 0)), (1, .int x1), (3, .int x3)]) hx hb dX9_began_26 hl (k := 2) rfl rfl (by decide) rfl (fun ls hl => ?_)
            exact b29 x1 (x2 + 1) x3 sights sight H locs ls hP hD hS (lv_sub hl [1, 2, 0, 3] rfl) hf
          · replace hf := if_t cc hf
            refine lv_iload_n hx hb dX9_began_24 rfl (lv_at hl 3 rfl) ?_
            cases Option.some.inj hf
            exact W.iret hx hb hr (fun t ht hW => ⟨⟨_, (), rfl, rfl, by show va_P D vwCl _ t.heap; rw [ht]; exact hP⟩, hS.F ht⟩) hS.2.2 dX9_began_25
  have main : ∀ (H : Heap) (locs : List Loc) (ls : Array Slot), va_P D vwCl (wX9 cyI cyJ cyZ cyO h book now sights sight signs pad nights townAt townCell reason acts at_ cost hole counts worth met ways nextWays image isKept) H → va_D A (wX9 cyI cyJ cyZ cyO h book now sights sight signs pad nights townAt townCell reason acts at_ cost hole counts worth met ways nextWays image isKept) → va_S A s.heap H locs → lv_has ls 4 [(0, .ref (h 0)), (1, .int p1)] → W p l e ({ frames := 3, cells := 0, slots := 0, locals := 70 } : Room) s m ([.ref (h 0), .int p1] : List Value).toArray below meth c H locs 0 0 (MQ below (qI D (wX9 cyI cyJ cyZ cyO h book now sights sight signs pad nights townAt townCell reason acts at_ cost hole counts worth met ways nextWays image isKept) q A) ([.ref (h 0), .int p1] : List Value).toArray s 0 0 A) (F0 m 0 ls []) := by
    intro H locs ls hP hD hS hl
    unfold g_X9_began at hf
    refine lv_iconst (v := 0) hx hb dX9_began_0 (by decide) ?_
    refine lv_istore_n (lv' := [(2, .int 0), (0, .ref (h 0)), (1, .int p1)]) hx hb dX9_began_1 rfl hl (by decide) rfl (fun ls hl => ?_)
    refine lv_iconst (v := 0) hx hb dX9_began_2 (by decide) ?_
    refine lv_istore_n (lv' := [(3, .int 0), (2, .int 0), (0, .ref (h 0)), (1, .int p1)]) hx hb dX9_began_3 rfl hl (by decide) rfl (fun ls hl => ?_)
    exact l4 nf p1 0 0 sights sight H locs ls hP hD hS (lv_sub hl [2, 3, 1, 0] rfl) hf
  have hl := lv_entry ([.ref (h 0), .int p1]) (n := 4) (Nat.le_of_ble_eq_true rfl)
  rw [lg_entry_eq]
  exact main s.heap [] _ hP hD hS hl
theorem hd_X9_ask : yX9_ask.cls = RX9 ∧ yX9_ask.cls ≠ "java/lang/invoke/MethodHandle" ∧ yX9_ask.cls ≠ "java/lang/invoke/VarHandle" ∧ (parseMethodDescriptor yX9_ask.desc).map (fun d => d.parameters.length) = some 1 := by decide +kernel
set_option maxHeartbeats 4000000 in
set_option maxRecDepth 100000 in
theorem c_X9_ask (l : Launch) (D : va_G) (cyI cyJ cyZ cyO : ClassId) (h : Nat → Nat) (sz : Nat) (book : Nat → Int32) (now : Nat → Int32) (sights : Int32) (sight : Nat → Int32) (signs : Int32) (pad : Nat → Int32) (nights : Int32) (townAt : Int32) (townCell : Int32) (reason : Int32) (acts : Int32) (at_ : Int32) (cost : Nat → Int32) (hole : Nat → Int32) (counts : Nat → Int32) (worth : Nat → Int32) (met : Nat → Int32) (ways : Nat → Int64) (nextWays : Nat → Int64) (image : Nat → Int32) (isKept : Nat → Int32) (p1 : Int32) (nf : Nat) (q : Int32 × (Nat → Int32)) (hf : g_X9_ask nf p1 sights sight counts = some q) : Met l yX9_ask (Cond.code yX9_ask cX9_ask 8 (some .int) :: tbG) ({ frames := 3, cells := 0, slots := 0, locals := 70 } : Room) (va_Pc [.ref (h 0), .int p1] (pcB D (ty4 cyI cyJ cyZ cyO) sz (wX9 cyI cyJ cyZ cyO h book now sights sight signs pad nights townAt townCell reason acts at_ cost hole counts worth met ways nextWays image isKept))) (qI D (wX9 cyI cyJ cyZ cyO h book now sights sight signs pad nights townAt townCell reason acts at_ cost hole q.2 worth met ways nextWays image isKept) q.1 (va_A (wX9 cyI cyJ cyZ cyO h book now sights sight signs pad nights townAt townCell reason acts at_ cost hole counts worth met ways nextWays image isKept) sz)) 0 0 (va_A (wX9 cyI cyJ cyZ cyO h book now sights sight signs pad nights townAt townCell reason acts at_ cost hole counts worth met ways nextWays image isKept) sz) := by
  refine Met.ofW (cc := cX9_ask) (maxL := 8) (ret := (some .int)) (by decide) rfl ?_
  intro p e s m args below meth c s₁ B hml hv
  obtain ⟨rfl, hsz, hP, hK, hD0, hN⟩ := hv
  have hx := B.exec
  have hb := B.bytes
  have hr := B.returns
  have hT : ∀ w ∈ tbG, w.before ([.ref (h 0), .int p1] : List Value).toArray s = true := fun w h => atoms_spec (ws := (Cond.code yX9_ask cX9_ask 8 (some .int) :: tbG)) B.pre w (List.mem_cons_of_mem _ h)
  have hown : s.vm.findClass RX9 = some m.cls := findClass_of_methodNamed B.named
  have hlocks := B.notSynchronized
  subst hsz
  have hD := hD0.self (sz := s.heap.size)
  generalize hAe : va_A (wX9 cyI cyJ cyZ cyO h book now sights sight signs pad nights townAt townCell reason acts at_ cost hole counts worth met ways nextWays image isKept) s.heap.size = A at hD ⊢
  have hA : ∀ q : Nat, s.heap.size ≤ q → A q := fun q h => by rw [← hAe]; exact Or.inr h
  have hS : va_S A s.heap s.heap [] := va_S.rf
  show W p l e ({ frames := 3, cells := 0, slots := 0, locals := 70 } : Room) s m ([.ref (h 0), .int p1] : List Value).toArray below meth c s.heap [] 0 0 (MQ below (qI D (wX9 cyI cyJ cyZ cyO h book now sights sight signs pad nights townAt townCell reason acts at_ cost hole q.2 worth met ways nextWays image isKept) q.1 A) ([.ref (h 0), .int p1] : List Value).toArray s 0 0 A) _
  have b183 : ∀ (x2 : Int32) (sights : Int32) (sight : Nat → Int32) (counts : Nat → Int32) (H : Heap) (locs : List Loc) (ls : Array Slot), va_P D vwCl (wX9 cyI cyJ cyZ cyO h book now sights sight signs pad nights townAt townCell reason acts at_ cost hole counts worth met ways nextWays image isKept) H → va_D A (wX9 cyI cyJ cyZ cyO h book now sights sight signs pad nights townAt townCell reason acts at_ cost hole counts worth met ways nextWays image isKept) → va_S A s.heap H locs → lv_has ls 8 [(2, .int x2)] → g_X9_ask_b183 nf x2 sights sight counts = some q → W p l e ({ frames := 3, cells := 0, slots := 0, locals := 70 } : Room) s m ([.ref (h 0), .int p1] : List Value).toArray below meth c H locs 0 0 (MQ below (qI D (wX9 cyI cyJ cyZ cyO h book now sights sight signs pad nights townAt townCell reason acts at_ cost hole q.2 worth met ways nextWays image isKept) q.1 A) ([.ref (h 0), .int p1] : List Value).toArray s 0 0 A) (F0 m 183 ls []) := by
    intro x2 sights sight counts H locs ls hP hD hS hl hf
    unfold g_X9_ask_b183 at hf
    refine lv_iload_n hx hb dX9_ask_183 rfl (lv_at hl 0 rfl) ?_
    refine lv_goto (tgt := 188) hx hb dX9_ask_184 (by decide) ?_
    cases Option.some.inj hf
    exact W.iret hx hb hr (fun t ht hW => ⟨⟨_, (), rfl, rfl, by show va_P D vwCl _ t.heap; rw [ht]; exact hP⟩, hS.F ht⟩) hS.2.2 dX9_ask_188
  have l21 : ∀ (n21 : Nat) (x1 : Int32) (x2 : Int32) (x3 : Int32) (x4 : Int32) (sights : Int32) (sight : Nat → Int32) (counts : Nat → Int32) (H : Heap) (locs : List Loc) (ls : Array Slot), va_P D vwCl (wX9 cyI cyJ cyZ cyO h book now sights sight signs pad nights townAt townCell reason acts at_ cost hole counts worth met ways nextWays image isKept) H → va_D A (wX9 cyI cyJ cyZ cyO h book now sights sight signs pad nights townAt townCell reason acts at_ cost hole counts worth met ways nextWays image isKept) → va_S A s.heap H locs → lv_has ls 8 [(0, .ref (h 0)), (1, .int x1), (2, .int x2), (3, .int x3), (4, .int x4)] → g_X9_ask_l21 nf n21 x1 x2 x3 x4 sights sight counts = some q → W p l e ({ frames := 3, cells := 0, slots := 0, locals := 70 } : Room) s m ([.ref (h 0), .int p1] : List Value).toArray below meth c H locs 0 0 (MQ below (qI D (wX9 cyI cyJ cyZ cyO h book now sights sight signs pad nights townAt townCell reason acts at_ cost hole q.2 worth met ways nextWays image isKept) q.1 A) ([.ref (h 0), .int p1] : List Value).toArray s 0 0 A) (F0 m 21 ls []) := by
    intro n21
    induction n21 with
    | zero =>
      intro x1 x2 x3 x4 sights sight counts H locs ls hP hD hS hl hf
      rw [g_X9_ask_l21] at hf
      cases hf
    | succ n21 ih21 =>
      have b168 : ∀ (x1 : Int32) (x2 : Int32) (x4 : Int32) (s0 : Int32) (sights : Int32) (sight : Nat → Int32) (counts : Nat → Int32) (H : Heap) (locs : List Loc) (ls : Array Slot), va_P D vwCl (wX9 cyI cyJ cyZ cyO h book now sights sight signs pad nights townAt townCell reason acts at_ cost hole counts worth met ways nextWays image isKept) H → va_D A (wX9 cyI cyJ cyZ cyO h book now sights sight signs pad nights townAt townCell reason acts at_ cost hole counts worth met ways nextWays image isKept) → va_S A s.heap H locs → lv_has ls 8 [(0, .ref (h 0)), (1, .int x1), (2, .int x2), (4, .int x4)] → g_X9_ask_b168 nf (g_X9_ask_l21 nf n21) x1 x2 x4 s0 sights sight counts = some q → W p l e ({ frames := 3, cells := 0, slots := 0, locals := 70 } : Room) s m ([.ref (h 0), .int p1] : List Value).toArray below meth c H locs 0 0 (MQ below (qI D (wX9 cyI cyJ cyZ cyO h book now sights sight signs pad nights townAt townCell reason acts at_ cost hole q.2 worth met ways nextWays image isKept) q.1 A) ([.ref (h 0), .int p1] : List Value).toArray s 0 0 A) (F0 m 168 ls [.int s0]) := by
        intro x1 x2 x4 s0 sights sight counts H locs ls hP hD hS hl hf
        unfold g_X9_ask_b168 at hf
        refine lv_istore_n (lv' := [(3, .int s0), (0, .ref (h 0)), (1, .int x1), (2, .int x2), (4, .int x4)]) hx hb dX9_ask_168 rfl hl (by decide) rfl (fun ls hl => ?_)
        refine lv_iinc (v := (x4 + 1)) (lv' := [(4, .int (x4 + 1)), (3, .int s0), (0, .ref (h 0)), (1, .int x1), (2, .int x2)]) hx hb dX9_ask_169 hl (k := 4) rfl rfl (by decide) rfl (fun ls hl => ?_)
        refine lv_goto (tgt := 21) hx hb dX9_ask_172 (by decide) ?_
        exact ih21 x1 x2 s0 (x4 + 1) sights sight counts H locs ls hP hD hS (lv_sub hl [2, 3, 4, 1, 0] rfl) hf
      have b156 : ∀ (x1 : Int32) (x3 : Int32) (x4 : Int32) (x5 : Int32) (x6 : Int32) (s0 : Int32) (sights : Int32) (sight : Nat → Int32) (counts : Nat → Int32) (H : Heap) (locs : List Loc) (ls : Array Slot), va_P D vwCl (wX9 cyI cyJ cyZ cyO h book now sights sight signs pad nights townAt townCell reason acts at_ cost hole counts worth met ways nextWays image isKept) H → va_D A (wX9 cyI cyJ cyZ cyO h book now sights sight signs pad nights townAt townCell reason acts at_ cost hole counts worth met ways nextWays image isKept) → va_S A s.heap H locs → lv_has ls 8 [(0, .ref (h 0)), (1, .int x1), (3, .int x3), (4, .int x4), (5, .int x5), (6, .int x6)] → g_X9_ask_b156 nf (g_X9_ask_l21 nf n21) x1 x3 x4 x5 x6 s0 sights sight counts = some q → W p l e ({ frames := 3, cells := 0, slots := 0, locals := 70 } : Room) s m ([.ref (h 0), .int p1] : List Value).toArray below meth c H locs 0 0 (MQ below (qI D (wX9 cyI cyJ cyZ cyO h book now sights sight signs pad nights townAt townCell reason acts at_ cost hole q.2 worth met ways nextWays image isKept) q.1 A) ([.ref (h 0), .int p1] : List Value).toArray s 0 0 A) (F0 m 156 ls [.int s0]) := by
        intro x1 x3 x4 x5 x6 s0 sights sight counts H locs ls hP hD hS hl hf
        unfold g_X9_ask_b156 at hf
        refine lv_istore_n (lv' := [(2, .int s0), (0, .ref (h 0)), (1, .int x1), (3, .int x3), (4, .int x4), (5, .int x5), (6, .int x6)]) hx hb dX9_ask_156 rfl hl (by decide) rfl (fun ls hl => ?_)
        refine lv_iload hx hb dX9_ask_157 (lv_at hl 6 rfl) ?_
        refine lv_if_eq (tgt := 167) hx hb dX9_ask_159 (by decide) (fun cc => ?_) (fun cc => ?_)
        · replace hf := if_t cc hf
          refine lv_iload_n hx hb dX9_ask_167 rfl (lv_at hl 3 rfl) ?_
          exact b168 x1 s0 x4 x3 sights sight counts H locs ls hP hD hS (lv_sub hl [1, 2, 0, 4] rfl) hf
        · replace hf := if_f cc hf
          refine lv_iload hx hb dX9_ask_162 (lv_at hl 5 rfl) ?_
          refine lv_goto (tgt := 168) hx hb dX9_ask_164 (by decide) ?_
          exact b168 x1 s0 x4 x5 sights sight counts H locs ls hP hD hS (lv_sub hl [1, 2, 0, 4] rfl) hf
      have b143 : ∀ (x1 : Int32) (x2 : Int32) (x3 : Int32) (x4 : Int32) (x5 : Int32) (s0 : Int32) (sights : Int32) (sight : Nat → Int32) (counts : Nat → Int32) (H : Heap) (locs : List Loc) (ls : Array Slot), va_P D vwCl (wX9 cyI cyJ cyZ cyO h book now sights sight signs pad nights townAt townCell reason acts at_ cost hole counts worth met ways nextWays image isKept) H → va_D A (wX9 cyI cyJ cyZ cyO h book now sights sight signs pad nights townAt townCell reason acts at_ cost hole counts worth met ways nextWays image isKept) → va_S A s.heap H locs → lv_has ls 8 [(0, .ref (h 0)), (1, .int x1), (2, .int x2), (3, .int x3), (4, .int x4), (5, .int x5)] → g_X9_ask_b143 nf (g_X9_ask_l21 nf n21) x1 x2 x3 x4 x5 s0 sights sight counts = some q → W p l e ({ frames := 3, cells := 0, slots := 0, locals := 70 } : Room) s m ([.ref (h 0), .int p1] : List Value).toArray below meth c H locs 0 0 (MQ below (qI D (wX9 cyI cyJ cyZ cyO h book now sights sight signs pad nights townAt townCell reason acts at_ cost hole q.2 worth met ways nextWays image isKept) q.1 A) ([.ref (h 0), .int p1] : List Value).toArray s 0 0 A) (F0 m 143 ls [.int s0]) := by
        intro x1 x2 x3 x4 x5 s0 sights sight counts H locs ls hP hD hS hl hf
        unfold g_X9_ask_b143 at hf
        refine lv_istore (lv' := [(6, .int s0), (0, .ref (h 0)), (1, .int x1), (2, .int x2), (3, .int x3), (4, .int x4), (5, .int x5)]) hx hb dX9_ask_143 hl (by decide) rfl (fun ls hl => ?_)
        refine lv_iload hx hb dX9_ask_145 (lv_at hl 0 rfl) ?_
        refine lv_if_eq (tgt := 155) hx hb dX9_ask_147 (by decide) (fun cc => ?_) (fun cc => ?_)
        · replace hf := if_t cc hf
          refine lv_iload_n hx hb dX9_ask_155 rfl (lv_at hl 3 rfl) ?_
          exact b156 x1 x3 x4 x5 s0 x2 sights sight counts H locs ls hP hD hS (lv_sub hl [1, 2, 4, 5, 6, 0] rfl) hf
        · replace hf := if_f cc hf
          refine lv_iload hx hb dX9_ask_150 (lv_at hl 5 rfl) ?_
          refine lv_goto (tgt := 156) hx hb dX9_ask_152 (by decide) ?_
          exact b156 x1 x3 x4 x5 s0 x4 sights sight counts H locs ls hP hD hS (lv_sub hl [1, 2, 4, 5, 6, 0] rfl) hf
      have b142 : ∀ (x1 : Int32) (x2 : Int32) (x3 : Int32) (x4 : Int32) (x5 : Int32) (sights : Int32) (sight : Nat → Int32) (counts : Nat → Int32) (H : Heap) (locs : List Loc) (ls : Array Slot), va_P D vwCl (wX9 cyI cyJ cyZ cyO h book now sights sight signs pad nights townAt townCell reason acts at_ cost hole counts worth met ways nextWays image isKept) H → va_D A (wX9 cyI cyJ cyZ cyO h book now sights sight signs pad nights townAt townCell reason acts at_ cost hole counts worth met ways nextWays image isKept) → va_S A s.heap H locs → lv_has ls 8 [(0, .ref (h 0)), (1, .int x1), (2, .int x2), (3, .int x3), (4, .int x4), (5, .int x5)] → g_X9_ask_b142 nf (g_X9_ask_l21 nf n21) x1 x2 x3 x4 x5 sights sight counts = some q → W p l e ({ frames := 3, cells := 0, slots := 0, locals := 70 } : Room) s m ([.ref (h 0), .int p1] : List Value).toArray below meth c H locs 0 0 (MQ below (qI D (wX9 cyI cyJ cyZ cyO h book now sights sight signs pad nights townAt townCell reason acts at_ cost hole q.2 worth met ways nextWays image isKept) q.1 A) ([.ref (h 0), .int p1] : List Value).toArray s 0 0 A) (F0 m 142 ls []) := by
        intro x1 x2 x3 x4 x5 sights sight counts H locs ls hP hD hS hl hf
        unfold g_X9_ask_b142 at hf
        refine lv_iconst (v := 0) hx hb dX9_ask_142 (by decide) ?_
        exact b143 x1 x2 x3 x4 x5 0 sights sight counts H locs ls hP hD hS (lv_sub hl [0, 1, 2, 3, 4, 5] rfl) hf
      have l58 : ∀ (n58 : Nat) (x1 : Int32) (x2 : Int32) (x3 : Int32) (x4 : Int32) (x5 : Int32) (x6 : Int32) (sights : Int32) (sight : Nat → Int32) (counts : Nat → Int32) (H : Heap) (locs : List Loc) (ls : Array Slot), va_P D vwCl (wX9 cyI cyJ cyZ cyO h book now sights sight signs pad nights townAt townCell reason acts at_ cost hole counts worth met ways nextWays image isKept) H → va_D A (wX9 cyI cyJ cyZ cyO h book now sights sight signs pad nights townAt townCell reason acts at_ cost hole counts worth met ways nextWays image isKept) → va_S A s.heap H locs → lv_has ls 8 [(0, .ref (h 0)), (1, .int x1), (2, .int x2), (3, .int x3), (4, .int x4), (5, .int x5), (6, .int x6)] → g_X9_ask_l58 nf (g_X9_ask_l21 nf n21) n58 x1 x2 x3 x4 x5 x6 sights sight counts = some q → W p l e ({ frames := 3, cells := 0, slots := 0, locals := 70 } : Room) s m ([.ref (h 0), .int p1] : List Value).toArray below meth c H locs 0 0 (MQ below (qI D (wX9 cyI cyJ cyZ cyO h book now sights sight signs pad nights townAt townCell reason acts at_ cost hole q.2 worth met ways nextWays image isKept) q.1 A) ([.ref (h 0), .int p1] : List Value).toArray s 0 0 A) (F0 m 58 ls []) := by
        intro n58
        induction n58 with
        | zero =>
          intro x1 x2 x3 x4 x5 x6 sights sight counts H locs ls hP hD hS hl hf
          rw [g_X9_ask_l58] at hf
          cases hf
        | succ n58 ih58 =>
          have b121 : ∀ (x1 : Int32) (x2 : Int32) (x3 : Int32) (x4 : Int32) (x5 : Int32) (x6 : Int32) (sights : Int32) (sight : Nat → Int32) (counts : Nat → Int32) (H : Heap) (locs : List Loc) (ls : Array Slot), va_P D vwCl (wX9 cyI cyJ cyZ cyO h book now sights sight signs pad nights townAt townCell reason acts at_ cost hole counts worth met ways nextWays image isKept) H → va_D A (wX9 cyI cyJ cyZ cyO h book now sights sight signs pad nights townAt townCell reason acts at_ cost hole counts worth met ways nextWays image isKept) → va_S A s.heap H locs → lv_has ls 8 [(0, .ref (h 0)), (1, .int x1), (2, .int x2), (3, .int x3), (4, .int x4), (5, .int x5), (6, .int x6)] → g_X9_ask_b121 nf (g_X9_ask_l21 nf n21) (g_X9_ask_l58 nf (g_X9_ask_l21 nf n21) n58) x1 x2 x3 x4 x5 x6 sights sight counts = some q → W p l e ({ frames := 3, cells := 0, slots := 0, locals := 70 } : Room) s m ([.ref (h 0), .int p1] : List Value).toArray below meth c H locs 0 0 (MQ below (qI D (wX9 cyI cyJ cyZ cyO h book now sights sight signs pad nights townAt townCell reason acts at_ cost hole q.2 worth met ways nextWays image isKept) q.1 A) ([.ref (h 0), .int p1] : List Value).toArray s 0 0 A) (F0 m 121 ls []) := by
            intro x1 x2 x3 x4 x5 x6 sights sight counts H locs ls hP hD hS hl hf
            unfold g_X9_ask_b121 at hf
            refine lv_iinc (v := (x6 + 1)) (lv' := [(6, .int (x6 + 1)), (0, .ref (h 0)), (1, .int x1), (2, .int x2), (3, .int x3), (4, .int x4), (5, .int x5)]) hx hb dX9_ask_121 hl (k := 6) rfl rfl (by decide) rfl (fun ls hl => ?_)
            refine lv_goto (tgt := 58) hx hb dX9_ask_124 (by decide) ?_
            exact ih58 x1 x2 x3 x4 x5 (x6 + 1) sights sight counts H locs ls hP hD hS (lv_sub hl [1, 2, 3, 4, 5, 6, 0] rfl) hf
          have b119 : ∀ (x1 : Int32) (x2 : Int32) (x3 : Int32) (x4 : Int32) (x6 : Int32) (s0 : Int32) (sights : Int32) (sight : Nat → Int32) (counts : Nat → Int32) (H : Heap) (locs : List Loc) (ls : Array Slot), va_P D vwCl (wX9 cyI cyJ cyZ cyO h book now sights sight signs pad nights townAt townCell reason acts at_ cost hole counts worth met ways nextWays image isKept) H → va_D A (wX9 cyI cyJ cyZ cyO h book now sights sight signs pad nights townAt townCell reason acts at_ cost hole counts worth met ways nextWays image isKept) → va_S A s.heap H locs → lv_has ls 8 [(0, .ref (h 0)), (1, .int x1), (2, .int x2), (3, .int x3), (4, .int x4), (6, .int x6)] → g_X9_ask_b119 nf (g_X9_ask_l21 nf n21) (g_X9_ask_l58 nf (g_X9_ask_l21 nf n21) n58) x1 x2 x3 x4 x6 s0 sights sight counts = some q → W p l e ({ frames := 3, cells := 0, slots := 0, locals := 70 } : Room) s m ([.ref (h 0), .int p1] : List Value).toArray below meth c H locs 0 0 (MQ below (qI D (wX9 cyI cyJ cyZ cyO h book now sights sight signs pad nights townAt townCell reason acts at_ cost hole q.2 worth met ways nextWays image isKept) q.1 A) ([.ref (h 0), .int p1] : List Value).toArray s 0 0 A) (F0 m 119 ls [.int s0]) := by
            intro x1 x2 x3 x4 x6 s0 sights sight counts H locs ls hP hD hS hl hf
            unfold g_X9_ask_b119 at hf
            refine lv_istore (lv' := [(5, .int s0), (0, .ref (h 0)), (1, .int x1), (2, .int x2), (3, .int x3), (4, .int x4), (6, .int x6)]) hx hb dX9_ask_119 hl (by decide) rfl (fun ls hl => ?_)
            exact b121 x1 x2 x3 x4 s0 x6 sights sight counts H locs ls hP hD hS (lv_sub hl [1, 2, 3, 4, 5, 0, 6] rfl) hf
          intro x1 x2 x3 x4 x5 x6 sights sight counts H locs ls hP hD hS hl hf
          rw [g_X9_ask_l58] at hf
          refine lv_iload hx hb dX9_ask_58 (lv_at hl 6 rfl) ?_
          refine lv_sipush (v := 250) hx hb dX9_ask_60 (by decide) ?_
          refine lv_icmp_ge (tgt := 127) hx hb dX9_ask_63 (by decide) (fun cc => ?_) (fun cc => ?_)
          · replace hf := if_t cc hf
            refine lv_iload hx hb dX9_ask_127 (lv_at hl 5 rfl) ?_
            refine lv_if_le (tgt := 142) hx hb dX9_ask_129 (by decide) (fun cc => ?_) (fun cc => ?_)
            · replace hf := if_t cc hf
              exact b142 x1 x2 x3 x4 x5 sights sight counts H locs ls hP hD hS (lv_sub hl [0, 1, 2, 3, 4, 5] rfl) hf
            · replace hf := if_f cc hf
              refine lv_iload hx hb dX9_ask_132 (lv_at hl 5 rfl) ?_
              refine lv_iload_n hx hb dX9_ask_134 rfl (lv_at hl 3 rfl) ?_
              refine lv_icmp_ge (tgt := 142) hx hb dX9_ask_135 (by decide) (fun cc => ?_) (fun cc => ?_)
              · replace hf := if_t cc hf
                exact b142 x1 x2 x3 x4 x5 sights sight counts H locs ls hP hD hS (lv_sub hl [0, 1, 2, 3, 4, 5] rfl) hf
              · replace hf := if_f cc hf
                refine lv_iconst (v := 1) hx hb dX9_ask_138 (by decide) ?_
                refine lv_goto (tgt := 143) hx hb dX9_ask_139 (by decide) ?_
                exact b143 x1 x2 x3 x4 x5 1 sights sight counts H locs ls hP hD hS (lv_sub hl [0, 1, 2, 3, 4, 5] rfl) hf
          · replace hf := if_f cc hf
            refine lv_aload_n hx hb dX9_ask_66 rfl (lv_at hl 0 rfl) ?_
            refine lv_iload hx hb dX9_ask_67 (lv_at hl 6 rfl) ?_
            obtain ⟨q1, hq1, hf⟩ := bd_some hf
            have hC : [0, 1, 2, 3, 4, 5, 6, 7, 8, 9, 10, 11, 12, 13].map (fun i => (wX9 cyI cyJ cyZ cyO h book now sights sight signs pad nights townAt townCell reason acts at_ cost hole counts worth met ways nextWays image isKept)[i]?) = (wX9 cyI cyJ cyZ cyO h book now sights sight signs pad nights townAt townCell reason acts at_ cost hole counts worth met ways nextWays image isKept).map some := rfl
            refine cl_i (rn_V (As := [.int x6]) (rest := []) (C := RX9) hx hb hml hown hT hK hN hP hD [0, 1, 2, 3, 4, 5, 6, 7, 8, 9, 10, 11, 12, 13] hC rfl (c_X9_isFit l D cyI cyJ cyZ cyO h H.size book now sights sight signs pad nights townAt townCell reason acts at_ cost hole counts worth met ways nextWays image isKept x6 nf q1 hq1) wm_X9_167 wi_X9_isFit wl_X9_isFit wz_X9 wc_X9_isFit hd_X9_isFit ⟨rfl, rfl⟩ ⟨Nat.le_of_ble_eq_true rfl, Nat.le_of_ble_eq_true rfl⟩ (q0 := 0) (ci := 9) rfl rfl rfl rfl hl.1 rfl (Nat.le_of_ble_eq_true rfl) dX9_ask_69 ⟨Nat.zero_le _, Nat.zero_le _⟩) hP hD hS hA [0, 1, 2, 3, 4, 5, 6, 7, 8, 9, 10, 11, 12, 13] hC [(true, 0), (true, 1), (true, 2), (true, 3), (true, 4), (true, 5), (true, 6), (true, 7), (true, 8), (true, 9), (true, 10), (true, 11), (true, 12), (true, 13)] (ws' := wX9 cyI cyJ cyZ cyO h book now sights sight signs pad nights townAt townCell reason acts at_ cost hole counts worth met ways nextWays image isKept) rfl rfl rfl (fun H locs hP hD hS => ?_)
            refine lv_if_eq (tgt := 121) hx hb dX9_ask_72 (by decide) (fun cc => ?_) (fun cc => ?_)
            · replace hf := if_t cc hf
              exact b121 x1 x2 x3 x4 x5 x6 sights sight counts H locs ls hP hD hS (lv_sub hl [0, 1, 2, 3, 4, 5, 6] rfl) hf
            · replace hf := if_f cc hf
              refine lv_iload hx hb dX9_ask_75 (lv_at hl 6 rfl) ?_
              refine lv_iload hx hb dX9_ask_77 (lv_at hl 4 rfl) ?_
              obtain ⟨q2, hq2, hf⟩ := bd_some hf
              have hC : ([] : List Nat).map (fun i => (wX9 cyI cyJ cyZ cyO h book now sights sight signs pad nights townAt townCell reason acts at_ cost hole counts worth met ways nextWays image isKept)[i]?) = ([] : va_W).map some := rfl
              refine cl_i (rn_S (As := [.int x6, .int x4]) (rest := []) hx hb hml hown hT hK hN hP hD [] hC rfl (c_X9_cellAfter l D cyI cyJ cyZ cyO H.size x6 x4 nf q2 hq2) wm_X9_164 wt_X9_cellAfter wz_X9 wc_X9_cellAfter hd_X9_cellAfter ⟨rfl, rfl⟩ ⟨Nat.le_of_ble_eq_true rfl, Nat.le_of_ble_eq_true rfl⟩ rfl hl.1 rfl (Nat.le_of_ble_eq_true rfl) dX9_ask_79 ⟨Nat.zero_le _, Nat.zero_le _⟩) hP hD hS hA [] hC [(false, 0), (false, 1), (false, 2), (false, 3), (false, 4), (false, 5), (false, 6), (false, 7), (false, 8), (false, 9), (false, 10), (false, 11), (false, 12), (false, 13)] (ws' := wX9 cyI cyJ cyZ cyO h book now sights sight signs pad nights townAt townCell reason acts at_ cost hole counts worth met ways nextWays image isKept) rfl rfl rfl (fun H locs hP hD hS => ?_)
              refine lv_istore (lv' := [(7, .int q2), (0, .ref (h 0)), (1, .int x1), (2, .int x2), (3, .int x3), (4, .int x4), (5, .int x5), (6, .int x6)]) hx hb dX9_ask_82 hl (by decide) rfl (fun ls hl => ?_)
              refine lv_aload_n hx hb dX9_ask_84 rfl (lv_at hl 1 rfl) ?_
              refine va_get (ci := 9) (v := .ref (h 7)) (C := RX9) (T := TX9) (N := 21) hx hb hT hin_X9 hown hK hP 0 rfl rfl 14 (by decide) (hT _ wf_X9_28) (fun _ h9 => h9) rfl dX9_ask_85 ?_
              refine lv_iload hx hb dX9_ask_88 (lv_at hl 0 rfl) ?_
              refine lv_dup2_11 hx hb dX9_ask_90 rfl rfl ?_
              obtain ⟨hi, hf⟩ := ck_some hf
              refine va_iald hx hb hK hP 7 0 rfl rfl hi dX9_ask_91 ?_
              refine lv_iconst (v := 1) hx hb dX9_ask_92 (by decide) ?_
              refine lv_iadd hx hb dX9_ask_93 ?_
              obtain ⟨hi, hf⟩ := ck_some hf
              refine va_iast hx hb hK hP hD hS 7 0 rfl rfl hi dX9_ask_94 (fun H locs hP hD hS => ?_)
              have hP : va_P D vwCl (wX9 cyI cyJ cyZ cyO h book now sights sight signs pad nights townAt townCell reason acts at_ cost hole (upd counts q2.toNatClampNeg ((counts q2.toNatClampNeg) + 1)) worth met ways nextWays image isKept) H := hP
              have hD : va_D A (wX9 cyI cyJ cyZ cyO h book now sights sight signs pad nights townAt townCell reason acts at_ cost hole (upd counts q2.toNatClampNeg ((counts q2.toNatClampNeg) + 1)) worth met ways nextWays image isKept) := hD
              refine lv_aload_n hx hb dX9_ask_95 rfl (lv_at hl 1 rfl) ?_
              refine va_get (ci := 9) (v := .ref (h 7)) (C := RX9) (T := TX9) (N := 21) hx hb hT hin_X9 hown hK hP 0 rfl rfl 14 (by decide) (hT _ wf_X9_28) (fun _ h9 => h9) rfl dX9_ask_96 ?_
              refine lv_iload hx hb dX9_ask_99 (lv_at hl 0 rfl) ?_
              obtain ⟨hi, hf⟩ := ck_some hf
              refine va_iald hx hb hK hP 7 0 rfl rfl hi dX9_ask_101 ?_
              refine lv_iload hx hb dX9_ask_102 (lv_at hl 6 rfl) ?_
              refine lv_icmp_le (tgt := 117) hx hb dX9_ask_104 (by decide) (fun cc => ?_) (fun cc => ?_)
              · replace hf := if_t cc hf
                refine lv_iload hx hb dX9_ask_117 (lv_at hl 6 rfl) ?_
                exact b119 x1 x2 x3 x4 x6 x5 sights sight (upd counts q2.toNatClampNeg ((counts q2.toNatClampNeg) + 1)) H locs ls hP hD hS (lv_sub hl [1, 2, 3, 4, 5, 7] rfl) hf
              · replace hf := if_f cc hf
                refine lv_aload_n hx hb dX9_ask_107 rfl (lv_at hl 1 rfl) ?_
                refine va_get (ci := 9) (v := .ref (h 7)) (C := RX9) (T := TX9) (N := 21) hx hb hT hin_X9 hown hK hP 0 rfl rfl 14 (by decide) (hT _ wf_X9_28) (fun _ h9 => h9) rfl dX9_ask_108 ?_
                refine lv_iload hx hb dX9_ask_111 (lv_at hl 0 rfl) ?_
                obtain ⟨hi, hf⟩ := ck_some hf
                refine va_iald hx hb hK hP 7 0 rfl rfl hi dX9_ask_113 ?_
                refine lv_goto (tgt := 119) hx hb dX9_ask_114 (by decide) ?_
                exact b119 x1 x2 x3 x4 x6 ((upd counts q2.toNatClampNeg ((counts q2.toNatClampNeg) + 1)) q2.toNatClampNeg) sights sight (upd counts q2.toNatClampNeg ((counts q2.toNatClampNeg) + 1)) H locs ls hP hD hS (lv_sub hl [1, 2, 3, 4, 5, 7] rfl) hf
      have l34 : ∀ (n34 : Nat) (x1 : Int32) (x2 : Int32) (x3 : Int32) (x4 : Int32) (x5 : Int32) (x6 : Int32) (sights : Int32) (sight : Nat → Int32) (counts : Nat → Int32) (H : Heap) (locs : List Loc) (ls : Array Slot), va_P D vwCl (wX9 cyI cyJ cyZ cyO h book now sights sight signs pad nights townAt townCell reason acts at_ cost hole counts worth met ways nextWays image isKept) H → va_D A (wX9 cyI cyJ cyZ cyO h book now sights sight signs pad nights townAt townCell reason acts at_ cost hole counts worth met ways nextWays image isKept) → va_S A s.heap H locs → lv_has ls 8 [(0, .ref (h 0)), (1, .int x1), (2, .int x2), (3, .int x3), (4, .int x4), (5, .int x5), (6, .int x6)] → g_X9_ask_l34 nf (g_X9_ask_l21 nf n21) n34 x1 x2 x3 x4 x5 x6 sights sight counts = some q → W p l e ({ frames := 3, cells := 0, slots := 0, locals := 70 } : Room) s m ([.ref (h 0), .int p1] : List Value).toArray below meth c H locs 0 0 (MQ below (qI D (wX9 cyI cyJ cyZ cyO h book now sights sight signs pad nights townAt townCell reason acts at_ cost hole q.2 worth met ways nextWays image isKept) q.1 A) ([.ref (h 0), .int p1] : List Value).toArray s 0 0 A) (F0 m 34 ls []) := by
        intro n34
        induction n34 with
        | zero =>
          intro x1 x2 x3 x4 x5 x6 sights sight counts H locs ls hP hD hS hl hf
          rw [g_X9_ask_l34] at hf
          cases hf
        | succ n34 ih34 =>
          intro x1 x2 x3 x4 x5 x6 sights sight counts H locs ls hP hD hS hl hf
          rw [g_X9_ask_l34] at hf
          refine lv_iload hx hb dX9_ask_34 (lv_at hl 6 rfl) ?_
          refine lv_bipush (v := 25) hx hb dX9_ask_36 (by decide) ?_
          refine lv_icmp_ge (tgt := 55) hx hb dX9_ask_38 (by decide) (fun cc => ?_) (fun cc => ?_)
          · replace hf := if_t cc hf
            refine lv_iconst (v := 0) hx hb dX9_ask_55 (by decide) ?_
            refine lv_istore (lv' := [(6, .int 0), (0, .ref (h 0)), (1, .int x1), (2, .int x2), (3, .int x3), (4, .int x4), (5, .int x5)]) hx hb dX9_ask_56 hl (by decide) rfl (fun ls hl => ?_)
            exact l58 nf x1 x2 x3 x4 x5 0 sights sight counts H locs ls hP hD hS (lv_sub hl [1, 2, 3, 4, 5, 6, 0] rfl) hf
          · replace hf := if_f cc hf
            refine lv_aload_n hx hb dX9_ask_41 rfl (lv_at hl 0 rfl) ?_
            refine va_get (ci := 9) (v := .ref (h 7)) (C := RX9) (T := TX9) (N := 21) hx hb hT hin_X9 hown hK hP 0 rfl rfl 14 (by decide) (hT _ wf_X9_28) (fun _ h9 => h9) rfl dX9_ask_42 ?_
            refine lv_iload hx hb dX9_ask_45 (lv_at hl 6 rfl) ?_
            refine lv_iconst (v := 0) hx hb dX9_ask_47 (by decide) ?_
            obtain ⟨hi, hf⟩ := ck_some hf
            refine va_iast hx hb hK hP hD hS 7 0 rfl rfl hi dX9_ask_48 (fun H locs hP hD hS => ?_)
            have hP : va_P D vwCl (wX9 cyI cyJ cyZ cyO h book now sights sight signs pad nights townAt townCell reason acts at_ cost hole (upd counts x6.toNatClampNeg 0) worth met ways nextWays image isKept) H := hP
            have hD : va_D A (wX9 cyI cyJ cyZ cyO h book now sights sight signs pad nights townAt townCell reason acts at_ cost hole (upd counts x6.toNatClampNeg 0) worth met ways nextWays image isKept) := hD
            refine lv_iinc (v := (x6 + 1)) (lv' := [(6, .int (x6 + 1)), (0, .ref (h 0)), (1, .int x1), (2, .int x2), (3, .int x3), (4, .int x4), (5, .int x5)]) hx hb dX9_ask_49 hl (k := 6) rfl rfl (by decide) rfl (fun ls hl => ?_)
            refine lv_goto (tgt := 34) hx hb dX9_ask_52 (by decide) ?_
            exact ih34 x1 x2 x3 x4 x5 (x6 + 1) sights sight (upd counts x6.toNatClampNeg 0) H locs ls hP hD hS (lv_sub hl [1, 2, 3, 4, 5, 6, 0] rfl) hf
      intro x1 x2 x3 x4 sights sight counts H locs ls hP hD hS hl hf
      rw [g_X9_ask_l21] at hf
      refine lv_iload hx hb dX9_ask_21 (lv_at hl 4 rfl) ?_
      refine lv_bipush (v := 41) hx hb dX9_ask_23 (by decide) ?_
      refine lv_icmp_ge (tgt := 175) hx hb dX9_ask_25 (by decide) (fun cc => ?_) (fun cc => ?_)
      · replace hf := if_t cc hf
        refine lv_iload_n hx hb dX9_ask_175 rfl (lv_at hl 2 rfl) ?_
        refine lv_if_lt (tgt := 183) hx hb dX9_ask_176 (by decide) (fun cc => ?_) (fun cc => ?_)
        · replace hf := if_t cc hf
          exact b183 x2 sights sight counts H locs ls hP hD hS (lv_sub hl [2] rfl) hf
        · replace hf := if_f cc hf
          refine lv_iload_n hx hb dX9_ask_179 rfl (lv_at hl 1 rfl) ?_
          refine lv_if_ne (tgt := 187) hx hb dX9_ask_180 (by decide) (fun cc => ?_) (fun cc => ?_)
          · replace hf := if_f cc hf
            refine lv_iload_n hx hb dX9_ask_187 rfl (lv_at hl 3 rfl) ?_
            cases Option.some.inj hf
            exact W.iret hx hb hr (fun t ht hW => ⟨⟨_, (), rfl, rfl, by show va_P D vwCl _ t.heap; rw [ht]; exact hP⟩, hS.F ht⟩) hS.2.2 dX9_ask_188
          · replace hf := if_t cc hf
            exact b183 x2 sights sight counts H locs ls hP hD hS (lv_sub hl [2] rfl) hf
      · replace hf := if_f cc hf
        refine lv_iconst (v := 0) hx hb dX9_ask_28 (by decide) ?_
        refine lv_istore (lv' := [(5, .int 0), (0, .ref (h 0)), (1, .int x1), (2, .int x2), (3, .int x3), (4, .int x4)]) hx hb dX9_ask_29 hl (by decide) rfl (fun ls hl => ?_)
        refine lv_iconst (v := 0) hx hb dX9_ask_31 (by decide) ?_
        refine lv_istore (lv' := [(6, .int 0), (5, .int 0), (0, .ref (h 0)), (1, .int x1), (2, .int x2), (3, .int x3), (4, .int x4)]) hx hb dX9_ask_32 hl (by decide) rfl (fun ls hl => ?_)
        exact l34 nf x1 x2 x3 x4 0 0 sights sight counts H locs ls hP hD hS (lv_sub hl [2, 3, 4, 5, 6, 1, 0] rfl) hf
  have main : ∀ (H : Heap) (locs : List Loc) (ls : Array Slot), va_P D vwCl (wX9 cyI cyJ cyZ cyO h book now sights sight signs pad nights townAt townCell reason acts at_ cost hole counts worth met ways nextWays image isKept) H → va_D A (wX9 cyI cyJ cyZ cyO h book now sights sight signs pad nights townAt townCell reason acts at_ cost hole counts worth met ways nextWays image isKept) → va_S A s.heap H locs → lv_has ls 8 [(0, .ref (h 0)), (1, .int p1)] → W p l e ({ frames := 3, cells := 0, slots := 0, locals := 70 } : Room) s m ([.ref (h 0), .int p1] : List Value).toArray below meth c H locs 0 0 (MQ below (qI D (wX9 cyI cyJ cyZ cyO h book now sights sight signs pad nights townAt townCell reason acts at_ cost hole q.2 worth met ways nextWays image isKept) q.1 A) ([.ref (h 0), .int p1] : List Value).toArray s 0 0 A) (F0 m 0 ls []) := by
    intro H locs ls hP hD hS hl
    unfold g_X9_ask at hf
    refine lv_iload_n hx hb dX9_ask_0 rfl (lv_at hl 1 rfl) ?_
    refine lv_iconst (v := 0) hx hb dX9_ask_1 (by decide) ?_
    refine lv_iconst (v := 1) hx hb dX9_ask_2 (by decide) ?_
    obtain ⟨q3, hq3, hf⟩ := bd_some hf
    have hC : ([] : List Nat).map (fun i => (wX9 cyI cyJ cyZ cyO h book now sights sight signs pad nights townAt townCell reason acts at_ cost hole counts worth met ways nextWays image isKept)[i]?) = ([] : va_W).map some := rfl
    refine cl_i (rn_S (As := [.int p1, .int 0, .int 1]) (rest := []) hx hb hml hown hT hK hN hP hD [] hC rfl (c_X9_in l D cyI cyJ cyZ cyO H.size p1 0 1 nf q3 hq3) wm_X9_51 wt_X9_in wz_X9 wc_X9_in hd_X9_in ⟨rfl, rfl⟩ ⟨Nat.le_of_ble_eq_true rfl, Nat.le_of_ble_eq_true rfl⟩ rfl hl.1 rfl (Nat.le_of_ble_eq_true rfl) dX9_ask_3 ⟨Nat.zero_le _, Nat.zero_le _⟩) hP hD hS hA [] hC [(false, 0), (false, 1), (false, 2), (false, 3), (false, 4), (false, 5), (false, 6), (false, 7), (false, 8), (false, 9), (false, 10), (false, 11), (false, 12), (false, 13)] (ws' := wX9 cyI cyJ cyZ cyO h book now sights sight signs pad nights townAt townCell reason acts at_ cost hole counts worth met ways nextWays image isKept) rfl rfl rfl (fun H locs hP hD hS => ?_)
    refine lv_if_ne (tgt := 12) hx hb dX9_ask_6 (by decide) (fun cc => ?_) (fun cc => ?_)
    · replace hf := if_f cc hf
      refine lv_bipush (v := (-6)) hx hb dX9_ask_12 (by decide) ?_
      refine lv_istore_n (lv' := [(2, .int (-6)), (0, .ref (h 0)), (1, .int p1)]) hx hb dX9_ask_14 rfl hl (by decide) rfl (fun ls hl => ?_)
      refine lv_ldc (v := 1000000) hx hb hown (hT _ wk_X9_140) dX9_ask_15 ?_
      refine lv_istore_n (lv' := [(3, .int 1000000), (2, .int (-6)), (0, .ref (h 0)), (1, .int p1)]) hx hb dX9_ask_17 rfl hl (by decide) rfl (fun ls hl => ?_)
      refine lv_iconst (v := 0) hx hb dX9_ask_18 (by decide) ?_
      refine lv_istore (lv' := [(4, .int 0), (3, .int 1000000), (2, .int (-6)), (0, .ref (h 0)), (1, .int p1)]) hx hb dX9_ask_19 hl (by decide) rfl (fun ls hl => ?_)
      exact l21 nf p1 (-6) 1000000 0 sights sight counts H locs ls hP hD hS (lv_sub hl [3, 4, 2, 1, 0] rfl) hf
    · replace hf := if_t cc hf
      refine lv_bipush (v := (-2)) hx hb dX9_ask_9 (by decide) ?_
      cases Option.some.inj hf
      exact W.iret hx hb hr (fun t ht hW => ⟨⟨_, (), rfl, rfl, by show va_P D vwCl _ t.heap; rw [ht]; exact hP⟩, hS.F ht⟩) hS.2.2 dX9_ask_11
  have hl := lv_entry ([.ref (h 0), .int p1]) (n := 8) (Nat.le_of_ble_eq_true rfl)
  rw [lg_entry_eq]
  exact main s.heap [] _ hP hD hS hl
theorem hd_X9_folds : yX9_folds.cls = RX9 ∧ yX9_folds.cls ≠ "java/lang/invoke/MethodHandle" ∧ yX9_folds.cls ≠ "java/lang/invoke/VarHandle" ∧ (parseMethodDescriptor yX9_folds.desc).map (fun d => d.parameters.length) = some 2 := by decide +kernel
set_option maxHeartbeats 4000000 in
set_option maxRecDepth 100000 in
theorem c_X9_folds (l : Launch) (D : va_G) (cyI cyJ cyZ cyO : ClassId) (h : Nat → Nat) (sz : Nat) (book : Nat → Int32) (now : Nat → Int32) (sights : Int32) (sight : Nat → Int32) (signs : Int32) (pad : Nat → Int32) (nights : Int32) (townAt : Int32) (townCell : Int32) (reason : Int32) (acts : Int32) (at_ : Int32) (cost : Nat → Int32) (hole : Nat → Int32) (counts : Nat → Int32) (worth : Nat → Int32) (met : Nat → Int32) (ways : Nat → Int64) (nextWays : Nat → Int64) (image : Nat → Int32) (isKept : Nat → Int32) (p1 : Int32) (p2 : Int32) (nf : Nat) (q : Int32 × (Nat → Int32) × (Nat → Int32)) (hf : g_X9_folds nf p1 p2 worth met = some q) : Met l yX9_folds (Cond.code yX9_folds cX9_folds 5 (some .int) :: tbG) ({ frames := 1, cells := 0, slots := 0, locals := 22 } : Room) (va_Pc [.ref (h 0), .int p1, .int p2] (pcB D (ty4 cyI cyJ cyZ cyO) sz (wX9 cyI cyJ cyZ cyO h book now sights sight signs pad nights townAt townCell reason acts at_ cost hole counts worth met ways nextWays image isKept))) (qI D (wX9 cyI cyJ cyZ cyO h book now sights sight signs pad nights townAt townCell reason acts at_ cost hole counts q.2.1 q.2.2 ways nextWays image isKept) q.1 (va_A (wX9 cyI cyJ cyZ cyO h book now sights sight signs pad nights townAt townCell reason acts at_ cost hole counts worth met ways nextWays image isKept) sz)) 0 0 (va_A (wX9 cyI cyJ cyZ cyO h book now sights sight signs pad nights townAt townCell reason acts at_ cost hole counts worth met ways nextWays image isKept) sz) := by
  refine Met.ofW (cc := cX9_folds) (maxL := 5) (ret := (some .int)) (by decide) rfl ?_
  intro p e s m args below meth c s₁ B hml hv
  obtain ⟨rfl, hsz, hP, hK, hD0, hN⟩ := hv
  have hx := B.exec
  have hb := B.bytes
  have hr := B.returns
  have hT : ∀ w ∈ tbG, w.before ([.ref (h 0), .int p1, .int p2] : List Value).toArray s = true := fun w h => atoms_spec (ws := (Cond.code yX9_folds cX9_folds 5 (some .int) :: tbG)) B.pre w (List.mem_cons_of_mem _ h)
  have hown : s.vm.findClass RX9 = some m.cls := findClass_of_methodNamed B.named
  have hlocks := B.notSynchronized
  subst hsz
  have hD := hD0.self (sz := s.heap.size)
  generalize hAe : va_A (wX9 cyI cyJ cyZ cyO h book now sights sight signs pad nights townAt townCell reason acts at_ cost hole counts worth met ways nextWays image isKept) s.heap.size = A at hD ⊢
  have hA : ∀ q : Nat, s.heap.size ≤ q → A q := fun q h => by rw [← hAe]; exact Or.inr h
  have hS : va_S A s.heap s.heap [] := va_S.rf
  show W p l e ({ frames := 1, cells := 0, slots := 0, locals := 22 } : Room) s m ([.ref (h 0), .int p1, .int p2] : List Value).toArray below meth c s.heap [] 0 0 (MQ below (qI D (wX9 cyI cyJ cyZ cyO h book now sights sight signs pad nights townAt townCell reason acts at_ cost hole counts q.2.1 q.2.2 ways nextWays image isKept) q.1 A) ([.ref (h 0), .int p1, .int p2] : List Value).toArray s 0 0 A) _
  have l136 : ∀ (n136 : Nat) (x1 : Int32) (x2 : Int32) (x3 : Int32) (worth : Nat → Int32) (met : Nat → Int32) (H : Heap) (locs : List Loc) (ls : Array Slot), va_P D vwCl (wX9 cyI cyJ cyZ cyO h book now sights sight signs pad nights townAt townCell reason acts at_ cost hole counts worth met ways nextWays image isKept) H → va_D A (wX9 cyI cyJ cyZ cyO h book now sights sight signs pad nights townAt townCell reason acts at_ cost hole counts worth met ways nextWays image isKept) → va_S A s.heap H locs → lv_has ls 5 [(0, .ref (h 0)), (1, .int x1), (2, .int x2), (3, .int x3)] → g_X9_folds_l136 nf n136 x1 x2 x3 worth met = some q → W p l e ({ frames := 1, cells := 0, slots := 0, locals := 22 } : Room) s m ([.ref (h 0), .int p1, .int p2] : List Value).toArray below meth c H locs 0 0 (MQ below (qI D (wX9 cyI cyJ cyZ cyO h book now sights sight signs pad nights townAt townCell reason acts at_ cost hole counts q.2.1 q.2.2 ways nextWays image isKept) q.1 A) ([.ref (h 0), .int p1, .int p2] : List Value).toArray s 0 0 A) (F0 m 136 ls []) := by
    intro n136
    induction n136 with
    | zero =>
      intro x1 x2 x3 worth met H locs ls hP hD hS hl hf
      rw [g_X9_folds_l136] at hf
      cases hf
    | succ n136 ih136 =>
      intro x1 x2 x3 worth met H locs ls hP hD hS hl hf
      rw [g_X9_folds_l136] at hf
      refine lv_iconst (v := 2) hx hb dX9_folds_136 (by decide) ?_
      refine lv_iload_n hx hb dX9_folds_137 rfl (lv_at hl 3 rfl) ?_
      refine lv_imul hx hb dX9_folds_138 ?_
      refine lv_iload_n hx hb dX9_folds_139 rfl (lv_at hl 1 rfl) ?_
      refine lv_icmp_ge (tgt := 176) hx hb dX9_folds_140 (by decide) (fun cc => ?_) (fun cc => ?_)
      · replace hf := if_t cc hf
        refine lv_iload_n hx hb dX9_folds_176 rfl (lv_at hl 2 rfl) ?_
        refine lv_if_ne (tgt := 184) hx hb dX9_folds_177 (by decide) (fun cc => ?_) (fun cc => ?_)
        · replace hf := if_f cc hf
          refine lv_bipush (v := (-6)) hx hb dX9_folds_184 (by decide) ?_
          cases Option.some.inj hf
          exact W.iret hx hb hr (fun t ht hW => ⟨⟨_, (), rfl, rfl, by show va_P D vwCl _ t.heap; rw [ht]; exact hP⟩, hS.F ht⟩) hS.2.2 dX9_folds_186
        · replace hf := if_t cc hf
          refine lv_iconst (v := 0) hx hb dX9_folds_180 (by decide) ?_
          refine lv_goto (tgt := 186) hx hb dX9_folds_181 (by decide) ?_
          cases Option.some.inj hf
          exact W.iret hx hb hr (fun t ht hW => ⟨⟨_, (), rfl, rfl, by show va_P D vwCl _ t.heap; rw [ht]; exact hP⟩, hS.F ht⟩) hS.2.2 dX9_folds_186
      · replace hf := if_f cc hf
        refine lv_aload_n hx hb dX9_folds_143 rfl (lv_at hl 0 rfl) ?_
        refine va_get (ci := 9) (v := .ref (h 8)) (C := RX9) (T := TX9) (N := 21) hx hb hT hin_X9 hown hK hP 0 rfl rfl 15 (by decide) (hT _ wf_X9_31) (fun _ h9 => h9) rfl dX9_folds_144 ?_
        refine lv_iload_n hx hb dX9_folds_147 rfl (lv_at hl 3 rfl) ?_
        obtain ⟨hi, hf⟩ := ck_some hf
        refine va_iald hx hb hK hP 8 0 rfl rfl hi dX9_folds_148 ?_
        refine lv_aload_n hx hb dX9_folds_149 rfl (lv_at hl 0 rfl) ?_
        refine va_get (ci := 9) (v := .ref (h 8)) (C := RX9) (T := TX9) (N := 21) hx hb hT hin_X9 hown hK hP 0 rfl rfl 15 (by decide) (hT _ wf_X9_31) (fun _ h9 => h9) rfl dX9_folds_150 ?_
        refine lv_iload_n hx hb dX9_folds_153 rfl (lv_at hl 1 rfl) ?_
        refine lv_iload_n hx hb dX9_folds_154 rfl (lv_at hl 3 rfl) ?_
        refine lv_isub hx hb dX9_folds_155 ?_
        obtain ⟨hi, hf⟩ := ck_some hf
        refine va_iald hx hb hK hP 8 0 rfl rfl hi dX9_folds_156 ?_
        refine lv_icmp_ne (tgt := 170) hx hb dX9_folds_157 (by decide) (fun cc => ?_) (fun cc => ?_)
        · replace hf := if_f cc hf
          refine lv_iinc (v := (x3 + 1)) (lv' := [(3, .int (x3 + 1)), (0, .ref (h 0)), (1, .int x1), (2, .int x2)]) hx hb dX9_folds_170 hl (k := 3) rfl rfl (by decide) rfl (fun ls hl => ?_)
          refine lv_goto (tgt := 136) hx hb dX9_folds_173 (by decide) ?_
          exact ih136 x1 x2 (x3 + 1) worth met H locs ls hP hD hS (lv_sub hl [1, 2, 3, 0] rfl) hf
        · replace hf := if_t cc hf
          refine lv_iload_n hx hb dX9_folds_160 rfl (lv_at hl 2 rfl) ?_
          refine lv_if_ne (tgt := 168) hx hb dX9_folds_161 (by decide) (fun cc => ?_) (fun cc => ?_)
          · replace hf := if_f cc hf
            refine lv_iload_n hx hb dX9_folds_168 rfl (lv_at hl 3 rfl) ?_
            cases Option.some.inj hf
            exact W.iret hx hb hr (fun t ht hW => ⟨⟨_, (), rfl, rfl, by show va_P D vwCl _ t.heap; rw [ht]; exact hP⟩, hS.F ht⟩) hS.2.2 dX9_folds_169
          · replace hf := if_t cc hf
            refine lv_iconst (v := 1) hx hb dX9_folds_164 (by decide) ?_
            refine lv_goto (tgt := 169) hx hb dX9_folds_165 (by decide) ?_
            cases Option.some.inj hf
            exact W.iret hx hb hr (fun t ht hW => ⟨⟨_, (), rfl, rfl, by show va_P D vwCl _ t.heap; rw [ht]; exact hP⟩, hS.F ht⟩) hS.2.2 dX9_folds_169
  have l24 : ∀ (n24 : Nat) (x1 : Int32) (x2 : Int32) (x3 : Int32) (worth : Nat → Int32) (met : Nat → Int32) (H : Heap) (locs : List Loc) (ls : Array Slot), va_P D vwCl (wX9 cyI cyJ cyZ cyO h book now sights sight signs pad nights townAt townCell reason acts at_ cost hole counts worth met ways nextWays image isKept) H → va_D A (wX9 cyI cyJ cyZ cyO h book now sights sight signs pad nights townAt townCell reason acts at_ cost hole counts worth met ways nextWays image isKept) → va_S A s.heap H locs → lv_has ls 5 [(0, .ref (h 0)), (1, .int x1), (2, .int x2), (3, .int x3)] → g_X9_folds_l24 nf n24 x1 x2 x3 worth met = some q → W p l e ({ frames := 1, cells := 0, slots := 0, locals := 22 } : Room) s m ([.ref (h 0), .int p1, .int p2] : List Value).toArray below meth c H locs 0 0 (MQ below (qI D (wX9 cyI cyJ cyZ cyO h book now sights sight signs pad nights townAt townCell reason acts at_ cost hole counts q.2.1 q.2.2 ways nextWays image isKept) q.1 A) ([.ref (h 0), .int p1, .int p2] : List Value).toArray s 0 0 A) (F0 m 24 ls []) := by
    intro n24
    induction n24 with
    | zero =>
      intro x1 x2 x3 worth met H locs ls hP hD hS hl hf
      rw [g_X9_folds_l24] at hf
      cases hf
    | succ n24 ih24 =>
      have l100 : ∀ (n100 : Nat) (x1 : Int32) (x2 : Int32) (x3 : Int32) (worth : Nat → Int32) (met : Nat → Int32) (H : Heap) (locs : List Loc) (ls : Array Slot), va_P D vwCl (wX9 cyI cyJ cyZ cyO h book now sights sight signs pad nights townAt townCell reason acts at_ cost hole counts worth met ways nextWays image isKept) H → va_D A (wX9 cyI cyJ cyZ cyO h book now sights sight signs pad nights townAt townCell reason acts at_ cost hole counts worth met ways nextWays image isKept) → va_S A s.heap H locs → lv_has ls 5 [(0, .ref (h 0)), (1, .int x1), (2, .int x2), (3, .int x3)] → g_X9_folds_l100 nf (g_X9_folds_l24 nf n24) n100 x1 x2 x3 worth met = some q → W p l e ({ frames := 1, cells := 0, slots := 0, locals := 22 } : Room) s m ([.ref (h 0), .int p1, .int p2] : List Value).toArray below meth c H locs 0 0 (MQ below (qI D (wX9 cyI cyJ cyZ cyO h book now sights sight signs pad nights townAt townCell reason acts at_ cost hole counts q.2.1 q.2.2 ways nextWays image isKept) q.1 A) ([.ref (h 0), .int p1, .int p2] : List Value).toArray s 0 0 A) (F0 m 100 ls []) := by
        intro n100
        induction n100 with
        | zero =>
          intro x1 x2 x3 worth met H locs ls hP hD hS hl hf
          rw [g_X9_folds_l100] at hf
          cases hf
        | succ n100 ih100 =>
          intro x1 x2 x3 worth met H locs ls hP hD hS hl hf
          rw [g_X9_folds_l100] at hf
          refine lv_aload_n hx hb dX9_folds_100 rfl (lv_at hl 0 rfl) ?_
          refine va_get (ci := 9) (v := .ref (h 9)) (C := RX9) (T := TX9) (N := 21) hx hb hT hin_X9 hown hK hP 0 rfl rfl 16 (by decide) (hT _ wf_X9_34) (fun _ h9 => h9) rfl dX9_folds_101 ?_
          refine lv_aload_n hx hb dX9_folds_104 rfl (lv_at hl 0 rfl) ?_
          refine va_get (ci := 9) (v := .ref (h 8)) (C := RX9) (T := TX9) (N := 21) hx hb hT hin_X9 hown hK hP 0 rfl rfl 15 (by decide) (hT _ wf_X9_31) (fun _ h9 => h9) rfl dX9_folds_105 ?_
          refine lv_iload_n hx hb dX9_folds_108 rfl (lv_at hl 3 rfl) ?_
          obtain ⟨hi, hf⟩ := ck_some hf
          refine va_iald hx hb hK hP 8 0 rfl rfl hi dX9_folds_109 ?_
          obtain ⟨hi, hf⟩ := ck_some hf
          refine va_iald hx hb hK hP 9 0 rfl rfl hi dX9_folds_110 ?_
          refine lv_iconst (v := 1) hx hb dX9_folds_111 (by decide) ?_
          refine lv_icmp_ne (tgt := 128) hx hb dX9_folds_112 (by decide) (fun cc => ?_) (fun cc => ?_)
          · replace hf := if_f cc hf
            refine lv_iinc (v := (x3 + 1)) (lv' := [(3, .int (x3 + 1)), (0, .ref (h 0)), (1, .int x1), (2, .int x2)]) hx hb dX9_folds_128 hl (k := 3) rfl rfl (by decide) rfl (fun ls hl => ?_)
            refine lv_goto (tgt := 24) hx hb dX9_folds_131 (by decide) ?_
            exact ih24 x1 x2 (x3 + 1) worth met H locs ls hP hD hS (lv_sub hl [1, 2, 3, 0] rfl) hf
          · replace hf := if_t cc hf
            refine lv_aload_n hx hb dX9_folds_115 rfl (lv_at hl 0 rfl) ?_
            refine va_get (ci := 9) (v := .ref (h 8)) (C := RX9) (T := TX9) (N := 21) hx hb hT hin_X9 hown hK hP 0 rfl rfl 15 (by decide) (hT _ wf_X9_31) (fun _ h9 => h9) rfl dX9_folds_116 ?_
            refine lv_iload_n hx hb dX9_folds_119 rfl (lv_at hl 3 rfl) ?_
            refine lv_dup2_11 hx hb dX9_folds_120 rfl rfl ?_
            obtain ⟨hi, hf⟩ := ck_some hf
            refine va_iald hx hb hK hP 8 0 rfl rfl hi dX9_folds_121 ?_
            refine lv_iconst (v := 1) hx hb dX9_folds_122 (by decide) ?_
            refine lv_iadd hx hb dX9_folds_123 ?_
            obtain ⟨hi, hf⟩ := ck_some hf
            refine va_iast hx hb hK hP hD hS 8 0 rfl rfl hi dX9_folds_124 (fun H locs hP hD hS => ?_)
            have hP : va_P D vwCl (wX9 cyI cyJ cyZ cyO h book now sights sight signs pad nights townAt townCell reason acts at_ cost hole counts (upd worth x3.toNatClampNeg ((worth x3.toNatClampNeg) + 1)) met ways nextWays image isKept) H := hP
            have hD : va_D A (wX9 cyI cyJ cyZ cyO h book now sights sight signs pad nights townAt townCell reason acts at_ cost hole counts (upd worth x3.toNatClampNeg ((worth x3.toNatClampNeg) + 1)) met ways nextWays image isKept) := hD
            refine lv_goto (tgt := 100) hx hb dX9_folds_125 (by decide) ?_
            exact ih100 x1 x2 x3 (upd worth x3.toNatClampNeg ((worth x3.toNatClampNeg) + 1)) met H locs ls hP hD hS (lv_sub hl [0, 1, 2, 3] rfl) hf
      have l56 : ∀ (n56 : Nat) (x1 : Int32) (x2 : Int32) (x3 : Int32) (x4 : Int32) (worth : Nat → Int32) (met : Nat → Int32) (H : Heap) (locs : List Loc) (ls : Array Slot), va_P D vwCl (wX9 cyI cyJ cyZ cyO h book now sights sight signs pad nights townAt townCell reason acts at_ cost hole counts worth met ways nextWays image isKept) H → va_D A (wX9 cyI cyJ cyZ cyO h book now sights sight signs pad nights townAt townCell reason acts at_ cost hole counts worth met ways nextWays image isKept) → va_S A s.heap H locs → lv_has ls 5 [(0, .ref (h 0)), (1, .int x1), (2, .int x2), (3, .int x3), (4, .int x4)] → g_X9_folds_l56 nf (g_X9_folds_l24 nf n24) n56 x1 x2 x3 x4 worth met = some q → W p l e ({ frames := 1, cells := 0, slots := 0, locals := 22 } : Room) s m ([.ref (h 0), .int p1, .int p2] : List Value).toArray below meth c H locs 0 0 (MQ below (qI D (wX9 cyI cyJ cyZ cyO h book now sights sight signs pad nights townAt townCell reason acts at_ cost hole counts q.2.1 q.2.2 ways nextWays image isKept) q.1 A) ([.ref (h 0), .int p1, .int p2] : List Value).toArray s 0 0 A) (F0 m 56 ls []) := by
        intro n56
        induction n56 with
        | zero =>
          intro x1 x2 x3 x4 worth met H locs ls hP hD hS hl hf
          rw [g_X9_folds_l56] at hf
          cases hf
        | succ n56 ih56 =>
          intro x1 x2 x3 x4 worth met H locs ls hP hD hS hl hf
          rw [g_X9_folds_l56] at hf
          refine lv_iconst (v := 2) hx hb dX9_folds_56 (by decide) ?_
          refine lv_iload hx hb dX9_folds_57 (lv_at hl 4 rfl) ?_
          refine lv_imul hx hb dX9_folds_59 ?_
          refine lv_iload_n hx hb dX9_folds_60 rfl (lv_at hl 3 rfl) ?_
          refine lv_icmp_ge (tgt := 93) hx hb dX9_folds_61 (by decide) (fun cc => ?_) (fun cc => ?_)
          · replace hf := if_t cc hf
            refine lv_aload_n hx hb dX9_folds_93 rfl (lv_at hl 0 rfl) ?_
            refine va_get (ci := 9) (v := .ref (h 8)) (C := RX9) (T := TX9) (N := 21) hx hb hT hin_X9 hown hK hP 0 rfl rfl 15 (by decide) (hT _ wf_X9_31) (fun _ h9 => h9) rfl dX9_folds_94 ?_
            refine lv_iload_n hx hb dX9_folds_97 rfl (lv_at hl 3 rfl) ?_
            refine lv_iconst (v := 0) hx hb dX9_folds_98 (by decide) ?_
            obtain ⟨hi, hf⟩ := ck_some hf
            refine va_iast hx hb hK hP hD hS 8 0 rfl rfl hi dX9_folds_99 (fun H locs hP hD hS => ?_)
            have hP : va_P D vwCl (wX9 cyI cyJ cyZ cyO h book now sights sight signs pad nights townAt townCell reason acts at_ cost hole counts (upd worth x3.toNatClampNeg 0) met ways nextWays image isKept) H := hP
            have hD : va_D A (wX9 cyI cyJ cyZ cyO h book now sights sight signs pad nights townAt townCell reason acts at_ cost hole counts (upd worth x3.toNatClampNeg 0) met ways nextWays image isKept) := hD
            exact l100 nf x1 x2 x3 (upd worth x3.toNatClampNeg 0) met H locs ls hP hD hS (lv_sub hl [0, 1, 2, 3] rfl) hf
          · replace hf := if_f cc hf
            refine lv_aload_n hx hb dX9_folds_64 rfl (lv_at hl 0 rfl) ?_
            refine va_get (ci := 9) (v := .ref (h 9)) (C := RX9) (T := TX9) (N := 21) hx hb hT hin_X9 hown hK hP 0 rfl rfl 16 (by decide) (hT _ wf_X9_34) (fun _ h9 => h9) rfl dX9_folds_65 ?_
            refine lv_aload_n hx hb dX9_folds_68 rfl (lv_at hl 0 rfl) ?_
            refine va_get (ci := 9) (v := .ref (h 8)) (C := RX9) (T := TX9) (N := 21) hx hb hT hin_X9 hown hK hP 0 rfl rfl 15 (by decide) (hT _ wf_X9_31) (fun _ h9 => h9) rfl dX9_folds_69 ?_
            refine lv_iload hx hb dX9_folds_72 (lv_at hl 4 rfl) ?_
            obtain ⟨hi, hf⟩ := ck_some hf
            refine va_iald hx hb hK hP 8 0 rfl rfl hi dX9_folds_74 ?_
            refine lv_aload_n hx hb dX9_folds_75 rfl (lv_at hl 0 rfl) ?_
            refine va_get (ci := 9) (v := .ref (h 8)) (C := RX9) (T := TX9) (N := 21) hx hb hT hin_X9 hown hK hP 0 rfl rfl 15 (by decide) (hT _ wf_X9_31) (fun _ h9 => h9) rfl dX9_folds_76 ?_
            refine lv_iload_n hx hb dX9_folds_79 rfl (lv_at hl 3 rfl) ?_
            refine lv_iload hx hb dX9_folds_80 (lv_at hl 4 rfl) ?_
            refine lv_isub hx hb dX9_folds_82 ?_
            obtain ⟨hi, hf⟩ := ck_some hf
            refine va_iald hx hb hK hP 8 0 rfl rfl hi dX9_folds_83 ?_
            refine lv_ixor hx hb dX9_folds_84 ?_
            refine lv_iconst (v := 1) hx hb dX9_folds_85 (by decide) ?_
            obtain ⟨hi, hf⟩ := ck_some hf
            refine va_iast hx hb hK hP hD hS 9 0 rfl rfl hi dX9_folds_86 (fun H locs hP hD hS => ?_)
            have hP : va_P D vwCl (wX9 cyI cyJ cyZ cyO h book now sights sight signs pad nights townAt townCell reason acts at_ cost hole counts worth (upd met ((worth x4.toNatClampNeg) ^^^ (worth (x3 - x4).toNatClampNeg)).toNatClampNeg 1) ways nextWays image isKept) H := hP
            have hD : va_D A (wX9 cyI cyJ cyZ cyO h book now sights sight signs pad nights townAt townCell reason acts at_ cost hole counts worth (upd met ((worth x4.toNatClampNeg) ^^^ (worth (x3 - x4).toNatClampNeg)).toNatClampNeg 1) ways nextWays image isKept) := hD
            refine lv_iinc (v := (x4 + 1)) (lv' := [(4, .int (x4 + 1)), (0, .ref (h 0)), (1, .int x1), (2, .int x2), (3, .int x3)]) hx hb dX9_folds_87 hl (k := 4) rfl rfl (by decide) rfl (fun ls hl => ?_)
            refine lv_goto (tgt := 56) hx hb dX9_folds_90 (by decide) ?_
            exact ih56 x1 x2 x3 (x4 + 1) worth (upd met ((worth x4.toNatClampNeg) ^^^ (worth (x3 - x4).toNatClampNeg)).toNatClampNeg 1) H locs ls hP hD hS (lv_sub hl [1, 2, 3, 4, 0] rfl) hf
      have l32 : ∀ (n32 : Nat) (x1 : Int32) (x2 : Int32) (x3 : Int32) (x4 : Int32) (worth : Nat → Int32) (met : Nat → Int32) (H : Heap) (locs : List Loc) (ls : Array Slot), va_P D vwCl (wX9 cyI cyJ cyZ cyO h book now sights sight signs pad nights townAt townCell reason acts at_ cost hole counts worth met ways nextWays image isKept) H → va_D A (wX9 cyI cyJ cyZ cyO h book now sights sight signs pad nights townAt townCell reason acts at_ cost hole counts worth met ways nextWays image isKept) → va_S A s.heap H locs → lv_has ls 5 [(0, .ref (h 0)), (1, .int x1), (2, .int x2), (3, .int x3), (4, .int x4)] → g_X9_folds_l32 nf (g_X9_folds_l24 nf n24) n32 x1 x2 x3 x4 worth met = some q → W p l e ({ frames := 1, cells := 0, slots := 0, locals := 22 } : Room) s m ([.ref (h 0), .int p1, .int p2] : List Value).toArray below meth c H locs 0 0 (MQ below (qI D (wX9 cyI cyJ cyZ cyO h book now sights sight signs pad nights townAt townCell reason acts at_ cost hole counts q.2.1 q.2.2 ways nextWays image isKept) q.1 A) ([.ref (h 0), .int p1, .int p2] : List Value).toArray s 0 0 A) (F0 m 32 ls []) := by
        intro n32
        induction n32 with
        | zero =>
          intro x1 x2 x3 x4 worth met H locs ls hP hD hS hl hf
          rw [g_X9_folds_l32] at hf
          cases hf
        | succ n32 ih32 =>
          intro x1 x2 x3 x4 worth met H locs ls hP hD hS hl hf
          rw [g_X9_folds_l32] at hf
          refine lv_iload hx hb dX9_folds_32 (lv_at hl 4 rfl) ?_
          refine lv_bipush (v := 64) hx hb dX9_folds_34 (by decide) ?_
          refine lv_icmp_ge (tgt := 53) hx hb dX9_folds_36 (by decide) (fun cc => ?_) (fun cc => ?_)
          · replace hf := if_t cc hf
            refine lv_iconst (v := 1) hx hb dX9_folds_53 (by decide) ?_
            refine lv_istore (lv' := [(4, .int 1), (0, .ref (h 0)), (1, .int x1), (2, .int x2), (3, .int x3)]) hx hb dX9_folds_54 hl (by decide) rfl (fun ls hl => ?_)
            exact l56 nf x1 x2 x3 1 worth met H locs ls hP hD hS (lv_sub hl [1, 2, 3, 4, 0] rfl) hf
          · replace hf := if_f cc hf
            refine lv_aload_n hx hb dX9_folds_39 rfl (lv_at hl 0 rfl) ?_
            refine va_get (ci := 9) (v := .ref (h 9)) (C := RX9) (T := TX9) (N := 21) hx hb hT hin_X9 hown hK hP 0 rfl rfl 16 (by decide) (hT _ wf_X9_34) (fun _ h9 => h9) rfl dX9_folds_40 ?_
            refine lv_iload hx hb dX9_folds_43 (lv_at hl 4 rfl) ?_
            refine lv_iconst (v := 0) hx hb dX9_folds_45 (by decide) ?_
            obtain ⟨hi, hf⟩ := ck_some hf
            refine va_iast hx hb hK hP hD hS 9 0 rfl rfl hi dX9_folds_46 (fun H locs hP hD hS => ?_)
            have hP : va_P D vwCl (wX9 cyI cyJ cyZ cyO h book now sights sight signs pad nights townAt townCell reason acts at_ cost hole counts worth (upd met x4.toNatClampNeg 0) ways nextWays image isKept) H := hP
            have hD : va_D A (wX9 cyI cyJ cyZ cyO h book now sights sight signs pad nights townAt townCell reason acts at_ cost hole counts worth (upd met x4.toNatClampNeg 0) ways nextWays image isKept) := hD
            refine lv_iinc (v := (x4 + 1)) (lv' := [(4, .int (x4 + 1)), (0, .ref (h 0)), (1, .int x1), (2, .int x2), (3, .int x3)]) hx hb dX9_folds_47 hl (k := 4) rfl rfl (by decide) rfl (fun ls hl => ?_)
            refine lv_goto (tgt := 32) hx hb dX9_folds_50 (by decide) ?_
            exact ih32 x1 x2 x3 (x4 + 1) worth (upd met x4.toNatClampNeg 0) H locs ls hP hD hS (lv_sub hl [1, 2, 3, 4, 0] rfl) hf
      intro x1 x2 x3 worth met H locs ls hP hD hS hl hf
      rw [g_X9_folds_l24] at hf
      refine lv_iload_n hx hb dX9_folds_24 rfl (lv_at hl 3 rfl) ?_
      refine lv_iload_n hx hb dX9_folds_25 rfl (lv_at hl 1 rfl) ?_
      refine lv_icmp_gt (tgt := 134) hx hb dX9_folds_26 (by decide) (fun cc => ?_) (fun cc => ?_)
      · replace hf := if_t cc hf
        refine lv_iconst (v := 1) hx hb dX9_folds_134 (by decide) ?_
        refine lv_istore_n (lv' := [(3, .int 1), (0, .ref (h 0)), (1, .int x1), (2, .int x2)]) hx hb dX9_folds_135 rfl hl (by decide) rfl (fun ls hl => ?_)
        exact l136 nf x1 x2 1 worth met H locs ls hP hD hS (lv_sub hl [1, 2, 3, 0] rfl) hf
      · replace hf := if_f cc hf
        refine lv_iconst (v := 0) hx hb dX9_folds_29 (by decide) ?_
        refine lv_istore (lv' := [(4, .int 0), (0, .ref (h 0)), (1, .int x1), (2, .int x2), (3, .int x3)]) hx hb dX9_folds_30 hl (by decide) rfl (fun ls hl => ?_)
        exact l32 nf x1 x2 x3 0 worth met H locs ls hP hD hS (lv_sub hl [1, 2, 3, 4, 0] rfl) hf
  have main : ∀ (H : Heap) (locs : List Loc) (ls : Array Slot), va_P D vwCl (wX9 cyI cyJ cyZ cyO h book now sights sight signs pad nights townAt townCell reason acts at_ cost hole counts worth met ways nextWays image isKept) H → va_D A (wX9 cyI cyJ cyZ cyO h book now sights sight signs pad nights townAt townCell reason acts at_ cost hole counts worth met ways nextWays image isKept) → va_S A s.heap H locs → lv_has ls 5 [(0, .ref (h 0)), (1, .int p1), (2, .int p2)] → W p l e ({ frames := 1, cells := 0, slots := 0, locals := 22 } : Room) s m ([.ref (h 0), .int p1, .int p2] : List Value).toArray below meth c H locs 0 0 (MQ below (qI D (wX9 cyI cyJ cyZ cyO h book now sights sight signs pad nights townAt townCell reason acts at_ cost hole counts q.2.1 q.2.2 ways nextWays image isKept) q.1 A) ([.ref (h 0), .int p1, .int p2] : List Value).toArray s 0 0 A) (F0 m 0 ls []) := by
    intro H locs ls hP hD hS hl
    unfold g_X9_folds at hf
    refine lv_iload_n hx hb dX9_folds_0 rfl (lv_at hl 1 rfl) ?_
    refine lv_iconst (v := 0) hx hb dX9_folds_1 (by decide) ?_
    refine lv_bipush (v := 60) hx hb dX9_folds_2 (by decide) ?_
    obtain ⟨q1, hq1, hf⟩ := bd_some hf
    have hC : ([] : List Nat).map (fun i => (wX9 cyI cyJ cyZ cyO h book now sights sight signs pad nights townAt townCell reason acts at_ cost hole counts worth met ways nextWays image isKept)[i]?) = ([] : va_W).map some := rfl
    refine cl_i (rn_S (As := [.int p1, .int 0, .int 60]) (rest := []) hx hb hml hown hT hK hN hP hD [] hC rfl (c_X9_in l D cyI cyJ cyZ cyO H.size p1 0 60 nf q1 hq1) wm_X9_51 wt_X9_in wz_X9 wc_X9_in hd_X9_in ⟨rfl, rfl⟩ ⟨Nat.le_of_ble_eq_true rfl, Nat.le_of_ble_eq_true rfl⟩ rfl hl.1 rfl (Nat.le_of_ble_eq_true rfl) dX9_folds_4 ⟨Nat.zero_le _, Nat.zero_le _⟩) hP hD hS hA [] hC [(false, 0), (false, 1), (false, 2), (false, 3), (false, 4), (false, 5), (false, 6), (false, 7), (false, 8), (false, 9), (false, 10), (false, 11), (false, 12), (false, 13)] (ws' := wX9 cyI cyJ cyZ cyO h book now sights sight signs pad nights townAt townCell reason acts at_ cost hole counts worth met ways nextWays image isKept) rfl rfl rfl (fun H locs hP hD hS => ?_)
    refine lv_if_eq (tgt := 19) hx hb dX9_folds_7 (by decide) (fun cc => ?_) (fun cc => ?_)
    · replace hf := if_t cc hf
      refine lv_bipush (v := (-2)) hx hb dX9_folds_19 (by decide) ?_
      cases Option.some.inj hf
      exact W.iret hx hb hr (fun t ht hW => ⟨⟨_, (), rfl, rfl, by show va_P D vwCl _ t.heap; rw [ht]; exact hP⟩, hS.F ht⟩) hS.2.2 dX9_folds_21
    · replace hf := if_f cc hf
      refine lv_iload_n hx hb dX9_folds_10 rfl (lv_at hl 2 rfl) ?_
      refine lv_iconst (v := 0) hx hb dX9_folds_11 (by decide) ?_
      refine lv_iconst (v := 1) hx hb dX9_folds_12 (by decide) ?_
      obtain ⟨q2, hq2, hf⟩ := bd_some hf
      have hC : ([] : List Nat).map (fun i => (wX9 cyI cyJ cyZ cyO h book now sights sight signs pad nights townAt townCell reason acts at_ cost hole counts worth met ways nextWays image isKept)[i]?) = ([] : va_W).map some := rfl
      refine cl_i (rn_S (As := [.int p2, .int 0, .int 1]) (rest := []) hx hb hml hown hT hK hN hP hD [] hC rfl (c_X9_in l D cyI cyJ cyZ cyO H.size p2 0 1 nf q2 hq2) wm_X9_51 wt_X9_in wz_X9 wc_X9_in hd_X9_in ⟨rfl, rfl⟩ ⟨Nat.le_of_ble_eq_true rfl, Nat.le_of_ble_eq_true rfl⟩ rfl hl.1 rfl (Nat.le_of_ble_eq_true rfl) dX9_folds_13 ⟨Nat.zero_le _, Nat.zero_le _⟩) hP hD hS hA [] hC [(false, 0), (false, 1), (false, 2), (false, 3), (false, 4), (false, 5), (false, 6), (false, 7), (false, 8), (false, 9), (false, 10), (false, 11), (false, 12), (false, 13)] (ws' := wX9 cyI cyJ cyZ cyO h book now sights sight signs pad nights townAt townCell reason acts at_ cost hole counts worth met ways nextWays image isKept) rfl rfl rfl (fun H locs hP hD hS => ?_)
      refine lv_if_ne (tgt := 22) hx hb dX9_folds_16 (by decide) (fun cc => ?_) (fun cc => ?_)
      · replace hf := if_f cc hf
        refine lv_iconst (v := 0) hx hb dX9_folds_22 (by decide) ?_
        refine lv_istore_n (lv' := [(3, .int 0), (0, .ref (h 0)), (1, .int p1), (2, .int p2)]) hx hb dX9_folds_23 rfl hl (by decide) rfl (fun ls hl => ?_)
        exact l24 nf p1 p2 0 worth met H locs ls hP hD hS (lv_sub hl [1, 2, 3, 0] rfl) hf
      · replace hf := if_t cc hf
        refine lv_bipush (v := (-2)) hx hb dX9_folds_19 (by decide) ?_
        cases Option.some.inj hf
        exact W.iret hx hb hr (fun t ht hW => ⟨⟨_, (), rfl, rfl, by show va_P D vwCl _ t.heap; rw [ht]; exact hP⟩, hS.F ht⟩) hS.2.2 dX9_folds_21
  have hl := lv_entry ([.ref (h 0), .int p1, .int p2]) (n := 5) (Nat.le_of_ble_eq_true rfl)
  rw [lg_entry_eq]
  exact main s.heap [] _ hP hD hS hl
theorem hd_X9_coffee : yX9_coffee.cls = RX9 ∧ yX9_coffee.cls ≠ "java/lang/invoke/MethodHandle" ∧ yX9_coffee.cls ≠ "java/lang/invoke/VarHandle" ∧ (parseMethodDescriptor yX9_coffee.desc).map (fun d => d.parameters.length) = some 7 := by decide +kernel
set_option maxHeartbeats 4000000 in
set_option maxRecDepth 100000 in
theorem c_X9_coffee (l : Launch) (D : va_G) (cyI cyJ cyZ cyO : ClassId) (h : Nat → Nat) (sz : Nat) (book : Nat → Int32) (now : Nat → Int32) (sights : Int32) (sight : Nat → Int32) (signs : Int32) (pad : Nat → Int32) (nights : Int32) (townAt : Int32) (townCell : Int32) (reason : Int32) (acts : Int32) (at_ : Int32) (cost : Nat → Int32) (hole : Nat → Int32) (counts : Nat → Int32) (worth : Nat → Int32) (met : Nat → Int32) (ways : Nat → Int64) (nextWays : Nat → Int64) (image : Nat → Int32) (isKept : Nat → Int32) (p1 : Int32) (p2 : Int32) (p3 : Int32) (p4 : Int32) (p5 : Int32) (p6 : Int32) (p7 : Int32) (nf : Nat) (q : Int64 × (Nat → Int64) × (Nat → Int64)) (hf : g_X9_coffee nf p1 p2 p3 p4 p5 p6 p7 ways nextWays = some q) : Met l yX9_coffee (Cond.code yX9_coffee cX9_coffee 16 (some .long) :: tbG) ({ frames := 1, cells := 0, slots := 0, locals := 22 } : Room) (va_Pc [.ref (h 0), .int p1, .int p2, .int p3, .int p4, .int p5, .int p6, .int p7] (pcB D (ty4 cyI cyJ cyZ cyO) sz (wX9 cyI cyJ cyZ cyO h book now sights sight signs pad nights townAt townCell reason acts at_ cost hole counts worth met ways nextWays image isKept))) (qL D (wX9 cyI cyJ cyZ cyO h book now sights sight signs pad nights townAt townCell reason acts at_ cost hole counts worth met q.2.1 q.2.2 image isKept) q.1 (va_A (wX9 cyI cyJ cyZ cyO h book now sights sight signs pad nights townAt townCell reason acts at_ cost hole counts worth met ways nextWays image isKept) sz)) 0 0 (va_A (wX9 cyI cyJ cyZ cyO h book now sights sight signs pad nights townAt townCell reason acts at_ cost hole counts worth met ways nextWays image isKept) sz) := by
  refine Met.ofW (cc := cX9_coffee) (maxL := 16) (ret := (some .long)) (by decide) rfl ?_
  intro p e s m args below meth c s₁ B hml hv
  obtain ⟨rfl, hsz, hP, hK, hD0, hN⟩ := hv
  have hx := B.exec
  have hb := B.bytes
  have hr := B.returns
  have hT : ∀ w ∈ tbG, w.before ([.ref (h 0), .int p1, .int p2, .int p3, .int p4, .int p5, .int p6, .int p7] : List Value).toArray s = true := fun w h => atoms_spec (ws := (Cond.code yX9_coffee cX9_coffee 16 (some .long) :: tbG)) B.pre w (List.mem_cons_of_mem _ h)
  have hown : s.vm.findClass RX9 = some m.cls := findClass_of_methodNamed B.named
  have hlocks := B.notSynchronized
  subst hsz
  have hD := hD0.self (sz := s.heap.size)
  generalize hAe : va_A (wX9 cyI cyJ cyZ cyO h book now sights sight signs pad nights townAt townCell reason acts at_ cost hole counts worth met ways nextWays image isKept) s.heap.size = A at hD ⊢
  have hA : ∀ q : Nat, s.heap.size ≤ q → A q := fun q h => by rw [← hAe]; exact Or.inr h
  have hS : va_S A s.heap s.heap [] := va_S.rf
  show W p l e ({ frames := 1, cells := 0, slots := 0, locals := 22 } : Room) s m ([.ref (h 0), .int p1, .int p2, .int p3, .int p4, .int p5, .int p6, .int p7] : List Value).toArray below meth c s.heap [] 0 0 (MQ below (qL D (wX9 cyI cyJ cyZ cyO h book now sights sight signs pad nights townAt townCell reason acts at_ cost hole counts worth met q.2.1 q.2.2 image isKept) q.1 A) ([.ref (h 0), .int p1, .int p2, .int p3, .int p4, .int p5, .int p6, .int p7] : List Value).toArray s 0 0 A) _
  have l319 : ∀ (n319 : Nat) (x6 : Int32) (x7 : Int32) (x8 : Int64) (x10 : Int64) (x12 : Int64) (ways : Nat → Int64) (nextWays : Nat → Int64) (H : Heap) (locs : List Loc) (ls : Array Slot), va_P D vwCl (wX9 cyI cyJ cyZ cyO h book now sights sight signs pad nights townAt townCell reason acts at_ cost hole counts worth met ways nextWays image isKept) H → va_D A (wX9 cyI cyJ cyZ cyO h book now sights sight signs pad nights townAt townCell reason acts at_ cost hole counts worth met ways nextWays image isKept) → va_S A s.heap H locs → lv_has ls 16 [(0, .ref (h 0)), (6, .int x6), (7, .int x7), (8, .long x8), (10, .long x10), (12, .long x12)] → g_X9_coffee_l319 nf n319 x6 x7 x8 x10 x12 ways nextWays = some q → W p l e ({ frames := 1, cells := 0, slots := 0, locals := 22 } : Room) s m ([.ref (h 0), .int p1, .int p2, .int p3, .int p4, .int p5, .int p6, .int p7] : List Value).toArray below meth c H locs 0 0 (MQ below (qL D (wX9 cyI cyJ cyZ cyO h book now sights sight signs pad nights townAt townCell reason acts at_ cost hole counts worth met q.2.1 q.2.2 image isKept) q.1 A) ([.ref (h 0), .int p1, .int p2, .int p3, .int p4, .int p5, .int p6, .int p7] : List Value).toArray s 0 0 A) (F0 m 319 ls []) := by
    intro n319
    induction n319 with
    | zero =>
      intro x6 x7 x8 x10 x12 ways nextWays H locs ls hP hD hS hl hf
      rw [g_X9_coffee_l319] at hf
      cases hf
    | succ n319 ih319 =>
      intro x6 x7 x8 x10 x12 ways nextWays H locs ls hP hD hS hl hf
      rw [g_X9_coffee_l319] at hf
      refine lv_lload hx hb dX9_coffee_319 (lv_at hl 5 rfl) ?_
      refine lv_lconst (v := 0) hx hb dX9_coffee_321 (by decide) ?_
      refine W.lcmp hx hb dX9_coffee_322 ?_
      refine lv_if_eq (tgt := 344) hx hb dX9_coffee_323 (by decide) (fun cc => ?_) (fun cc => ?_)
      · replace hf := if_t cc hf
        refine lv_iload hx hb dX9_coffee_344 (lv_at hl 2 rfl) ?_
        refine lv_if_ne (tgt := 362) hx hb dX9_coffee_346 (by decide) (fun cc => ?_) (fun cc => ?_)
        · replace hf := if_f cc hf
          refine lv_lload hx hb dX9_coffee_362 (lv_at hl 3 rfl) ?_
          refine lv_lload hx hb dX9_coffee_364 (lv_at hl 4 rfl) ?_
          obtain ⟨hz, hf⟩ := dz_some hf
          refine lv_ldiv hx hb dX9_coffee_366 hz ?_
          cases Option.some.inj hf
          exact W.lret hx hb hr (fun t ht hW => ⟨⟨_, (), rfl, rfl, by show va_P D vwCl _ t.heap; rw [ht]; exact hP⟩, hS.F ht⟩) hS.2.2 dX9_coffee_367
        · replace hf := if_t cc hf
          refine lv_aload_n hx hb dX9_coffee_349 rfl (lv_at hl 0 rfl) ?_
          refine va_get (ci := 9) (v := .ref (h 10)) (C := RX9) (T := TX9) (N := 21) hx hb hT hin_X9 hown hK hP 0 rfl rfl 17 (by decide) (hT _ wf_X9_37) (fun _ h9 => h9) rfl dX9_coffee_350 ?_
          refine lv_iload hx hb dX9_coffee_353 (lv_at hl 1 rfl) ?_
          obtain ⟨hi, hf⟩ := ck_some hf
          refine va_lald hx hb hK hP 10 1 rfl rfl hi dX9_coffee_355 ?_
          refine lv_lload hx hb dX9_coffee_356 (lv_at hl 4 rfl) ?_
          obtain ⟨hz, hf⟩ := dz_some hf
          refine lv_ldiv hx hb dX9_coffee_358 hz ?_
          refine lv_goto (tgt := 367) hx hb dX9_coffee_359 (by decide) ?_
          cases Option.some.inj hf
          exact W.lret hx hb hr (fun t ht hW => ⟨⟨_, (), rfl, rfl, by show va_P D vwCl _ t.heap; rw [ht]; exact hP⟩, hS.F ht⟩) hS.2.2 dX9_coffee_367
      · replace hf := if_f cc hf
        refine lv_lload hx hb dX9_coffee_326 (lv_at hl 4 rfl) ?_
        refine lv_lload hx hb dX9_coffee_328 (lv_at hl 5 rfl) ?_
        obtain ⟨hz, hf⟩ := dz_some hf
        refine lv_lrem hx hb dX9_coffee_330 hz ?_
        refine lv_lstore (lv' := [(14, .long (x10 - x10 / x12 * x12)), (0, .ref (h 0)), (6, .int x6), (7, .int x7), (8, .long x8), (10, .long x10), (12, .long x12)]) hx hb dX9_coffee_331 hl (by decide) rfl (fun ls hl => ?_)
        refine lv_lload hx hb dX9_coffee_333 (lv_at hl 6 rfl) ?_
        refine lv_lstore (lv' := [(10, .long x12), (14, .long (x10 - x10 / x12 * x12)), (0, .ref (h 0)), (6, .int x6), (7, .int x7), (8, .long x8), (12, .long x12)]) hx hb dX9_coffee_335 hl (by decide) rfl (fun ls hl => ?_)
        refine lv_lload hx hb dX9_coffee_337 (lv_at hl 1 rfl) ?_
        refine lv_lstore (lv' := [(12, .long (x10 - x10 / x12 * x12)), (10, .long x12), (14, .long (x10 - x10 / x12 * x12)), (0, .ref (h 0)), (6, .int x6), (7, .int x7), (8, .long x8)]) hx hb dX9_coffee_339 hl (by decide) rfl (fun ls hl => ?_)
        refine lv_goto (tgt := 319) hx hb dX9_coffee_341 (by decide) ?_
        exact ih319 x6 x7 x8 x12 (x10 - x10 / x12 * x12) ways nextWays H locs ls hP hD hS (lv_sub hl [3, 4, 5, 6, 1, 0] rfl) hf
  have l124 : ∀ (n124 : Nat) (x1 : Int32) (x3 : Int32) (x4 : Int32) (x5 : Int32) (x6 : Int32) (x7 : Int32) (x8 : Int64) (x10 : Int32) (ways : Nat → Int64) (nextWays : Nat → Int64) (H : Heap) (locs : List Loc) (ls : Array Slot), va_P D vwCl (wX9 cyI cyJ cyZ cyO h book now sights sight signs pad nights townAt townCell reason acts at_ cost hole counts worth met ways nextWays image isKept) H → va_D A (wX9 cyI cyJ cyZ cyO h book now sights sight signs pad nights townAt townCell reason acts at_ cost hole counts worth met ways nextWays image isKept) → va_S A s.heap H locs → lv_has ls 16 [(0, .ref (h 0)), (1, .int x1), (3, .int x3), (4, .int x4), (5, .int x5), (6, .int x6), (7, .int x7), (8, .long x8), (10, .int x10)] → g_X9_coffee_l124 nf n124 x1 x3 x4 x5 x6 x7 x8 x10 ways nextWays = some q → W p l e ({ frames := 1, cells := 0, slots := 0, locals := 22 } : Room) s m ([.ref (h 0), .int p1, .int p2, .int p3, .int p4, .int p5, .int p6, .int p7] : List Value).toArray below meth c H locs 0 0 (MQ below (qL D (wX9 cyI cyJ cyZ cyO h book now sights sight signs pad nights townAt townCell reason acts at_ cost hole counts worth met q.2.1 q.2.2 image isKept) q.1 A) ([.ref (h 0), .int p1, .int p2, .int p3, .int p4, .int p5, .int p6, .int p7] : List Value).toArray s 0 0 A) (F0 m 124 ls []) := by
    intro n124
    induction n124 with
    | zero =>
      intro x1 x3 x4 x5 x6 x7 x8 x10 ways nextWays H locs ls hP hD hS hl hf
      rw [g_X9_coffee_l124] at hf
      cases hf
    | succ n124 ih124 =>
      have l273 : ∀ (n273 : Nat) (x1 : Int32) (x3 : Int32) (x4 : Int32) (x5 : Int32) (x6 : Int32) (x7 : Int32) (x8 : Int64) (x10 : Int32) (x11 : Int32) (ways : Nat → Int64) (nextWays : Nat → Int64) (H : Heap) (locs : List Loc) (ls : Array Slot), va_P D vwCl (wX9 cyI cyJ cyZ cyO h book now sights sight signs pad nights townAt townCell reason acts at_ cost hole counts worth met ways nextWays image isKept) H → va_D A (wX9 cyI cyJ cyZ cyO h book now sights sight signs pad nights townAt townCell reason acts at_ cost hole counts worth met ways nextWays image isKept) → va_S A s.heap H locs → lv_has ls 16 [(0, .ref (h 0)), (1, .int x1), (3, .int x3), (4, .int x4), (5, .int x5), (6, .int x6), (7, .int x7), (8, .long x8), (10, .int x10), (11, .int x11)] → g_X9_coffee_l273 nf (g_X9_coffee_l124 nf n124) n273 x1 x3 x4 x5 x6 x7 x8 x10 x11 ways nextWays = some q → W p l e ({ frames := 1, cells := 0, slots := 0, locals := 22 } : Room) s m ([.ref (h 0), .int p1, .int p2, .int p3, .int p4, .int p5, .int p6, .int p7] : List Value).toArray below meth c H locs 0 0 (MQ below (qL D (wX9 cyI cyJ cyZ cyO h book now sights sight signs pad nights townAt townCell reason acts at_ cost hole counts worth met q.2.1 q.2.2 image isKept) q.1 A) ([.ref (h 0), .int p1, .int p2, .int p3, .int p4, .int p5, .int p6, .int p7] : List Value).toArray s 0 0 A) (F0 m 273 ls []) := by
        intro n273
        induction n273 with
        | zero =>
          intro x1 x3 x4 x5 x6 x7 x8 x10 x11 ways nextWays H locs ls hP hD hS hl hf
          rw [g_X9_coffee_l273] at hf
          cases hf
        | succ n273 ih273 =>
          intro x1 x3 x4 x5 x6 x7 x8 x10 x11 ways nextWays H locs ls hP hD hS hl hf
          rw [g_X9_coffee_l273] at hf
          refine lv_iload hx hb dX9_coffee_273 (lv_at hl 9 rfl) ?_
          refine lv_bipush (v := 10) hx hb dX9_coffee_275 (by decide) ?_
          refine lv_icmp_ge (tgt := 300) hx hb dX9_coffee_277 (by decide) (fun cc => ?_) (fun cc => ?_)
          · replace hf := if_t cc hf
            refine lv_iinc (v := (x10 + 1)) (lv' := [(10, .int (x10 + 1)), (0, .ref (h 0)), (1, .int x1), (3, .int x3), (4, .int x4), (5, .int x5), (6, .int x6), (7, .int x7), (8, .long x8), (11, .int x11)]) hx hb dX9_coffee_300 hl (k := 8) rfl rfl (by decide) rfl (fun ls hl => ?_)
            refine lv_goto (tgt := 124) hx hb dX9_coffee_303 (by decide) ?_
            exact ih124 x1 x3 x4 x5 x6 x7 x8 (x10 + 1) ways nextWays H locs ls hP hD hS (lv_sub hl [1, 2, 3, 4, 5, 6, 7, 8, 0] rfl) hf
          · replace hf := if_f cc hf
            refine lv_aload_n hx hb dX9_coffee_280 rfl (lv_at hl 0 rfl) ?_
            refine va_get (ci := 9) (v := .ref (h 10)) (C := RX9) (T := TX9) (N := 21) hx hb hT hin_X9 hown hK hP 0 rfl rfl 17 (by decide) (hT _ wf_X9_37) (fun _ h9 => h9) rfl dX9_coffee_281 ?_
            refine lv_iload hx hb dX9_coffee_284 (lv_at hl 9 rfl) ?_
            refine lv_aload_n hx hb dX9_coffee_286 rfl (lv_at hl 0 rfl) ?_
            refine va_get (ci := 9) (v := .ref (h 11)) (C := RX9) (T := TX9) (N := 21) hx hb hT hin_X9 hown hK hP 0 rfl rfl 18 (by decide) (hT _ wf_X9_41) (fun _ h9 => h9) rfl dX9_coffee_287 ?_
            refine lv_iload hx hb dX9_coffee_290 (lv_at hl 9 rfl) ?_
            obtain ⟨hi, hf⟩ := ck_some hf
            refine va_lald hx hb hK hP 11 1 rfl rfl hi dX9_coffee_292 ?_
            obtain ⟨hi, hf⟩ := ck_some hf
            refine va_last hx hb hK hP hD hS 10 1 rfl rfl hi dX9_coffee_293 (fun H locs hP hD hS => ?_)
            have hP : va_P D vwCl (wX9 cyI cyJ cyZ cyO h book now sights sight signs pad nights townAt townCell reason acts at_ cost hole counts worth met (vp_updL ways x11.toNatClampNeg (nextWays x11.toNatClampNeg)) nextWays image isKept) H := hP
            have hD : va_D A (wX9 cyI cyJ cyZ cyO h book now sights sight signs pad nights townAt townCell reason acts at_ cost hole counts worth met (vp_updL ways x11.toNatClampNeg (nextWays x11.toNatClampNeg)) nextWays image isKept) := hD
            refine lv_iinc (v := (x11 + 1)) (lv' := [(11, .int (x11 + 1)), (0, .ref (h 0)), (1, .int x1), (3, .int x3), (4, .int x4), (5, .int x5), (6, .int x6), (7, .int x7), (8, .long x8), (10, .int x10)]) hx hb dX9_coffee_294 hl (k := 9) rfl rfl (by decide) rfl (fun ls hl => ?_)
            refine lv_goto (tgt := 273) hx hb dX9_coffee_297 (by decide) ?_
            exact ih273 x1 x3 x4 x5 x6 x7 x8 x10 (x11 + 1) (vp_updL ways x11.toNatClampNeg (nextWays x11.toNatClampNeg)) nextWays H locs ls hP hD hS (lv_sub hl [1, 2, 3, 4, 5, 6, 7, 8, 9, 0] rfl) hf
      have l166 : ∀ (n166 : Nat) (x1 : Int32) (x3 : Int32) (x4 : Int32) (x5 : Int32) (x6 : Int32) (x7 : Int32) (x8 : Int64) (x10 : Int32) (x11 : Int32) (ways : Nat → Int64) (nextWays : Nat → Int64) (H : Heap) (locs : List Loc) (ls : Array Slot), va_P D vwCl (wX9 cyI cyJ cyZ cyO h book now sights sight signs pad nights townAt townCell reason acts at_ cost hole counts worth met ways nextWays image isKept) H → va_D A (wX9 cyI cyJ cyZ cyO h book now sights sight signs pad nights townAt townCell reason acts at_ cost hole counts worth met ways nextWays image isKept) → va_S A s.heap H locs → lv_has ls 16 [(0, .ref (h 0)), (1, .int x1), (3, .int x3), (4, .int x4), (5, .int x5), (6, .int x6), (7, .int x7), (8, .long x8), (10, .int x10), (11, .int x11)] → g_X9_coffee_l166 nf (g_X9_coffee_l124 nf n124) n166 x1 x3 x4 x5 x6 x7 x8 x10 x11 ways nextWays = some q → W p l e ({ frames := 1, cells := 0, slots := 0, locals := 22 } : Room) s m ([.ref (h 0), .int p1, .int p2, .int p3, .int p4, .int p5, .int p6, .int p7] : List Value).toArray below meth c H locs 0 0 (MQ below (qL D (wX9 cyI cyJ cyZ cyO h book now sights sight signs pad nights townAt townCell reason acts at_ cost hole counts worth met q.2.1 q.2.2 image isKept) q.1 A) ([.ref (h 0), .int p1, .int p2, .int p3, .int p4, .int p5, .int p6, .int p7] : List Value).toArray s 0 0 A) (F0 m 166 ls []) := by
        intro n166
        induction n166 with
        | zero =>
          intro x1 x3 x4 x5 x6 x7 x8 x10 x11 ways nextWays H locs ls hP hD hS hl hf
          rw [g_X9_coffee_l166] at hf
          cases hf
        | succ n166 ih166 =>
          have b223 : ∀ (x1 : Int32) (x3 : Int32) (x4 : Int32) (x5 : Int32) (x6 : Int32) (x7 : Int32) (x8 : Int64) (x10 : Int32) (x11 : Int32) (s1 : Int32) (ways : Nat → Int64) (nextWays : Nat → Int64) (H : Heap) (locs : List Loc) (ls : Array Slot), va_P D vwCl (wX9 cyI cyJ cyZ cyO h book now sights sight signs pad nights townAt townCell reason acts at_ cost hole counts worth met ways nextWays image isKept) H → va_D A (wX9 cyI cyJ cyZ cyO h book now sights sight signs pad nights townAt townCell reason acts at_ cost hole counts worth met ways nextWays image isKept) → va_S A s.heap H locs → lv_has ls 16 [(0, .ref (h 0)), (1, .int x1), (3, .int x3), (4, .int x4), (5, .int x5), (6, .int x6), (7, .int x7), (8, .long x8), (10, .int x10), (11, .int x11)] → g_X9_coffee_b223 nf (g_X9_coffee_l124 nf n124) (g_X9_coffee_l166 nf (g_X9_coffee_l124 nf n124) n166) x1 x3 x4 x5 x6 x7 x8 x10 x11 s1 ways nextWays = some q → W p l e ({ frames := 1, cells := 0, slots := 0, locals := 22 } : Room) s m ([.ref (h 0), .int p1, .int p2, .int p3, .int p4, .int p5, .int p6, .int p7] : List Value).toArray below meth c H locs 0 0 (MQ below (qL D (wX9 cyI cyJ cyZ cyO h book now sights sight signs pad nights townAt townCell reason acts at_ cost hole counts worth met q.2.1 q.2.2 image isKept) q.1 A) ([.ref (h 0), .int p1, .int p2, .int p3, .int p4, .int p5, .int p6, .int p7] : List Value).toArray s 0 0 A) (F0 m 223 ls [.int s1, .ref (h 11)]) := by
            intro x1 x3 x4 x5 x6 x7 x8 x10 x11 s1 ways nextWays H locs ls hP hD hS hl hf
            unfold g_X9_coffee_b223 at hf
            refine lv_dup2_11 hx hb dX9_coffee_223 rfl rfl ?_
            obtain ⟨hi, hf⟩ := ck_some hf
            refine va_lald hx hb hK hP 11 1 rfl rfl hi dX9_coffee_224 ?_
            refine lv_aload_n hx hb dX9_coffee_225 rfl (lv_at hl 0 rfl) ?_
            refine va_get (ci := 9) (v := .ref (h 10)) (C := RX9) (T := TX9) (N := 21) hx hb hT hin_X9 hown hK hP 0 rfl rfl 17 (by decide) (hT _ wf_X9_37) (fun _ h9 => h9) rfl dX9_coffee_226 ?_
            refine lv_iload hx hb dX9_coffee_229 (lv_at hl 9 rfl) ?_
            obtain ⟨hi, hf⟩ := ck_some hf
            refine va_lald hx hb hK hP 10 1 rfl rfl hi dX9_coffee_231 ?_
            refine lv_iload hx hb dX9_coffee_232 (lv_at hl 3 rfl) ?_
            refine lv_i2l hx hb dX9_coffee_234 rfl ?_
            refine lv_lmul hx hb dX9_coffee_235 ?_
            refine lv_ladd hx hb dX9_coffee_236 ?_
            obtain ⟨hi, hf⟩ := ck_some hf
            refine va_last hx hb hK hP hD hS 11 1 rfl rfl hi dX9_coffee_237 (fun H locs hP hD hS => ?_)
            have hP : va_P D vwCl (wX9 cyI cyJ cyZ cyO h book now sights sight signs pad nights townAt townCell reason acts at_ cost hole counts worth met ways (vp_updL nextWays s1.toNatClampNeg ((nextWays s1.toNatClampNeg) + ((ways x11.toNatClampNeg) * x4.toInt64))) image isKept) H := hP
            have hD : va_D A (wX9 cyI cyJ cyZ cyO h book now sights sight signs pad nights townAt townCell reason acts at_ cost hole counts worth met ways (vp_updL nextWays s1.toNatClampNeg ((nextWays s1.toNatClampNeg) + ((ways x11.toNatClampNeg) * x4.toInt64))) image isKept) := hD
            refine lv_aload_n hx hb dX9_coffee_238 rfl (lv_at hl 0 rfl) ?_
            refine va_get (ci := 9) (v := .ref (h 11)) (C := RX9) (T := TX9) (N := 21) hx hb hT hin_X9 hown hK hP 0 rfl rfl 18 (by decide) (hT _ wf_X9_41) (fun _ h9 => h9) rfl dX9_coffee_239 ?_
            refine lv_iload hx hb dX9_coffee_242 (lv_at hl 9 rfl) ?_
            refine lv_dup2_11 hx hb dX9_coffee_244 rfl rfl ?_
            obtain ⟨hi, hf⟩ := ck_some hf
            refine va_lald hx hb hK hP 11 1 rfl rfl hi dX9_coffee_245 ?_
            refine lv_aload_n hx hb dX9_coffee_246 rfl (lv_at hl 0 rfl) ?_
            refine va_get (ci := 9) (v := .ref (h 10)) (C := RX9) (T := TX9) (N := 21) hx hb hT hin_X9 hown hK hP 0 rfl rfl 17 (by decide) (hT _ wf_X9_37) (fun _ h9 => h9) rfl dX9_coffee_247 ?_
            refine lv_iload hx hb dX9_coffee_250 (lv_at hl 9 rfl) ?_
            obtain ⟨hi, hf⟩ := ck_some hf
            refine va_lald hx hb hK hP 10 1 rfl rfl hi dX9_coffee_252 ?_
            refine lv_bipush (v := 10) hx hb dX9_coffee_253 (by decide) ?_
            refine lv_iload_n hx hb dX9_coffee_255 rfl (lv_at hl 2 rfl) ?_
            refine lv_isub hx hb dX9_coffee_256 ?_
            refine lv_iload hx hb dX9_coffee_257 (lv_at hl 3 rfl) ?_
            refine lv_isub hx hb dX9_coffee_259 ?_
            refine lv_i2l hx hb dX9_coffee_260 rfl ?_
            refine lv_lmul hx hb dX9_coffee_261 ?_
            refine lv_ladd hx hb dX9_coffee_262 ?_
            obtain ⟨hi, hf⟩ := ck_some hf
            refine va_last hx hb hK hP hD hS 11 1 rfl rfl hi dX9_coffee_263 (fun H locs hP hD hS => ?_)
            have hP : va_P D vwCl (wX9 cyI cyJ cyZ cyO h book now sights sight signs pad nights townAt townCell reason acts at_ cost hole counts worth met ways (vp_updL (vp_updL nextWays s1.toNatClampNeg ((nextWays s1.toNatClampNeg) + ((ways x11.toNatClampNeg) * x4.toInt64))) x11.toNatClampNeg (((vp_updL nextWays s1.toNatClampNeg ((nextWays s1.toNatClampNeg) + ((ways x11.toNatClampNeg) * x4.toInt64))) x11.toNatClampNeg) + ((ways x11.toNatClampNeg) * ((10 - x3) - x4).toInt64))) image isKept) H := hP
            have hD : va_D A (wX9 cyI cyJ cyZ cyO h book now sights sight signs pad nights townAt townCell reason acts at_ cost hole counts worth met ways (vp_updL (vp_updL nextWays s1.toNatClampNeg ((nextWays s1.toNatClampNeg) + ((ways x11.toNatClampNeg) * x4.toInt64))) x11.toNatClampNeg (((vp_updL nextWays s1.toNatClampNeg ((nextWays s1.toNatClampNeg) + ((ways x11.toNatClampNeg) * x4.toInt64))) x11.toNatClampNeg) + ((ways x11.toNatClampNeg) * ((10 - x3) - x4).toInt64))) image isKept) := hD
            refine lv_iinc (v := (x11 + 1)) (lv' := [(11, .int (x11 + 1)), (0, .ref (h 0)), (1, .int x1), (3, .int x3), (4, .int x4), (5, .int x5), (6, .int x6), (7, .int x7), (8, .long x8), (10, .int x10)]) hx hb dX9_coffee_264 hl (k := 9) rfl rfl (by decide) rfl (fun ls hl => ?_)
            refine lv_goto (tgt := 166) hx hb dX9_coffee_267 (by decide) ?_
            exact ih166 x1 x3 x4 x5 x6 x7 x8 x10 (x11 + 1) ways (vp_updL (vp_updL nextWays s1.toNatClampNeg ((nextWays s1.toNatClampNeg) + ((ways x11.toNatClampNeg) * x4.toInt64))) x11.toNatClampNeg (((vp_updL nextWays s1.toNatClampNeg ((nextWays s1.toNatClampNeg) + ((ways x11.toNatClampNeg) * x4.toInt64))) x11.toNatClampNeg) + ((ways x11.toNatClampNeg) * ((10 - x3) - x4).toInt64))) H locs ls hP hD hS (lv_sub hl [1, 2, 3, 4, 5, 6, 7, 8, 9, 0] rfl) hf
          have b191 : ∀ (x1 : Int32) (x3 : Int32) (x4 : Int32) (x5 : Int32) (x6 : Int32) (x7 : Int32) (x8 : Int64) (x10 : Int32) (x11 : Int32) (s1 : Int32) (ways : Nat → Int64) (nextWays : Nat → Int64) (H : Heap) (locs : List Loc) (ls : Array Slot), va_P D vwCl (wX9 cyI cyJ cyZ cyO h book now sights sight signs pad nights townAt townCell reason acts at_ cost hole counts worth met ways nextWays image isKept) H → va_D A (wX9 cyI cyJ cyZ cyO h book now sights sight signs pad nights townAt townCell reason acts at_ cost hole counts worth met ways nextWays image isKept) → va_S A s.heap H locs → lv_has ls 16 [(0, .ref (h 0)), (1, .int x1), (3, .int x3), (4, .int x4), (5, .int x5), (6, .int x6), (7, .int x7), (8, .long x8), (10, .int x10), (11, .int x11)] → g_X9_coffee_b191 nf (g_X9_coffee_l124 nf n124) (g_X9_coffee_l166 nf (g_X9_coffee_l124 nf n124) n166) x1 x3 x4 x5 x6 x7 x8 x10 x11 s1 ways nextWays = some q → W p l e ({ frames := 1, cells := 0, slots := 0, locals := 22 } : Room) s m ([.ref (h 0), .int p1, .int p2, .int p3, .int p4, .int p5, .int p6, .int p7] : List Value).toArray below meth c H locs 0 0 (MQ below (qL D (wX9 cyI cyJ cyZ cyO h book now sights sight signs pad nights townAt townCell reason acts at_ cost hole counts worth met q.2.1 q.2.2 image isKept) q.1 A) ([.ref (h 0), .int p1, .int p2, .int p3, .int p4, .int p5, .int p6, .int p7] : List Value).toArray s 0 0 A) (F0 m 191 ls [.int s1, .ref (h 11)]) := by
            intro x1 x3 x4 x5 x6 x7 x8 x10 x11 s1 ways nextWays H locs ls hP hD hS hl hf
            unfold g_X9_coffee_b191 at hf
            refine lv_dup2_11 hx hb dX9_coffee_191 rfl rfl ?_
            obtain ⟨hi, hf⟩ := ck_some hf
            refine va_lald hx hb hK hP 11 1 rfl rfl hi dX9_coffee_192 ?_
            refine lv_aload_n hx hb dX9_coffee_193 rfl (lv_at hl 0 rfl) ?_
            refine va_get (ci := 9) (v := .ref (h 10)) (C := RX9) (T := TX9) (N := 21) hx hb hT hin_X9 hown hK hP 0 rfl rfl 17 (by decide) (hT _ wf_X9_37) (fun _ h9 => h9) rfl dX9_coffee_194 ?_
            refine lv_iload hx hb dX9_coffee_197 (lv_at hl 9 rfl) ?_
            obtain ⟨hi, hf⟩ := ck_some hf
            refine va_lald hx hb hK hP 10 1 rfl rfl hi dX9_coffee_199 ?_
            refine lv_iload_n hx hb dX9_coffee_200 rfl (lv_at hl 2 rfl) ?_
            refine lv_i2l hx hb dX9_coffee_201 rfl ?_
            refine lv_lmul hx hb dX9_coffee_202 ?_
            refine lv_ladd hx hb dX9_coffee_203 ?_
            obtain ⟨hi, hf⟩ := ck_some hf
            refine va_last hx hb hK hP hD hS 11 1 rfl rfl hi dX9_coffee_204 (fun H locs hP hD hS => ?_)
            have hP : va_P D vwCl (wX9 cyI cyJ cyZ cyO h book now sights sight signs pad nights townAt townCell reason acts at_ cost hole counts worth met ways (vp_updL nextWays s1.toNatClampNeg ((nextWays s1.toNatClampNeg) + ((ways x11.toNatClampNeg) * x3.toInt64))) image isKept) H := hP
            have hD : va_D A (wX9 cyI cyJ cyZ cyO h book now sights sight signs pad nights townAt townCell reason acts at_ cost hole counts worth met ways (vp_updL nextWays s1.toNatClampNeg ((nextWays s1.toNatClampNeg) + ((ways x11.toNatClampNeg) * x3.toInt64))) image isKept) := hD
            refine lv_aload_n hx hb dX9_coffee_205 rfl (lv_at hl 0 rfl) ?_
            refine va_get (ci := 9) (v := .ref (h 11)) (C := RX9) (T := TX9) (N := 21) hx hb hT hin_X9 hown hK hP 0 rfl rfl 18 (by decide) (hT _ wf_X9_41) (fun _ h9 => h9) rfl dX9_coffee_206 ?_
            refine lv_iload hx hb dX9_coffee_209 (lv_at hl 9 rfl) ?_
            refine lv_if_le (tgt := 221) hx hb dX9_coffee_211 (by decide) (fun cc => ?_) (fun cc => ?_)
            · replace hf := if_t cc hf
              refine lv_iload hx hb dX9_coffee_221 (lv_at hl 9 rfl) ?_
              exact b223 x1 x3 x4 x5 x6 x7 x8 x10 x11 x11 ways (vp_updL nextWays s1.toNatClampNeg ((nextWays s1.toNatClampNeg) + ((ways x11.toNatClampNeg) * x3.toInt64))) H locs ls hP hD hS (lv_sub hl [0, 1, 2, 3, 4, 5, 6, 7, 8, 9] rfl) hf
            · replace hf := if_f cc hf
              refine lv_iload hx hb dX9_coffee_214 (lv_at hl 9 rfl) ?_
              refine lv_iconst (v := 1) hx hb dX9_coffee_216 (by decide) ?_
              refine lv_isub hx hb dX9_coffee_217 ?_
              refine lv_goto (tgt := 223) hx hb dX9_coffee_218 (by decide) ?_
              exact b223 x1 x3 x4 x5 x6 x7 x8 x10 x11 (x11 - 1) ways (vp_updL nextWays s1.toNatClampNeg ((nextWays s1.toNatClampNeg) + ((ways x11.toNatClampNeg) * x3.toInt64))) H locs ls hP hD hS (lv_sub hl [0, 1, 2, 3, 4, 5, 6, 7, 8, 9] rfl) hf
          intro x1 x3 x4 x5 x6 x7 x8 x10 x11 ways nextWays H locs ls hP hD hS hl hf
          rw [g_X9_coffee_l166] at hf
          refine lv_iload hx hb dX9_coffee_166 (lv_at hl 9 rfl) ?_
          refine lv_iload_n hx hb dX9_coffee_168 rfl (lv_at hl 1 rfl) ?_
          refine lv_icmp_gt (tgt := 270) hx hb dX9_coffee_169 (by decide) (fun cc => ?_) (fun cc => ?_)
          · replace hf := if_t cc hf
            refine lv_iconst (v := 0) hx hb dX9_coffee_270 (by decide) ?_
            refine lv_istore (lv' := [(11, .int 0), (0, .ref (h 0)), (1, .int x1), (3, .int x3), (4, .int x4), (5, .int x5), (6, .int x6), (7, .int x7), (8, .long x8), (10, .int x10)]) hx hb dX9_coffee_271 hl (by decide) rfl (fun ls hl => ?_)
            exact l273 nf x1 x3 x4 x5 x6 x7 x8 x10 0 ways nextWays H locs ls hP hD hS (lv_sub hl [1, 2, 3, 4, 5, 6, 7, 8, 9, 0] rfl) hf
          · replace hf := if_f cc hf
            refine lv_aload_n hx hb dX9_coffee_172 rfl (lv_at hl 0 rfl) ?_
            refine va_get (ci := 9) (v := .ref (h 11)) (C := RX9) (T := TX9) (N := 21) hx hb hT hin_X9 hown hK hP 0 rfl rfl 18 (by decide) (hT _ wf_X9_41) (fun _ h9 => h9) rfl dX9_coffee_173 ?_
            refine lv_iload hx hb dX9_coffee_176 (lv_at hl 9 rfl) ?_
            refine lv_iload_n hx hb dX9_coffee_178 rfl (lv_at hl 1 rfl) ?_
            refine lv_icmp_ge (tgt := 189) hx hb dX9_coffee_179 (by decide) (fun cc => ?_) (fun cc => ?_)
            · replace hf := if_t cc hf
              refine lv_iload hx hb dX9_coffee_189 (lv_at hl 9 rfl) ?_
              exact b191 x1 x3 x4 x5 x6 x7 x8 x10 x11 x11 ways nextWays H locs ls hP hD hS (lv_sub hl [0, 1, 2, 3, 4, 5, 6, 7, 8, 9] rfl) hf
            · replace hf := if_f cc hf
              refine lv_iload hx hb dX9_coffee_182 (lv_at hl 9 rfl) ?_
              refine lv_iconst (v := 1) hx hb dX9_coffee_184 (by decide) ?_
              refine lv_iadd hx hb dX9_coffee_185 ?_
              refine lv_goto (tgt := 191) hx hb dX9_coffee_186 (by decide) ?_
              exact b191 x1 x3 x4 x5 x6 x7 x8 x10 x11 (x11 + 1) ways nextWays H locs ls hP hD hS (lv_sub hl [0, 1, 2, 3, 4, 5, 6, 7, 8, 9] rfl) hf
      have l142 : ∀ (n142 : Nat) (x1 : Int32) (x3 : Int32) (x4 : Int32) (x5 : Int32) (x6 : Int32) (x7 : Int32) (x8 : Int64) (x10 : Int32) (x11 : Int32) (ways : Nat → Int64) (nextWays : Nat → Int64) (H : Heap) (locs : List Loc) (ls : Array Slot), va_P D vwCl (wX9 cyI cyJ cyZ cyO h book now sights sight signs pad nights townAt townCell reason acts at_ cost hole counts worth met ways nextWays image isKept) H → va_D A (wX9 cyI cyJ cyZ cyO h book now sights sight signs pad nights townAt townCell reason acts at_ cost hole counts worth met ways nextWays image isKept) → va_S A s.heap H locs → lv_has ls 16 [(0, .ref (h 0)), (1, .int x1), (3, .int x3), (4, .int x4), (5, .int x5), (6, .int x6), (7, .int x7), (8, .long x8), (10, .int x10), (11, .int x11)] → g_X9_coffee_l142 nf (g_X9_coffee_l124 nf n124) n142 x1 x3 x4 x5 x6 x7 x8 x10 x11 ways nextWays = some q → W p l e ({ frames := 1, cells := 0, slots := 0, locals := 22 } : Room) s m ([.ref (h 0), .int p1, .int p2, .int p3, .int p4, .int p5, .int p6, .int p7] : List Value).toArray below meth c H locs 0 0 (MQ below (qL D (wX9 cyI cyJ cyZ cyO h book now sights sight signs pad nights townAt townCell reason acts at_ cost hole counts worth met q.2.1 q.2.2 image isKept) q.1 A) ([.ref (h 0), .int p1, .int p2, .int p3, .int p4, .int p5, .int p6, .int p7] : List Value).toArray s 0 0 A) (F0 m 142 ls []) := by
        intro n142
        induction n142 with
        | zero =>
          intro x1 x3 x4 x5 x6 x7 x8 x10 x11 ways nextWays H locs ls hP hD hS hl hf
          rw [g_X9_coffee_l142] at hf
          cases hf
        | succ n142 ih142 =>
          intro x1 x3 x4 x5 x6 x7 x8 x10 x11 ways nextWays H locs ls hP hD hS hl hf
          rw [g_X9_coffee_l142] at hf
          refine lv_iload hx hb dX9_coffee_142 (lv_at hl 9 rfl) ?_
          refine lv_bipush (v := 10) hx hb dX9_coffee_144 (by decide) ?_
          refine lv_icmp_ge (tgt := 163) hx hb dX9_coffee_146 (by decide) (fun cc => ?_) (fun cc => ?_)
          · replace hf := if_t cc hf
            refine lv_iconst (v := 0) hx hb dX9_coffee_163 (by decide) ?_
            refine lv_istore (lv' := [(11, .int 0), (0, .ref (h 0)), (1, .int x1), (3, .int x3), (4, .int x4), (5, .int x5), (6, .int x6), (7, .int x7), (8, .long x8), (10, .int x10)]) hx hb dX9_coffee_164 hl (by decide) rfl (fun ls hl => ?_)
            exact l166 nf x1 x3 x4 x5 x6 x7 x8 x10 0 ways nextWays H locs ls hP hD hS (lv_sub hl [1, 2, 3, 4, 5, 6, 7, 8, 9, 0] rfl) hf
          · replace hf := if_f cc hf
            refine lv_aload_n hx hb dX9_coffee_149 rfl (lv_at hl 0 rfl) ?_
            refine va_get (ci := 9) (v := .ref (h 11)) (C := RX9) (T := TX9) (N := 21) hx hb hT hin_X9 hown hK hP 0 rfl rfl 18 (by decide) (hT _ wf_X9_41) (fun _ h9 => h9) rfl dX9_coffee_150 ?_
            refine lv_iload hx hb dX9_coffee_153 (lv_at hl 9 rfl) ?_
            refine lv_lconst (v := 0) hx hb dX9_coffee_155 (by decide) ?_
            obtain ⟨hi, hf⟩ := ck_some hf
            refine va_last hx hb hK hP hD hS 11 1 rfl rfl hi dX9_coffee_156 (fun H locs hP hD hS => ?_)
            have hP : va_P D vwCl (wX9 cyI cyJ cyZ cyO h book now sights sight signs pad nights townAt townCell reason acts at_ cost hole counts worth met ways (vp_updL nextWays x11.toNatClampNeg 0) image isKept) H := hP
            have hD : va_D A (wX9 cyI cyJ cyZ cyO h book now sights sight signs pad nights townAt townCell reason acts at_ cost hole counts worth met ways (vp_updL nextWays x11.toNatClampNeg 0) image isKept) := hD
            refine lv_iinc (v := (x11 + 1)) (lv' := [(11, .int (x11 + 1)), (0, .ref (h 0)), (1, .int x1), (3, .int x3), (4, .int x4), (5, .int x5), (6, .int x6), (7, .int x7), (8, .long x8), (10, .int x10)]) hx hb dX9_coffee_157 hl (k := 9) rfl rfl (by decide) rfl (fun ls hl => ?_)
            refine lv_goto (tgt := 142) hx hb dX9_coffee_160 (by decide) ?_
            exact ih142 x1 x3 x4 x5 x6 x7 x8 x10 (x11 + 1) ways (vp_updL nextWays x11.toNatClampNeg 0) H locs ls hP hD hS (lv_sub hl [1, 2, 3, 4, 5, 6, 7, 8, 9, 0] rfl) hf
      intro x1 x3 x4 x5 x6 x7 x8 x10 ways nextWays H locs ls hP hD hS hl hf
      rw [g_X9_coffee_l124] at hf
      refine lv_iload hx hb dX9_coffee_124 (lv_at hl 8 rfl) ?_
      refine lv_iload hx hb dX9_coffee_126 (lv_at hl 4 rfl) ?_
      refine lv_icmp_ge (tgt := 306) hx hb dX9_coffee_128 (by decide) (fun cc => ?_) (fun cc => ?_)
      · replace hf := if_t cc hf
        refine lv_aload_n hx hb dX9_coffee_306 rfl (lv_at hl 0 rfl) ?_
        refine va_get (ci := 9) (v := .ref (h 10)) (C := RX9) (T := TX9) (N := 21) hx hb hT hin_X9 hown hK hP 0 rfl rfl 17 (by decide) (hT _ wf_X9_37) (fun _ h9 => h9) rfl dX9_coffee_307 ?_
        refine lv_iload hx hb dX9_coffee_310 (lv_at hl 5 rfl) ?_
        obtain ⟨hi, hf⟩ := ck_some hf
        refine va_lald hx hb hK hP 10 1 rfl rfl hi dX9_coffee_312 ?_
        refine lv_lstore (lv' := [(10, .long (ways x6.toNatClampNeg)), (0, .ref (h 0)), (1, .int x1), (3, .int x3), (4, .int x4), (5, .int x5), (6, .int x6), (7, .int x7), (8, .long x8)]) hx hb dX9_coffee_313 hl (by decide) rfl (fun ls hl => ?_)
        refine lv_lload hx hb dX9_coffee_315 (lv_at hl 8 rfl) ?_
        refine lv_lstore (lv' := [(12, .long x8), (10, .long (ways x6.toNatClampNeg)), (0, .ref (h 0)), (1, .int x1), (3, .int x3), (4, .int x4), (5, .int x5), (6, .int x6), (7, .int x7), (8, .long x8)]) hx hb dX9_coffee_317 hl (by decide) rfl (fun ls hl => ?_)
        exact l319 nf x6 x7 x8 (ways x6.toNatClampNeg) x8 ways nextWays H locs ls hP hD hS (lv_sub hl [2, 7, 8, 9, 1, 0] rfl) hf
      · replace hf := if_f cc hf
        refine lv_lload hx hb dX9_coffee_131 (lv_at hl 7 rfl) ?_
        refine lv_ldc2 (v := 10) hx hb hown (hT _ wk_X9_172) dX9_coffee_133 ?_
        refine lv_lmul hx hb dX9_coffee_136 ?_
        refine lv_lstore (lv' := [(8, .long (x8 * 10)), (0, .ref (h 0)), (1, .int x1), (3, .int x3), (4, .int x4), (5, .int x5), (6, .int x6), (7, .int x7), (10, .int x10)]) hx hb dX9_coffee_137 hl (by decide) rfl (fun ls hl => ?_)
        refine lv_iconst (v := 0) hx hb dX9_coffee_139 (by decide) ?_
        refine lv_istore (lv' := [(11, .int 0), (8, .long (x8 * 10)), (0, .ref (h 0)), (1, .int x1), (3, .int x3), (4, .int x4), (5, .int x5), (6, .int x6), (7, .int x7), (10, .int x10)]) hx hb dX9_coffee_140 hl (by decide) rfl (fun ls hl => ?_)
        exact l142 nf x1 x3 x4 x5 x6 x7 (x8 * 10) x10 0 ways nextWays H locs ls hP hD hS (lv_sub hl [2, 3, 4, 5, 6, 7, 8, 1, 9, 0] rfl) hf
  have l87 : ∀ (n87 : Nat) (x1 : Int32) (x2 : Int32) (x3 : Int32) (x4 : Int32) (x5 : Int32) (x6 : Int32) (x7 : Int32) (x8 : Int32) (ways : Nat → Int64) (nextWays : Nat → Int64) (H : Heap) (locs : List Loc) (ls : Array Slot), va_P D vwCl (wX9 cyI cyJ cyZ cyO h book now sights sight signs pad nights townAt townCell reason acts at_ cost hole counts worth met ways nextWays image isKept) H → va_D A (wX9 cyI cyJ cyZ cyO h book now sights sight signs pad nights townAt townCell reason acts at_ cost hole counts worth met ways nextWays image isKept) → va_S A s.heap H locs → lv_has ls 16 [(0, .ref (h 0)), (1, .int x1), (2, .int x2), (3, .int x3), (4, .int x4), (5, .int x5), (6, .int x6), (7, .int x7), (8, .int x8)] → g_X9_coffee_l87 nf n87 x1 x2 x3 x4 x5 x6 x7 x8 ways nextWays = some q → W p l e ({ frames := 1, cells := 0, slots := 0, locals := 22 } : Room) s m ([.ref (h 0), .int p1, .int p2, .int p3, .int p4, .int p5, .int p6, .int p7] : List Value).toArray below meth c H locs 0 0 (MQ below (qL D (wX9 cyI cyJ cyZ cyO h book now sights sight signs pad nights townAt townCell reason acts at_ cost hole counts worth met q.2.1 q.2.2 image isKept) q.1 A) ([.ref (h 0), .int p1, .int p2, .int p3, .int p4, .int p5, .int p6, .int p7] : List Value).toArray s 0 0 A) (F0 m 87 ls []) := by
    intro n87
    induction n87 with
    | zero =>
      intro x1 x2 x3 x4 x5 x6 x7 x8 ways nextWays H locs ls hP hD hS hl hf
      rw [g_X9_coffee_l87] at hf
      cases hf
    | succ n87 ih87 =>
      have b111 : ∀ (x1 : Int32) (x2 : Int32) (x3 : Int32) (x4 : Int32) (x5 : Int32) (x6 : Int32) (x7 : Int32) (x8 : Int32) (s1 : Int32) (s2 : Int64) (ways : Nat → Int64) (nextWays : Nat → Int64) (H : Heap) (locs : List Loc) (ls : Array Slot), va_P D vwCl (wX9 cyI cyJ cyZ cyO h book now sights sight signs pad nights townAt townCell reason acts at_ cost hole counts worth met ways nextWays image isKept) H → va_D A (wX9 cyI cyJ cyZ cyO h book now sights sight signs pad nights townAt townCell reason acts at_ cost hole counts worth met ways nextWays image isKept) → va_S A s.heap H locs → lv_has ls 16 [(0, .ref (h 0)), (1, .int x1), (2, .int x2), (3, .int x3), (4, .int x4), (5, .int x5), (6, .int x6), (7, .int x7), (8, .int x8)] → g_X9_coffee_b111 nf (g_X9_coffee_l87 nf n87) x1 x2 x3 x4 x5 x6 x7 x8 s1 s2 ways nextWays = some q → W p l e ({ frames := 1, cells := 0, slots := 0, locals := 22 } : Room) s m ([.ref (h 0), .int p1, .int p2, .int p3, .int p4, .int p5, .int p6, .int p7] : List Value).toArray below meth c H locs 0 0 (MQ below (qL D (wX9 cyI cyJ cyZ cyO h book now sights sight signs pad nights townAt townCell reason acts at_ cost hole counts worth met q.2.1 q.2.2 image isKept) q.1 A) ([.ref (h 0), .int p1, .int p2, .int p3, .int p4, .int p5, .int p6, .int p7] : List Value).toArray s 0 0 A) (F0 m 111 ls [.long s2, .int s1, .ref (h 10)]) := by
        intro x1 x2 x3 x4 x5 x6 x7 x8 s1 s2 ways nextWays H locs ls hP hD hS hl hf
        unfold g_X9_coffee_b111 at hf
        obtain ⟨hi, hf⟩ := ck_some hf
        refine va_last hx hb hK hP hD hS 10 1 rfl rfl hi dX9_coffee_111 (fun H locs hP hD hS => ?_)
        have hP : va_P D vwCl (wX9 cyI cyJ cyZ cyO h book now sights sight signs pad nights townAt townCell reason acts at_ cost hole counts worth met (vp_updL ways s1.toNatClampNeg s2) nextWays image isKept) H := hP
        have hD : va_D A (wX9 cyI cyJ cyZ cyO h book now sights sight signs pad nights townAt townCell reason acts at_ cost hole counts worth met (vp_updL ways s1.toNatClampNeg s2) nextWays image isKept) := hD
        refine lv_iinc (v := (x8 + 1)) (lv' := [(8, .int (x8 + 1)), (0, .ref (h 0)), (1, .int x1), (2, .int x2), (3, .int x3), (4, .int x4), (5, .int x5), (6, .int x6), (7, .int x7)]) hx hb dX9_coffee_112 hl (k := 8) rfl rfl (by decide) rfl (fun ls hl => ?_)
        refine lv_goto (tgt := 87) hx hb dX9_coffee_115 (by decide) ?_
        exact ih87 x1 x2 x3 x4 x5 x6 x7 (x8 + 1) (vp_updL ways s1.toNatClampNeg s2) nextWays H locs ls hP hD hS (lv_sub hl [1, 2, 3, 4, 5, 6, 7, 8, 0] rfl) hf
      intro x1 x2 x3 x4 x5 x6 x7 x8 ways nextWays H locs ls hP hD hS hl hf
      rw [g_X9_coffee_l87] at hf
      refine lv_iload hx hb dX9_coffee_87 (lv_at hl 8 rfl) ?_
      refine lv_bipush (v := 10) hx hb dX9_coffee_89 (by decide) ?_
      refine lv_icmp_ge (tgt := 118) hx hb dX9_coffee_91 (by decide) (fun cc => ?_) (fun cc => ?_)
      · replace hf := if_t cc hf
        refine lv_lconst (v := 1) hx hb dX9_coffee_118 (by decide) ?_
        refine lv_lstore (lv' := [(8, .long 1), (0, .ref (h 0)), (1, .int x1), (2, .int x2), (3, .int x3), (4, .int x4), (5, .int x5), (6, .int x6), (7, .int x7)]) hx hb dX9_coffee_119 hl (by decide) rfl (fun ls hl => ?_)
        refine lv_iconst (v := 0) hx hb dX9_coffee_121 (by decide) ?_
        refine lv_istore (lv' := [(10, .int 0), (8, .long 1), (0, .ref (h 0)), (1, .int x1), (2, .int x2), (3, .int x3), (4, .int x4), (5, .int x5), (6, .int x6), (7, .int x7)]) hx hb dX9_coffee_122 hl (by decide) rfl (fun ls hl => ?_)
        exact l124 nf x1 x3 x4 x5 x6 x7 1 0 ways nextWays H locs ls hP hD hS (lv_sub hl [2, 3, 5, 6, 7, 8, 9, 1, 0] rfl) hf
      · replace hf := if_f cc hf
        refine lv_aload_n hx hb dX9_coffee_94 rfl (lv_at hl 0 rfl) ?_
        refine va_get (ci := 9) (v := .ref (h 10)) (C := RX9) (T := TX9) (N := 21) hx hb hT hin_X9 hown hK hP 0 rfl rfl 17 (by decide) (hT _ wf_X9_37) (fun _ h9 => h9) rfl dX9_coffee_95 ?_
        refine lv_iload hx hb dX9_coffee_98 (lv_at hl 8 rfl) ?_
        refine lv_iload hx hb dX9_coffee_100 (lv_at hl 8 rfl) ?_
        refine lv_iload_n hx hb dX9_coffee_102 rfl (lv_at hl 2 rfl) ?_
        refine lv_icmp_ne (tgt := 110) hx hb dX9_coffee_103 (by decide) (fun cc => ?_) (fun cc => ?_)
        · replace hf := if_f cc hf
          refine lv_lconst (v := 0) hx hb dX9_coffee_110 (by decide) ?_
          exact b111 x1 x2 x3 x4 x5 x6 x7 x8 x8 0 ways nextWays H locs ls hP hD hS (lv_sub hl [0, 1, 2, 3, 4, 5, 6, 7, 8] rfl) hf
        · replace hf := if_t cc hf
          refine lv_lconst (v := 1) hx hb dX9_coffee_106 (by decide) ?_
          refine lv_goto (tgt := 111) hx hb dX9_coffee_107 (by decide) ?_
          exact b111 x1 x2 x3 x4 x5 x6 x7 x8 x8 1 ways nextWays H locs ls hP hD hS (lv_sub hl [0, 1, 2, 3, 4, 5, 6, 7, 8] rfl) hf
  have main : ∀ (H : Heap) (locs : List Loc) (ls : Array Slot), va_P D vwCl (wX9 cyI cyJ cyZ cyO h book now sights sight signs pad nights townAt townCell reason acts at_ cost hole counts worth met ways nextWays image isKept) H → va_D A (wX9 cyI cyJ cyZ cyO h book now sights sight signs pad nights townAt townCell reason acts at_ cost hole counts worth met ways nextWays image isKept) → va_S A s.heap H locs → lv_has ls 16 [(0, .ref (h 0)), (1, .int p1), (2, .int p2), (3, .int p3), (4, .int p4), (5, .int p5), (6, .int p6), (7, .int p7)] → W p l e ({ frames := 1, cells := 0, slots := 0, locals := 22 } : Room) s m ([.ref (h 0), .int p1, .int p2, .int p3, .int p4, .int p5, .int p6, .int p7] : List Value).toArray below meth c H locs 0 0 (MQ below (qL D (wX9 cyI cyJ cyZ cyO h book now sights sight signs pad nights townAt townCell reason acts at_ cost hole counts worth met q.2.1 q.2.2 image isKept) q.1 A) ([.ref (h 0), .int p1, .int p2, .int p3, .int p4, .int p5, .int p6, .int p7] : List Value).toArray s 0 0 A) (F0 m 0 ls []) := by
    intro H locs ls hP hD hS hl
    unfold g_X9_coffee at hf
    refine lv_iload_n hx hb dX9_coffee_0 rfl (lv_at hl 1 rfl) ?_
    refine lv_iconst (v := 0) hx hb dX9_coffee_1 (by decide) ?_
    refine lv_bipush (v := 9) hx hb dX9_coffee_2 (by decide) ?_
    obtain ⟨q1, hq1, hf⟩ := bd_some hf
    have hC : ([] : List Nat).map (fun i => (wX9 cyI cyJ cyZ cyO h book now sights sight signs pad nights townAt townCell reason acts at_ cost hole counts worth met ways nextWays image isKept)[i]?) = ([] : va_W).map some := rfl
    refine cl_i (rn_S (As := [.int p1, .int 0, .int 9]) (rest := []) hx hb hml hown hT hK hN hP hD [] hC rfl (c_X9_in l D cyI cyJ cyZ cyO H.size p1 0 9 nf q1 hq1) wm_X9_51 wt_X9_in wz_X9 wc_X9_in hd_X9_in ⟨rfl, rfl⟩ ⟨Nat.le_of_ble_eq_true rfl, Nat.le_of_ble_eq_true rfl⟩ rfl hl.1 rfl (Nat.le_of_ble_eq_true rfl) dX9_coffee_4 ⟨Nat.zero_le _, Nat.zero_le _⟩) hP hD hS hA [] hC [(false, 0), (false, 1), (false, 2), (false, 3), (false, 4), (false, 5), (false, 6), (false, 7), (false, 8), (false, 9), (false, 10), (false, 11), (false, 12), (false, 13)] (ws' := wX9 cyI cyJ cyZ cyO h book now sights sight signs pad nights townAt townCell reason acts at_ cost hole counts worth met ways nextWays image isKept) rfl rfl rfl (fun H locs hP hD hS => ?_)
    refine lv_if_eq (tgt := 80) hx hb dX9_coffee_7 (by decide) (fun cc => ?_) (fun cc => ?_)
    · replace hf := if_t cc hf
      refine lv_ldc2 (v := (-1000000000000000002)) hx hb hown (hT _ wk_X9_170) dX9_coffee_80 ?_
      cases Option.some.inj hf
      exact W.lret hx hb hr (fun t ht hW => ⟨⟨_, (), rfl, rfl, by show va_P D vwCl _ t.heap; rw [ht]; exact hP⟩, hS.F ht⟩) hS.2.2 dX9_coffee_83
    · replace hf := if_f cc hf
      refine lv_iload_n hx hb dX9_coffee_10 rfl (lv_at hl 2 rfl) ?_
      refine lv_iconst (v := 0) hx hb dX9_coffee_11 (by decide) ?_
      refine lv_iload_n hx hb dX9_coffee_12 rfl (lv_at hl 1 rfl) ?_
      obtain ⟨q2, hq2, hf⟩ := bd_some hf
      have hC : ([] : List Nat).map (fun i => (wX9 cyI cyJ cyZ cyO h book now sights sight signs pad nights townAt townCell reason acts at_ cost hole counts worth met ways nextWays image isKept)[i]?) = ([] : va_W).map some := rfl
      refine cl_i (rn_S (As := [.int p2, .int 0, .int p1]) (rest := []) hx hb hml hown hT hK hN hP hD [] hC rfl (c_X9_in l D cyI cyJ cyZ cyO H.size p2 0 p1 nf q2 hq2) wm_X9_51 wt_X9_in wz_X9 wc_X9_in hd_X9_in ⟨rfl, rfl⟩ ⟨Nat.le_of_ble_eq_true rfl, Nat.le_of_ble_eq_true rfl⟩ rfl hl.1 rfl (Nat.le_of_ble_eq_true rfl) dX9_coffee_13 ⟨Nat.zero_le _, Nat.zero_le _⟩) hP hD hS hA [] hC [(false, 0), (false, 1), (false, 2), (false, 3), (false, 4), (false, 5), (false, 6), (false, 7), (false, 8), (false, 9), (false, 10), (false, 11), (false, 12), (false, 13)] (ws' := wX9 cyI cyJ cyZ cyO h book now sights sight signs pad nights townAt townCell reason acts at_ cost hole counts worth met ways nextWays image isKept) rfl rfl rfl (fun H locs hP hD hS => ?_)
      refine lv_if_eq (tgt := 80) hx hb dX9_coffee_16 (by decide) (fun cc => ?_) (fun cc => ?_)
      · replace hf := if_t cc hf
        refine lv_ldc2 (v := (-1000000000000000002)) hx hb hown (hT _ wk_X9_170) dX9_coffee_80 ?_
        cases Option.some.inj hf
        exact W.lret hx hb hr (fun t ht hW => ⟨⟨_, (), rfl, rfl, by show va_P D vwCl _ t.heap; rw [ht]; exact hP⟩, hS.F ht⟩) hS.2.2 dX9_coffee_83
      · replace hf := if_f cc hf
        refine lv_iload_n hx hb dX9_coffee_19 rfl (lv_at hl 3 rfl) ?_
        refine lv_iconst (v := 0) hx hb dX9_coffee_20 (by decide) ?_
        refine lv_bipush (v := 10) hx hb dX9_coffee_21 (by decide) ?_
        obtain ⟨q3, hq3, hf⟩ := bd_some hf
        have hC : ([] : List Nat).map (fun i => (wX9 cyI cyJ cyZ cyO h book now sights sight signs pad nights townAt townCell reason acts at_ cost hole counts worth met ways nextWays image isKept)[i]?) = ([] : va_W).map some := rfl
        refine cl_i (rn_S (As := [.int p3, .int 0, .int 10]) (rest := []) hx hb hml hown hT hK hN hP hD [] hC rfl (c_X9_in l D cyI cyJ cyZ cyO H.size p3 0 10 nf q3 hq3) wm_X9_51 wt_X9_in wz_X9 wc_X9_in hd_X9_in ⟨rfl, rfl⟩ ⟨Nat.le_of_ble_eq_true rfl, Nat.le_of_ble_eq_true rfl⟩ rfl hl.1 rfl (Nat.le_of_ble_eq_true rfl) dX9_coffee_23 ⟨Nat.zero_le _, Nat.zero_le _⟩) hP hD hS hA [] hC [(false, 0), (false, 1), (false, 2), (false, 3), (false, 4), (false, 5), (false, 6), (false, 7), (false, 8), (false, 9), (false, 10), (false, 11), (false, 12), (false, 13)] (ws' := wX9 cyI cyJ cyZ cyO h book now sights sight signs pad nights townAt townCell reason acts at_ cost hole counts worth met ways nextWays image isKept) rfl rfl rfl (fun H locs hP hD hS => ?_)
        refine lv_if_eq (tgt := 80) hx hb dX9_coffee_26 (by decide) (fun cc => ?_) (fun cc => ?_)
        · replace hf := if_t cc hf
          refine lv_ldc2 (v := (-1000000000000000002)) hx hb hown (hT _ wk_X9_170) dX9_coffee_80 ?_
          cases Option.some.inj hf
          exact W.lret hx hb hr (fun t ht hW => ⟨⟨_, (), rfl, rfl, by show va_P D vwCl _ t.heap; rw [ht]; exact hP⟩, hS.F ht⟩) hS.2.2 dX9_coffee_83
        · replace hf := if_f cc hf
          refine lv_iload hx hb dX9_coffee_29 (lv_at hl 4 rfl) ?_
          refine lv_iconst (v := 0) hx hb dX9_coffee_31 (by decide) ?_
          refine lv_bipush (v := 10) hx hb dX9_coffee_32 (by decide) ?_
          obtain ⟨q4, hq4, hf⟩ := bd_some hf
          have hC : ([] : List Nat).map (fun i => (wX9 cyI cyJ cyZ cyO h book now sights sight signs pad nights townAt townCell reason acts at_ cost hole counts worth met ways nextWays image isKept)[i]?) = ([] : va_W).map some := rfl
          refine cl_i (rn_S (As := [.int p4, .int 0, .int 10]) (rest := []) hx hb hml hown hT hK hN hP hD [] hC rfl (c_X9_in l D cyI cyJ cyZ cyO H.size p4 0 10 nf q4 hq4) wm_X9_51 wt_X9_in wz_X9 wc_X9_in hd_X9_in ⟨rfl, rfl⟩ ⟨Nat.le_of_ble_eq_true rfl, Nat.le_of_ble_eq_true rfl⟩ rfl hl.1 rfl (Nat.le_of_ble_eq_true rfl) dX9_coffee_34 ⟨Nat.zero_le _, Nat.zero_le _⟩) hP hD hS hA [] hC [(false, 0), (false, 1), (false, 2), (false, 3), (false, 4), (false, 5), (false, 6), (false, 7), (false, 8), (false, 9), (false, 10), (false, 11), (false, 12), (false, 13)] (ws' := wX9 cyI cyJ cyZ cyO h book now sights sight signs pad nights townAt townCell reason acts at_ cost hole counts worth met ways nextWays image isKept) rfl rfl rfl (fun H locs hP hD hS => ?_)
          refine lv_if_eq (tgt := 80) hx hb dX9_coffee_37 (by decide) (fun cc => ?_) (fun cc => ?_)
          · replace hf := if_t cc hf
            refine lv_ldc2 (v := (-1000000000000000002)) hx hb hown (hT _ wk_X9_170) dX9_coffee_80 ?_
            cases Option.some.inj hf
            exact W.lret hx hb hr (fun t ht hW => ⟨⟨_, (), rfl, rfl, by show va_P D vwCl _ t.heap; rw [ht]; exact hP⟩, hS.F ht⟩) hS.2.2 dX9_coffee_83
          · replace hf := if_f cc hf
            refine lv_iload_n hx hb dX9_coffee_40 rfl (lv_at hl 3 rfl) ?_
            refine lv_iload hx hb dX9_coffee_41 (lv_at hl 4 rfl) ?_
            refine lv_iadd hx hb dX9_coffee_43 ?_
            refine lv_bipush (v := 10) hx hb dX9_coffee_44 (by decide) ?_
            refine lv_icmp_gt (tgt := 80) hx hb dX9_coffee_46 (by decide) (fun cc => ?_) (fun cc => ?_)
            · replace hf := if_t cc hf
              refine lv_ldc2 (v := (-1000000000000000002)) hx hb hown (hT _ wk_X9_170) dX9_coffee_80 ?_
              cases Option.some.inj hf
              exact W.lret hx hb hr (fun t ht hW => ⟨⟨_, (), rfl, rfl, by show va_P D vwCl _ t.heap; rw [ht]; exact hP⟩, hS.F ht⟩) hS.2.2 dX9_coffee_83
            · replace hf := if_f cc hf
              refine lv_iload hx hb dX9_coffee_49 (lv_at hl 5 rfl) ?_
              refine lv_iconst (v := 0) hx hb dX9_coffee_51 (by decide) ?_
              refine lv_bipush (v := 16) hx hb dX9_coffee_52 (by decide) ?_
              obtain ⟨q5, hq5, hf⟩ := bd_some hf
              have hC : ([] : List Nat).map (fun i => (wX9 cyI cyJ cyZ cyO h book now sights sight signs pad nights townAt townCell reason acts at_ cost hole counts worth met ways nextWays image isKept)[i]?) = ([] : va_W).map some := rfl
              refine cl_i (rn_S (As := [.int p5, .int 0, .int 16]) (rest := []) hx hb hml hown hT hK hN hP hD [] hC rfl (c_X9_in l D cyI cyJ cyZ cyO H.size p5 0 16 nf q5 hq5) wm_X9_51 wt_X9_in wz_X9 wc_X9_in hd_X9_in ⟨rfl, rfl⟩ ⟨Nat.le_of_ble_eq_true rfl, Nat.le_of_ble_eq_true rfl⟩ rfl hl.1 rfl (Nat.le_of_ble_eq_true rfl) dX9_coffee_54 ⟨Nat.zero_le _, Nat.zero_le _⟩) hP hD hS hA [] hC [(false, 0), (false, 1), (false, 2), (false, 3), (false, 4), (false, 5), (false, 6), (false, 7), (false, 8), (false, 9), (false, 10), (false, 11), (false, 12), (false, 13)] (ws' := wX9 cyI cyJ cyZ cyO h book now sights sight signs pad nights townAt townCell reason acts at_ cost hole counts worth met ways nextWays image isKept) rfl rfl rfl (fun H locs hP hD hS => ?_)
              refine lv_if_eq (tgt := 80) hx hb dX9_coffee_57 (by decide) (fun cc => ?_) (fun cc => ?_)
              · replace hf := if_t cc hf
                refine lv_ldc2 (v := (-1000000000000000002)) hx hb hown (hT _ wk_X9_170) dX9_coffee_80 ?_
                cases Option.some.inj hf
                exact W.lret hx hb hr (fun t ht hW => ⟨⟨_, (), rfl, rfl, by show va_P D vwCl _ t.heap; rw [ht]; exact hP⟩, hS.F ht⟩) hS.2.2 dX9_coffee_83
              · replace hf := if_f cc hf
                refine lv_iload hx hb dX9_coffee_60 (lv_at hl 6 rfl) ?_
                refine lv_iconst (v := 0) hx hb dX9_coffee_62 (by decide) ?_
                refine lv_iload_n hx hb dX9_coffee_63 rfl (lv_at hl 1 rfl) ?_
                obtain ⟨q6, hq6, hf⟩ := bd_some hf
                have hC : ([] : List Nat).map (fun i => (wX9 cyI cyJ cyZ cyO h book now sights sight signs pad nights townAt townCell reason acts at_ cost hole counts worth met ways nextWays image isKept)[i]?) = ([] : va_W).map some := rfl
                refine cl_i (rn_S (As := [.int p6, .int 0, .int p1]) (rest := []) hx hb hml hown hT hK hN hP hD [] hC rfl (c_X9_in l D cyI cyJ cyZ cyO H.size p6 0 p1 nf q6 hq6) wm_X9_51 wt_X9_in wz_X9 wc_X9_in hd_X9_in ⟨rfl, rfl⟩ ⟨Nat.le_of_ble_eq_true rfl, Nat.le_of_ble_eq_true rfl⟩ rfl hl.1 rfl (Nat.le_of_ble_eq_true rfl) dX9_coffee_64 ⟨Nat.zero_le _, Nat.zero_le _⟩) hP hD hS hA [] hC [(false, 0), (false, 1), (false, 2), (false, 3), (false, 4), (false, 5), (false, 6), (false, 7), (false, 8), (false, 9), (false, 10), (false, 11), (false, 12), (false, 13)] (ws' := wX9 cyI cyJ cyZ cyO h book now sights sight signs pad nights townAt townCell reason acts at_ cost hole counts worth met ways nextWays image isKept) rfl rfl rfl (fun H locs hP hD hS => ?_)
                refine lv_if_eq (tgt := 80) hx hb dX9_coffee_67 (by decide) (fun cc => ?_) (fun cc => ?_)
                · replace hf := if_t cc hf
                  refine lv_ldc2 (v := (-1000000000000000002)) hx hb hown (hT _ wk_X9_170) dX9_coffee_80 ?_
                  cases Option.some.inj hf
                  exact W.lret hx hb hr (fun t ht hW => ⟨⟨_, (), rfl, rfl, by show va_P D vwCl _ t.heap; rw [ht]; exact hP⟩, hS.F ht⟩) hS.2.2 dX9_coffee_83
                · replace hf := if_f cc hf
                  refine lv_iload hx hb dX9_coffee_70 (lv_at hl 7 rfl) ?_
                  refine lv_iconst (v := 0) hx hb dX9_coffee_72 (by decide) ?_
                  refine lv_iconst (v := 1) hx hb dX9_coffee_73 (by decide) ?_
                  obtain ⟨q7, hq7, hf⟩ := bd_some hf
                  have hC : ([] : List Nat).map (fun i => (wX9 cyI cyJ cyZ cyO h book now sights sight signs pad nights townAt townCell reason acts at_ cost hole counts worth met ways nextWays image isKept)[i]?) = ([] : va_W).map some := rfl
                  refine cl_i (rn_S (As := [.int p7, .int 0, .int 1]) (rest := []) hx hb hml hown hT hK hN hP hD [] hC rfl (c_X9_in l D cyI cyJ cyZ cyO H.size p7 0 1 nf q7 hq7) wm_X9_51 wt_X9_in wz_X9 wc_X9_in hd_X9_in ⟨rfl, rfl⟩ ⟨Nat.le_of_ble_eq_true rfl, Nat.le_of_ble_eq_true rfl⟩ rfl hl.1 rfl (Nat.le_of_ble_eq_true rfl) dX9_coffee_74 ⟨Nat.zero_le _, Nat.zero_le _⟩) hP hD hS hA [] hC [(false, 0), (false, 1), (false, 2), (false, 3), (false, 4), (false, 5), (false, 6), (false, 7), (false, 8), (false, 9), (false, 10), (false, 11), (false, 12), (false, 13)] (ws' := wX9 cyI cyJ cyZ cyO h book now sights sight signs pad nights townAt townCell reason acts at_ cost hole counts worth met ways nextWays image isKept) rfl rfl rfl (fun H locs hP hD hS => ?_)
                  refine lv_if_ne (tgt := 84) hx hb dX9_coffee_77 (by decide) (fun cc => ?_) (fun cc => ?_)
                  · replace hf := if_f cc hf
                    refine lv_iconst (v := 0) hx hb dX9_coffee_84 (by decide) ?_
                    refine lv_istore (lv' := [(8, .int 0), (0, .ref (h 0)), (1, .int p1), (2, .int p2), (3, .int p3), (4, .int p4), (5, .int p5), (6, .int p6), (7, .int p7)]) hx hb dX9_coffee_85 hl (by decide) rfl (fun ls hl => ?_)
                    exact l87 nf p1 p2 p3 p4 p5 p6 p7 0 ways nextWays H locs ls hP hD hS (lv_sub hl [1, 2, 3, 4, 5, 6, 7, 8, 0] rfl) hf
                  · replace hf := if_t cc hf
                    refine lv_ldc2 (v := (-1000000000000000002)) hx hb hown (hT _ wk_X9_170) dX9_coffee_80 ?_
                    cases Option.some.inj hf
                    exact W.lret hx hb hr (fun t ht hW => ⟨⟨_, (), rfl, rfl, by show va_P D vwCl _ t.heap; rw [ht]; exact hP⟩, hS.F ht⟩) hS.2.2 dX9_coffee_83
  have hl := lv_entry ([.ref (h 0), .int p1, .int p2, .int p3, .int p4, .int p5, .int p6, .int p7]) (n := 16) (Nat.le_of_ble_eq_true rfl)
  rw [lg_entry_eq]
  exact main s.heap [] _ hP hD hS hl
theorem hd_X9_year : yX9_year.cls = RX9 ∧ yX9_year.cls ≠ "java/lang/invoke/MethodHandle" ∧ yX9_year.cls ≠ "java/lang/invoke/VarHandle" ∧ (parseMethodDescriptor yX9_year.desc).map (fun d => d.parameters.length) = some 3 := by decide +kernel
set_option maxHeartbeats 4000000 in
set_option maxRecDepth 100000 in
theorem c_X9_year (l : Launch) (D : va_G) (cyI cyJ cyZ cyO : ClassId) (h : Nat → Nat) (sz : Nat) (book : Nat → Int32) (now : Nat → Int32) (sights : Int32) (sight : Nat → Int32) (signs : Int32) (pad : Nat → Int32) (nights : Int32) (townAt : Int32) (townCell : Int32) (reason : Int32) (acts : Int32) (at_ : Int32) (cost : Nat → Int32) (hole : Nat → Int32) (counts : Nat → Int32) (worth : Nat → Int32) (met : Nat → Int32) (ways : Nat → Int64) (nextWays : Nat → Int64) (image : Nat → Int32) (isKept : Nat → Int32) (p1 : Int32) (p2 : Int32) (p3 : Int32) (nf : Nat) (q : Int32 × (Nat → Int32) × Int32 × Int32 × Int32 × Int32) (hf : g_X9_year nf p1 p2 p3 book now nights townAt townCell reason = some q) : Met l yX9_year (Cond.code yX9_year cX9_year 8 (some .int) :: tbG) ({ frames := 3, cells := 0, slots := 0, locals := 68 } : Room) (va_Pc [.ref (h 0), .int p1, .int p2, .int p3] (pcB D (ty4 cyI cyJ cyZ cyO) sz (wX9 cyI cyJ cyZ cyO h book now sights sight signs pad nights townAt townCell reason acts at_ cost hole counts worth met ways nextWays image isKept))) (qI D (wX9 cyI cyJ cyZ cyO h book q.2.1 sights sight signs pad q.2.2.1 q.2.2.2.1 q.2.2.2.2.1 q.2.2.2.2.2 acts at_ cost hole counts worth met ways nextWays image isKept) q.1 (va_A (wX9 cyI cyJ cyZ cyO h book now sights sight signs pad nights townAt townCell reason acts at_ cost hole counts worth met ways nextWays image isKept) sz)) 0 0 (va_A (wX9 cyI cyJ cyZ cyO h book now sights sight signs pad nights townAt townCell reason acts at_ cost hole counts worth met ways nextWays image isKept) sz) := by
  refine Met.ofW (cc := cX9_year) (maxL := 8) (ret := (some .int)) (by decide) rfl ?_
  intro p e s m args below meth c s₁ B hml hv
  obtain ⟨rfl, hsz, hP, hK, hD0, hN⟩ := hv
  have hx := B.exec
  have hb := B.bytes
  have hr := B.returns
  have hT : ∀ w ∈ tbG, w.before ([.ref (h 0), .int p1, .int p2, .int p3] : List Value).toArray s = true := fun w h => atoms_spec (ws := (Cond.code yX9_year cX9_year 8 (some .int) :: tbG)) B.pre w (List.mem_cons_of_mem _ h)
  have hown : s.vm.findClass RX9 = some m.cls := findClass_of_methodNamed B.named
  have hlocks := B.notSynchronized
  subst hsz
  have hD := hD0.self (sz := s.heap.size)
  generalize hAe : va_A (wX9 cyI cyJ cyZ cyO h book now sights sight signs pad nights townAt townCell reason acts at_ cost hole counts worth met ways nextWays image isKept) s.heap.size = A at hD ⊢
  have hA : ∀ q : Nat, s.heap.size ≤ q → A q := fun q h => by rw [← hAe]; exact Or.inr h
  have hS : va_S A s.heap s.heap [] := va_S.rf
  show W p l e ({ frames := 3, cells := 0, slots := 0, locals := 68 } : Room) s m ([.ref (h 0), .int p1, .int p2, .int p3] : List Value).toArray below meth c s.heap [] 0 0 (MQ below (qI D (wX9 cyI cyJ cyZ cyO h book q.2.1 sights sight signs pad q.2.2.1 q.2.2.2.1 q.2.2.2.2.1 q.2.2.2.2.2 acts at_ cost hole counts worth met ways nextWays image isKept) q.1 A) ([.ref (h 0), .int p1, .int p2, .int p3] : List Value).toArray s 0 0 A) _
  have l43 : ∀ (n43 : Nat) (x2 : Int32) (x3 : Int32) (x4 : Int32) (x5 : Int32) (book : Nat → Int32) (now : Nat → Int32) (nights : Int32) (townAt : Int32) (townCell : Int32) (reason : Int32) (H : Heap) (locs : List Loc) (ls : Array Slot), va_P D vwCl (wX9 cyI cyJ cyZ cyO h book now sights sight signs pad nights townAt townCell reason acts at_ cost hole counts worth met ways nextWays image isKept) H → va_D A (wX9 cyI cyJ cyZ cyO h book now sights sight signs pad nights townAt townCell reason acts at_ cost hole counts worth met ways nextWays image isKept) → va_S A s.heap H locs → lv_has ls 8 [(0, .ref (h 0)), (2, .int x2), (3, .int x3), (4, .int x4), (5, .int x5)] → g_X9_year_l43 nf n43 x2 x3 x4 x5 book now nights townAt townCell reason = some q → W p l e ({ frames := 3, cells := 0, slots := 0, locals := 68 } : Room) s m ([.ref (h 0), .int p1, .int p2, .int p3] : List Value).toArray below meth c H locs 0 0 (MQ below (qI D (wX9 cyI cyJ cyZ cyO h book q.2.1 sights sight signs pad q.2.2.1 q.2.2.2.1 q.2.2.2.2.1 q.2.2.2.2.2 acts at_ cost hole counts worth met ways nextWays image isKept) q.1 A) ([.ref (h 0), .int p1, .int p2, .int p3] : List Value).toArray s 0 0 A) (F0 m 43 ls []) := by
    intro n43
    induction n43 with
    | zero =>
      intro x2 x3 x4 x5 book now nights townAt townCell reason H locs ls hP hD hS hl hf
      rw [g_X9_year_l43] at hf
      cases hf
    | succ n43 ih43 =>
      have b163 : ∀ (x2 : Int32) (x3 : Int32) (x4 : Int32) (x5 : Int32) (book : Nat → Int32) (now : Nat → Int32) (nights : Int32) (townAt : Int32) (townCell : Int32) (reason : Int32) (H : Heap) (locs : List Loc) (ls : Array Slot), va_P D vwCl (wX9 cyI cyJ cyZ cyO h book now sights sight signs pad nights townAt townCell reason acts at_ cost hole counts worth met ways nextWays image isKept) H → va_D A (wX9 cyI cyJ cyZ cyO h book now sights sight signs pad nights townAt townCell reason acts at_ cost hole counts worth met ways nextWays image isKept) → va_S A s.heap H locs → lv_has ls 8 [(0, .ref (h 0)), (2, .int x2), (3, .int x3), (4, .int x4), (5, .int x5)] → g_X9_year_b163 nf (g_X9_year_l43 nf n43) x2 x3 x4 x5 book now nights townAt townCell reason = some q → W p l e ({ frames := 3, cells := 0, slots := 0, locals := 68 } : Room) s m ([.ref (h 0), .int p1, .int p2, .int p3] : List Value).toArray below meth c H locs 0 0 (MQ below (qI D (wX9 cyI cyJ cyZ cyO h book q.2.1 sights sight signs pad q.2.2.1 q.2.2.2.1 q.2.2.2.2.1 q.2.2.2.2.2 acts at_ cost hole counts worth met ways nextWays image isKept) q.1 A) ([.ref (h 0), .int p1, .int p2, .int p3] : List Value).toArray s 0 0 A) (F0 m 163 ls []) := by
        intro x2 x3 x4 x5 book now nights townAt townCell reason H locs ls hP hD hS hl hf
        unfold g_X9_year_b163 at hf
        refine lv_iinc (v := (x5 + 1)) (lv' := [(5, .int (x5 + 1)), (0, .ref (h 0)), (2, .int x2), (3, .int x3), (4, .int x4)]) hx hb dX9_year_163 hl (k := 4) rfl rfl (by decide) rfl (fun ls hl => ?_)
        refine lv_goto (tgt := 43) hx hb dX9_year_166 (by decide) ?_
        exact ih43 x2 x3 x4 (x5 + 1) book now nights townAt townCell reason H locs ls hP hD hS (lv_sub hl [1, 2, 3, 4, 0] rfl) hf
      intro x2 x3 x4 x5 book now nights townAt townCell reason H locs ls hP hD hS hl hf
      rw [g_X9_year_l43] at hf
      refine lv_iload hx hb dX9_year_43 (lv_at hl 4 rfl) ?_
      refine lv_iload_n hx hb dX9_year_45 rfl (lv_at hl 1 rfl) ?_
      refine lv_icmp_ge (tgt := 169) hx hb dX9_year_46 (by decide) (fun cc => ?_) (fun cc => ?_)
      · replace hf := if_t cc hf
        refine lv_iload_n hx hb dX9_year_169 rfl (lv_at hl 2 rfl) ?_
        refine lv_if_ne (tgt := 181) hx hb dX9_year_170 (by decide) (fun cc => ?_) (fun cc => ?_)
        · replace hf := if_f cc hf
          refine lv_iload_n hx hb dX9_year_181 rfl (lv_at hl 2 rfl) ?_
          refine lv_iconst (v := 1) hx hb dX9_year_182 (by decide) ?_
          refine lv_icmp_ne (tgt := 212) hx hb dX9_year_183 (by decide) (fun cc => ?_) (fun cc => ?_)
          · replace hf := if_f cc hf
            refine lv_aload_n hx hb dX9_year_212 rfl (lv_at hl 0 rfl) ?_
            refine lv_iconst (v := 4) hx hb dX9_year_213 (by decide) ?_
            obtain ⟨q1, hq1, hf⟩ := bd_some hf
            have hC : [0, 1, 2, 3, 4, 5, 6, 7, 8, 9, 10, 11, 12, 13].map (fun i => (wX9 cyI cyJ cyZ cyO h book now sights sight signs pad nights townAt townCell reason acts at_ cost hole counts worth met ways nextWays image isKept)[i]?) = (wX9 cyI cyJ cyZ cyO h book now sights sight signs pad nights townAt townCell reason acts at_ cost hole counts worth met ways nextWays image isKept).map some := rfl
            refine cl_i (rn_V (As := [.int 4]) (rest := []) (C := RX9) hx hb hml hown hT hK hN hP hD [0, 1, 2, 3, 4, 5, 6, 7, 8, 9, 10, 11, 12, 13] hC rfl (c_X9_countOf l D cyI cyJ cyZ cyO h H.size book now sights sight signs pad nights townAt townCell reason acts at_ cost hole counts worth met ways nextWays image isKept 4 nf q1 hq1) wm_X9_137 wi_X9_countOf wl_X9_countOf wz_X9 wc_X9_countOf hd_X9_countOf ⟨rfl, rfl⟩ ⟨Nat.le_of_ble_eq_true rfl, Nat.le_of_ble_eq_true rfl⟩ (q0 := 0) (ci := 9) rfl rfl rfl rfl hl.1 rfl (Nat.le_of_ble_eq_true rfl) dX9_year_214 ⟨Nat.zero_le _, Nat.zero_le _⟩) hP hD hS hA [0, 1, 2, 3, 4, 5, 6, 7, 8, 9, 10, 11, 12, 13] hC [(true, 0), (true, 1), (true, 2), (true, 3), (true, 4), (true, 5), (true, 6), (true, 7), (true, 8), (true, 9), (true, 10), (true, 11), (true, 12), (true, 13)] (ws' := wX9 cyI cyJ cyZ cyO h book now sights sight signs pad nights townAt townCell reason acts at_ cost hole counts worth met ways nextWays image isKept) rfl rfl rfl (fun H locs hP hD hS => ?_)
            cases Option.some.inj hf
            exact W.iret hx hb hr (fun t ht hW => ⟨⟨_, (), rfl, rfl, by show va_P D vwCl _ t.heap; rw [ht]; exact hP⟩, hS.F ht⟩) hS.2.2 dX9_year_217
          · replace hf := if_t cc hf
            refine lv_aload_n hx hb dX9_year_186 rfl (lv_at hl 0 rfl) ?_
            refine va_get (ci := 9) (v := .ref (h 2)) (C := RX9) (T := TX9) (N := 21) hx hb hT hin_X9 hown hK hP 0 rfl rfl 1 (by decide) (hT _ wf_X9_13) (fun _ h9 => h9) rfl dX9_year_187 ?_
            refine lv_bipush (v := 58) hx hb dX9_year_190 (by decide) ?_
            obtain ⟨hi, hf⟩ := ck_some hf
            refine va_iald hx hb hK hP 2 0 rfl rfl hi dX9_year_192 ?_
            refine lv_aload_n hx hb dX9_year_193 rfl (lv_at hl 0 rfl) ?_
            refine va_get (ci := 9) (v := .ref (h 2)) (C := RX9) (T := TX9) (N := 21) hx hb hT hin_X9 hown hK hP 0 rfl rfl 1 (by decide) (hT _ wf_X9_13) (fun _ h9 => h9) rfl dX9_year_194 ?_
            refine lv_bipush (v := 59) hx hb dX9_year_197 (by decide) ?_
            obtain ⟨hi, hf⟩ := ck_some hf
            refine va_iald hx hb hK hP 2 0 rfl rfl hi dX9_year_199 ?_
            refine lv_iadd hx hb dX9_year_200 ?_
            refine lv_aload_n hx hb dX9_year_201 rfl (lv_at hl 0 rfl) ?_
            refine va_get (ci := 9) (v := .ref (h 2)) (C := RX9) (T := TX9) (N := 21) hx hb hT hin_X9 hown hK hP 0 rfl rfl 1 (by decide) (hT _ wf_X9_13) (fun _ h9 => h9) rfl dX9_year_202 ?_
            refine lv_bipush (v := 60) hx hb dX9_year_205 (by decide) ?_
            obtain ⟨hi, hf⟩ := ck_some hf
            refine va_iald hx hb hK hP 2 0 rfl rfl hi dX9_year_207 ?_
            refine lv_iadd hx hb dX9_year_208 ?_
            refine lv_goto (tgt := 217) hx hb dX9_year_209 (by decide) ?_
            cases Option.some.inj hf
            exact W.iret hx hb hr (fun t ht hW => ⟨⟨_, (), rfl, rfl, by show va_P D vwCl _ t.heap; rw [ht]; exact hP⟩, hS.F ht⟩) hS.2.2 dX9_year_217
        · replace hf := if_t cc hf
          refine lv_aload_n hx hb dX9_year_173 rfl (lv_at hl 0 rfl) ?_
          refine lv_iconst (v := 0) hx hb dX9_year_174 (by decide) ?_
          obtain ⟨q2, hq2, hf⟩ := bd_some hf
          have hC : [0, 1, 2, 3, 4, 5, 6, 7, 8, 9, 10, 11, 12, 13].map (fun i => (wX9 cyI cyJ cyZ cyO h book now sights sight signs pad nights townAt townCell reason acts at_ cost hole counts worth met ways nextWays image isKept)[i]?) = (wX9 cyI cyJ cyZ cyO h book now sights sight signs pad nights townAt townCell reason acts at_ cost hole counts worth met ways nextWays image isKept).map some := rfl
          refine cl_i (rn_V (As := [.int 0]) (rest := []) (C := RX9) hx hb hml hown hT hK hN hP hD [0, 1, 2, 3, 4, 5, 6, 7, 8, 9, 10, 11, 12, 13] hC rfl (c_X9_countOf l D cyI cyJ cyZ cyO h H.size book now sights sight signs pad nights townAt townCell reason acts at_ cost hole counts worth met ways nextWays image isKept 0 nf q2 hq2) wm_X9_137 wi_X9_countOf wl_X9_countOf wz_X9 wc_X9_countOf hd_X9_countOf ⟨rfl, rfl⟩ ⟨Nat.le_of_ble_eq_true rfl, Nat.le_of_ble_eq_true rfl⟩ (q0 := 0) (ci := 9) rfl rfl rfl rfl hl.1 rfl (Nat.le_of_ble_eq_true rfl) dX9_year_175 ⟨Nat.zero_le _, Nat.zero_le _⟩) hP hD hS hA [0, 1, 2, 3, 4, 5, 6, 7, 8, 9, 10, 11, 12, 13] hC [(true, 0), (true, 1), (true, 2), (true, 3), (true, 4), (true, 5), (true, 6), (true, 7), (true, 8), (true, 9), (true, 10), (true, 11), (true, 12), (true, 13)] (ws' := wX9 cyI cyJ cyZ cyO h book now sights sight signs pad nights townAt townCell reason acts at_ cost hole counts worth met ways nextWays image isKept) rfl rfl rfl (fun H locs hP hD hS => ?_)
          refine lv_goto (tgt := 217) hx hb dX9_year_178 (by decide) ?_
          cases Option.some.inj hf
          exact W.iret hx hb hr (fun t ht hW => ⟨⟨_, (), rfl, rfl, by show va_P D vwCl _ t.heap; rw [ht]; exact hP⟩, hS.F ht⟩) hS.2.2 dX9_year_217
      · replace hf := if_f cc hf
        refine lv_bipush (v := 75) hx hb dX9_year_49 (by decide) ?_
        refine lv_iload hx hb dX9_year_51 (lv_at hl 3 rfl) ?_
        refine lv_imul hx hb dX9_year_53 ?_
        refine lv_bipush (v := 74) hx hb dX9_year_54 (by decide) ?_
        refine lv_iadd hx hb dX9_year_56 ?_
        refine lv_ldc (v := 65537) hx hb hown (hT _ wk_X9_174) dX9_year_57 ?_
        refine lv_irem hx hb dX9_year_59 (by decide) ?_
        refine lv_istore (lv' := [(4, .int (((75 * x4) + 74) - ((75 * x4) + 74) / 65537 * 65537)), (0, .ref (h 0)), (2, .int x2), (3, .int x3), (5, .int x5)]) hx hb dX9_year_60 hl (by decide) rfl (fun ls hl => ?_)
        refine lv_iload hx hb dX9_year_62 (lv_at hl 0 rfl) ?_
        refine lv_bipush (v := 8) hx hb dX9_year_64 (by decide) ?_
        refine lv_irem hx hb dX9_year_66 (by decide) ?_
        refine lv_istore (lv' := [(6, .int ((((75 * x4) + 74) - ((75 * x4) + 74) / 65537 * 65537) - (((75 * x4) + 74) - ((75 * x4) + 74) / 65537 * 65537) / 8 * 8)), (4, .int (((75 * x4) + 74) - ((75 * x4) + 74) / 65537 * 65537)), (0, .ref (h 0)), (2, .int x2), (3, .int x3), (5, .int x5)]) hx hb dX9_year_67 hl (by decide) rfl (fun ls hl => ?_)
        refine lv_iload hx hb dX9_year_69 (lv_at hl 1 rfl) ?_
        refine lv_bipush (v := 8) hx hb dX9_year_71 (by decide) ?_
        refine lv_idiv hx hb dX9_year_73 (by decide) ?_
        refine lv_istore (lv' := [(7, .int ((((75 * x4) + 74) - ((75 * x4) + 74) / 65537 * 65537) / 8)), (6, .int ((((75 * x4) + 74) - ((75 * x4) + 74) / 65537 * 65537) - (((75 * x4) + 74) - ((75 * x4) + 74) / 65537 * 65537) / 8 * 8)), (4, .int (((75 * x4) + 74) - ((75 * x4) + 74) / 65537 * 65537)), (0, .ref (h 0)), (2, .int x2), (3, .int x3), (5, .int x5)]) hx hb dX9_year_74 hl (by decide) rfl (fun ls hl => ?_)
        refine lv_iload hx hb dX9_year_76 (lv_at hl 1 rfl) ?_
        refine lv_if_ne (tgt := 102) hx hb dX9_year_78 (by decide) (fun cc => ?_) (fun cc => ?_)
        · replace hf := if_f cc hf
          refine lv_iload hx hb dX9_year_102 (lv_at hl 1 rfl) ?_
          refine lv_iconst (v := 1) hx hb dX9_year_104 (by decide) ?_
          refine lv_icmp_ne (tgt := 124) hx hb dX9_year_105 (by decide) (fun cc => ?_) (fun cc => ?_)
          · replace hf := if_f cc hf
            refine lv_iload hx hb dX9_year_124 (lv_at hl 1 rfl) ?_
            refine lv_iconst (v := 4) hx hb dX9_year_126 (by decide) ?_
            refine lv_icmp_ge (tgt := 155) hx hb dX9_year_127 (by decide) (fun cc => ?_) (fun cc => ?_)
            · replace hf := if_t cc hf
              refine lv_aload_n hx hb dX9_year_155 rfl (lv_at hl 3 rfl) ?_
              refine lv_aload_n hx hb dX9_year_156 rfl (lv_at hl 3 rfl) ?_
              obtain ⟨q3, hq3, hf⟩ := bd_some hf
              have hC : [0, 1, 2, 3, 4, 5, 6, 7, 8, 9, 10, 11, 12, 13].map (fun i => (wX9 cyI cyJ cyZ cyO h book now sights sight signs pad nights townAt townCell reason acts at_ cost hole counts worth met ways nextWays image isKept)[i]?) = (wX9 cyI cyJ cyZ cyO h book now sights sight signs pad nights townAt townCell reason acts at_ cost hole counts worth met ways nextWays image isKept).map some := rfl
              refine cl_i (rn_V (As := []) (rest := [.ref (h 0)]) (C := RX9) hx hb hml hown hT hK hN hP hD [0, 1, 2, 3, 4, 5, 6, 7, 8, 9, 10, 11, 12, 13] hC rfl (c_X9_endNight l D cyI cyJ cyZ cyO h H.size book now sights sight signs pad nights townAt townCell reason acts at_ cost hole counts worth met ways nextWays image isKept nf q3 hq3) wm_X9_101 wi_X9_endNight wl_X9_endNight wz_X9 wc_X9_endNight hd_X9_endNight ⟨rfl, rfl⟩ ⟨Nat.le_of_ble_eq_true rfl, Nat.le_of_ble_eq_true rfl⟩ (q0 := 0) (ci := 9) rfl rfl rfl rfl hl.1 rfl (Nat.le_of_ble_eq_true rfl) dX9_year_157 ⟨Nat.zero_le _, Nat.zero_le _⟩) hP hD hS hA [0, 1, 2, 3, 4, 5, 6, 7, 8, 9, 10, 11, 12, 13] hC [(true, 0), (true, 1), (true, 2), (true, 3), (true, 4), (true, 5), (true, 6), (true, 7), (true, 8), (true, 9), (true, 10), (true, 11), (true, 12), (true, 13)] (ws' := wX9 cyI cyJ cyZ cyO h book q3.2.1 sights sight signs pad q3.2.2.1 q3.2.2.2.1 q3.2.2.2.2 reason acts at_ cost hole counts worth met ways nextWays image isKept) rfl rfl rfl (fun H locs hP hD hS => ?_)
              refine va_put (ci := 9) (v := .int q3.1) (ty := .int) (C := RX9) (T := TX9) (N := 21) hx hb hT hin_X9 tyX9 tyX9_ok nmX9 hown hK hP hD hS 0 rfl rfl 9 (by decide) (hT _ wf_X9_125) (fun _ h9 => h9) rfl (tyX9_ok 9 (by decide)) rfl rfl (Nat.le_of_ble_eq_true rfl) dX9_year_160 (fun H locs hP hD hS => ?_)
              have hP : va_P D vwCl (wX9 cyI cyJ cyZ cyO h book q3.2.1 sights sight signs pad q3.2.2.1 q3.2.2.2.1 q3.2.2.2.2 q3.1 acts at_ cost hole counts worth met ways nextWays image isKept) H := hP
              have hD : va_D A (wX9 cyI cyJ cyZ cyO h book q3.2.1 sights sight signs pad q3.2.2.1 q3.2.2.2.1 q3.2.2.2.2 q3.1 acts at_ cost hole counts worth met ways nextWays image isKept) := hD
              exact b163 x2 x3 (((75 * x4) + 74) - ((75 * x4) + 74) / 65537 * 65537) x5 book q3.2.1 q3.2.2.1 q3.2.2.2.1 q3.2.2.2.2 q3.1 H locs ls hP hD hS (lv_sub hl [3, 4, 5, 2, 6] rfl) hf
            · replace hf := if_f cc hf
              refine lv_aload_n hx hb dX9_year_130 rfl (lv_at hl 3 rfl) ?_
              refine lv_aload_n hx hb dX9_year_131 rfl (lv_at hl 3 rfl) ?_
              refine lv_iload hx hb dX9_year_132 (lv_at hl 0 rfl) ?_
              refine lv_bipush (v := 25) hx hb dX9_year_134 (by decide) ?_
              refine lv_irem hx hb dX9_year_136 (by decide) ?_
              refine lv_iconst (v := 1) hx hb dX9_year_137 (by decide) ?_
              refine lv_iload hx hb dX9_year_138 (lv_at hl 0 rfl) ?_
              refine lv_bipush (v := 25) hx hb dX9_year_140 (by decide) ?_
              refine lv_idiv hx hb dX9_year_142 (by decide) ?_
              refine lv_iconst (v := 3) hx hb dX9_year_143 (by decide) ?_
              refine lv_irem hx hb dX9_year_144 (by decide) ?_
              refine lv_iadd hx hb dX9_year_145 ?_
              obtain ⟨q4, hq4, hf⟩ := bd_some hf
              have hC : [0, 1, 2, 3, 4, 5, 6, 7, 8, 9, 10, 11, 12, 13].map (fun i => (wX9 cyI cyJ cyZ cyO h book now sights sight signs pad nights townAt townCell reason acts at_ cost hole counts worth met ways nextWays image isKept)[i]?) = (wX9 cyI cyJ cyZ cyO h book now sights sight signs pad nights townAt townCell reason acts at_ cost hole counts worth met ways nextWays image isKept).map some := rfl
              refine cl_i (rn_V (As := [.int (((((75 * x4) + 74) - ((75 * x4) + 74) / 65537 * 65537) / 8) - ((((75 * x4) + 74) - ((75 * x4) + 74) / 65537 * 65537) / 8) / 25 * 25), .int (1 + ((((((75 * x4) + 74) - ((75 * x4) + 74) / 65537 * 65537) / 8) / 25) - (((((75 * x4) + 74) - ((75 * x4) + 74) / 65537 * 65537) / 8) / 25) / 3 * 3))]) (rest := [.ref (h 0)]) (C := RX9) hx hb hml hown hT hK hN hP hD [0, 1, 2, 3, 4, 5, 6, 7, 8, 9, 10, 11, 12, 13] hC rfl (c_X9_darn l D cyI cyJ cyZ cyO h H.size book now sights sight signs pad nights townAt townCell reason acts at_ cost hole counts worth met ways nextWays image isKept (((((75 * x4) + 74) - ((75 * x4) + 74) / 65537 * 65537) / 8) - ((((75 * x4) + 74) - ((75 * x4) + 74) / 65537 * 65537) / 8) / 25 * 25) (1 + ((((((75 * x4) + 74) - ((75 * x4) + 74) / 65537 * 65537) / 8) / 25) - (((((75 * x4) + 74) - ((75 * x4) + 74) / 65537 * 65537) / 8) / 25) / 3 * 3)) nf q4 hq4) wm_X9_104 wi_X9_darn wl_X9_darn wz_X9 wc_X9_darn hd_X9_darn ⟨rfl, rfl⟩ ⟨Nat.le_of_ble_eq_true rfl, Nat.le_of_ble_eq_true rfl⟩ (q0 := 0) (ci := 9) rfl rfl rfl rfl hl.1 rfl (Nat.le_of_ble_eq_true rfl) dX9_year_146 ⟨Nat.zero_le _, Nat.zero_le _⟩) hP hD hS hA [0, 1, 2, 3, 4, 5, 6, 7, 8, 9, 10, 11, 12, 13] hC [(true, 0), (true, 1), (true, 2), (true, 3), (true, 4), (true, 5), (true, 6), (true, 7), (true, 8), (true, 9), (true, 10), (true, 11), (true, 12), (true, 13)] (ws' := wX9 cyI cyJ cyZ cyO h book q4.2 sights sight signs pad nights townAt townCell reason acts at_ cost hole counts worth met ways nextWays image isKept) rfl rfl rfl (fun H locs hP hD hS => ?_)
              refine va_put (ci := 9) (v := .int q4.1) (ty := .int) (C := RX9) (T := TX9) (N := 21) hx hb hT hin_X9 tyX9 tyX9_ok nmX9 hown hK hP hD hS 0 rfl rfl 9 (by decide) (hT _ wf_X9_125) (fun _ h9 => h9) rfl (tyX9_ok 9 (by decide)) rfl rfl (Nat.le_of_ble_eq_true rfl) dX9_year_149 (fun H locs hP hD hS => ?_)
              have hP : va_P D vwCl (wX9 cyI cyJ cyZ cyO h book q4.2 sights sight signs pad nights townAt townCell q4.1 acts at_ cost hole counts worth met ways nextWays image isKept) H := hP
              have hD : va_D A (wX9 cyI cyJ cyZ cyO h book q4.2 sights sight signs pad nights townAt townCell q4.1 acts at_ cost hole counts worth met ways nextWays image isKept) := hD
              refine lv_goto (tgt := 163) hx hb dX9_year_152 (by decide) ?_
              exact b163 x2 x3 (((75 * x4) + 74) - ((75 * x4) + 74) / 65537 * 65537) x5 book q4.2 nights townAt townCell q4.1 H locs ls hP hD hS (lv_sub hl [3, 4, 5, 2, 6] rfl) hf
          · replace hf := if_t cc hf
            refine lv_aload_n hx hb dX9_year_108 rfl (lv_at hl 3 rfl) ?_
            refine lv_aload_n hx hb dX9_year_109 rfl (lv_at hl 3 rfl) ?_
            refine lv_iload hx hb dX9_year_110 (lv_at hl 0 rfl) ?_
            refine lv_bipush (v := 25) hx hb dX9_year_112 (by decide) ?_
            refine lv_irem hx hb dX9_year_114 (by decide) ?_
            obtain ⟨q5, hq5, hf⟩ := bd_some hf
            have hC : [0, 1, 2, 3, 4, 5, 6, 7, 8, 9, 10, 11, 12, 13].map (fun i => (wX9 cyI cyJ cyZ cyO h book now sights sight signs pad nights townAt townCell reason acts at_ cost hole counts worth met ways nextWays image isKept)[i]?) = (wX9 cyI cyJ cyZ cyO h book now sights sight signs pad nights townAt townCell reason acts at_ cost hole counts worth met ways nextWays image isKept).map some := rfl
            refine cl_i (rn_V (As := [.int (((((75 * x4) + 74) - ((75 * x4) + 74) / 65537 * 65537) / 8) - ((((75 * x4) + 74) - ((75 * x4) + 74) / 65537 * 65537) / 8) / 25 * 25)]) (rest := [.ref (h 0)]) (C := RX9) hx hb hml hown hT hK hN hP hD [0, 1, 2, 3, 4, 5, 6, 7, 8, 9, 10, 11, 12, 13] hC rfl (c_X9_strew l D cyI cyJ cyZ cyO h H.size book now sights sight signs pad nights townAt townCell reason acts at_ cost hole counts worth met ways nextWays image isKept (((((75 * x4) + 74) - ((75 * x4) + 74) / 65537 * 65537) / 8) - ((((75 * x4) + 74) - ((75 * x4) + 74) / 65537 * 65537) / 8) / 25 * 25) nf q5 hq5) wm_X9_107 wi_X9_strew wl_X9_strew wz_X9 wc_X9_strew hd_X9_strew ⟨rfl, rfl⟩ ⟨Nat.le_of_ble_eq_true rfl, Nat.le_of_ble_eq_true rfl⟩ (q0 := 0) (ci := 9) rfl rfl rfl rfl hl.1 rfl (Nat.le_of_ble_eq_true rfl) dX9_year_115 ⟨Nat.zero_le _, Nat.zero_le _⟩) hP hD hS hA [0, 1, 2, 3, 4, 5, 6, 7, 8, 9, 10, 11, 12, 13] hC [(true, 0), (true, 1), (true, 2), (true, 3), (true, 4), (true, 5), (true, 6), (true, 7), (true, 8), (true, 9), (true, 10), (true, 11), (true, 12), (true, 13)] (ws' := wX9 cyI cyJ cyZ cyO h book q5.2 sights sight signs pad nights townAt townCell reason acts at_ cost hole counts worth met ways nextWays image isKept) rfl rfl rfl (fun H locs hP hD hS => ?_)
            refine va_put (ci := 9) (v := .int q5.1) (ty := .int) (C := RX9) (T := TX9) (N := 21) hx hb hT hin_X9 tyX9 tyX9_ok nmX9 hown hK hP hD hS 0 rfl rfl 9 (by decide) (hT _ wf_X9_125) (fun _ h9 => h9) rfl (tyX9_ok 9 (by decide)) rfl rfl (Nat.le_of_ble_eq_true rfl) dX9_year_118 (fun H locs hP hD hS => ?_)
            have hP : va_P D vwCl (wX9 cyI cyJ cyZ cyO h book q5.2 sights sight signs pad nights townAt townCell q5.1 acts at_ cost hole counts worth met ways nextWays image isKept) H := hP
            have hD : va_D A (wX9 cyI cyJ cyZ cyO h book q5.2 sights sight signs pad nights townAt townCell q5.1 acts at_ cost hole counts worth met ways nextWays image isKept) := hD
            refine lv_goto (tgt := 163) hx hb dX9_year_121 (by decide) ?_
            exact b163 x2 x3 (((75 * x4) + 74) - ((75 * x4) + 74) / 65537 * 65537) x5 book q5.2 nights townAt townCell q5.1 H locs ls hP hD hS (lv_sub hl [3, 4, 5, 2, 6] rfl) hf
        · replace hf := if_t cc hf
          refine lv_aload_n hx hb dX9_year_81 rfl (lv_at hl 3 rfl) ?_
          refine lv_aload_n hx hb dX9_year_82 rfl (lv_at hl 3 rfl) ?_
          refine lv_iload hx hb dX9_year_83 (lv_at hl 0 rfl) ?_
          refine lv_iconst (v := 4) hx hb dX9_year_85 (by decide) ?_
          refine lv_irem hx hb dX9_year_86 (by decide) ?_
          refine lv_iload hx hb dX9_year_87 (lv_at hl 0 rfl) ?_
          refine lv_iconst (v := 4) hx hb dX9_year_89 (by decide) ?_
          refine lv_idiv hx hb dX9_year_90 (by decide) ?_
          refine lv_iconst (v := 4) hx hb dX9_year_91 (by decide) ?_
          refine lv_irem hx hb dX9_year_92 (by decide) ?_
          obtain ⟨q6, hq6, hf⟩ := bd_some hf
          have hC : [0, 1, 2, 3, 4, 5, 6, 7, 8, 9, 10, 11, 12, 13].map (fun i => (wX9 cyI cyJ cyZ cyO h book now sights sight signs pad nights townAt townCell reason acts at_ cost hole counts worth met ways nextWays image isKept)[i]?) = (wX9 cyI cyJ cyZ cyO h book now sights sight signs pad nights townAt townCell reason acts at_ cost hole counts worth met ways nextWays image isKept).map some := rfl
          refine cl_i (rn_V (As := [.int (((((75 * x4) + 74) - ((75 * x4) + 74) / 65537 * 65537) / 8) - ((((75 * x4) + 74) - ((75 * x4) + 74) / 65537 * 65537) / 8) / 4 * 4), .int ((((((75 * x4) + 74) - ((75 * x4) + 74) / 65537 * 65537) / 8) / 4) - (((((75 * x4) + 74) - ((75 * x4) + 74) / 65537 * 65537) / 8) / 4) / 4 * 4)]) (rest := [.ref (h 0)]) (C := RX9) hx hb hml hown hT hK hN hP hD [0, 1, 2, 3, 4, 5, 6, 7, 8, 9, 10, 11, 12, 13] hC rfl (c_X9_turn l D cyI cyJ cyZ cyO h H.size book now sights sight signs pad nights townAt townCell reason acts at_ cost hole counts worth met ways nextWays image isKept (((((75 * x4) + 74) - ((75 * x4) + 74) / 65537 * 65537) / 8) - ((((75 * x4) + 74) - ((75 * x4) + 74) / 65537 * 65537) / 8) / 4 * 4) ((((((75 * x4) + 74) - ((75 * x4) + 74) / 65537 * 65537) / 8) / 4) - (((((75 * x4) + 74) - ((75 * x4) + 74) / 65537 * 65537) / 8) / 4) / 4 * 4) nf q6 hq6) wm_X9_113 wi_X9_turn wl_X9_turn wz_X9 wc_X9_turn hd_X9_turn ⟨rfl, rfl⟩ ⟨Nat.le_of_ble_eq_true rfl, Nat.le_of_ble_eq_true rfl⟩ (q0 := 0) (ci := 9) rfl rfl rfl rfl hl.1 rfl (Nat.le_of_ble_eq_true rfl) dX9_year_93 ⟨Nat.zero_le _, Nat.zero_le _⟩) hP hD hS hA [0, 1, 2, 3, 4, 5, 6, 7, 8, 9, 10, 11, 12, 13] hC [(true, 0), (true, 1), (true, 2), (true, 3), (true, 4), (true, 5), (true, 6), (true, 7), (true, 8), (true, 9), (true, 10), (true, 11), (true, 12), (true, 13)] (ws' := wX9 cyI cyJ cyZ cyO h book q6.2 sights sight signs pad nights townAt townCell reason acts at_ cost hole counts worth met ways nextWays image isKept) rfl rfl rfl (fun H locs hP hD hS => ?_)
          refine va_put (ci := 9) (v := .int q6.1) (ty := .int) (C := RX9) (T := TX9) (N := 21) hx hb hT hin_X9 tyX9 tyX9_ok nmX9 hown hK hP hD hS 0 rfl rfl 9 (by decide) (hT _ wf_X9_125) (fun _ h9 => h9) rfl (tyX9_ok 9 (by decide)) rfl rfl (Nat.le_of_ble_eq_true rfl) dX9_year_96 (fun H locs hP hD hS => ?_)
          have hP : va_P D vwCl (wX9 cyI cyJ cyZ cyO h book q6.2 sights sight signs pad nights townAt townCell q6.1 acts at_ cost hole counts worth met ways nextWays image isKept) H := hP
          have hD : va_D A (wX9 cyI cyJ cyZ cyO h book q6.2 sights sight signs pad nights townAt townCell q6.1 acts at_ cost hole counts worth met ways nextWays image isKept) := hD
          refine lv_goto (tgt := 163) hx hb dX9_year_99 (by decide) ?_
          exact b163 x2 x3 (((75 * x4) + 74) - ((75 * x4) + 74) / 65537 * 65537) x5 book q6.2 nights townAt townCell q6.1 H locs ls hP hD hS (lv_sub hl [3, 4, 5, 2, 6] rfl) hf
  have main : ∀ (H : Heap) (locs : List Loc) (ls : Array Slot), va_P D vwCl (wX9 cyI cyJ cyZ cyO h book now sights sight signs pad nights townAt townCell reason acts at_ cost hole counts worth met ways nextWays image isKept) H → va_D A (wX9 cyI cyJ cyZ cyO h book now sights sight signs pad nights townAt townCell reason acts at_ cost hole counts worth met ways nextWays image isKept) → va_S A s.heap H locs → lv_has ls 8 [(0, .ref (h 0)), (1, .int p1), (2, .int p2), (3, .int p3)] → W p l e ({ frames := 3, cells := 0, slots := 0, locals := 68 } : Room) s m ([.ref (h 0), .int p1, .int p2, .int p3] : List Value).toArray below meth c H locs 0 0 (MQ below (qI D (wX9 cyI cyJ cyZ cyO h book q.2.1 sights sight signs pad q.2.2.1 q.2.2.2.1 q.2.2.2.2.1 q.2.2.2.2.2 acts at_ cost hole counts worth met ways nextWays image isKept) q.1 A) ([.ref (h 0), .int p1, .int p2, .int p3] : List Value).toArray s 0 0 A) (F0 m 0 ls []) := by
    intro H locs ls hP hD hS hl
    unfold g_X9_year at hf
    refine lv_iload_n hx hb dX9_year_0 rfl (lv_at hl 1 rfl) ?_
    refine lv_iconst (v := 0) hx hb dX9_year_1 (by decide) ?_
    refine lv_sipush (v := 9999) hx hb dX9_year_2 (by decide) ?_
    obtain ⟨q7, hq7, hf⟩ := bd_some hf
    have hC : ([] : List Nat).map (fun i => (wX9 cyI cyJ cyZ cyO h book now sights sight signs pad nights townAt townCell reason acts at_ cost hole counts worth met ways nextWays image isKept)[i]?) = ([] : va_W).map some := rfl
    refine cl_i (rn_S (As := [.int p1, .int 0, .int 9999]) (rest := []) hx hb hml hown hT hK hN hP hD [] hC rfl (c_X9_in l D cyI cyJ cyZ cyO H.size p1 0 9999 nf q7 hq7) wm_X9_51 wt_X9_in wz_X9 wc_X9_in hd_X9_in ⟨rfl, rfl⟩ ⟨Nat.le_of_ble_eq_true rfl, Nat.le_of_ble_eq_true rfl⟩ rfl hl.1 rfl (Nat.le_of_ble_eq_true rfl) dX9_year_5 ⟨Nat.zero_le _, Nat.zero_le _⟩) hP hD hS hA [] hC [(false, 0), (false, 1), (false, 2), (false, 3), (false, 4), (false, 5), (false, 6), (false, 7), (false, 8), (false, 9), (false, 10), (false, 11), (false, 12), (false, 13)] (ws' := wX9 cyI cyJ cyZ cyO h book now sights sight signs pad nights townAt townCell reason acts at_ cost hole counts worth met ways nextWays image isKept) rfl rfl rfl (fun H locs hP hD hS => ?_)
    refine lv_if_eq (tgt := 30) hx hb dX9_year_8 (by decide) (fun cc => ?_) (fun cc => ?_)
    · replace hf := if_t cc hf
      refine lv_bipush (v := (-2)) hx hb dX9_year_30 (by decide) ?_
      cases Option.some.inj hf
      exact W.iret hx hb hr (fun t ht hW => ⟨⟨_, (), rfl, rfl, by show va_P D vwCl _ t.heap; rw [ht]; exact hP⟩, hS.F ht⟩) hS.2.2 dX9_year_32
    · replace hf := if_f cc hf
      refine lv_iload_n hx hb dX9_year_11 rfl (lv_at hl 2 rfl) ?_
      refine lv_iconst (v := 1) hx hb dX9_year_12 (by decide) ?_
      refine lv_bipush (v := 99) hx hb dX9_year_13 (by decide) ?_
      obtain ⟨q8, hq8, hf⟩ := bd_some hf
      have hC : ([] : List Nat).map (fun i => (wX9 cyI cyJ cyZ cyO h book now sights sight signs pad nights townAt townCell reason acts at_ cost hole counts worth met ways nextWays image isKept)[i]?) = ([] : va_W).map some := rfl
      refine cl_i (rn_S (As := [.int p2, .int 1, .int 99]) (rest := []) hx hb hml hown hT hK hN hP hD [] hC rfl (c_X9_in l D cyI cyJ cyZ cyO H.size p2 1 99 nf q8 hq8) wm_X9_51 wt_X9_in wz_X9 wc_X9_in hd_X9_in ⟨rfl, rfl⟩ ⟨Nat.le_of_ble_eq_true rfl, Nat.le_of_ble_eq_true rfl⟩ rfl hl.1 rfl (Nat.le_of_ble_eq_true rfl) dX9_year_15 ⟨Nat.zero_le _, Nat.zero_le _⟩) hP hD hS hA [] hC [(false, 0), (false, 1), (false, 2), (false, 3), (false, 4), (false, 5), (false, 6), (false, 7), (false, 8), (false, 9), (false, 10), (false, 11), (false, 12), (false, 13)] (ws' := wX9 cyI cyJ cyZ cyO h book now sights sight signs pad nights townAt townCell reason acts at_ cost hole counts worth met ways nextWays image isKept) rfl rfl rfl (fun H locs hP hD hS => ?_)
      refine lv_if_eq (tgt := 30) hx hb dX9_year_18 (by decide) (fun cc => ?_) (fun cc => ?_)
      · replace hf := if_t cc hf
        refine lv_bipush (v := (-2)) hx hb dX9_year_30 (by decide) ?_
        cases Option.some.inj hf
        exact W.iret hx hb hr (fun t ht hW => ⟨⟨_, (), rfl, rfl, by show va_P D vwCl _ t.heap; rw [ht]; exact hP⟩, hS.F ht⟩) hS.2.2 dX9_year_32
      · replace hf := if_f cc hf
        refine lv_iload_n hx hb dX9_year_21 rfl (lv_at hl 3 rfl) ?_
        refine lv_iconst (v := 0) hx hb dX9_year_22 (by decide) ?_
        refine lv_iconst (v := 2) hx hb dX9_year_23 (by decide) ?_
        obtain ⟨q9, hq9, hf⟩ := bd_some hf
        have hC : ([] : List Nat).map (fun i => (wX9 cyI cyJ cyZ cyO h book now sights sight signs pad nights townAt townCell reason acts at_ cost hole counts worth met ways nextWays image isKept)[i]?) = ([] : va_W).map some := rfl
        refine cl_i (rn_S (As := [.int p3, .int 0, .int 2]) (rest := []) hx hb hml hown hT hK hN hP hD [] hC rfl (c_X9_in l D cyI cyJ cyZ cyO H.size p3 0 2 nf q9 hq9) wm_X9_51 wt_X9_in wz_X9 wc_X9_in hd_X9_in ⟨rfl, rfl⟩ ⟨Nat.le_of_ble_eq_true rfl, Nat.le_of_ble_eq_true rfl⟩ rfl hl.1 rfl (Nat.le_of_ble_eq_true rfl) dX9_year_24 ⟨Nat.zero_le _, Nat.zero_le _⟩) hP hD hS hA [] hC [(false, 0), (false, 1), (false, 2), (false, 3), (false, 4), (false, 5), (false, 6), (false, 7), (false, 8), (false, 9), (false, 10), (false, 11), (false, 12), (false, 13)] (ws' := wX9 cyI cyJ cyZ cyO h book now sights sight signs pad nights townAt townCell reason acts at_ cost hole counts worth met ways nextWays image isKept) rfl rfl rfl (fun H locs hP hD hS => ?_)
        refine lv_if_ne (tgt := 33) hx hb dX9_year_27 (by decide) (fun cc => ?_) (fun cc => ?_)
        · replace hf := if_f cc hf
          refine lv_aload_n hx hb dX9_year_33 rfl (lv_at hl 0 rfl) ?_
          obtain ⟨q10, hq10, hf⟩ := bd_some hf
          have hC : [0, 1, 2, 3, 4, 5, 6, 7, 8, 9, 10, 11, 12, 13].map (fun i => (wX9 cyI cyJ cyZ cyO h book now sights sight signs pad nights townAt townCell reason acts at_ cost hole counts worth met ways nextWays image isKept)[i]?) = (wX9 cyI cyJ cyZ cyO h book now sights sight signs pad nights townAt townCell reason acts at_ cost hole counts worth met ways nextWays image isKept).map some := rfl
          refine cl_v (rn_V (As := []) (rest := []) (C := RX9) hx hb hml hown hT hK hN hP hD [0, 1, 2, 3, 4, 5, 6, 7, 8, 9, 10, 11, 12, 13] hC rfl (c_X9_asNow l D cyI cyJ cyZ cyO h H.size book now sights sight signs pad nights townAt townCell reason acts at_ cost hole counts worth met ways nextWays image isKept nf q10 hq10) wm_X9_116 wi_X9_asNow wl_X9_asNow wz_X9 wc_X9_asNow hd_X9_asNow ⟨rfl, rfl⟩ ⟨Nat.le_of_ble_eq_true rfl, Nat.le_of_ble_eq_true rfl⟩ (q0 := 0) (ci := 9) rfl rfl rfl rfl hl.1 rfl (Nat.le_of_ble_eq_true rfl) dX9_year_34 ⟨Nat.zero_le _, Nat.zero_le _⟩) hP hD hS hA [0, 1, 2, 3, 4, 5, 6, 7, 8, 9, 10, 11, 12, 13] hC [(true, 0), (true, 1), (true, 2), (true, 3), (true, 4), (true, 5), (true, 6), (true, 7), (true, 8), (true, 9), (true, 10), (true, 11), (true, 12), (true, 13)] (ws' := wX9 cyI cyJ cyZ cyO h book q10.1 sights sight signs pad q10.2.1 q10.2.2.1 q10.2.2.2 reason acts at_ cost hole counts worth met ways nextWays image isKept) rfl rfl rfl (fun H locs hP hD hS => ?_)
          refine lv_iload_n hx hb dX9_year_37 rfl (lv_at hl 1 rfl) ?_
          refine lv_istore (lv' := [(4, .int p1), (0, .ref (h 0)), (1, .int p1), (2, .int p2), (3, .int p3)]) hx hb dX9_year_38 hl (by decide) rfl (fun ls hl => ?_)
          refine lv_iconst (v := 0) hx hb dX9_year_40 (by decide) ?_
          refine lv_istore (lv' := [(5, .int 0), (4, .int p1), (0, .ref (h 0)), (1, .int p1), (2, .int p2), (3, .int p3)]) hx hb dX9_year_41 hl (by decide) rfl (fun ls hl => ?_)
          exact l43 nf p2 p3 p1 0 book q10.1 q10.2.1 q10.2.2.1 q10.2.2.2 reason H locs ls hP hD hS (lv_sub hl [2, 4, 5, 1, 0] rfl) hf
        · replace hf := if_t cc hf
          refine lv_bipush (v := (-2)) hx hb dX9_year_30 (by decide) ?_
          cases Option.some.inj hf
          exact W.iret hx hb hr (fun t ht hW => ⟨⟨_, (), rfl, rfl, by show va_P D vwCl _ t.heap; rw [ht]; exact hP⟩, hS.F ht⟩) hS.2.2 dX9_year_32
  have hl := lv_entry ([.ref (h 0), .int p1, .int p2, .int p3]) (n := 8) (Nat.le_of_ble_eq_true rfl)
  rw [lg_entry_eq]
  exact main s.heap [] _ hP hD hS hl
theorem hd_X9_image : yX9_image.cls = RX9 ∧ yX9_image.cls ≠ "java/lang/invoke/MethodHandle" ∧ yX9_image.cls ≠ "java/lang/invoke/VarHandle" ∧ (parseMethodDescriptor yX9_image.desc).map (fun d => d.parameters.length) = some 1 := by decide +kernel
set_option maxHeartbeats 4000000 in
set_option maxRecDepth 100000 in
theorem c_X9_image (l : Launch) (D : va_G) (cyI cyJ cyZ cyO : ClassId) (h : Nat → Nat) (sz : Nat) (book : Nat → Int32) (now : Nat → Int32) (sights : Int32) (sight : Nat → Int32) (signs : Int32) (pad : Nat → Int32) (nights : Int32) (townAt : Int32) (townCell : Int32) (reason : Int32) (acts : Int32) (at_ : Int32) (cost : Nat → Int32) (hole : Nat → Int32) (counts : Nat → Int32) (worth : Nat → Int32) (met : Nat → Int32) (ways : Nat → Int64) (nextWays : Nat → Int64) (image : Nat → Int32) (isKept : Nat → Int32) (p1 : Int32) (nf : Nat) (q : Int32 × (Nat → Int32) × (Nat → Int32)) (hf : g_X9_image nf p1 book sights sight image isKept = some q) : Met l yX9_image (Cond.code yX9_image cX9_image 4 (some .int) :: tbG) ({ frames := 1, cells := 0, slots := 0, locals := 22 } : Room) (va_Pc [.ref (h 0), .int p1] (pcB D (ty4 cyI cyJ cyZ cyO) sz (wX9 cyI cyJ cyZ cyO h book now sights sight signs pad nights townAt townCell reason acts at_ cost hole counts worth met ways nextWays image isKept))) (qI D (wX9 cyI cyJ cyZ cyO h book now sights sight signs pad nights townAt townCell reason acts at_ cost hole counts worth met ways nextWays q.2.1 q.2.2) q.1 (va_A (wX9 cyI cyJ cyZ cyO h book now sights sight signs pad nights townAt townCell reason acts at_ cost hole counts worth met ways nextWays image isKept) sz)) 0 0 (va_A (wX9 cyI cyJ cyZ cyO h book now sights sight signs pad nights townAt townCell reason acts at_ cost hole counts worth met ways nextWays image isKept) sz) := by
  refine Met.ofW (cc := cX9_image) (maxL := 4) (ret := (some .int)) (by decide) rfl ?_
  intro p e s m args below meth c s₁ B hml hv
  obtain ⟨rfl, hsz, hP, hK, hD0, hN⟩ := hv
  have hx := B.exec
  have hb := B.bytes
  have hr := B.returns
  have hT : ∀ w ∈ tbG, w.before ([.ref (h 0), .int p1] : List Value).toArray s = true := fun w h => atoms_spec (ws := (Cond.code yX9_image cX9_image 4 (some .int) :: tbG)) B.pre w (List.mem_cons_of_mem _ h)
  have hown : s.vm.findClass RX9 = some m.cls := findClass_of_methodNamed B.named
  have hlocks := B.notSynchronized
  subst hsz
  have hD := hD0.self (sz := s.heap.size)
  generalize hAe : va_A (wX9 cyI cyJ cyZ cyO h book now sights sight signs pad nights townAt townCell reason acts at_ cost hole counts worth met ways nextWays image isKept) s.heap.size = A at hD ⊢
  have hA : ∀ q : Nat, s.heap.size ≤ q → A q := fun q h => by rw [← hAe]; exact Or.inr h
  have hS : va_S A s.heap s.heap [] := va_S.rf
  show W p l e ({ frames := 1, cells := 0, slots := 0, locals := 22 } : Room) s m ([.ref (h 0), .int p1] : List Value).toArray below meth c s.heap [] 0 0 (MQ below (qI D (wX9 cyI cyJ cyZ cyO h book now sights sight signs pad nights townAt townCell reason acts at_ cost hole counts worth met ways nextWays q.2.1 q.2.2) q.1 A) ([.ref (h 0), .int p1] : List Value).toArray s 0 0 A) _
  have l47 : ∀ (n47 : Nat) (x1 : Int32) (x2 : Int32) (x3 : Int32) (book : Nat → Int32) (sights : Int32) (sight : Nat → Int32) (image : Nat → Int32) (isKept : Nat → Int32) (H : Heap) (locs : List Loc) (ls : Array Slot), va_P D vwCl (wX9 cyI cyJ cyZ cyO h book now sights sight signs pad nights townAt townCell reason acts at_ cost hole counts worth met ways nextWays image isKept) H → va_D A (wX9 cyI cyJ cyZ cyO h book now sights sight signs pad nights townAt townCell reason acts at_ cost hole counts worth met ways nextWays image isKept) → va_S A s.heap H locs → lv_has ls 4 [(0, .ref (h 0)), (1, .int x1), (2, .int x2), (3, .int x3)] → g_X9_image_l47 nf n47 x1 x2 x3 book sights sight image isKept = some q → W p l e ({ frames := 1, cells := 0, slots := 0, locals := 22 } : Room) s m ([.ref (h 0), .int p1] : List Value).toArray below meth c H locs 0 0 (MQ below (qI D (wX9 cyI cyJ cyZ cyO h book now sights sight signs pad nights townAt townCell reason acts at_ cost hole counts worth met ways nextWays q.2.1 q.2.2) q.1 A) ([.ref (h 0), .int p1] : List Value).toArray s 0 0 A) (F0 m 47 ls []) := by
    intro n47
    induction n47 with
    | zero =>
      intro x1 x2 x3 book sights sight image isKept H locs ls hP hD hS hl hf
      rw [g_X9_image_l47] at hf
      cases hf
    | succ n47 ih47 =>
      intro x1 x2 x3 book sights sight image isKept H locs ls hP hD hS hl hf
      rw [g_X9_image_l47] at hf
      refine lv_iload_n hx hb dX9_image_47 rfl (lv_at hl 3 rfl) ?_
      refine lv_bipush (v := 16) hx hb dX9_image_48 (by decide) ?_
      refine lv_icmp_ge (tgt := 76) hx hb dX9_image_50 (by decide) (fun cc => ?_) (fun cc => ?_)
      · replace hf := if_t cc hf
        refine lv_aload_n hx hb dX9_image_76 rfl (lv_at hl 0 rfl) ?_
        refine va_get (ci := 9) (v := .ref (h 12)) (C := RX9) (T := TX9) (N := 21) hx hb hT hin_X9 hown hK hP 0 rfl rfl 19 (by decide) (hT _ wf_X9_44) (fun _ h9 => h9) rfl dX9_image_77 ?_
        refine lv_iload_n hx hb dX9_image_80 rfl (lv_at hl 2 rfl) ?_
        refine lv_bipush (v := 80) hx hb dX9_image_81 (by decide) ?_
        refine lv_iadd hx hb dX9_image_83 ?_
        refine lv_aload_n hx hb dX9_image_84 rfl (lv_at hl 0 rfl) ?_
        refine va_get (ci := 9) (v := .int sights) (C := RX9) (T := TX9) (N := 21) hx hb hT hin_X9 hown hK hP 0 rfl rfl 2 (by decide) (hT _ wf_X9_161) (fun _ h9 => h9) rfl dX9_image_85 ?_
        obtain ⟨hi, hf⟩ := ck_some hf
        refine va_iast hx hb hK hP hD hS 12 0 rfl rfl hi dX9_image_88 (fun H locs hP hD hS => ?_)
        have hP : va_P D vwCl (wX9 cyI cyJ cyZ cyO h book now sights sight signs pad nights townAt townCell reason acts at_ cost hole counts worth met ways nextWays (upd image (x2 + 80).toNatClampNeg sights) isKept) H := hP
        have hD : va_D A (wX9 cyI cyJ cyZ cyO h book now sights sight signs pad nights townAt townCell reason acts at_ cost hole counts worth met ways nextWays (upd image (x2 + 80).toNatClampNeg sights) isKept) := hD
        refine lv_aload_n hx hb dX9_image_89 rfl (lv_at hl 0 rfl) ?_
        refine va_get (ci := 9) (v := .ref (h 13)) (C := RX9) (T := TX9) (N := 21) hx hb hT hin_X9 hown hK hP 0 rfl rfl 20 (by decide) (hT _ wf_X9_47) (fun _ h9 => h9) rfl dX9_image_90 ?_
        refine lv_iload_n hx hb dX9_image_93 rfl (lv_at hl 1 rfl) ?_
        refine lv_iconst (v := 1) hx hb dX9_image_94 (by decide) ?_
        obtain ⟨hi, hf⟩ := ck_some hf
        obtain ⟨hz, hf⟩ := bz_some hf
        refine va_zast hx hb hK hP hD hS 13 2 rfl rfl hi dX9_image_95 (fun H locs hP hD hS => ?_)
        rw [(bz_nar hz).1] at hP hD
        have hP : va_P D vwCl (wX9 cyI cyJ cyZ cyO h book now sights sight signs pad nights townAt townCell reason acts at_ cost hole counts worth met ways nextWays (upd image (x2 + 80).toNatClampNeg sights) (upd isKept x1.toNatClampNeg 1)) H := hP
        have hD : va_D A (wX9 cyI cyJ cyZ cyO h book now sights sight signs pad nights townAt townCell reason acts at_ cost hole counts worth met ways nextWays (upd image (x2 + 80).toNatClampNeg sights) (upd isKept x1.toNatClampNeg 1)) := hD
        refine lv_iconst (v := 1) hx hb dX9_image_96 (by decide) ?_
        cases Option.some.inj hf
        exact W.iret hx hb hr (fun t ht hW => ⟨⟨_, (), rfl, rfl, by show va_P D vwCl _ t.heap; rw [ht]; exact hP⟩, hS.F ht⟩) hS.2.2 dX9_image_97
      · replace hf := if_f cc hf
        refine lv_aload_n hx hb dX9_image_53 rfl (lv_at hl 0 rfl) ?_
        refine va_get (ci := 9) (v := .ref (h 12)) (C := RX9) (T := TX9) (N := 21) hx hb hT hin_X9 hown hK hP 0 rfl rfl 19 (by decide) (hT _ wf_X9_44) (fun _ h9 => h9) rfl dX9_image_54 ?_
        refine lv_iload_n hx hb dX9_image_57 rfl (lv_at hl 2 rfl) ?_
        refine lv_bipush (v := 63) hx hb dX9_image_58 (by decide) ?_
        refine lv_iadd hx hb dX9_image_60 ?_
        refine lv_iload_n hx hb dX9_image_61 rfl (lv_at hl 3 rfl) ?_
        refine lv_iadd hx hb dX9_image_62 ?_
        refine lv_aload_n hx hb dX9_image_63 rfl (lv_at hl 0 rfl) ?_
        refine va_get (ci := 9) (v := .ref (h 3)) (C := RX9) (T := TX9) (N := 21) hx hb hT hin_X9 hown hK hP 0 rfl rfl 3 (by decide) (hT _ wf_X9_16) (fun _ h9 => h9) rfl dX9_image_64 ?_
        refine lv_iload_n hx hb dX9_image_67 rfl (lv_at hl 3 rfl) ?_
        obtain ⟨hi, hf⟩ := ck_some hf
        refine va_iald hx hb hK hP 3 0 rfl rfl hi dX9_image_68 ?_
        obtain ⟨hi, hf⟩ := ck_some hf
        refine va_iast hx hb hK hP hD hS 12 0 rfl rfl hi dX9_image_69 (fun H locs hP hD hS => ?_)
        have hP : va_P D vwCl (wX9 cyI cyJ cyZ cyO h book now sights sight signs pad nights townAt townCell reason acts at_ cost hole counts worth met ways nextWays (upd image ((x2 + 63) + x3).toNatClampNeg (sight x3.toNatClampNeg)) isKept) H := hP
        have hD : va_D A (wX9 cyI cyJ cyZ cyO h book now sights sight signs pad nights townAt townCell reason acts at_ cost hole counts worth met ways nextWays (upd image ((x2 + 63) + x3).toNatClampNeg (sight x3.toNatClampNeg)) isKept) := hD
        refine lv_iinc (v := (x3 + 1)) (lv' := [(3, .int (x3 + 1)), (0, .ref (h 0)), (1, .int x1), (2, .int x2)]) hx hb dX9_image_70 hl (k := 3) rfl rfl (by decide) rfl (fun ls hl => ?_)
        refine lv_goto (tgt := 47) hx hb dX9_image_73 (by decide) ?_
        exact ih47 x1 x2 (x3 + 1) book sights sight (upd image ((x2 + 63) + x3).toNatClampNeg (sight x3.toNatClampNeg)) isKept H locs ls hP hD hS (lv_sub hl [1, 2, 3, 0] rfl) hf
  have l19 : ∀ (n19 : Nat) (x1 : Int32) (x2 : Int32) (x3 : Int32) (book : Nat → Int32) (sights : Int32) (sight : Nat → Int32) (image : Nat → Int32) (isKept : Nat → Int32) (H : Heap) (locs : List Loc) (ls : Array Slot), va_P D vwCl (wX9 cyI cyJ cyZ cyO h book now sights sight signs pad nights townAt townCell reason acts at_ cost hole counts worth met ways nextWays image isKept) H → va_D A (wX9 cyI cyJ cyZ cyO h book now sights sight signs pad nights townAt townCell reason acts at_ cost hole counts worth met ways nextWays image isKept) → va_S A s.heap H locs → lv_has ls 4 [(0, .ref (h 0)), (1, .int x1), (2, .int x2), (3, .int x3)] → g_X9_image_l19 nf n19 x1 x2 x3 book sights sight image isKept = some q → W p l e ({ frames := 1, cells := 0, slots := 0, locals := 22 } : Room) s m ([.ref (h 0), .int p1] : List Value).toArray below meth c H locs 0 0 (MQ below (qI D (wX9 cyI cyJ cyZ cyO h book now sights sight signs pad nights townAt townCell reason acts at_ cost hole counts worth met ways nextWays q.2.1 q.2.2) q.1 A) ([.ref (h 0), .int p1] : List Value).toArray s 0 0 A) (F0 m 19 ls []) := by
    intro n19
    induction n19 with
    | zero =>
      intro x1 x2 x3 book sights sight image isKept H locs ls hP hD hS hl hf
      rw [g_X9_image_l19] at hf
      cases hf
    | succ n19 ih19 =>
      intro x1 x2 x3 book sights sight image isKept H locs ls hP hD hS hl hf
      rw [g_X9_image_l19] at hf
      refine lv_iload_n hx hb dX9_image_19 rfl (lv_at hl 3 rfl) ?_
      refine lv_bipush (v := 63) hx hb dX9_image_20 (by decide) ?_
      refine lv_icmp_ge (tgt := 45) hx hb dX9_image_22 (by decide) (fun cc => ?_) (fun cc => ?_)
      · replace hf := if_t cc hf
        refine lv_iconst (v := 0) hx hb dX9_image_45 (by decide) ?_
        refine lv_istore_n (lv' := [(3, .int 0), (0, .ref (h 0)), (1, .int x1), (2, .int x2)]) hx hb dX9_image_46 rfl hl (by decide) rfl (fun ls hl => ?_)
        exact l47 nf x1 x2 0 book sights sight image isKept H locs ls hP hD hS (lv_sub hl [1, 2, 3, 0] rfl) hf
      · replace hf := if_f cc hf
        refine lv_aload_n hx hb dX9_image_25 rfl (lv_at hl 0 rfl) ?_
        refine va_get (ci := 9) (v := .ref (h 12)) (C := RX9) (T := TX9) (N := 21) hx hb hT hin_X9 hown hK hP 0 rfl rfl 19 (by decide) (hT _ wf_X9_44) (fun _ h9 => h9) rfl dX9_image_26 ?_
        refine lv_iload_n hx hb dX9_image_29 rfl (lv_at hl 2 rfl) ?_
        refine lv_iload_n hx hb dX9_image_30 rfl (lv_at hl 3 rfl) ?_
        refine lv_iadd hx hb dX9_image_31 ?_
        refine lv_aload_n hx hb dX9_image_32 rfl (lv_at hl 0 rfl) ?_
        refine va_get (ci := 9) (v := .ref (h 1)) (C := RX9) (T := TX9) (N := 21) hx hb hT hin_X9 hown hK hP 0 rfl rfl 0 (by decide) (hT _ wf_X9_7) (fun _ h9 => h9) rfl dX9_image_33 ?_
        refine lv_iload_n hx hb dX9_image_36 rfl (lv_at hl 3 rfl) ?_
        obtain ⟨hi, hf⟩ := ck_some hf
        refine va_iald hx hb hK hP 1 0 rfl rfl hi dX9_image_37 ?_
        obtain ⟨hi, hf⟩ := ck_some hf
        refine va_iast hx hb hK hP hD hS 12 0 rfl rfl hi dX9_image_38 (fun H locs hP hD hS => ?_)
        have hP : va_P D vwCl (wX9 cyI cyJ cyZ cyO h book now sights sight signs pad nights townAt townCell reason acts at_ cost hole counts worth met ways nextWays (upd image (x2 + x3).toNatClampNeg (book x3.toNatClampNeg)) isKept) H := hP
        have hD : va_D A (wX9 cyI cyJ cyZ cyO h book now sights sight signs pad nights townAt townCell reason acts at_ cost hole counts worth met ways nextWays (upd image (x2 + x3).toNatClampNeg (book x3.toNatClampNeg)) isKept) := hD
        refine lv_iinc (v := (x3 + 1)) (lv' := [(3, .int (x3 + 1)), (0, .ref (h 0)), (1, .int x1), (2, .int x2)]) hx hb dX9_image_39 hl (k := 3) rfl rfl (by decide) rfl (fun ls hl => ?_)
        refine lv_goto (tgt := 19) hx hb dX9_image_42 (by decide) ?_
        exact ih19 x1 x2 (x3 + 1) book sights sight (upd image (x2 + x3).toNatClampNeg (book x3.toNatClampNeg)) isKept H locs ls hP hD hS (lv_sub hl [1, 2, 3, 0] rfl) hf
  have main : ∀ (H : Heap) (locs : List Loc) (ls : Array Slot), va_P D vwCl (wX9 cyI cyJ cyZ cyO h book now sights sight signs pad nights townAt townCell reason acts at_ cost hole counts worth met ways nextWays image isKept) H → va_D A (wX9 cyI cyJ cyZ cyO h book now sights sight signs pad nights townAt townCell reason acts at_ cost hole counts worth met ways nextWays image isKept) → va_S A s.heap H locs → lv_has ls 4 [(0, .ref (h 0)), (1, .int p1)] → W p l e ({ frames := 1, cells := 0, slots := 0, locals := 22 } : Room) s m ([.ref (h 0), .int p1] : List Value).toArray below meth c H locs 0 0 (MQ below (qI D (wX9 cyI cyJ cyZ cyO h book now sights sight signs pad nights townAt townCell reason acts at_ cost hole counts worth met ways nextWays q.2.1 q.2.2) q.1 A) ([.ref (h 0), .int p1] : List Value).toArray s 0 0 A) (F0 m 0 ls []) := by
    intro H locs ls hP hD hS hl
    unfold g_X9_image at hf
    refine lv_iload_n hx hb dX9_image_0 rfl (lv_at hl 1 rfl) ?_
    refine lv_iconst (v := 0) hx hb dX9_image_1 (by decide) ?_
    refine lv_iconst (v := 1) hx hb dX9_image_2 (by decide) ?_
    obtain ⟨q1, hq1, hf⟩ := bd_some hf
    have hC : ([] : List Nat).map (fun i => (wX9 cyI cyJ cyZ cyO h book now sights sight signs pad nights townAt townCell reason acts at_ cost hole counts worth met ways nextWays image isKept)[i]?) = ([] : va_W).map some := rfl
    refine cl_i (rn_S (As := [.int p1, .int 0, .int 1]) (rest := []) hx hb hml hown hT hK hN hP hD [] hC rfl (c_X9_in l D cyI cyJ cyZ cyO H.size p1 0 1 nf q1 hq1) wm_X9_51 wt_X9_in wz_X9 wc_X9_in hd_X9_in ⟨rfl, rfl⟩ ⟨Nat.le_of_ble_eq_true rfl, Nat.le_of_ble_eq_true rfl⟩ rfl hl.1 rfl (Nat.le_of_ble_eq_true rfl) dX9_image_3 ⟨Nat.zero_le _, Nat.zero_le _⟩) hP hD hS hA [] hC [(false, 0), (false, 1), (false, 2), (false, 3), (false, 4), (false, 5), (false, 6), (false, 7), (false, 8), (false, 9), (false, 10), (false, 11), (false, 12), (false, 13)] (ws' := wX9 cyI cyJ cyZ cyO h book now sights sight signs pad nights townAt townCell reason acts at_ cost hole counts worth met ways nextWays image isKept) rfl rfl rfl (fun H locs hP hD hS => ?_)
    refine lv_if_ne (tgt := 12) hx hb dX9_image_6 (by decide) (fun cc => ?_) (fun cc => ?_)
    · replace hf := if_f cc hf
      refine lv_bipush (v := 90) hx hb dX9_image_12 (by decide) ?_
      refine lv_iload_n hx hb dX9_image_14 rfl (lv_at hl 1 rfl) ?_
      refine lv_imul hx hb dX9_image_15 ?_
      refine lv_istore_n (lv' := [(2, .int (90 * p1)), (0, .ref (h 0)), (1, .int p1)]) hx hb dX9_image_16 rfl hl (by decide) rfl (fun ls hl => ?_)
      refine lv_iconst (v := 0) hx hb dX9_image_17 (by decide) ?_
      refine lv_istore_n (lv' := [(3, .int 0), (2, .int (90 * p1)), (0, .ref (h 0)), (1, .int p1)]) hx hb dX9_image_18 rfl hl (by decide) rfl (fun ls hl => ?_)
      exact l19 nf p1 (90 * p1) 0 book sights sight image isKept H locs ls hP hD hS (lv_sub hl [2, 3, 1, 0] rfl) hf
    · replace hf := if_t cc hf
      refine lv_bipush (v := (-2)) hx hb dX9_image_9 (by decide) ?_
      cases Option.some.inj hf
      exact W.iret hx hb hr (fun t ht hW => ⟨⟨_, (), rfl, rfl, by show va_P D vwCl _ t.heap; rw [ht]; exact hP⟩, hS.F ht⟩) hS.2.2 dX9_image_11
  have hl := lv_entry ([.ref (h 0), .int p1]) (n := 4) (Nat.le_of_ble_eq_true rfl)
  rw [lg_entry_eq]
  exact main s.heap [] _ hP hD hS hl
theorem hd_X9_restore : yX9_restore.cls = RX9 ∧ yX9_restore.cls ≠ "java/lang/invoke/MethodHandle" ∧ yX9_restore.cls ≠ "java/lang/invoke/VarHandle" ∧ (parseMethodDescriptor yX9_restore.desc).map (fun d => d.parameters.length) = some 1 := by decide +kernel
set_option maxHeartbeats 4000000 in
set_option maxRecDepth 100000 in
theorem c_X9_restore (l : Launch) (D : va_G) (cyI cyJ cyZ cyO : ClassId) (h : Nat → Nat) (sz : Nat) (book : Nat → Int32) (now : Nat → Int32) (sights : Int32) (sight : Nat → Int32) (signs : Int32) (pad : Nat → Int32) (nights : Int32) (townAt : Int32) (townCell : Int32) (reason : Int32) (acts : Int32) (at_ : Int32) (cost : Nat → Int32) (hole : Nat → Int32) (counts : Nat → Int32) (worth : Nat → Int32) (met : Nat → Int32) (ways : Nat → Int64) (nextWays : Nat → Int64) (image : Nat → Int32) (isKept : Nat → Int32) (p1 : Int32) (nf : Nat) (q : Int32 × (Nat → Int32) × Int32 × (Nat → Int32)) (hf : g_X9_restore nf p1 book sights sight image isKept = some q) : Met l yX9_restore (Cond.code yX9_restore cX9_restore 4 (some .int) :: tbG) ({ frames := 1, cells := 0, slots := 0, locals := 22 } : Room) (va_Pc [.ref (h 0), .int p1] (pcB D (ty4 cyI cyJ cyZ cyO) sz (wX9 cyI cyJ cyZ cyO h book now sights sight signs pad nights townAt townCell reason acts at_ cost hole counts worth met ways nextWays image isKept))) (qI D (wX9 cyI cyJ cyZ cyO h q.2.1 now q.2.2.1 q.2.2.2 signs pad nights townAt townCell reason acts at_ cost hole counts worth met ways nextWays image isKept) q.1 (va_A (wX9 cyI cyJ cyZ cyO h book now sights sight signs pad nights townAt townCell reason acts at_ cost hole counts worth met ways nextWays image isKept) sz)) 0 0 (va_A (wX9 cyI cyJ cyZ cyO h book now sights sight signs pad nights townAt townCell reason acts at_ cost hole counts worth met ways nextWays image isKept) sz) := by
  refine Met.ofW (cc := cX9_restore) (maxL := 4) (ret := (some .int)) (by decide) rfl ?_
  intro p e s m args below meth c s₁ B hml hv
  obtain ⟨rfl, hsz, hP, hK, hD0, hN⟩ := hv
  have hx := B.exec
  have hb := B.bytes
  have hr := B.returns
  have hT : ∀ w ∈ tbG, w.before ([.ref (h 0), .int p1] : List Value).toArray s = true := fun w h => atoms_spec (ws := (Cond.code yX9_restore cX9_restore 4 (some .int) :: tbG)) B.pre w (List.mem_cons_of_mem _ h)
  have hown : s.vm.findClass RX9 = some m.cls := findClass_of_methodNamed B.named
  have hlocks := B.notSynchronized
  subst hsz
  have hD := hD0.self (sz := s.heap.size)
  generalize hAe : va_A (wX9 cyI cyJ cyZ cyO h book now sights sight signs pad nights townAt townCell reason acts at_ cost hole counts worth met ways nextWays image isKept) s.heap.size = A at hD ⊢
  have hA : ∀ q : Nat, s.heap.size ≤ q → A q := fun q h => by rw [← hAe]; exact Or.inr h
  have hS : va_S A s.heap s.heap [] := va_S.rf
  show W p l e ({ frames := 1, cells := 0, slots := 0, locals := 22 } : Room) s m ([.ref (h 0), .int p1] : List Value).toArray below meth c s.heap [] 0 0 (MQ below (qI D (wX9 cyI cyJ cyZ cyO h q.2.1 now q.2.2.1 q.2.2.2 signs pad nights townAt townCell reason acts at_ cost hole counts worth met ways nextWays image isKept) q.1 A) ([.ref (h 0), .int p1] : List Value).toArray s 0 0 A) _
  have l59 : ∀ (n59 : Nat) (x2 : Int32) (x3 : Int32) (book : Nat → Int32) (sights : Int32) (sight : Nat → Int32) (image : Nat → Int32) (isKept : Nat → Int32) (H : Heap) (locs : List Loc) (ls : Array Slot), va_P D vwCl (wX9 cyI cyJ cyZ cyO h book now sights sight signs pad nights townAt townCell reason acts at_ cost hole counts worth met ways nextWays image isKept) H → va_D A (wX9 cyI cyJ cyZ cyO h book now sights sight signs pad nights townAt townCell reason acts at_ cost hole counts worth met ways nextWays image isKept) → va_S A s.heap H locs → lv_has ls 4 [(0, .ref (h 0)), (2, .int x2), (3, .int x3)] → g_X9_restore_l59 nf n59 x2 x3 book sights sight image isKept = some q → W p l e ({ frames := 1, cells := 0, slots := 0, locals := 22 } : Room) s m ([.ref (h 0), .int p1] : List Value).toArray below meth c H locs 0 0 (MQ below (qI D (wX9 cyI cyJ cyZ cyO h q.2.1 now q.2.2.1 q.2.2.2 signs pad nights townAt townCell reason acts at_ cost hole counts worth met ways nextWays image isKept) q.1 A) ([.ref (h 0), .int p1] : List Value).toArray s 0 0 A) (F0 m 59 ls []) := by
    intro n59
    induction n59 with
    | zero =>
      intro x2 x3 book sights sight image isKept H locs ls hP hD hS hl hf
      rw [g_X9_restore_l59] at hf
      cases hf
    | succ n59 ih59 =>
      intro x2 x3 book sights sight image isKept H locs ls hP hD hS hl hf
      rw [g_X9_restore_l59] at hf
      refine lv_iload_n hx hb dX9_restore_59 rfl (lv_at hl 2 rfl) ?_
      refine lv_bipush (v := 16) hx hb dX9_restore_60 (by decide) ?_
      refine lv_icmp_ge (tgt := 88) hx hb dX9_restore_62 (by decide) (fun cc => ?_) (fun cc => ?_)
      · replace hf := if_t cc hf
        refine lv_aload_n hx hb dX9_restore_88 rfl (lv_at hl 0 rfl) ?_
        refine lv_aload_n hx hb dX9_restore_89 rfl (lv_at hl 0 rfl) ?_
        refine va_get (ci := 9) (v := .ref (h 12)) (C := RX9) (T := TX9) (N := 21) hx hb hT hin_X9 hown hK hP 0 rfl rfl 19 (by decide) (hT _ wf_X9_44) (fun _ h9 => h9) rfl dX9_restore_90 ?_
        refine lv_iload_n hx hb dX9_restore_93 rfl (lv_at hl 1 rfl) ?_
        refine lv_bipush (v := 80) hx hb dX9_restore_94 (by decide) ?_
        refine lv_iadd hx hb dX9_restore_96 ?_
        obtain ⟨hi, hf⟩ := ck_some hf
        refine va_iald hx hb hK hP 12 0 rfl rfl hi dX9_restore_97 ?_
        refine va_put (ci := 9) (v := .int (image (x2 + 80).toNatClampNeg)) (ty := .int) (C := RX9) (T := TX9) (N := 21) hx hb hT hin_X9 tyX9 tyX9_ok nmX9 hown hK hP hD hS 0 rfl rfl 2 (by decide) (hT _ wf_X9_161) (fun _ h9 => h9) rfl (tyX9_ok 2 (by decide)) rfl rfl (Nat.le_of_ble_eq_true rfl) dX9_restore_98 (fun H locs hP hD hS => ?_)
        have hP : va_P D vwCl (wX9 cyI cyJ cyZ cyO h book now (image (x2 + 80).toNatClampNeg) sight signs pad nights townAt townCell reason acts at_ cost hole counts worth met ways nextWays image isKept) H := hP
        have hD : va_D A (wX9 cyI cyJ cyZ cyO h book now (image (x2 + 80).toNatClampNeg) sight signs pad nights townAt townCell reason acts at_ cost hole counts worth met ways nextWays image isKept) := hD
        refine lv_iconst (v := 1) hx hb dX9_restore_101 (by decide) ?_
        cases Option.some.inj hf
        exact W.iret hx hb hr (fun t ht hW => ⟨⟨_, (), rfl, rfl, by show va_P D vwCl _ t.heap; rw [ht]; exact hP⟩, hS.F ht⟩) hS.2.2 dX9_restore_102
      · replace hf := if_f cc hf
        refine lv_aload_n hx hb dX9_restore_65 rfl (lv_at hl 0 rfl) ?_
        refine va_get (ci := 9) (v := .ref (h 3)) (C := RX9) (T := TX9) (N := 21) hx hb hT hin_X9 hown hK hP 0 rfl rfl 3 (by decide) (hT _ wf_X9_16) (fun _ h9 => h9) rfl dX9_restore_66 ?_
        refine lv_iload_n hx hb dX9_restore_69 rfl (lv_at hl 2 rfl) ?_
        refine lv_aload_n hx hb dX9_restore_70 rfl (lv_at hl 0 rfl) ?_
        refine va_get (ci := 9) (v := .ref (h 12)) (C := RX9) (T := TX9) (N := 21) hx hb hT hin_X9 hown hK hP 0 rfl rfl 19 (by decide) (hT _ wf_X9_44) (fun _ h9 => h9) rfl dX9_restore_71 ?_
        refine lv_iload_n hx hb dX9_restore_74 rfl (lv_at hl 1 rfl) ?_
        refine lv_bipush (v := 63) hx hb dX9_restore_75 (by decide) ?_
        refine lv_iadd hx hb dX9_restore_77 ?_
        refine lv_iload_n hx hb dX9_restore_78 rfl (lv_at hl 2 rfl) ?_
        refine lv_iadd hx hb dX9_restore_79 ?_
        obtain ⟨hi, hf⟩ := ck_some hf
        refine va_iald hx hb hK hP 12 0 rfl rfl hi dX9_restore_80 ?_
        obtain ⟨hi, hf⟩ := ck_some hf
        refine va_iast hx hb hK hP hD hS 3 0 rfl rfl hi dX9_restore_81 (fun H locs hP hD hS => ?_)
        have hP : va_P D vwCl (wX9 cyI cyJ cyZ cyO h book now sights (upd sight x3.toNatClampNeg (image ((x2 + 63) + x3).toNatClampNeg)) signs pad nights townAt townCell reason acts at_ cost hole counts worth met ways nextWays image isKept) H := hP
        have hD : va_D A (wX9 cyI cyJ cyZ cyO h book now sights (upd sight x3.toNatClampNeg (image ((x2 + 63) + x3).toNatClampNeg)) signs pad nights townAt townCell reason acts at_ cost hole counts worth met ways nextWays image isKept) := hD
        refine lv_iinc (v := (x3 + 1)) (lv' := [(3, .int (x3 + 1)), (0, .ref (h 0)), (2, .int x2)]) hx hb dX9_restore_82 hl (k := 2) rfl rfl (by decide) rfl (fun ls hl => ?_)
        refine lv_goto (tgt := 59) hx hb dX9_restore_85 (by decide) ?_
        exact ih59 x2 (x3 + 1) book sights (upd sight x3.toNatClampNeg (image ((x2 + 63) + x3).toNatClampNeg)) image isKept H locs ls hP hD hS (lv_sub hl [1, 2, 0] rfl) hf
  have l31 : ∀ (n31 : Nat) (x2 : Int32) (x3 : Int32) (book : Nat → Int32) (sights : Int32) (sight : Nat → Int32) (image : Nat → Int32) (isKept : Nat → Int32) (H : Heap) (locs : List Loc) (ls : Array Slot), va_P D vwCl (wX9 cyI cyJ cyZ cyO h book now sights sight signs pad nights townAt townCell reason acts at_ cost hole counts worth met ways nextWays image isKept) H → va_D A (wX9 cyI cyJ cyZ cyO h book now sights sight signs pad nights townAt townCell reason acts at_ cost hole counts worth met ways nextWays image isKept) → va_S A s.heap H locs → lv_has ls 4 [(0, .ref (h 0)), (2, .int x2), (3, .int x3)] → g_X9_restore_l31 nf n31 x2 x3 book sights sight image isKept = some q → W p l e ({ frames := 1, cells := 0, slots := 0, locals := 22 } : Room) s m ([.ref (h 0), .int p1] : List Value).toArray below meth c H locs 0 0 (MQ below (qI D (wX9 cyI cyJ cyZ cyO h q.2.1 now q.2.2.1 q.2.2.2 signs pad nights townAt townCell reason acts at_ cost hole counts worth met ways nextWays image isKept) q.1 A) ([.ref (h 0), .int p1] : List Value).toArray s 0 0 A) (F0 m 31 ls []) := by
    intro n31
    induction n31 with
    | zero =>
      intro x2 x3 book sights sight image isKept H locs ls hP hD hS hl hf
      rw [g_X9_restore_l31] at hf
      cases hf
    | succ n31 ih31 =>
      intro x2 x3 book sights sight image isKept H locs ls hP hD hS hl hf
      rw [g_X9_restore_l31] at hf
      refine lv_iload_n hx hb dX9_restore_31 rfl (lv_at hl 2 rfl) ?_
      refine lv_bipush (v := 63) hx hb dX9_restore_32 (by decide) ?_
      refine lv_icmp_ge (tgt := 57) hx hb dX9_restore_34 (by decide) (fun cc => ?_) (fun cc => ?_)
      · replace hf := if_t cc hf
        refine lv_iconst (v := 0) hx hb dX9_restore_57 (by decide) ?_
        refine lv_istore_n (lv' := [(3, .int 0), (0, .ref (h 0)), (2, .int x2)]) hx hb dX9_restore_58 rfl hl (by decide) rfl (fun ls hl => ?_)
        exact l59 nf x2 0 book sights sight image isKept H locs ls hP hD hS (lv_sub hl [1, 2, 0] rfl) hf
      · replace hf := if_f cc hf
        refine lv_aload_n hx hb dX9_restore_37 rfl (lv_at hl 0 rfl) ?_
        refine va_get (ci := 9) (v := .ref (h 1)) (C := RX9) (T := TX9) (N := 21) hx hb hT hin_X9 hown hK hP 0 rfl rfl 0 (by decide) (hT _ wf_X9_7) (fun _ h9 => h9) rfl dX9_restore_38 ?_
        refine lv_iload_n hx hb dX9_restore_41 rfl (lv_at hl 2 rfl) ?_
        refine lv_aload_n hx hb dX9_restore_42 rfl (lv_at hl 0 rfl) ?_
        refine va_get (ci := 9) (v := .ref (h 12)) (C := RX9) (T := TX9) (N := 21) hx hb hT hin_X9 hown hK hP 0 rfl rfl 19 (by decide) (hT _ wf_X9_44) (fun _ h9 => h9) rfl dX9_restore_43 ?_
        refine lv_iload_n hx hb dX9_restore_46 rfl (lv_at hl 1 rfl) ?_
        refine lv_iload_n hx hb dX9_restore_47 rfl (lv_at hl 2 rfl) ?_
        refine lv_iadd hx hb dX9_restore_48 ?_
        obtain ⟨hi, hf⟩ := ck_some hf
        refine va_iald hx hb hK hP 12 0 rfl rfl hi dX9_restore_49 ?_
        obtain ⟨hi, hf⟩ := ck_some hf
        refine va_iast hx hb hK hP hD hS 1 0 rfl rfl hi dX9_restore_50 (fun H locs hP hD hS => ?_)
        have hP : va_P D vwCl (wX9 cyI cyJ cyZ cyO h (upd book x3.toNatClampNeg (image (x2 + x3).toNatClampNeg)) now sights sight signs pad nights townAt townCell reason acts at_ cost hole counts worth met ways nextWays image isKept) H := hP
        have hD : va_D A (wX9 cyI cyJ cyZ cyO h (upd book x3.toNatClampNeg (image (x2 + x3).toNatClampNeg)) now sights sight signs pad nights townAt townCell reason acts at_ cost hole counts worth met ways nextWays image isKept) := hD
        refine lv_iinc (v := (x3 + 1)) (lv' := [(3, .int (x3 + 1)), (0, .ref (h 0)), (2, .int x2)]) hx hb dX9_restore_51 hl (k := 2) rfl rfl (by decide) rfl (fun ls hl => ?_)
        refine lv_goto (tgt := 31) hx hb dX9_restore_54 (by decide) ?_
        exact ih31 x2 (x3 + 1) (upd book x3.toNatClampNeg (image (x2 + x3).toNatClampNeg)) sights sight image isKept H locs ls hP hD hS (lv_sub hl [1, 2, 0] rfl) hf
  have main : ∀ (H : Heap) (locs : List Loc) (ls : Array Slot), va_P D vwCl (wX9 cyI cyJ cyZ cyO h book now sights sight signs pad nights townAt townCell reason acts at_ cost hole counts worth met ways nextWays image isKept) H → va_D A (wX9 cyI cyJ cyZ cyO h book now sights sight signs pad nights townAt townCell reason acts at_ cost hole counts worth met ways nextWays image isKept) → va_S A s.heap H locs → lv_has ls 4 [(0, .ref (h 0)), (1, .int p1)] → W p l e ({ frames := 1, cells := 0, slots := 0, locals := 22 } : Room) s m ([.ref (h 0), .int p1] : List Value).toArray below meth c H locs 0 0 (MQ below (qI D (wX9 cyI cyJ cyZ cyO h q.2.1 now q.2.2.1 q.2.2.2 signs pad nights townAt townCell reason acts at_ cost hole counts worth met ways nextWays image isKept) q.1 A) ([.ref (h 0), .int p1] : List Value).toArray s 0 0 A) (F0 m 0 ls []) := by
    intro H locs ls hP hD hS hl
    unfold g_X9_restore at hf
    refine lv_iload_n hx hb dX9_restore_0 rfl (lv_at hl 1 rfl) ?_
    refine lv_iconst (v := 0) hx hb dX9_restore_1 (by decide) ?_
    refine lv_iconst (v := 1) hx hb dX9_restore_2 (by decide) ?_
    obtain ⟨q1, hq1, hf⟩ := bd_some hf
    have hC : ([] : List Nat).map (fun i => (wX9 cyI cyJ cyZ cyO h book now sights sight signs pad nights townAt townCell reason acts at_ cost hole counts worth met ways nextWays image isKept)[i]?) = ([] : va_W).map some := rfl
    refine cl_i (rn_S (As := [.int p1, .int 0, .int 1]) (rest := []) hx hb hml hown hT hK hN hP hD [] hC rfl (c_X9_in l D cyI cyJ cyZ cyO H.size p1 0 1 nf q1 hq1) wm_X9_51 wt_X9_in wz_X9 wc_X9_in hd_X9_in ⟨rfl, rfl⟩ ⟨Nat.le_of_ble_eq_true rfl, Nat.le_of_ble_eq_true rfl⟩ rfl hl.1 rfl (Nat.le_of_ble_eq_true rfl) dX9_restore_3 ⟨Nat.zero_le _, Nat.zero_le _⟩) hP hD hS hA [] hC [(false, 0), (false, 1), (false, 2), (false, 3), (false, 4), (false, 5), (false, 6), (false, 7), (false, 8), (false, 9), (false, 10), (false, 11), (false, 12), (false, 13)] (ws' := wX9 cyI cyJ cyZ cyO h book now sights sight signs pad nights townAt townCell reason acts at_ cost hole counts worth met ways nextWays image isKept) rfl rfl rfl (fun H locs hP hD hS => ?_)
    refine lv_if_ne (tgt := 12) hx hb dX9_restore_6 (by decide) (fun cc => ?_) (fun cc => ?_)
    · replace hf := if_f cc hf
      refine lv_aload_n hx hb dX9_restore_12 rfl (lv_at hl 0 rfl) ?_
      refine va_get (ci := 9) (v := .ref (h 13)) (C := RX9) (T := TX9) (N := 21) hx hb hT hin_X9 hown hK hP 0 rfl rfl 20 (by decide) (hT _ wf_X9_47) (fun _ h9 => h9) rfl dX9_restore_13 ?_
      refine lv_iload_n hx hb dX9_restore_16 rfl (lv_at hl 1 rfl) ?_
      obtain ⟨hi, hf⟩ := ck_some hf
      refine va_zald hx hb hK hP 13 2 rfl rfl hi dX9_restore_17 ?_
      refine lv_if_ne (tgt := 24) hx hb dX9_restore_18 (by decide) (fun cc => ?_) (fun cc => ?_)
      · replace hf := if_f cc hf
        refine lv_bipush (v := 90) hx hb dX9_restore_24 (by decide) ?_
        refine lv_iload_n hx hb dX9_restore_26 rfl (lv_at hl 1 rfl) ?_
        refine lv_imul hx hb dX9_restore_27 ?_
        refine lv_istore_n (lv' := [(2, .int (90 * p1)), (0, .ref (h 0)), (1, .int p1)]) hx hb dX9_restore_28 rfl hl (by decide) rfl (fun ls hl => ?_)
        refine lv_iconst (v := 0) hx hb dX9_restore_29 (by decide) ?_
        refine lv_istore_n (lv' := [(3, .int 0), (2, .int (90 * p1)), (0, .ref (h 0)), (1, .int p1)]) hx hb dX9_restore_30 rfl hl (by decide) rfl (fun ls hl => ?_)
        exact l31 nf (90 * p1) 0 book sights sight image isKept H locs ls hP hD hS (lv_sub hl [2, 1, 0] rfl) hf
      · replace hf := if_t cc hf
        refine lv_bipush (v := (-3)) hx hb dX9_restore_21 (by decide) ?_
        cases Option.some.inj hf
        exact W.iret hx hb hr (fun t ht hW => ⟨⟨_, (), rfl, rfl, by show va_P D vwCl _ t.heap; rw [ht]; exact hP⟩, hS.F ht⟩) hS.2.2 dX9_restore_23
    · replace hf := if_t cc hf
      refine lv_bipush (v := (-2)) hx hb dX9_restore_9 (by decide) ?_
      cases Option.some.inj hf
      exact W.iret hx hb hr (fun t ht hW => ⟨⟨_, (), rfl, rfl, by show va_P D vwCl _ t.heap; rw [ht]; exact hP⟩, hS.F ht⟩) hS.2.2 dX9_restore_11
  have hl := lv_entry ([.ref (h 0), .int p1]) (n := 4) (Nat.le_of_ble_eq_true rfl)
  rw [lg_entry_eq]
  exact main s.heap [] _ hP hD hS hl
theorem hd_X9_told : yX9_told.cls = RX9 ∧ yX9_told.cls ≠ "java/lang/invoke/MethodHandle" ∧ yX9_told.cls ≠ "java/lang/invoke/VarHandle" ∧ (parseMethodDescriptor yX9_told.desc).map (fun d => d.parameters.length) = some 1 := by decide +kernel
set_option maxHeartbeats 4000000 in
set_option maxRecDepth 100000 in
theorem c_X9_told (l : Launch) (D : va_G) (cyI cyJ cyZ cyO : ClassId) (h : Nat → Nat) (sz : Nat) (book : Nat → Int32) (now : Nat → Int32) (sights : Int32) (sight : Nat → Int32) (signs : Int32) (pad : Nat → Int32) (nights : Int32) (townAt : Int32) (townCell : Int32) (reason : Int32) (acts : Int32) (at_ : Int32) (cost : Nat → Int32) (hole : Nat → Int32) (counts : Nat → Int32) (worth : Nat → Int32) (met : Nat → Int32) (ways : Nat → Int64) (nextWays : Nat → Int64) (image : Nat → Int32) (isKept : Nat → Int32) (p1 : Int32) (nf : Nat) (q : Int32 × (Nat → Int32) × Int32 × Int32 × Int32) (hf : g_X9_told nf p1 book now sights signs nights townAt townCell = some q) : Met l yX9_told (Cond.code yX9_told cX9_told 2 (some .int) :: tbG) ({ frames := 2, cells := 0, slots := 0, locals := 43 } : Room) (va_Pc [.ref (h 0), .int p1] (pcB D (ty4 cyI cyJ cyZ cyO) sz (wX9 cyI cyJ cyZ cyO h book now sights sight signs pad nights townAt townCell reason acts at_ cost hole counts worth met ways nextWays image isKept))) (qI D (wX9 cyI cyJ cyZ cyO h book q.2.1 sights sight signs pad q.2.2.1 q.2.2.2.1 q.2.2.2.2 reason acts at_ cost hole counts worth met ways nextWays image isKept) q.1 (va_A (wX9 cyI cyJ cyZ cyO h book now sights sight signs pad nights townAt townCell reason acts at_ cost hole counts worth met ways nextWays image isKept) sz)) 0 0 (va_A (wX9 cyI cyJ cyZ cyO h book now sights sight signs pad nights townAt townCell reason acts at_ cost hole counts worth met ways nextWays image isKept) sz) := by
  refine Met.ofW (cc := cX9_told) (maxL := 2) (ret := (some .int)) (by decide) rfl ?_
  intro p e s m args below meth c s₁ B hml hv
  obtain ⟨rfl, hsz, hP, hK, hD0, hN⟩ := hv
  have hx := B.exec
  have hb := B.bytes
  have hr := B.returns
  have hT : ∀ w ∈ tbG, w.before ([.ref (h 0), .int p1] : List Value).toArray s = true := fun w h => atoms_spec (ws := (Cond.code yX9_told cX9_told 2 (some .int) :: tbG)) B.pre w (List.mem_cons_of_mem _ h)
  have hown : s.vm.findClass RX9 = some m.cls := findClass_of_methodNamed B.named
  have hlocks := B.notSynchronized
  subst hsz
  have hD := hD0.self (sz := s.heap.size)
  generalize hAe : va_A (wX9 cyI cyJ cyZ cyO h book now sights sight signs pad nights townAt townCell reason acts at_ cost hole counts worth met ways nextWays image isKept) s.heap.size = A at hD ⊢
  have hA : ∀ q : Nat, s.heap.size ≤ q → A q := fun q h => by rw [← hAe]; exact Or.inr h
  have hS : va_S A s.heap s.heap [] := va_S.rf
  show W p l e ({ frames := 2, cells := 0, slots := 0, locals := 43 } : Room) s m ([.ref (h 0), .int p1] : List Value).toArray below meth c s.heap [] 0 0 (MQ below (qI D (wX9 cyI cyJ cyZ cyO h book q.2.1 sights sight signs pad q.2.2.1 q.2.2.2.1 q.2.2.2.2 reason acts at_ cost hole counts worth met ways nextWays image isKept) q.1 A) ([.ref (h 0), .int p1] : List Value).toArray s 0 0 A) _
  have main : ∀ (H : Heap) (locs : List Loc) (ls : Array Slot), va_P D vwCl (wX9 cyI cyJ cyZ cyO h book now sights sight signs pad nights townAt townCell reason acts at_ cost hole counts worth met ways nextWays image isKept) H → va_D A (wX9 cyI cyJ cyZ cyO h book now sights sight signs pad nights townAt townCell reason acts at_ cost hole counts worth met ways nextWays image isKept) → va_S A s.heap H locs → lv_has ls 2 [(0, .ref (h 0)), (1, .int p1)] → W p l e ({ frames := 2, cells := 0, slots := 0, locals := 43 } : Room) s m ([.ref (h 0), .int p1] : List Value).toArray below meth c H locs 0 0 (MQ below (qI D (wX9 cyI cyJ cyZ cyO h book q.2.1 sights sight signs pad q.2.2.1 q.2.2.2.1 q.2.2.2.2 reason acts at_ cost hole counts worth met ways nextWays image isKept) q.1 A) ([.ref (h 0), .int p1] : List Value).toArray s 0 0 A) (F0 m 0 ls []) := by
    intro H locs ls hP hD hS hl
    unfold g_X9_told at hf
    refine lv_iload_n hx hb dX9_told_0 rfl (lv_at hl 1 rfl) ?_
    refine lv_sipush (v := 200) hx hb dX9_told_1 (by decide) ?_
    refine lv_icmp_lt (tgt := 34) hx hb dX9_told_4 (by decide) (fun cc => ?_) (fun cc => ?_)
    · replace hf := if_t cc hf
      refine lv_iload_n hx hb dX9_told_34 rfl (lv_at hl 1 rfl) ?_
      refine lv_bipush (v := 100) hx hb dX9_told_35 (by decide) ?_
      refine lv_icmp_lt (tgt := 65) hx hb dX9_told_37 (by decide) (fun cc => ?_) (fun cc => ?_)
      · replace hf := if_t cc hf
        refine lv_iload_n hx hb dX9_told_65 rfl (lv_at hl 1 rfl) ?_
        refine lv_bipush (v := 20) hx hb dX9_told_66 (by decide) ?_
        refine lv_icmp_lt (tgt := 113) hx hb dX9_told_68 (by decide) (fun cc => ?_) (fun cc => ?_)
        · replace hf := if_t cc hf
          refine lv_aload_n hx hb dX9_told_113 rfl (lv_at hl 0 rfl) ?_
          obtain ⟨q1, hq1, hf⟩ := bd_some hf
          have hC : [0, 1, 2, 3, 4, 5, 6, 7, 8, 9, 10, 11, 12, 13].map (fun i => (wX9 cyI cyJ cyZ cyO h book now sights sight signs pad nights townAt townCell reason acts at_ cost hole counts worth met ways nextWays image isKept)[i]?) = (wX9 cyI cyJ cyZ cyO h book now sights sight signs pad nights townAt townCell reason acts at_ cost hole counts worth met ways nextWays image isKept).map some := rfl
          refine cl_v (rn_V (As := []) (rest := []) (C := RX9) hx hb hml hown hT hK hN hP hD [0, 1, 2, 3, 4, 5, 6, 7, 8, 9, 10, 11, 12, 13] hC rfl (c_X9_asNow l D cyI cyJ cyZ cyO h H.size book now sights sight signs pad nights townAt townCell reason acts at_ cost hole counts worth met ways nextWays image isKept nf q1 hq1) wm_X9_116 wi_X9_asNow wl_X9_asNow wz_X9 wc_X9_asNow hd_X9_asNow ⟨rfl, rfl⟩ ⟨Nat.le_of_ble_eq_true rfl, Nat.le_of_ble_eq_true rfl⟩ (q0 := 0) (ci := 9) rfl rfl rfl rfl hl.1 rfl (Nat.le_of_ble_eq_true rfl) dX9_told_114 ⟨Nat.zero_le _, Nat.zero_le _⟩) hP hD hS hA [0, 1, 2, 3, 4, 5, 6, 7, 8, 9, 10, 11, 12, 13] hC [(true, 0), (true, 1), (true, 2), (true, 3), (true, 4), (true, 5), (true, 6), (true, 7), (true, 8), (true, 9), (true, 10), (true, 11), (true, 12), (true, 13)] (ws' := wX9 cyI cyJ cyZ cyO h book q1.1 sights sight signs pad q1.2.1 q1.2.2.1 q1.2.2.2 reason acts at_ cost hole counts worth met ways nextWays image isKept) rfl rfl rfl (fun H locs hP hD hS => ?_)
          refine lv_iload_n hx hb dX9_told_117 rfl (lv_at hl 1 rfl) ?_
          refine lv_bipush (v := 11) hx hb dX9_told_118 (by decide) ?_
          refine lv_bipush (v := 13) hx hb dX9_told_120 (by decide) ?_
          obtain ⟨q2, hq2, hf⟩ := bd_some hf
          have hC : ([] : List Nat).map (fun i => (wX9 cyI cyJ cyZ cyO h book q1.1 sights sight signs pad q1.2.1 q1.2.2.1 q1.2.2.2 reason acts at_ cost hole counts worth met ways nextWays image isKept)[i]?) = ([] : va_W).map some := rfl
          refine cl_i (rn_S (As := [.int p1, .int 11, .int 13]) (rest := []) hx hb hml hown hT hK hN hP hD [] hC rfl (c_X9_in l D cyI cyJ cyZ cyO H.size p1 11 13 nf q2 hq2) wm_X9_51 wt_X9_in wz_X9 wc_X9_in hd_X9_in ⟨rfl, rfl⟩ ⟨Nat.le_of_ble_eq_true rfl, Nat.le_of_ble_eq_true rfl⟩ rfl hl.1 rfl (Nat.le_of_ble_eq_true rfl) dX9_told_122 ⟨Nat.zero_le _, Nat.zero_le _⟩) hP hD hS hA [] hC [(false, 0), (false, 1), (false, 2), (false, 3), (false, 4), (false, 5), (false, 6), (false, 7), (false, 8), (false, 9), (false, 10), (false, 11), (false, 12), (false, 13)] (ws' := wX9 cyI cyJ cyZ cyO h book q1.1 sights sight signs pad q1.2.1 q1.2.2.1 q1.2.2.2 reason acts at_ cost hole counts worth met ways nextWays image isKept) rfl rfl rfl (fun H locs hP hD hS => ?_)
          refine lv_if_eq (tgt := 138) hx hb dX9_told_125 (by decide) (fun cc => ?_) (fun cc => ?_)
          · replace hf := if_t cc hf
            refine lv_iload_n hx hb dX9_told_138 rfl (lv_at hl 1 rfl) ?_
            by_cases c0 : p1 = 0
            · replace hf := if_t c0 hf
              refine lv_tableIn (off := 29) (tgt := 168) hx hb dX9_told_139 (by rw [c0]; decide) (by rw [c0]; decide) (by rw [c0]; decide) (by decide) ?_
              refine lv_aload_n hx hb dX9_told_168 rfl (lv_at hl 0 rfl) ?_
              refine va_get (ci := 9) (v := .int signs) (C := RX9) (T := TX9) (N := 21) hx hb hT hin_X9 hown hK hP 0 rfl rfl 4 (by decide) (hT _ wf_X9_63) (fun _ h9 => h9) rfl dX9_told_169 ?_
              cases Option.some.inj hf
              exact W.iret hx hb hr (fun t ht hW => ⟨⟨_, (), rfl, rfl, by show va_P D vwCl _ t.heap; rw [ht]; exact hP⟩, hS.F ht⟩) hS.2.2 dX9_told_172
            · replace hf := if_f c0 hf
              by_cases c1 : p1 = 1
              · replace hf := if_t c1 hf
                refine lv_tableIn (off := 34) (tgt := 173) hx hb dX9_told_139 (by rw [c1]; decide) (by rw [c1]; decide) (by rw [c1]; decide) (by decide) ?_
                refine lv_aload_n hx hb dX9_told_173 rfl (lv_at hl 0 rfl) ?_
                refine va_get (ci := 9) (v := .ref (h 1)) (C := RX9) (T := TX9) (N := 21) hx hb hT hin_X9 hown hK hP 0 rfl rfl 0 (by decide) (hT _ wf_X9_7) (fun _ h9 => h9) rfl dX9_told_174 ?_
                refine lv_bipush (v := 61) hx hb dX9_told_177 (by decide) ?_
                obtain ⟨hi, hf⟩ := ck_some hf
                refine va_iald hx hb hK hP 1 0 rfl rfl hi dX9_told_179 ?_
                cases Option.some.inj hf
                exact W.iret hx hb hr (fun t ht hW => ⟨⟨_, (), rfl, rfl, by show va_P D vwCl _ t.heap; rw [ht]; exact hP⟩, hS.F ht⟩) hS.2.2 dX9_told_180
              · replace hf := if_f c1 hf
                by_cases c2 : p1 = 2
                · replace hf := if_t c2 hf
                  refine lv_tableIn (off := 42) (tgt := 181) hx hb dX9_told_139 (by rw [c2]; decide) (by rw [c2]; decide) (by rw [c2]; decide) (by decide) ?_
                  refine lv_aload_n hx hb dX9_told_181 rfl (lv_at hl 0 rfl) ?_
                  refine va_get (ci := 9) (v := .ref (h 1)) (C := RX9) (T := TX9) (N := 21) hx hb hT hin_X9 hown hK hP 0 rfl rfl 0 (by decide) (hT _ wf_X9_7) (fun _ h9 => h9) rfl dX9_told_182 ?_
                  refine lv_bipush (v := 62) hx hb dX9_told_185 (by decide) ?_
                  obtain ⟨hi, hf⟩ := ck_some hf
                  refine va_iald hx hb hK hP 1 0 rfl rfl hi dX9_told_187 ?_
                  cases Option.some.inj hf
                  exact W.iret hx hb hr (fun t ht hW => ⟨⟨_, (), rfl, rfl, by show va_P D vwCl _ t.heap; rw [ht]; exact hP⟩, hS.F ht⟩) hS.2.2 dX9_told_188
                · replace hf := if_f c2 hf
                  by_cases c3 : p1 = 3
                  · replace hf := if_t c3 hf
                    refine lv_tableIn (off := 50) (tgt := 189) hx hb dX9_told_139 (by rw [c3]; decide) (by rw [c3]; decide) (by rw [c3]; decide) (by decide) ?_
                    refine lv_aload_n hx hb dX9_told_189 rfl (lv_at hl 0 rfl) ?_
                    refine lv_iconst (v := 0) hx hb dX9_told_190 (by decide) ?_
                    obtain ⟨q3, hq3, hf⟩ := bd_some hf
                    have hC : [0, 1, 2, 3, 4, 5, 6, 7, 8, 9, 10, 11, 12, 13].map (fun i => (wX9 cyI cyJ cyZ cyO h book q1.1 sights sight signs pad q1.2.1 q1.2.2.1 q1.2.2.2 reason acts at_ cost hole counts worth met ways nextWays image isKept)[i]?) = (wX9 cyI cyJ cyZ cyO h book q1.1 sights sight signs pad q1.2.1 q1.2.2.1 q1.2.2.2 reason acts at_ cost hole counts worth met ways nextWays image isKept).map some := rfl
                    refine cl_i (rn_V (As := [.int 0]) (rest := []) (C := RX9) hx hb hml hown hT hK hN hP hD [0, 1, 2, 3, 4, 5, 6, 7, 8, 9, 10, 11, 12, 13] hC rfl (c_X9_countOf l D cyI cyJ cyZ cyO h H.size book q1.1 sights sight signs pad q1.2.1 q1.2.2.1 q1.2.2.2 reason acts at_ cost hole counts worth met ways nextWays image isKept 0 nf q3 hq3) wm_X9_137 wi_X9_countOf wl_X9_countOf wz_X9 wc_X9_countOf hd_X9_countOf ⟨rfl, rfl⟩ ⟨Nat.le_of_ble_eq_true rfl, Nat.le_of_ble_eq_true rfl⟩ (q0 := 0) (ci := 9) rfl rfl rfl rfl hl.1 rfl (Nat.le_of_ble_eq_true rfl) dX9_told_191 ⟨Nat.zero_le _, Nat.zero_le _⟩) hP hD hS hA [0, 1, 2, 3, 4, 5, 6, 7, 8, 9, 10, 11, 12, 13] hC [(true, 0), (true, 1), (true, 2), (true, 3), (true, 4), (true, 5), (true, 6), (true, 7), (true, 8), (true, 9), (true, 10), (true, 11), (true, 12), (true, 13)] (ws' := wX9 cyI cyJ cyZ cyO h book q1.1 sights sight signs pad q1.2.1 q1.2.2.1 q1.2.2.2 reason acts at_ cost hole counts worth met ways nextWays image isKept) rfl rfl rfl (fun H locs hP hD hS => ?_)
                    cases Option.some.inj hf
                    exact W.iret hx hb hr (fun t ht hW => ⟨⟨_, (), rfl, rfl, by show va_P D vwCl _ t.heap; rw [ht]; exact hP⟩, hS.F ht⟩) hS.2.2 dX9_told_194
                  · replace hf := if_f c3 hf
                    refine lv_tableOut (tgt := 195) hx hb dX9_told_139 (by have z0 := lv_neT c0 (show (0 : Int32).toInt = 0 by decide); have z1 := lv_neT c1 (show (1 : Int32).toInt = 1 by decide); have z2 := lv_neT c2 (show (2 : Int32).toInt = 2 by decide); have z3 := lv_neT c3 (show (3 : Int32).toInt = 3 by decide); omega) (by decide) ?_
                    refine lv_iload_n hx hb dX9_told_195 rfl (lv_at hl 1 rfl) ?_
                    refine lv_iconst (v := 4) hx hb dX9_told_196 (by decide) ?_
                    refine lv_icmp_ne (tgt := 207) hx hb dX9_told_197 (by decide) (fun cc => ?_) (fun cc => ?_)
                    · replace hf := if_f cc hf
                      refine lv_bipush (v := (-2)) hx hb dX9_told_207 (by decide) ?_
                      cases Option.some.inj hf
                      exact W.iret hx hb hr (fun t ht hW => ⟨⟨_, (), rfl, rfl, by show va_P D vwCl _ t.heap; rw [ht]; exact hP⟩, hS.F ht⟩) hS.2.2 dX9_told_209
                    · replace hf := if_t cc hf
                      refine lv_aload_n hx hb dX9_told_200 rfl (lv_at hl 0 rfl) ?_
                      refine va_get (ci := 9) (v := .int sights) (C := RX9) (T := TX9) (N := 21) hx hb hT hin_X9 hown hK hP 0 rfl rfl 2 (by decide) (hT _ wf_X9_161) (fun _ h9 => h9) rfl dX9_told_201 ?_
                      refine lv_goto (tgt := 209) hx hb dX9_told_204 (by decide) ?_
                      cases Option.some.inj hf
                      exact W.iret hx hb hr (fun t ht hW => ⟨⟨_, (), rfl, rfl, by show va_P D vwCl _ t.heap; rw [ht]; exact hP⟩, hS.F ht⟩) hS.2.2 dX9_told_209
          · replace hf := if_f cc hf
            refine lv_aload_n hx hb dX9_told_128 rfl (lv_at hl 0 rfl) ?_
            refine va_get (ci := 9) (v := .ref (h 1)) (C := RX9) (T := TX9) (N := 21) hx hb hT hin_X9 hown hK hP 0 rfl rfl 0 (by decide) (hT _ wf_X9_7) (fun _ h9 => h9) rfl dX9_told_129 ?_
            refine lv_bipush (v := 47) hx hb dX9_told_132 (by decide) ?_
            refine lv_iload_n hx hb dX9_told_134 rfl (lv_at hl 1 rfl) ?_
            refine lv_iadd hx hb dX9_told_135 ?_
            obtain ⟨hi, hf⟩ := ck_some hf
            refine va_iald hx hb hK hP 1 0 rfl rfl hi dX9_told_136 ?_
            cases Option.some.inj hf
            exact W.iret hx hb hr (fun t ht hW => ⟨⟨_, (), rfl, rfl, by show va_P D vwCl _ t.heap; rw [ht]; exact hP⟩, hS.F ht⟩) hS.2.2 dX9_told_137
        · replace hf := if_f cc hf
          refine lv_iload_n hx hb dX9_told_71 rfl (lv_at hl 1 rfl) ?_
          refine lv_bipush (v := 40) hx hb dX9_told_72 (by decide) ?_
          refine lv_icmp_ge (tgt := 110) hx hb dX9_told_74 (by decide) (fun cc => ?_) (fun cc => ?_)
          · replace hf := if_t cc hf
            refine lv_bipush (v := (-2)) hx hb dX9_told_110 (by decide) ?_
            cases Option.some.inj hf
            exact W.iret hx hb hr (fun t ht hW => ⟨⟨_, (), rfl, rfl, by show va_P D vwCl _ t.heap; rw [ht]; exact hP⟩, hS.F ht⟩) hS.2.2 dX9_told_112
          · replace hf := if_f cc hf
            refine lv_aload_n hx hb dX9_told_77 rfl (lv_at hl 0 rfl) ?_
            refine lv_iload_n hx hb dX9_told_78 rfl (lv_at hl 1 rfl) ?_
            refine lv_bipush (v := 10) hx hb dX9_told_79 (by decide) ?_
            refine lv_irem hx hb dX9_told_81 (by decide) ?_
            obtain ⟨q4, hq4, hf⟩ := bd_some hf
            have hC : [0, 1, 2, 3, 4, 5, 6, 7, 8, 9, 10, 11, 12, 13].map (fun i => (wX9 cyI cyJ cyZ cyO h book now sights sight signs pad nights townAt townCell reason acts at_ cost hole counts worth met ways nextWays image isKept)[i]?) = (wX9 cyI cyJ cyZ cyO h book now sights sight signs pad nights townAt townCell reason acts at_ cost hole counts worth met ways nextWays image isKept).map some := rfl
            refine cl_i (rn_V (As := [.int (p1 - p1 / 10 * 10)]) (rest := []) (C := RX9) hx hb hml hown hT hK hN hP hD [0, 1, 2, 3, 4, 5, 6, 7, 8, 9, 10, 11, 12, 13] hC rfl (c_X9_isThere l D cyI cyJ cyZ cyO h H.size book now sights sight signs pad nights townAt townCell reason acts at_ cost hole counts worth met ways nextWays image isKept (p1 - p1 / 10 * 10) nf q4 hq4) wm_X9_134 wi_X9_isThere wl_X9_isThere wz_X9 wc_X9_isThere hd_X9_isThere ⟨rfl, rfl⟩ ⟨Nat.le_of_ble_eq_true rfl, Nat.le_of_ble_eq_true rfl⟩ (q0 := 0) (ci := 9) rfl rfl rfl rfl hl.1 rfl (Nat.le_of_ble_eq_true rfl) dX9_told_82 ⟨Nat.zero_le _, Nat.zero_le _⟩) hP hD hS hA [0, 1, 2, 3, 4, 5, 6, 7, 8, 9, 10, 11, 12, 13] hC [(true, 0), (true, 1), (true, 2), (true, 3), (true, 4), (true, 5), (true, 6), (true, 7), (true, 8), (true, 9), (true, 10), (true, 11), (true, 12), (true, 13)] (ws' := wX9 cyI cyJ cyZ cyO h book now sights sight signs pad nights townAt townCell reason acts at_ cost hole counts worth met ways nextWays image isKept) rfl rfl rfl (fun H locs hP hD hS => ?_)
            refine lv_if_eq (tgt := 110) hx hb dX9_told_85 (by decide) (fun cc => ?_) (fun cc => ?_)
            · replace hf := if_t cc hf
              refine lv_bipush (v := (-2)) hx hb dX9_told_110 (by decide) ?_
              cases Option.some.inj hf
              exact W.iret hx hb hr (fun t ht hW => ⟨⟨_, (), rfl, rfl, by show va_P D vwCl _ t.heap; rw [ht]; exact hP⟩, hS.F ht⟩) hS.2.2 dX9_told_112
            · replace hf := if_f cc hf
              refine lv_aload_n hx hb dX9_told_88 rfl (lv_at hl 0 rfl) ?_
              refine va_get (ci := 9) (v := .ref (h 1)) (C := RX9) (T := TX9) (N := 21) hx hb hT hin_X9 hown hK hP 0 rfl rfl 0 (by decide) (hT _ wf_X9_7) (fun _ h9 => h9) rfl dX9_told_89 ?_
              refine lv_bipush (v := 42) hx hb dX9_told_92 (by decide) ?_
              refine lv_iload_n hx hb dX9_told_94 rfl (lv_at hl 1 rfl) ?_
              refine lv_bipush (v := 10) hx hb dX9_told_95 (by decide) ?_
              refine lv_idiv hx hb dX9_told_97 (by decide) ?_
              refine lv_iconst (v := 4) hx hb dX9_told_98 (by decide) ?_
              refine lv_imul hx hb dX9_told_99 ?_
              refine lv_iadd hx hb dX9_told_100 ?_
              refine lv_iload_n hx hb dX9_told_101 rfl (lv_at hl 1 rfl) ?_
              refine lv_bipush (v := 10) hx hb dX9_told_102 (by decide) ?_
              refine lv_irem hx hb dX9_told_104 (by decide) ?_
              refine lv_iadd hx hb dX9_told_105 ?_
              obtain ⟨hi, hf⟩ := ck_some hf
              refine va_iald hx hb hK hP 1 0 rfl rfl hi dX9_told_106 ?_
              refine lv_goto (tgt := 112) hx hb dX9_told_107 (by decide) ?_
              cases Option.some.inj hf
              exact W.iret hx hb hr (fun t ht hW => ⟨⟨_, (), rfl, rfl, by show va_P D vwCl _ t.heap; rw [ht]; exact hP⟩, hS.F ht⟩) hS.2.2 dX9_told_112
      · replace hf := if_f cc hf
        refine lv_iload_n hx hb dX9_told_40 rfl (lv_at hl 1 rfl) ?_
        refine lv_bipush (v := 100) hx hb dX9_told_41 (by decide) ?_
        refine lv_isub hx hb dX9_told_43 ?_
        obtain ⟨q5, hq5, hf⟩ := bd_some hf
        have hC : ([] : List Nat).map (fun i => (wX9 cyI cyJ cyZ cyO h book now sights sight signs pad nights townAt townCell reason acts at_ cost hole counts worth met ways nextWays image isKept)[i]?) = ([] : va_W).map some := rfl
        refine cl_i (rn_S (As := [.int (p1 - 100)]) (rest := []) hx hb hml hown hT hK hN hP hD [] hC rfl (c_X9_isCell l D cyI cyJ cyZ cyO H.size (p1 - 100) nf q5 hq5) wm_X9_59 wt_X9_isCell wz_X9 wc_X9_isCell hd_X9_isCell ⟨rfl, rfl⟩ ⟨Nat.le_of_ble_eq_true rfl, Nat.le_of_ble_eq_true rfl⟩ rfl hl.1 rfl (Nat.le_of_ble_eq_true rfl) dX9_told_44 ⟨Nat.zero_le _, Nat.zero_le _⟩) hP hD hS hA [] hC [(false, 0), (false, 1), (false, 2), (false, 3), (false, 4), (false, 5), (false, 6), (false, 7), (false, 8), (false, 9), (false, 10), (false, 11), (false, 12), (false, 13)] (ws' := wX9 cyI cyJ cyZ cyO h book now sights sight signs pad nights townAt townCell reason acts at_ cost hole counts worth met ways nextWays image isKept) rfl rfl rfl (fun H locs hP hD hS => ?_)
        refine lv_if_eq (tgt := 62) hx hb dX9_told_47 (by decide) (fun cc => ?_) (fun cc => ?_)
        · replace hf := if_t cc hf
          refine lv_bipush (v := (-2)) hx hb dX9_told_62 (by decide) ?_
          cases Option.some.inj hf
          exact W.iret hx hb hr (fun t ht hW => ⟨⟨_, (), rfl, rfl, by show va_P D vwCl _ t.heap; rw [ht]; exact hP⟩, hS.F ht⟩) hS.2.2 dX9_told_64
        · replace hf := if_f cc hf
          refine lv_aload_n hx hb dX9_told_50 rfl (lv_at hl 0 rfl) ?_
          refine va_get (ci := 9) (v := .ref (h 1)) (C := RX9) (T := TX9) (N := 21) hx hb hT hin_X9 hown hK hP 0 rfl rfl 0 (by decide) (hT _ wf_X9_7) (fun _ h9 => h9) rfl dX9_told_51 ?_
          refine lv_iload_n hx hb dX9_told_54 rfl (lv_at hl 1 rfl) ?_
          refine lv_bipush (v := 100) hx hb dX9_told_55 (by decide) ?_
          refine lv_isub hx hb dX9_told_57 ?_
          obtain ⟨hi, hf⟩ := ck_some hf
          refine va_iald hx hb hK hP 1 0 rfl rfl hi dX9_told_58 ?_
          refine lv_goto (tgt := 64) hx hb dX9_told_59 (by decide) ?_
          cases Option.some.inj hf
          exact W.iret hx hb hr (fun t ht hW => ⟨⟨_, (), rfl, rfl, by show va_P D vwCl _ t.heap; rw [ht]; exact hP⟩, hS.F ht⟩) hS.2.2 dX9_told_64
    · replace hf := if_f cc hf
      refine lv_iload_n hx hb dX9_told_7 rfl (lv_at hl 1 rfl) ?_
      refine lv_sipush (v := 200) hx hb dX9_told_8 (by decide) ?_
      refine lv_isub hx hb dX9_told_11 ?_
      obtain ⟨q6, hq6, hf⟩ := bd_some hf
      have hC : ([] : List Nat).map (fun i => (wX9 cyI cyJ cyZ cyO h book now sights sight signs pad nights townAt townCell reason acts at_ cost hole counts worth met ways nextWays image isKept)[i]?) = ([] : va_W).map some := rfl
      refine cl_i (rn_S (As := [.int (p1 - 200)]) (rest := []) hx hb hml hown hT hK hN hP hD [] hC rfl (c_X9_isCell l D cyI cyJ cyZ cyO H.size (p1 - 200) nf q6 hq6) wm_X9_59 wt_X9_isCell wz_X9 wc_X9_isCell hd_X9_isCell ⟨rfl, rfl⟩ ⟨Nat.le_of_ble_eq_true rfl, Nat.le_of_ble_eq_true rfl⟩ rfl hl.1 rfl (Nat.le_of_ble_eq_true rfl) dX9_told_12 ⟨Nat.zero_le _, Nat.zero_le _⟩) hP hD hS hA [] hC [(false, 0), (false, 1), (false, 2), (false, 3), (false, 4), (false, 5), (false, 6), (false, 7), (false, 8), (false, 9), (false, 10), (false, 11), (false, 12), (false, 13)] (ws' := wX9 cyI cyJ cyZ cyO h book now sights sight signs pad nights townAt townCell reason acts at_ cost hole counts worth met ways nextWays image isKept) rfl rfl rfl (fun H locs hP hD hS => ?_)
      refine lv_if_eq (tgt := 31) hx hb dX9_told_15 (by decide) (fun cc => ?_) (fun cc => ?_)
      · replace hf := if_t cc hf
        refine lv_bipush (v := (-2)) hx hb dX9_told_31 (by decide) ?_
        cases Option.some.inj hf
        exact W.iret hx hb hr (fun t ht hW => ⟨⟨_, (), rfl, rfl, by show va_P D vwCl _ t.heap; rw [ht]; exact hP⟩, hS.F ht⟩) hS.2.2 dX9_told_33
      · replace hf := if_f cc hf
        refine lv_aload_n hx hb dX9_told_18 rfl (lv_at hl 0 rfl) ?_
        refine va_get (ci := 9) (v := .ref (h 1)) (C := RX9) (T := TX9) (N := 21) hx hb hT hin_X9 hown hK hP 0 rfl rfl 0 (by decide) (hT _ wf_X9_7) (fun _ h9 => h9) rfl dX9_told_19 ?_
        refine lv_iload_n hx hb dX9_told_22 rfl (lv_at hl 1 rfl) ?_
        refine lv_sipush (v := 175) hx hb dX9_told_23 (by decide) ?_
        refine lv_isub hx hb dX9_told_26 ?_
        obtain ⟨hi, hf⟩ := ck_some hf
        refine va_iald hx hb hK hP 1 0 rfl rfl hi dX9_told_27 ?_
        refine lv_goto (tgt := 33) hx hb dX9_told_28 (by decide) ?_
        cases Option.some.inj hf
        exact W.iret hx hb hr (fun t ht hW => ⟨⟨_, (), rfl, rfl, by show va_P D vwCl _ t.heap; rw [ht]; exact hP⟩, hS.F ht⟩) hS.2.2 dX9_told_33
  have hl := lv_entry ([.ref (h 0), .int p1]) (n := 2) (Nat.le_of_ble_eq_true rfl)
  rw [lg_entry_eq]
  exact main s.heap [] _ hP hD hS hl
