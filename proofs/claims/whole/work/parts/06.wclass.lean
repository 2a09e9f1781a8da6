theorem hd_X8_allBeside : yX8_allBeside.cls ≠ "java/lang/invoke/MethodHandle" ∧ yX8_allBeside.cls ≠ "java/lang/invoke/VarHandle" ∧ (parseMethodDescriptor yX8_allBeside.desc).map (fun d => d.parameters.length) = some 1 := by decide +kernel
set_option maxHeartbeats 4000000 in
set_option maxRecDepth 100000 in
theorem c_X8_allBeside (l : Launch) (D : va_G) (cyI cyJ cyZ cyO : ClassId) (sz : Nat) (p0 : Int32) (nf : Nat) (q : Int32) (hf : g_X8_allBeside nf p0 = some q) : Met l yX8_allBeside (Cond.code yX8_allBeside cX8_allBeside 4 (some .int) :: tbG) ({ frames := 0, cells := 0, slots := 0, locals := 0 } : Room) (va_Pc [.int p0] (pcB D (ty4 cyI cyJ cyZ cyO) sz (([] : va_W)))) (qI D (([] : va_W)) q (va_A (([] : va_W)) sz)) 0 0 (va_A (([] : va_W)) sz) := by
  refine Met.ofW (cc := cX8_allBeside) (maxL := 4) (ret := (some .int)) (by decide) rfl ?_
  intro p e s m args below meth c s₁ B hml hv
  obtain ⟨rfl, hsz, hP, hK, hD0, hN⟩ := hv
  have hx := B.exec
  have hb := B.bytes
  have hr := B.returns
  have hT : ∀ w ∈ tbG, w.before ([.int p0] : List Value).toArray s = true := fun w h => atoms_spec (ws := (Cond.code yX8_allBeside cX8_allBeside 4 (some .int) :: tbG)) B.pre w (List.mem_cons_of_mem _ h)
  have hown : s.vm.findClass RX8 = some m.cls := findClass_of_methodNamed B.named
  have hlocks := B.notSynchronized
  subst hsz
  have hD := hD0.self (sz := s.heap.size)
  generalize hAe : va_A (([] : va_W)) s.heap.size = A at hD ⊢
  have hA : ∀ q : Nat, s.heap.size ≤ q → A q := fun q h => by rw [← hAe]; exact Or.inr h
  have hS : va_S A s.heap s.heap [] := va_S.rf
  show W p l e ({ frames := 0, cells := 0, slots := 0, locals := 0 } : Room) s m ([.int p0] : List Value).toArray below meth c s.heap [] 0 0 (MQ below (qI D (([] : va_W)) q A) ([.int p0] : List Value).toArray s 0 0 A) _
  have main : ∀ (H : Heap) (locs : List Loc) (ls : Array Slot), va_P D vwCl (([] : va_W)) H → va_D A (([] : va_W)) → va_S A s.heap H locs → lv_has ls 4 [(0, .int p0)] → W p l e ({ frames := 0, cells := 0, slots := 0, locals := 0 } : Room) s m ([.int p0] : List Value).toArray below meth c H locs 0 0 (MQ below (qI D (([] : va_W)) q A) ([.int p0] : List Value).toArray s 0 0 A) (F0 m 0 ls []) := by
    intro H locs ls hP hD hS hl
    unfold g_X8_allBeside at hf
    refine lv_ldcw (v := 33554431) hx hb hown (hT _ wk_X8_265) dX8_allBeside_0 ?_
    refine lv_istore_n (lv' := [(1, .int 33554431), (0, .int p0)]) hx hb dX8_allBeside_3 rfl hl (by decide) rfl (fun ls hl => ?_)
    refine lv_ldcw (v := 1082401) hx hb hown (hT _ wk_X8_266) dX8_allBeside_4 ?_
    refine lv_istore_n (lv' := [(2, .int 1082401), (1, .int 33554431), (0, .int p0)]) hx hb dX8_allBeside_7 rfl hl (by decide) rfl (fun ls hl => ?_)
    refine lv_iload_n hx hb dX8_allBeside_8 rfl (lv_at hl 0 rfl) ?_
    refine lv_iconst (v := 4) hx hb dX8_allBeside_9 (by decide) ?_
    refine lv_ishl hx hb dX8_allBeside_10 ?_
    refine lv_istore_n (lv' := [(3, .int ((1082401 : Int32) <<< ((4 : Int32) &&& 31))), (2, .int 1082401), (1, .int 33554431), (0, .int p0)]) hx hb dX8_allBeside_11 rfl hl (by decide) rfl (fun ls hl => ?_)
    refine lv_iload_n hx hb dX8_allBeside_12 rfl (lv_at hl 3 rfl) ?_
    refine lv_iconst (v := 5) hx hb dX8_allBeside_13 (by decide) ?_
    refine lv_ishr hx hb dX8_allBeside_14 ?_
    refine lv_iload_n hx hb dX8_allBeside_15 rfl (lv_at hl 3 rfl) ?_
    refine lv_iconst (v := 5) hx hb dX8_allBeside_16 (by decide) ?_
    refine lv_ishl hx hb dX8_allBeside_17 ?_
    refine lv_iload_n hx hb dX8_allBeside_18 rfl (lv_at hl 2 rfl) ?_
    refine lv_iand hx hb dX8_allBeside_19 ?_
    refine lv_ior hx hb dX8_allBeside_20 ?_
    refine lv_iload_n hx hb dX8_allBeside_21 rfl (lv_at hl 3 rfl) ?_
    refine lv_iload_n hx hb dX8_allBeside_22 rfl (lv_at hl 0 rfl) ?_
    refine lv_iconst (v := (-1)) hx hb dX8_allBeside_23 (by decide) ?_
    refine lv_ixor hx hb dX8_allBeside_24 ?_
    refine lv_iand hx hb dX8_allBeside_25 ?_
    refine lv_iconst (v := 1) hx hb dX8_allBeside_26 (by decide) ?_
    refine lv_ishl hx hb dX8_allBeside_27 ?_
    refine lv_ior hx hb dX8_allBeside_28 ?_
    refine lv_iload_n hx hb dX8_allBeside_29 rfl (lv_at hl 3 rfl) ?_
    refine lv_iload_n hx hb dX8_allBeside_30 rfl (lv_at hl 1 rfl) ?_
    refine lv_iconst (v := (-1)) hx hb dX8_allBeside_31 (by decide) ?_
    refine lv_ixor hx hb dX8_allBeside_32 ?_
    refine lv_iand hx hb dX8_allBeside_33 ?_
    refine lv_iconst (v := 1) hx hb dX8_allBeside_34 (by decide) ?_
    refine lv_ishr hx hb dX8_allBeside_35 ?_
    refine lv_ior hx hb dX8_allBeside_36 ?_
    cases Option.some.inj hf
    exact W.iret hx hb hr (fun t ht hW => ⟨⟨_, (), rfl, rfl, by show va_P D vwCl _ t.heap; rw [ht]; exact hP⟩, hS.F ht⟩) hS.2.2 dX8_allBeside_37
  have hl := lv_entry ([.int p0]) (n := 4) (Nat.le_of_ble_eq_true rfl)
  rw [lg_entry_eq]
  exact main s.heap [] _ hP hD hS hl
theorem hd_X0_partHoles : yX0_partHoles.cls = RX0 ∧ yX0_partHoles.cls ≠ "java/lang/invoke/MethodHandle" ∧ yX0_partHoles.cls ≠ "java/lang/invoke/VarHandle" ∧ (parseMethodDescriptor yX0_partHoles.desc).map (fun d => d.parameters.length) = some 0 := by decide +kernel
set_option maxHeartbeats 4000000 in
set_option maxRecDepth 100000 in
theorem c_X0_partHoles (l : Launch) (D : va_G) (cyI cyJ cyZ cyO : ClassId) (h : Nat → Nat) (sz : Nat) (woven : Nat → Int32) (tied : Nat → Int32) (ties : Int32) (holes : Int32) (byTowns : Int32) (ways : Int32) (first : Int32) (nf : Nat) (q : Int32 × (Nat → Int32) × (Nat → Int32) × Int32) (hf : g_X0_partHoles nf woven tied ties holes byTowns = some q) : Met l yX0_partHoles (Cond.code yX0_partHoles cX0_partHoles 4 (some .int) :: tbG) ({ frames := 1, cells := 0, slots := 0, locals := 23 } : Room) (va_Pc [.ref (h 0)] (pcB D (ty4 cyI cyJ cyZ cyO) sz (wX0 cyI cyJ cyZ cyO h woven tied ties holes byTowns ways first))) (qI D (wX0 cyI cyJ cyZ cyO h q.2.1 q.2.2.1 q.2.2.2 holes byTowns ways first) q.1 (va_A (wX0 cyI cyJ cyZ cyO h woven tied ties holes byTowns ways first) sz)) 0 0 (va_A (wX0 cyI cyJ cyZ cyO h woven tied ties holes byTowns ways first) sz) := by
  refine Met.ofW (cc := cX0_partHoles) (maxL := 4) (ret := (some .int)) (by decide) rfl ?_
  intro p e s m args below meth c s₁ B hml hv
  obtain ⟨rfl, hsz, hP, hK, hD0, hN⟩ := hv
  have hx := B.exec
  have hb := B.bytes
  have hr := B.returns
  have hT : ∀ w ∈ tbG, w.before ([.ref (h 0)] : List Value).toArray s = true := fun w h => atoms_spec (ws := (Cond.code yX0_partHoles cX0_partHoles 4 (some .int) :: tbG)) B.pre w (List.mem_cons_of_mem _ h)
  have hown : s.vm.findClass RX0 = some m.cls := findClass_of_methodNamed B.named
  have hlocks := B.notSynchronized
  subst hsz
  have hD := hD0.self (sz := s.heap.size)
  generalize hAe : va_A (wX0 cyI cyJ cyZ cyO h woven tied ties holes byTowns ways first) s.heap.size = A at hD ⊢
  have hA : ∀ q : Nat, s.heap.size ≤ q → A q := fun q h => by rw [← hAe]; exact Or.inr h
  have hS : va_S A s.heap s.heap [] := va_S.rf
  show W p l e ({ frames := 1, cells := 0, slots := 0, locals := 23 } : Room) s m ([.ref (h 0)] : List Value).toArray below meth c s.heap [] 0 0 (MQ below (qI D (wX0 cyI cyJ cyZ cyO h q.2.1 q.2.2.1 q.2.2.2 holes byTowns ways first) q.1 A) ([.ref (h 0)] : List Value).toArray s 0 0 A) _
  have l29 : ∀ (n29 : Nat) (x1 : Int32) (x2 : Int32) (woven : Nat → Int32) (tied : Nat → Int32) (ties : Int32) (holes : Int32) (byTowns : Int32) (H : Heap) (locs : List Loc) (ls : Array Slot), va_P D vwCl (wX0 cyI cyJ cyZ cyO h woven tied ties holes byTowns ways first) H → va_D A (wX0 cyI cyJ cyZ cyO h woven tied ties holes byTowns ways first) → va_S A s.heap H locs → lv_has ls 4 [(0, .ref (h 0)), (1, .int x1), (2, .int x2)] → g_X0_partHoles_l29 nf n29 x1 x2 woven tied ties holes byTowns = some q → W p l e ({ frames := 1, cells := 0, slots := 0, locals := 23 } : Room) s m ([.ref (h 0)] : List Value).toArray below meth c H locs 0 0 (MQ below (qI D (wX0 cyI cyJ cyZ cyO h q.2.1 q.2.2.1 q.2.2.2 holes byTowns ways first) q.1 A) ([.ref (h 0)] : List Value).toArray s 0 0 A) (F0 m 29 ls []) := by
    intro n29
    induction n29 with
    | zero =>
      intro x1 x2 woven tied ties holes byTowns H locs ls hP hD hS hl hf
      rw [g_X0_partHoles_l29] at hf
      cases hf
    | succ n29 ih29 =>
      have b122 : ∀ (x1 : Int32) (x2 : Int32) (woven : Nat → Int32) (tied : Nat → Int32) (ties : Int32) (holes : Int32) (byTowns : Int32) (H : Heap) (locs : List Loc) (ls : Array Slot), va_P D vwCl (wX0 cyI cyJ cyZ cyO h woven tied ties holes byTowns ways first) H → va_D A (wX0 cyI cyJ cyZ cyO h woven tied ties holes byTowns ways first) → va_S A s.heap H locs → lv_has ls 4 [(0, .ref (h 0)), (1, .int x1), (2, .int x2)] → g_X0_partHoles_b122 nf (g_X0_partHoles_l29 nf n29) x1 x2 woven tied ties holes byTowns = some q → W p l e ({ frames := 1, cells := 0, slots := 0, locals := 23 } : Room) s m ([.ref (h 0)] : List Value).toArray below meth c H locs 0 0 (MQ below (qI D (wX0 cyI cyJ cyZ cyO h q.2.1 q.2.2.1 q.2.2.2 holes byTowns ways first) q.1 A) ([.ref (h 0)] : List Value).toArray s 0 0 A) (F0 m 122 ls []) := by
        intro x1 x2 woven tied ties holes byTowns H locs ls hP hD hS hl hf
        unfold g_X0_partHoles_b122 at hf
        refine lv_iinc (v := (x2 + 1)) (lv' := [(2, .int (x2 + 1)), (0, .ref (h 0)), (1, .int x1)]) hx hb dX0_partHoles_122 hl (k := 2) rfl rfl (by decide) rfl (fun ls hl => ?_)
        refine lv_goto (tgt := 29) hx hb dX0_partHoles_125 (by decide) ?_
        exact ih29 x1 (x2 + 1) woven tied ties holes byTowns H locs ls hP hD hS (lv_sub hl [1, 2, 0] rfl) hf
      have b88 : ∀ (x2 : Int32) (s0 : Int32) (s1 : Int32) (woven : Nat → Int32) (tied : Nat → Int32) (ties : Int32) (holes : Int32) (byTowns : Int32) (H : Heap) (locs : List Loc) (ls : Array Slot), va_P D vwCl (wX0 cyI cyJ cyZ cyO h woven tied ties holes byTowns ways first) H → va_D A (wX0 cyI cyJ cyZ cyO h woven tied ties holes byTowns ways first) → va_S A s.heap H locs → lv_has ls 4 [(0, .ref (h 0)), (2, .int x2)] → g_X0_partHoles_b88 nf (g_X0_partHoles_l29 nf n29) x2 s0 s1 woven tied ties holes byTowns = some q → W p l e ({ frames := 1, cells := 0, slots := 0, locals := 23 } : Room) s m ([.ref (h 0)] : List Value).toArray below meth c H locs 0 0 (MQ below (qI D (wX0 cyI cyJ cyZ cyO h q.2.1 q.2.2.1 q.2.2.2 holes byTowns ways first) q.1 A) ([.ref (h 0)] : List Value).toArray s 0 0 A) (F0 m 88 ls [.int s1, .int s0]) := by
        intro x2 s0 s1 woven tied ties holes byTowns H locs ls hP hD hS hl hf
        unfold g_X0_partHoles_b88 at hf
        refine lv_imul hx hb dX0_partHoles_88 ?_
        refine lv_istore_n (lv' := [(1, .int (s0 * s1)), (0, .ref (h 0)), (2, .int x2)]) hx hb dX0_partHoles_89 rfl hl (by decide) rfl (fun ls hl => ?_)
        refine lv_goto (tgt := 122) hx hb dX0_partHoles_90 (by decide) ?_
        exact b122 (s0 * s1) x2 woven tied ties holes byTowns H locs ls hP hD hS (lv_sub hl [1, 0, 2] rfl) hf
      intro x1 x2 woven tied ties holes byTowns H locs ls hP hD hS hl hf
      rw [g_X0_partHoles_l29] at hf
      refine lv_iload_n hx hb dX0_partHoles_29 rfl (lv_at hl 2 rfl) ?_
      refine lv_bipush (v := 25) hx hb dX0_partHoles_30 (by decide) ?_
      refine lv_icmp_ge (tgt := 128) hx hb dX0_partHoles_32 (by decide) (fun cc => ?_) (fun cc => ?_)
      · replace hf := if_t cc hf
        refine lv_iload_n hx hb dX0_partHoles_128 rfl (lv_at hl 1 rfl) ?_
        cases Option.some.inj hf
        exact W.iret hx hb hr (fun t ht hW => ⟨⟨_, (), rfl, rfl, by show va_P D vwCl _ t.heap; rw [ht]; exact hP⟩, hS.F ht⟩) hS.2.2 dX0_partHoles_129
      · replace hf := if_f cc hf
        refine lv_iconst (v := 1) hx hb dX0_partHoles_35 (by decide) ?_
        refine lv_iload_n hx hb dX0_partHoles_36 rfl (lv_at hl 2 rfl) ?_
        refine lv_ishl hx hb dX0_partHoles_37 ?_
        refine lv_istore_n (lv' := [(3, .int ((1 : Int32) <<< (x2 &&& 31))), (0, .ref (h 0)), (1, .int x1), (2, .int x2)]) hx hb dX0_partHoles_38 rfl hl (by decide) rfl (fun ls hl => ?_)
        refine lv_aload_n hx hb dX0_partHoles_39 rfl (lv_at hl 1 rfl) ?_
        refine va_get (ci := 0) (v := .int holes) (C := RX0) (T := TX0) (N := 7) hx hb hT hin_X0 hown hK hP 0 rfl rfl 3 (by decide) (hT _ wf_X0_18) (fun _ h9 => h9) rfl dX0_partHoles_40 ?_
        refine lv_iload_n hx hb dX0_partHoles_43 rfl (lv_at hl 0 rfl) ?_
        refine lv_iand hx hb dX0_partHoles_44 ?_
        refine lv_if_ne (tgt := 51) hx hb dX0_partHoles_45 (by decide) (fun cc => ?_) (fun cc => ?_)
        · replace hf := if_f cc hf
          refine lv_iload_n hx hb dX0_partHoles_51 rfl (lv_at hl 0 rfl) ?_
          obtain ⟨q1, hq1, hf⟩ := bd_some hf
          have hC : ([] : List Nat).map (fun i => (wX0 cyI cyJ cyZ cyO h woven tied ties holes byTowns ways first)[i]?) = ([] : va_W).map some := rfl
          refine cl_i (rn_SN (As := [.int ((1 : Int32) <<< (x2 &&& 31))]) (rest := []) (host := RX8) hx hb hml hown hT hK hN hP hD [] hC rfl (c_X8_allBeside l D cyI cyJ cyZ cyO H.size ((1 : Int32) <<< (x2 &&& 31)) nf q1 hq1) (by decide) wt_X8_allBeside wz_X8 wc_X8_allBeside hd_X8_allBeside ⟨rfl, rfl⟩ ⟨Nat.le_of_ble_eq_true rfl, Nat.le_of_ble_eq_true rfl⟩ rfl hl.1 rfl (Nat.le_of_ble_eq_true rfl) dX0_partHoles_52 ⟨Nat.zero_le _, Nat.zero_le _⟩) hP hD hS hA [] hC [(false, 0), (false, 1), (false, 2)] (ws' := wX0 cyI cyJ cyZ cyO h woven tied ties holes byTowns ways first) rfl rfl rfl (fun H locs hP hD hS => ?_)
          refine lv_aload_n hx hb dX0_partHoles_55 rfl (lv_at hl 1 rfl) ?_
          refine va_get (ci := 0) (v := .int holes) (C := RX0) (T := TX0) (N := 7) hx hb hT hin_X0 hown hK hP 0 rfl rfl 3 (by decide) (hT _ wf_X0_18) (fun _ h9 => h9) rfl dX0_partHoles_56 ?_
          refine lv_iand hx hb dX0_partHoles_59 ?_
          refine lv_if_ne (tgt := 93) hx hb dX0_partHoles_60 (by decide) (fun cc => ?_) (fun cc => ?_)
          · replace hf := if_f cc hf
            refine lv_aload_n hx hb dX0_partHoles_93 rfl (lv_at hl 1 rfl) ?_
            refine va_get (ci := 0) (v := .int ties) (C := RX0) (T := TX0) (N := 7) hx hb hT hin_X0 hown hK hP 0 rfl rfl 2 (by decide) (hT _ wf_X0_42) (fun _ h9 => h9) rfl dX0_partHoles_94 ?_
            refine lv_bipush (v := 9) hx hb dX0_partHoles_97 (by decide) ?_
            refine lv_icmp_ge (tgt := 122) hx hb dX0_partHoles_99 (by decide) (fun cc => ?_) (fun cc => ?_)
            · replace hf := if_t cc hf
              exact b122 x1 x2 woven tied ties holes byTowns H locs ls hP hD hS (lv_sub hl [1, 2, 3] rfl) hf
            · replace hf := if_f cc hf
              refine lv_aload_n hx hb dX0_partHoles_102 rfl (lv_at hl 1 rfl) ?_
              refine va_get (ci := 0) (v := .ref (h 2)) (C := RX0) (T := TX0) (N := 7) hx hb hT hin_X0 hown hK hP 0 rfl rfl 1 (by decide) (hT _ wf_X0_15) (fun _ h9 => h9) rfl dX0_partHoles_103 ?_
              refine lv_aload_n hx hb dX0_partHoles_106 rfl (lv_at hl 1 rfl) ?_
              refine va_get (ci := 0) (v := .int ties) (C := RX0) (T := TX0) (N := 7) hx hb hT hin_X0 hown hK hP 0 rfl rfl 2 (by decide) (hT _ wf_X0_42) (fun _ h9 => h9) rfl dX0_partHoles_107 ?_
              refine lv_iload_n hx hb dX0_partHoles_110 rfl (lv_at hl 0 rfl) ?_
              obtain ⟨hi, hf⟩ := ck_some hf
              refine va_iast hx hb hK hP hD hS 2 0 rfl rfl hi dX0_partHoles_111 (fun H locs hP hD hS => ?_)
              have hP : va_P D vwCl (wX0 cyI cyJ cyZ cyO h woven (upd tied ties.toNatClampNeg ((1 : Int32) <<< (x2 &&& 31))) ties holes byTowns ways first) H := hP
              have hD : va_D A (wX0 cyI cyJ cyZ cyO h woven (upd tied ties.toNatClampNeg ((1 : Int32) <<< (x2 &&& 31))) ties holes byTowns ways first) := hD
              refine lv_aload_n hx hb dX0_partHoles_112 rfl (lv_at hl 1 rfl) ?_
              refine lv_dup hx hb dX0_partHoles_113 rfl ?_
              refine va_get (ci := 0) (v := .int ties) (C := RX0) (T := TX0) (N := 7) hx hb hT hin_X0 hown hK hP 0 rfl rfl 2 (by decide) (hT _ wf_X0_42) (fun _ h9 => h9) rfl dX0_partHoles_114 ?_
              refine lv_iconst (v := 1) hx hb dX0_partHoles_117 (by decide) ?_
              refine lv_iadd hx hb dX0_partHoles_118 ?_
              refine va_put (ci := 0) (v := .int (ties + 1)) (ty := .int) (C := RX0) (T := TX0) (N := 7) hx hb hT hin_X0 tyX0 tyX0_ok nmX0 hown hK hP hD hS 0 rfl rfl 2 (by decide) (hT _ wf_X0_42) (fun _ h9 => h9) rfl (tyX0_ok 2 (by decide)) rfl rfl (Nat.le_of_ble_eq_true rfl) dX0_partHoles_119 (fun H locs hP hD hS => ?_)
              have hP : va_P D vwCl (wX0 cyI cyJ cyZ cyO h woven (upd tied ties.toNatClampNeg ((1 : Int32) <<< (x2 &&& 31))) (ties + 1) holes byTowns ways first) H := hP
              have hD : va_D A (wX0 cyI cyJ cyZ cyO h woven (upd tied ties.toNatClampNeg ((1 : Int32) <<< (x2 &&& 31))) (ties + 1) holes byTowns ways first) := hD
              exact b122 x1 x2 woven (upd tied ties.toNatClampNeg ((1 : Int32) <<< (x2 &&& 31))) (ties + 1) holes byTowns H locs ls hP hD hS (lv_sub hl [1, 2, 3] rfl) hf
          · replace hf := if_t cc hf
            refine lv_aload_n hx hb dX0_partHoles_63 rfl (lv_at hl 1 rfl) ?_
            refine va_get (ci := 0) (v := .ref (h 1)) (C := RX0) (T := TX0) (N := 7) hx hb hT hin_X0 hown hK hP 0 rfl rfl 0 (by decide) (hT _ wf_X0_9) (fun _ h9 => h9) rfl dX0_partHoles_64 ?_
            refine lv_iconst (v := 1) hx hb dX0_partHoles_67 (by decide) ?_
            refine lv_dup2_11 hx hb dX0_partHoles_68 rfl rfl ?_
            obtain ⟨hi, hf⟩ := ck_some hf
            refine va_iald hx hb hK hP 1 0 rfl rfl hi dX0_partHoles_69 ?_
            refine lv_iload_n hx hb dX0_partHoles_70 rfl (lv_at hl 0 rfl) ?_
            refine lv_ior hx hb dX0_partHoles_71 ?_
            obtain ⟨hi, hf⟩ := ck_some hf
            refine va_iast hx hb hK hP hD hS 1 0 rfl rfl hi dX0_partHoles_72 (fun H locs hP hD hS => ?_)
            have hP : va_P D vwCl (wX0 cyI cyJ cyZ cyO h (upd woven (1 : Int32).toNatClampNeg ((woven (1 : Int32).toNatClampNeg) ||| ((1 : Int32) <<< (x2 &&& 31)))) tied ties holes byTowns ways first) H := hP
            have hD : va_D A (wX0 cyI cyJ cyZ cyO h (upd woven (1 : Int32).toNatClampNeg ((woven (1 : Int32).toNatClampNeg) ||| ((1 : Int32) <<< (x2 &&& 31)))) tied ties holes byTowns ways first) := hD
            refine lv_iload_n hx hb dX0_partHoles_73 rfl (lv_at hl 2 rfl) ?_
            refine lv_aload_n hx hb dX0_partHoles_74 rfl (lv_at hl 1 rfl) ?_
            refine va_get (ci := 0) (v := .int byTowns) (C := RX0) (T := TX0) (N := 7) hx hb hT hin_X0 hown hK hP 0 rfl rfl 4 (by decide) (hT _ wf_X0_26) (fun _ h9 => h9) rfl dX0_partHoles_75 ?_
            refine lv_iload_n hx hb dX0_partHoles_78 rfl (lv_at hl 0 rfl) ?_
            refine lv_iand hx hb dX0_partHoles_79 ?_
            refine lv_if_ne (tgt := 87) hx hb dX0_partHoles_80 (by decide) (fun cc => ?_) (fun cc => ?_)
            · replace hf := if_f cc hf
              refine lv_iconst (v := 2) hx hb dX0_partHoles_87 (by decide) ?_
              exact b88 x2 x1 2 (upd woven (1 : Int32).toNatClampNeg ((woven (1 : Int32).toNatClampNeg) ||| ((1 : Int32) <<< (x2 &&& 31)))) tied ties holes byTowns H locs ls hP hD hS (lv_sub hl [1, 3] rfl) hf
            · replace hf := if_t cc hf
              refine lv_iconst (v := 3) hx hb dX0_partHoles_83 (by decide) ?_
              refine lv_goto (tgt := 88) hx hb dX0_partHoles_84 (by decide) ?_
              exact b88 x2 x1 3 (upd woven (1 : Int32).toNatClampNeg ((woven (1 : Int32).toNatClampNeg) ||| ((1 : Int32) <<< (x2 &&& 31)))) tied ties holes byTowns H locs ls hP hD hS (lv_sub hl [1, 3] rfl) hf
        · replace hf := if_t cc hf
          refine lv_goto (tgt := 122) hx hb dX0_partHoles_48 (by decide) ?_
          exact b122 x1 x2 woven tied ties holes byTowns H locs ls hP hD hS (lv_sub hl [1, 2, 3] rfl) hf
  have l2 : ∀ (n2 : Nat) (x1 : Int32) (woven : Nat → Int32) (tied : Nat → Int32) (ties : Int32) (holes : Int32) (byTowns : Int32) (H : Heap) (locs : List Loc) (ls : Array Slot), va_P D vwCl (wX0 cyI cyJ cyZ cyO h woven tied ties holes byTowns ways first) H → va_D A (wX0 cyI cyJ cyZ cyO h woven tied ties holes byTowns ways first) → va_S A s.heap H locs → lv_has ls 4 [(0, .ref (h 0)), (1, .int x1)] → g_X0_partHoles_l2 nf n2 x1 woven tied ties holes byTowns = some q → W p l e ({ frames := 1, cells := 0, slots := 0, locals := 23 } : Room) s m ([.ref (h 0)] : List Value).toArray below meth c H locs 0 0 (MQ below (qI D (wX0 cyI cyJ cyZ cyO h q.2.1 q.2.2.1 q.2.2.2 holes byTowns ways first) q.1 A) ([.ref (h 0)] : List Value).toArray s 0 0 A) (F0 m 2 ls []) := by
    intro n2
    induction n2 with
    | zero =>
      intro x1 woven tied ties holes byTowns H locs ls hP hD hS hl hf
      rw [g_X0_partHoles_l2] at hf
      cases hf
    | succ n2 ih2 =>
      intro x1 woven tied ties holes byTowns H locs ls hP hD hS hl hf
      rw [g_X0_partHoles_l2] at hf
      refine lv_iload_n hx hb dX0_partHoles_2 rfl (lv_at hl 1 rfl) ?_
      refine lv_iconst (v := 3) hx hb dX0_partHoles_3 (by decide) ?_
      refine lv_icmp_gt (tgt := 20) hx hb dX0_partHoles_4 (by decide) (fun cc => ?_) (fun cc => ?_)
      · replace hf := if_t cc hf
        refine lv_aload_n hx hb dX0_partHoles_20 rfl (lv_at hl 0 rfl) ?_
        refine lv_iconst (v := 0) hx hb dX0_partHoles_21 (by decide) ?_
        refine va_put (ci := 0) (v := .int 0) (ty := .int) (C := RX0) (T := TX0) (N := 7) hx hb hT hin_X0 tyX0 tyX0_ok nmX0 hown hK hP hD hS 0 rfl rfl 2 (by decide) (hT _ wf_X0_42) (fun _ h9 => h9) rfl (tyX0_ok 2 (by decide)) rfl rfl (Nat.le_of_ble_eq_true rfl) dX0_partHoles_22 (fun H locs hP hD hS => ?_)
        have hP : va_P D vwCl (wX0 cyI cyJ cyZ cyO h woven tied 0 holes byTowns ways first) H := hP
        have hD : va_D A (wX0 cyI cyJ cyZ cyO h woven tied 0 holes byTowns ways first) := hD
        refine lv_iconst (v := 1) hx hb dX0_partHoles_25 (by decide) ?_
        refine lv_istore_n (lv' := [(1, .int 1), (0, .ref (h 0))]) hx hb dX0_partHoles_26 rfl hl (by decide) rfl (fun ls hl => ?_)
        refine lv_iconst (v := 0) hx hb dX0_partHoles_27 (by decide) ?_
        refine lv_istore_n (lv' := [(2, .int 0), (1, .int 1), (0, .ref (h 0))]) hx hb dX0_partHoles_28 rfl hl (by decide) rfl (fun ls hl => ?_)
        exact l29 nf 1 0 woven tied 0 holes byTowns H locs ls hP hD hS (lv_sub hl [2, 1, 0] rfl) hf
      · replace hf := if_f cc hf
        refine lv_aload_n hx hb dX0_partHoles_7 rfl (lv_at hl 0 rfl) ?_
        refine va_get (ci := 0) (v := .ref (h 1)) (C := RX0) (T := TX0) (N := 7) hx hb hT hin_X0 hown hK hP 0 rfl rfl 0 (by decide) (hT _ wf_X0_9) (fun _ h9 => h9) rfl dX0_partHoles_8 ?_
        refine lv_iload_n hx hb dX0_partHoles_11 rfl (lv_at hl 1 rfl) ?_
        refine lv_iconst (v := 0) hx hb dX0_partHoles_12 (by decide) ?_
        obtain ⟨hi, hf⟩ := ck_some hf
        refine va_iast hx hb hK hP hD hS 1 0 rfl rfl hi dX0_partHoles_13 (fun H locs hP hD hS => ?_)
        have hP : va_P D vwCl (wX0 cyI cyJ cyZ cyO h (upd woven x1.toNatClampNeg 0) tied ties holes byTowns ways first) H := hP
        have hD : va_D A (wX0 cyI cyJ cyZ cyO h (upd woven x1.toNatClampNeg 0) tied ties holes byTowns ways first) := hD
        refine lv_iinc (v := (x1 + 1)) (lv' := [(1, .int (x1 + 1)), (0, .ref (h 0))]) hx hb dX0_partHoles_14 hl (k := 1) rfl rfl (by decide) rfl (fun ls hl => ?_)
        refine lv_goto (tgt := 2) hx hb dX0_partHoles_17 (by decide) ?_
        exact ih2 (x1 + 1) (upd woven x1.toNatClampNeg 0) tied ties holes byTowns H locs ls hP hD hS (lv_sub hl [1, 0] rfl) hf
  have main : ∀ (H : Heap) (locs : List Loc) (ls : Array Slot), va_P D vwCl (wX0 cyI cyJ cyZ cyO h woven tied ties holes byTowns ways first) H → va_D A (wX0 cyI cyJ cyZ cyO h woven tied ties holes byTowns ways first) → va_S A s.heap H locs → lv_has ls 4 [(0, .ref (h 0))] → W p l e ({ frames := 1, cells := 0, slots := 0, locals := 23 } : Room) s m ([.ref (h 0)] : List Value).toArray below meth c H locs 0 0 (MQ below (qI D (wX0 cyI cyJ cyZ cyO h q.2.1 q.2.2.1 q.2.2.2 holes byTowns ways first) q.1 A) ([.ref (h 0)] : List Value).toArray s 0 0 A) (F0 m 0 ls []) := by
    intro H locs ls hP hD hS hl
    unfold g_X0_partHoles at hf
    refine lv_iconst (v := 1) hx hb dX0_partHoles_0 (by decide) ?_
    refine lv_istore_n (lv' := [(1, .int 1), (0, .ref (h 0))]) hx hb dX0_partHoles_1 rfl hl (by decide) rfl (fun ls hl => ?_)
    exact l2 nf 1 woven tied ties holes byTowns H locs ls hP hD hS (lv_sub hl [1, 0] rfl) hf
  have hl := lv_entry ([.ref (h 0)]) (n := 4) (Nat.le_of_ble_eq_true rfl)
  rw [lg_entry_eq]
  exact main s.heap [] _ hP hD hS hl
theorem hd_X0_threadOf : yX0_threadOf.cls = RX0 ∧ yX0_threadOf.cls ≠ "java/lang/invoke/MethodHandle" ∧ yX0_threadOf.cls ≠ "java/lang/invoke/VarHandle" ∧ (parseMethodDescriptor yX0_threadOf.desc).map (fun d => d.parameters.length) = some 1 := by decide +kernel
set_option maxHeartbeats 4000000 in
set_option maxRecDepth 100000 in
theorem c_X0_threadOf (l : Launch) (D : va_G) (cyI cyJ cyZ cyO : ClassId) (h : Nat → Nat) (sz : Nat) (woven : Nat → Int32) (tied : Nat → Int32) (ties : Int32) (holes : Int32) (byTowns : Int32) (ways : Int32) (first : Int32) (p1 : Int32) (nf : Nat) (q : Int32) (hf : g_X0_threadOf nf p1 woven = some q) : Met l yX0_threadOf (Cond.code yX0_threadOf cX0_threadOf 2 (some .int) :: tbG) ({ frames := 0, cells := 0, slots := 0, locals := 0 } : Room) (va_Pc [.ref (h 0), .int p1] (pcB D (ty4 cyI cyJ cyZ cyO) sz (wX0 cyI cyJ cyZ cyO h woven tied ties holes byTowns ways first))) (qI D (wX0 cyI cyJ cyZ cyO h woven tied ties holes byTowns ways first) q (va_A (wX0 cyI cyJ cyZ cyO h woven tied ties holes byTowns ways first) sz)) 0 0 (va_A (wX0 cyI cyJ cyZ cyO h woven tied ties holes byTowns ways first) sz) := by
  refine Met.ofW (cc := cX0_threadOf) (maxL := 2) (ret := (some .int)) (by decide) rfl ?_
  intro p e s m args below meth c s₁ B hml hv
  obtain ⟨rfl, hsz, hP, hK, hD0, hN⟩ := hv
  have hx := B.exec
  have hb := B.bytes
  have hr := B.returns
  have hT : ∀ w ∈ tbG, w.before ([.ref (h 0), .int p1] : List Value).toArray s = true := fun w h => atoms_spec (ws := (Cond.code yX0_threadOf cX0_threadOf 2 (some .int) :: tbG)) B.pre w (List.mem_cons_of_mem _ h)
  have hown : s.vm.findClass RX0 = some m.cls := findClass_of_methodNamed B.named
  have hlocks := B.notSynchronized
  subst hsz
  have hD := hD0.self (sz := s.heap.size)
  generalize hAe : va_A (wX0 cyI cyJ cyZ cyO h woven tied ties holes byTowns ways first) s.heap.size = A at hD ⊢
  have hA : ∀ q : Nat, s.heap.size ≤ q → A q := fun q h => by rw [← hAe]; exact Or.inr h
  have hS : va_S A s.heap s.heap [] := va_S.rf
  show W p l e ({ frames := 0, cells := 0, slots := 0, locals := 0 } : Room) s m ([.ref (h 0), .int p1] : List Value).toArray below meth c s.heap [] 0 0 (MQ below (qI D (wX0 cyI cyJ cyZ cyO h woven tied ties holes byTowns ways first) q A) ([.ref (h 0), .int p1] : List Value).toArray s 0 0 A) _
  have main : ∀ (H : Heap) (locs : List Loc) (ls : Array Slot), va_P D vwCl (wX0 cyI cyJ cyZ cyO h woven tied ties holes byTowns ways first) H → va_D A (wX0 cyI cyJ cyZ cyO h woven tied ties holes byTowns ways first) → va_S A s.heap H locs → lv_has ls 2 [(0, .ref (h 0)), (1, .int p1)] → W p l e ({ frames := 0, cells := 0, slots := 0, locals := 0 } : Room) s m ([.ref (h 0), .int p1] : List Value).toArray below meth c H locs 0 0 (MQ below (qI D (wX0 cyI cyJ cyZ cyO h woven tied ties holes byTowns ways first) q A) ([.ref (h 0), .int p1] : List Value).toArray s 0 0 A) (F0 m 0 ls []) := by
    intro H locs ls hP hD hS hl
    unfold g_X0_threadOf at hf
    refine lv_aload_n hx hb dX0_threadOf_0 rfl (lv_at hl 0 rfl) ?_
    refine va_get (ci := 0) (v := .ref (h 1)) (C := RX0) (T := TX0) (N := 7) hx hb hT hin_X0 hown hK hP 0 rfl rfl 0 (by decide) (hT _ wf_X0_9) (fun _ h9 => h9) rfl dX0_threadOf_1 ?_
    refine lv_iconst (v := 1) hx hb dX0_threadOf_4 (by decide) ?_
    obtain ⟨hi, hf⟩ := ck_some hf
    refine va_iald hx hb hK hP 1 0 rfl rfl hi dX0_threadOf_5 ?_
    refine lv_iload_n hx hb dX0_threadOf_6 rfl (lv_at hl 1 rfl) ?_
    refine lv_iand hx hb dX0_threadOf_7 ?_
    refine lv_if_eq (tgt := 13) hx hb dX0_threadOf_8 (by decide) (fun cc => ?_) (fun cc => ?_)
    · replace hf := if_t cc hf
      refine lv_aload_n hx hb dX0_threadOf_13 rfl (lv_at hl 0 rfl) ?_
      refine va_get (ci := 0) (v := .ref (h 1)) (C := RX0) (T := TX0) (N := 7) hx hb hT hin_X0 hown hK hP 0 rfl rfl 0 (by decide) (hT _ wf_X0_9) (fun _ h9 => h9) rfl dX0_threadOf_14 ?_
      refine lv_iconst (v := 2) hx hb dX0_threadOf_17 (by decide) ?_
      obtain ⟨hi, hf⟩ := ck_some hf
      refine va_iald hx hb hK hP 1 0 rfl rfl hi dX0_threadOf_18 ?_
      refine lv_iload_n hx hb dX0_threadOf_19 rfl (lv_at hl 1 rfl) ?_
      refine lv_iand hx hb dX0_threadOf_20 ?_
      refine lv_if_eq (tgt := 28) hx hb dX0_threadOf_21 (by decide) (fun cc => ?_) (fun cc => ?_)
      · replace hf := if_t cc hf
        refine lv_iconst (v := 3) hx hb dX0_threadOf_28 (by decide) ?_
        cases Option.some.inj hf
        exact W.iret hx hb hr (fun t ht hW => ⟨⟨_, (), rfl, rfl, by show va_P D vwCl _ t.heap; rw [ht]; exact hP⟩, hS.F ht⟩) hS.2.2 dX0_threadOf_29
      · replace hf := if_f cc hf
        refine lv_iconst (v := 2) hx hb dX0_threadOf_24 (by decide) ?_
        refine lv_goto (tgt := 29) hx hb dX0_threadOf_25 (by decide) ?_
        cases Option.some.inj hf
        exact W.iret hx hb hr (fun t ht hW => ⟨⟨_, (), rfl, rfl, by show va_P D vwCl _ t.heap; rw [ht]; exact hP⟩, hS.F ht⟩) hS.2.2 dX0_threadOf_29
    · replace hf := if_f cc hf
      refine lv_iconst (v := 1) hx hb dX0_threadOf_11 (by decide) ?_
      cases Option.some.inj hf
      exact W.iret hx hb hr (fun t ht hW => ⟨⟨_, (), rfl, rfl, by show va_P D vwCl _ t.heap; rw [ht]; exact hP⟩, hS.F ht⟩) hS.2.2 dX0_threadOf_12
  have hl := lv_entry ([.ref (h 0), .int p1]) (n := 2) (Nat.le_of_ble_eq_true rfl)
  rw [lg_entry_eq]
  exact main s.heap [] _ hP hD hS hl
theorem hd_X0_digits : yX0_digits.cls = RX0 ∧ yX0_digits.cls ≠ "java/lang/invoke/MethodHandle" ∧ yX0_digits.cls ≠ "java/lang/invoke/VarHandle" ∧ (parseMethodDescriptor yX0_digits.desc).map (fun d => d.parameters.length) = some 0 := by decide +kernel
set_option maxHeartbeats 4000000 in
set_option maxRecDepth 100000 in
theorem c_X0_digits (l : Launch) (D : va_G) (cyI cyJ cyZ cyO : ClassId) (h : Nat → Nat) (sz : Nat) (woven : Nat → Int32) (tied : Nat → Int32) (ties : Int32) (holes : Int32) (byTowns : Int32) (ways : Int32) (first : Int32) (nf : Nat) (q : Int32) (hf : g_X0_digits nf woven holes = some q) : Met l yX0_digits (Cond.code yX0_digits cX0_digits 4 (some .int) :: tbG) ({ frames := 1, cells := 0, slots := 0, locals := 21 } : Room) (va_Pc [.ref (h 0)] (pcB D (ty4 cyI cyJ cyZ cyO) sz (wX0 cyI cyJ cyZ cyO h woven tied ties holes byTowns ways first))) (qI D (wX0 cyI cyJ cyZ cyO h woven tied ties holes byTowns ways first) q (va_A (wX0 cyI cyJ cyZ cyO h woven tied ties holes byTowns ways first) sz)) 0 0 (va_A (wX0 cyI cyJ cyZ cyO h woven tied ties holes byTowns ways first) sz) := by
  refine Met.ofW (cc := cX0_digits) (maxL := 4) (ret := (some .int)) (by decide) rfl ?_
  intro p e s m args below meth c s₁ B hml hv
  obtain ⟨rfl, hsz, hP, hK, hD0, hN⟩ := hv
  have hx := B.exec
  have hb := B.bytes
  have hr := B.returns
  have hT : ∀ w ∈ tbG, w.before ([.ref (h 0)] : List Value).toArray s = true := fun w h => atoms_spec (ws := (Cond.code yX0_digits cX0_digits 4 (some .int) :: tbG)) B.pre w (List.mem_cons_of_mem _ h)
  have hown : s.vm.findClass RX0 = some m.cls := findClass_of_methodNamed B.named
  have hlocks := B.notSynchronized
  subst hsz
  have hD := hD0.self (sz := s.heap.size)
  generalize hAe : va_A (wX0 cyI cyJ cyZ cyO h woven tied ties holes byTowns ways first) s.heap.size = A at hD ⊢
  have hA : ∀ q : Nat, s.heap.size ≤ q → A q := fun q h => by rw [← hAe]; exact Or.inr h
  have hS : va_S A s.heap s.heap [] := va_S.rf
  show W p l e ({ frames := 1, cells := 0, slots := 0, locals := 21 } : Room) s m ([.ref (h 0)] : List Value).toArray below meth c s.heap [] 0 0 (MQ below (qI D (wX0 cyI cyJ cyZ cyO h woven tied ties holes byTowns ways first) q A) ([.ref (h 0)] : List Value).toArray s 0 0 A) _
  have l4 : ∀ (n4 : Nat) (x1 : Int32) (x2 : Int32) (woven : Nat → Int32) (holes : Int32) (H : Heap) (locs : List Loc) (ls : Array Slot), va_P D vwCl (wX0 cyI cyJ cyZ cyO h woven tied ties holes byTowns ways first) H → va_D A (wX0 cyI cyJ cyZ cyO h woven tied ties holes byTowns ways first) → va_S A s.heap H locs → lv_has ls 4 [(0, .ref (h 0)), (1, .int x1), (2, .int x2)] → g_X0_digits_l4 nf n4 x1 x2 woven holes = some q → W p l e ({ frames := 1, cells := 0, slots := 0, locals := 21 } : Room) s m ([.ref (h 0)] : List Value).toArray below meth c H locs 0 0 (MQ below (qI D (wX0 cyI cyJ cyZ cyO h woven tied ties holes byTowns ways first) q A) ([.ref (h 0)] : List Value).toArray s 0 0 A) (F0 m 4 ls []) := by
    intro n4
    induction n4 with
    | zero =>
      intro x1 x2 woven holes H locs ls hP hD hS hl hf
      rw [g_X0_digits_l4] at hf
      cases hf
    | succ n4 ih4 =>
      have b34 : ∀ (x1 : Int32) (x2 : Int32) (woven : Nat → Int32) (holes : Int32) (H : Heap) (locs : List Loc) (ls : Array Slot), va_P D vwCl (wX0 cyI cyJ cyZ cyO h woven tied ties holes byTowns ways first) H → va_D A (wX0 cyI cyJ cyZ cyO h woven tied ties holes byTowns ways first) → va_S A s.heap H locs → lv_has ls 4 [(0, .ref (h 0)), (1, .int x1), (2, .int x2)] → g_X0_digits_b34 nf (g_X0_digits_l4 nf n4) x1 x2 woven holes = some q → W p l e ({ frames := 1, cells := 0, slots := 0, locals := 21 } : Room) s m ([.ref (h 0)] : List Value).toArray below meth c H locs 0 0 (MQ below (qI D (wX0 cyI cyJ cyZ cyO h woven tied ties holes byTowns ways first) q A) ([.ref (h 0)] : List Value).toArray s 0 0 A) (F0 m 34 ls []) := by
        intro x1 x2 woven holes H locs ls hP hD hS hl hf
        unfold g_X0_digits_b34 at hf
        refine lv_iinc (v := (x2 + 1)) (lv' := [(2, .int (x2 + 1)), (0, .ref (h 0)), (1, .int x1)]) hx hb dX0_digits_34 hl (k := 2) rfl rfl (by decide) rfl (fun ls hl => ?_)
        refine lv_goto (tgt := 4) hx hb dX0_digits_37 (by decide) ?_
        exact ih4 x1 (x2 + 1) woven holes H locs ls hP hD hS (lv_sub hl [1, 2, 0] rfl) hf
      intro x1 x2 woven holes H locs ls hP hD hS hl hf
      rw [g_X0_digits_l4] at hf
      refine lv_iload_n hx hb dX0_digits_4 rfl (lv_at hl 2 rfl) ?_
      refine lv_bipush (v := 25) hx hb dX0_digits_5 (by decide) ?_
      refine lv_icmp_ge (tgt := 40) hx hb dX0_digits_7 (by decide) (fun cc => ?_) (fun cc => ?_)
      · replace hf := if_t cc hf
        refine lv_iload_n hx hb dX0_digits_40 rfl (lv_at hl 1 rfl) ?_
        cases Option.some.inj hf
        exact W.iret hx hb hr (fun t ht hW => ⟨⟨_, (), rfl, rfl, by show va_P D vwCl _ t.heap; rw [ht]; exact hP⟩, hS.F ht⟩) hS.2.2 dX0_digits_41
      · replace hf := if_f cc hf
        refine lv_iconst (v := 1) hx hb dX0_digits_10 (by decide) ?_
        refine lv_iload_n hx hb dX0_digits_11 rfl (lv_at hl 2 rfl) ?_
        refine lv_ishl hx hb dX0_digits_12 ?_
        refine lv_istore_n (lv' := [(3, .int ((1 : Int32) <<< (x2 &&& 31))), (0, .ref (h 0)), (1, .int x1), (2, .int x2)]) hx hb dX0_digits_13 rfl hl (by decide) rfl (fun ls hl => ?_)
        refine lv_aload_n hx hb dX0_digits_14 rfl (lv_at hl 1 rfl) ?_
        refine va_get (ci := 0) (v := .int holes) (C := RX0) (T := TX0) (N := 7) hx hb hT hin_X0 hown hK hP 0 rfl rfl 3 (by decide) (hT _ wf_X0_18) (fun _ h9 => h9) rfl dX0_digits_15 ?_
        refine lv_iload_n hx hb dX0_digits_18 rfl (lv_at hl 0 rfl) ?_
        refine lv_iand hx hb dX0_digits_19 ?_
        refine lv_if_eq (tgt := 34) hx hb dX0_digits_20 (by decide) (fun cc => ?_) (fun cc => ?_)
        · replace hf := if_t cc hf
          exact b34 x1 x2 woven holes H locs ls hP hD hS (lv_sub hl [1, 2, 3] rfl) hf
        · replace hf := if_f cc hf
          refine lv_bipush (v := 10) hx hb dX0_digits_23 (by decide) ?_
          refine lv_iload_n hx hb dX0_digits_25 rfl (lv_at hl 2 rfl) ?_
          refine lv_imul hx hb dX0_digits_26 ?_
          refine lv_aload_n hx hb dX0_digits_27 rfl (lv_at hl 1 rfl) ?_
          refine lv_iload_n hx hb dX0_digits_28 rfl (lv_at hl 0 rfl) ?_
          obtain ⟨q1, hq1, hf⟩ := bd_some hf
          have hC : [0, 1, 2].map (fun i => (wX0 cyI cyJ cyZ cyO h woven tied ties holes byTowns ways first)[i]?) = (wX0 cyI cyJ cyZ cyO h woven tied ties holes byTowns ways first).map some := rfl
          refine cl_i (rn_V (As := [.int ((1 : Int32) <<< (x2 &&& 31))]) (rest := [.int (10 * x1)]) (C := RX0) hx hb hml hown hT hK hN hP hD [0, 1, 2] hC rfl (c_X0_threadOf l D cyI cyJ cyZ cyO h H.size woven tied ties holes byTowns ways first ((1 : Int32) <<< (x2 &&& 31)) nf q1 hq1) wm_X0_48 wi_X0_threadOf wl_X0_threadOf wz_X0 wc_X0_threadOf hd_X0_threadOf ⟨rfl, rfl⟩ ⟨Nat.le_of_ble_eq_true rfl, Nat.le_of_ble_eq_true rfl⟩ (q0 := 0) (ci := 0) rfl rfl rfl rfl hl.1 rfl (Nat.le_of_ble_eq_true rfl) dX0_digits_29 ⟨Nat.zero_le _, Nat.zero_le _⟩) hP hD hS hA [0, 1, 2] hC [(true, 0), (true, 1), (true, 2)] (ws' := wX0 cyI cyJ cyZ cyO h woven tied ties holes byTowns ways first) rfl rfl rfl (fun H locs hP hD hS => ?_)
          refine lv_iadd hx hb dX0_digits_32 ?_
          refine lv_istore_n (lv' := [(1, .int ((10 * x1) + q1)), (3, .int ((1 : Int32) <<< (x2 &&& 31))), (0, .ref (h 0)), (2, .int x2)]) hx hb dX0_digits_33 rfl hl (by decide) rfl (fun ls hl => ?_)
          exact b34 ((10 * x1) + q1) x2 woven holes H locs ls hP hD hS (lv_sub hl [2, 0, 3] rfl) hf
  have main : ∀ (H : Heap) (locs : List Loc) (ls : Array Slot), va_P D vwCl (wX0 cyI cyJ cyZ cyO h woven tied ties holes byTowns ways first) H → va_D A (wX0 cyI cyJ cyZ cyO h woven tied ties holes byTowns ways first) → va_S A s.heap H locs → lv_has ls 4 [(0, .ref (h 0))] → W p l e ({ frames := 1, cells := 0, slots := 0, locals := 21 } : Room) s m ([.ref (h 0)] : List Value).toArray below meth c H locs 0 0 (MQ below (qI D (wX0 cyI cyJ cyZ cyO h woven tied ties holes byTowns ways first) q A) ([.ref (h 0)] : List Value).toArray s 0 0 A) (F0 m 0 ls []) := by
    intro H locs ls hP hD hS hl
    unfold g_X0_digits at hf
    refine lv_iconst (v := 0) hx hb dX0_digits_0 (by decide) ?_
    refine lv_istore_n (lv' := [(1, .int 0), (0, .ref (h 0))]) hx hb dX0_digits_1 rfl hl (by decide) rfl (fun ls hl => ?_)
    refine lv_iconst (v := 0) hx hb dX0_digits_2 (by decide) ?_
    refine lv_istore_n (lv' := [(2, .int 0), (1, .int 0), (0, .ref (h 0))]) hx hb dX0_digits_3 rfl hl (by decide) rfl (fun ls hl => ?_)
    exact l4 nf 0 0 woven holes H locs ls hP hD hS (lv_sub hl [2, 1, 0] rfl) hf
  have hl := lv_entry ([.ref (h 0)]) (n := 4) (Nat.le_of_ble_eq_true rfl)
  rw [lg_entry_eq]
  exact main s.heap [] _ hP hD hS hl
theorem hd_X0_waysFrom : yX0_waysFrom.cls = RX0 ∧ yX0_waysFrom.cls ≠ "java/lang/invoke/MethodHandle" ∧ yX0_waysFrom.cls ≠ "java/lang/invoke/VarHandle" ∧ (parseMethodDescriptor yX0_waysFrom.desc).map (fun d => d.parameters.length) = some 1 := by decide +kernel
set_option maxHeartbeats 4000000 in
set_option maxRecDepth 100000 in
theorem c_X0_waysFrom (l : Launch) (D : va_G) (cyI cyJ cyZ cyO : ClassId) (h : Nat → Nat) (sz : Nat) (woven : Nat → Int32) (tied : Nat → Int32) (ties : Int32) (holes : Int32) (byTowns : Int32) (ways : Int32) (first : Int32) (p1 : Int32) (nf d : Nat) (q : Int32 × (Nat → Int32) × Int32) (hf : g_X0_waysFrom nf d p1 woven tied ties holes byTowns first = some q) : Met l yX0_waysFrom (Cond.code yX0_waysFrom cX0_waysFrom 7 (some .int) :: tbG) ({ frames := 2 + d, cells := 0, slots := 0, locals := 44 + d * 26 } : Room) (va_Pc [.ref (h 0), .int p1] (pcB D (ty4 cyI cyJ cyZ cyO) sz (wX0 cyI cyJ cyZ cyO h woven tied ties holes byTowns ways first))) (qI D (wX0 cyI cyJ cyZ cyO h q.2.1 tied ties holes byTowns ways q.2.2) q.1 (va_A (wX0 cyI cyJ cyZ cyO h woven tied ties holes byTowns ways first) sz)) 0 0 (va_A (wX0 cyI cyJ cyZ cyO h woven tied ties holes byTowns ways first) sz) := by
  revert h sz woven tied ties holes byTowns ways first p1 q
  induction d with
  | zero =>
    intro h sz woven tied ties holes byTowns ways first p1 q hf
    rw [g_X0_waysFrom] at hf
    cases hf
  | succ d ihd =>
    intro h sz woven tied ties holes byTowns ways first p1 q hf
    refine Met.ofW (cc := cX0_waysFrom) (maxL := 7) (ret := (some .int)) (by decide) rfl ?_
    intro p e s m args below meth c s₁ B hml hv
    obtain ⟨rfl, hsz, hP, hK, hD0, hN⟩ := hv
    have hx := B.exec
    have hb := B.bytes
    have hr := B.returns
    have hT : ∀ w ∈ tbG, w.before ([.ref (h 0), .int p1] : List Value).toArray s = true := fun w h => atoms_spec (ws := (Cond.code yX0_waysFrom cX0_waysFrom 7 (some .int) :: tbG)) B.pre w (List.mem_cons_of_mem _ h)
    have hown : s.vm.findClass RX0 = some m.cls := findClass_of_methodNamed B.named
    have hlocks := B.notSynchronized
    subst hsz
    have hD := hD0.self (sz := s.heap.size)
    generalize hAe : va_A (wX0 cyI cyJ cyZ cyO h woven tied ties holes byTowns ways first) s.heap.size = A at hD ⊢
    have hA : ∀ q : Nat, s.heap.size ≤ q → A q := fun q h => by rw [← hAe]; exact Or.inr h
    have hS : va_S A s.heap s.heap [] := va_S.rf
    show W p l e ({ frames := 2 + (d + 1), cells := 0, slots := 0, locals := 44 + (d + 1) * 26 } : Room) s m ([.ref (h 0), .int p1] : List Value).toArray below meth c s.heap [] 0 0 (MQ below (qI D (wX0 cyI cyJ cyZ cyO h q.2.1 tied ties holes byTowns ways q.2.2) q.1 A) ([.ref (h 0), .int p1] : List Value).toArray s 0 0 A) _
    have b33 : ∀ (s1 : Int32) (woven : Nat → Int32) (tied : Nat → Int32) (ties : Int32) (holes : Int32) (byTowns : Int32) (first : Int32) (H : Heap) (locs : List Loc) (ls : Array Slot), va_P D vwCl (wX0 cyI cyJ cyZ cyO h woven tied ties holes byTowns ways first) H → va_D A (wX0 cyI cyJ cyZ cyO h woven tied ties holes byTowns ways first) → va_S A s.heap H locs → lv_has ls 7 [] → g_X0_waysFrom_b33 nf (g_X0_waysFrom nf d) s1 woven tied ties holes byTowns first = some q → W p l e ({ frames := 2 + (d + 1), cells := 0, slots := 0, locals := 44 + (d + 1) * 26 } : Room) s m ([.ref (h 0), .int p1] : List Value).toArray below meth c H locs 0 0 (MQ below (qI D (wX0 cyI cyJ cyZ cyO h q.2.1 tied ties holes byTowns ways q.2.2) q.1 A) ([.ref (h 0), .int p1] : List Value).toArray s 0 0 A) (F0 m 33 ls [.int s1, .ref (h 0)]) := by
      intro s1 woven tied ties holes byTowns first H locs ls hP hD hS hl hf
      unfold g_X0_waysFrom_b33 at hf
      refine va_put (ci := 0) (v := .int s1) (ty := .int) (C := RX0) (T := TX0) (N := 7) hx hb hT hin_X0 tyX0 tyX0_ok nmX0 hown hK hP hD hS 0 rfl rfl 6 (by decide) (hT _ wf_X0_29) (fun _ h9 => h9) rfl (tyX0_ok 6 (by decide)) rfl rfl (Nat.le_of_ble_eq_true rfl) dX0_waysFrom_33 (fun H locs hP hD hS => ?_)
      have hP : va_P D vwCl (wX0 cyI cyJ cyZ cyO h woven tied ties holes byTowns ways s1) H := hP
      have hD : va_D A (wX0 cyI cyJ cyZ cyO h woven tied ties holes byTowns ways s1) := hD
      refine lv_iconst (v := 1) hx hb dX0_waysFrom_36 (by decide) ?_
      cases Option.some.inj hf
      exact W.iret hx hb hr (fun t ht hW => ⟨⟨_, (), rfl, rfl, by show va_P D vwCl _ t.heap; rw [ht]; exact hP⟩, hS.F ht⟩) hS.2.2 dX0_waysFrom_37
    have b12 : ∀ (woven : Nat → Int32) (tied : Nat → Int32) (ties : Int32) (holes : Int32) (byTowns : Int32) (first : Int32) (H : Heap) (locs : List Loc) (ls : Array Slot), va_P D vwCl (wX0 cyI cyJ cyZ cyO h woven tied ties holes byTowns ways first) H → va_D A (wX0 cyI cyJ cyZ cyO h woven tied ties holes byTowns ways first) → va_S A s.heap H locs → lv_has ls 7 [(0, .ref (h 0))] → g_X0_waysFrom_b12 nf (g_X0_waysFrom nf d) woven tied ties holes byTowns first = some q → W p l e ({ frames := 2 + (d + 1), cells := 0, slots := 0, locals := 44 + (d + 1) * 26 } : Room) s m ([.ref (h 0), .int p1] : List Value).toArray below meth c H locs 0 0 (MQ below (qI D (wX0 cyI cyJ cyZ cyO h q.2.1 tied ties holes byTowns ways q.2.2) q.1 A) ([.ref (h 0), .int p1] : List Value).toArray s 0 0 A) (F0 m 12 ls []) := by
      intro woven tied ties holes byTowns first H locs ls hP hD hS hl hf
      unfold g_X0_waysFrom_b12 at hf
      refine lv_aload_n hx hb dX0_waysFrom_12 rfl (lv_at hl 0 rfl) ?_
      refine lv_aload_n hx hb dX0_waysFrom_13 rfl (lv_at hl 0 rfl) ?_
      refine va_get (ci := 0) (v := .int first) (C := RX0) (T := TX0) (N := 7) hx hb hT hin_X0 hown hK hP 0 rfl rfl 6 (by decide) (hT _ wf_X0_29) (fun _ h9 => h9) rfl dX0_waysFrom_14 ?_
      refine lv_bipush (v := (-6)) hx hb dX0_waysFrom_17 (by decide) ?_
      refine lv_icmp_ne (tgt := 29) hx hb dX0_waysFrom_19 (by decide) (fun cc => ?_) (fun cc => ?_)
      · replace hf := if_f cc hf
        refine lv_aload_n hx hb dX0_waysFrom_29 rfl (lv_at hl 0 rfl) ?_
        refine va_get (ci := 0) (v := .int first) (C := RX0) (T := TX0) (N := 7) hx hb hT hin_X0 hown hK hP 0 rfl rfl 6 (by decide) (hT _ wf_X0_29) (fun _ h9 => h9) rfl dX0_waysFrom_30 ?_
        exact b33 first woven tied ties holes byTowns first H locs ls hP hD hS (lv_sub hl [] rfl) hf
      · replace hf := if_t cc hf
        refine lv_aload_n hx hb dX0_waysFrom_22 rfl (lv_at hl 0 rfl) ?_
        obtain ⟨q1, hq1, hf⟩ := bd_some hf
        have hC : [0, 1, 2].map (fun i => (wX0 cyI cyJ cyZ cyO h woven tied ties holes byTowns ways first)[i]?) = (wX0 cyI cyJ cyZ cyO h woven tied ties holes byTowns ways first).map some := rfl
        refine cl_i (rn_V (As := []) (rest := [.ref (h 0)]) (C := RX0) hx hb hml hown hT hK hN hP hD [0, 1, 2] hC rfl (c_X0_digits l D cyI cyJ cyZ cyO h H.size woven tied ties holes byTowns ways first nf q1 hq1) wm_X0_45 wi_X0_digits wl_X0_digits wz_X0 wc_X0_digits hd_X0_digits ⟨rfl, rfl⟩ ⟨by dsimp only; omega, by dsimp only; omega⟩ (q0 := 0) (ci := 0) rfl rfl rfl rfl hl.1 rfl (Nat.le_of_ble_eq_true rfl) dX0_waysFrom_23 ⟨Nat.zero_le _, Nat.zero_le _⟩) hP hD hS hA [0, 1, 2] hC [(true, 0), (true, 1), (true, 2)] (ws' := wX0 cyI cyJ cyZ cyO h woven tied ties holes byTowns ways first) rfl rfl rfl (fun H locs hP hD hS => ?_)
        refine lv_goto (tgt := 33) hx hb dX0_waysFrom_26 (by decide) ?_
        exact b33 q1 woven tied ties holes byTowns first H locs ls hP hD hS (lv_sub hl [] rfl) hf
    have l56 : ∀ (n56 : Nat) (x1 : Int32) (x2 : Int32) (x3 : Int32) (x4 : Int32) (x5 : Int32) (woven : Nat → Int32) (tied : Nat → Int32) (ties : Int32) (holes : Int32) (byTowns : Int32) (first : Int32) (H : Heap) (locs : List Loc) (ls : Array Slot), va_P D vwCl (wX0 cyI cyJ cyZ cyO h woven tied ties holes byTowns ways first) H → va_D A (wX0 cyI cyJ cyZ cyO h woven tied ties holes byTowns ways first) → va_S A s.heap H locs → lv_has ls 7 [(0, .ref (h 0)), (1, .int x1), (2, .int x2), (3, .int x3), (4, .int x4), (5, .int x5)] → g_X0_waysFrom_l56 nf (g_X0_waysFrom nf d) n56 x1 x2 x3 x4 x5 woven tied ties holes byTowns first = some q → W p l e ({ frames := 2 + (d + 1), cells := 0, slots := 0, locals := 44 + (d + 1) * 26 } : Room) s m ([.ref (h 0), .int p1] : List Value).toArray below meth c H locs 0 0 (MQ below (qI D (wX0 cyI cyJ cyZ cyO h q.2.1 tied ties holes byTowns ways q.2.2) q.1 A) ([.ref (h 0), .int p1] : List Value).toArray s 0 0 A) (F0 m 56 ls []) := by
      intro n56
      induction n56 with
      | zero =>
        intro x1 x2 x3 x4 x5 woven tied ties holes byTowns first H locs ls hP hD hS hl hf
        rw [g_X0_waysFrom_l56] at hf
        cases hf
      | succ n56 ih56 =>
        have b137 : ∀ (x1 : Int32) (x2 : Int32) (x3 : Int32) (x4 : Int32) (x5 : Int32) (woven : Nat → Int32) (tied : Nat → Int32) (ties : Int32) (holes : Int32) (byTowns : Int32) (first : Int32) (H : Heap) (locs : List Loc) (ls : Array Slot), va_P D vwCl (wX0 cyI cyJ cyZ cyO h woven tied ties holes byTowns ways first) H → va_D A (wX0 cyI cyJ cyZ cyO h woven tied ties holes byTowns ways first) → va_S A s.heap H locs → lv_has ls 7 [(0, .ref (h 0)), (1, .int x1), (2, .int x2), (3, .int x3), (4, .int x4), (5, .int x5)] → g_X0_waysFrom_b137 nf (g_X0_waysFrom nf d) (g_X0_waysFrom_l56 nf (g_X0_waysFrom nf d) n56) x1 x2 x3 x4 x5 woven tied ties holes byTowns first = some q → W p l e ({ frames := 2 + (d + 1), cells := 0, slots := 0, locals := 44 + (d + 1) * 26 } : Room) s m ([.ref (h 0), .int p1] : List Value).toArray below meth c H locs 0 0 (MQ below (qI D (wX0 cyI cyJ cyZ cyO h q.2.1 tied ties holes byTowns ways q.2.2) q.1 A) ([.ref (h 0), .int p1] : List Value).toArray s 0 0 A) (F0 m 137 ls []) := by
          intro x1 x2 x3 x4 x5 woven tied ties holes byTowns first H locs ls hP hD hS hl hf
          unfold g_X0_waysFrom_b137 at hf
          refine lv_iinc (v := (x5 + 1)) (lv' := [(5, .int (x5 + 1)), (0, .ref (h 0)), (1, .int x1), (2, .int x2), (3, .int x3), (4, .int x4)]) hx hb dX0_waysFrom_137 hl (k := 5) rfl rfl (by decide) rfl (fun ls hl => ?_)
          refine lv_goto (tgt := 56) hx hb dX0_waysFrom_140 (by decide) ?_
          exact ih56 x1 x2 x3 x4 (x5 + 1) woven tied ties holes byTowns first H locs ls hP hD hS (lv_sub hl [1, 2, 3, 4, 5, 0] rfl) hf
        have b82 : ∀ (x1 : Int32) (x2 : Int32) (x3 : Int32) (x4 : Int32) (x5 : Int32) (s0 : Int32) (woven : Nat → Int32) (tied : Nat → Int32) (ties : Int32) (holes : Int32) (byTowns : Int32) (first : Int32) (H : Heap) (locs : List Loc) (ls : Array Slot), va_P D vwCl (wX0 cyI cyJ cyZ cyO h woven tied ties holes byTowns ways first) H → va_D A (wX0 cyI cyJ cyZ cyO h woven tied ties holes byTowns ways first) → va_S A s.heap H locs → lv_has ls 7 [(0, .ref (h 0)), (1, .int x1), (2, .int x2), (3, .int x3), (4, .int x4), (5, .int x5)] → g_X0_waysFrom_b82 nf (g_X0_waysFrom nf d) (g_X0_waysFrom_l56 nf (g_X0_waysFrom nf d) n56) x1 x2 x3 x4 x5 s0 woven tied ties holes byTowns first = some q → W p l e ({ frames := 2 + (d + 1), cells := 0, slots := 0, locals := 44 + (d + 1) * 26 } : Room) s m ([.ref (h 0), .int p1] : List Value).toArray below meth c H locs 0 0 (MQ below (qI D (wX0 cyI cyJ cyZ cyO h q.2.1 tied ties holes byTowns ways q.2.2) q.1 A) ([.ref (h 0), .int p1] : List Value).toArray s 0 0 A) (F0 m 82 ls [.int s0]) := by
          intro x1 x2 x3 x4 x5 s0 woven tied ties holes byTowns first H locs ls hP hD hS hl hf
          unfold g_X0_waysFrom_b82 at hf
          refine lv_istore (lv' := [(6, .int s0), (0, .ref (h 0)), (1, .int x1), (2, .int x2), (3, .int x3), (4, .int x4), (5, .int x5)]) hx hb dX0_waysFrom_82 hl (by decide) rfl (fun ls hl => ?_)
          refine lv_iload hx hb dX0_waysFrom_84 (lv_at hl 0 rfl) ?_
          refine lv_if_ne (tgt := 137) hx hb dX0_waysFrom_86 (by decide) (fun cc => ?_) (fun cc => ?_)
          · replace hf := if_f cc hf
            exact b137 x1 x2 x3 x4 x5 woven tied ties holes byTowns first H locs ls hP hD hS (lv_sub hl [1, 2, 3, 4, 5, 6] rfl) hf
          · replace hf := if_t cc hf
            refine lv_aload_n hx hb dX0_waysFrom_89 rfl (lv_at hl 1 rfl) ?_
            refine va_get (ci := 0) (v := .ref (h 1)) (C := RX0) (T := TX0) (N := 7) hx hb hT hin_X0 hown hK hP 0 rfl rfl 0 (by decide) (hT _ wf_X0_9) (fun _ h9 => h9) rfl dX0_waysFrom_90 ?_
            refine lv_iload hx hb dX0_waysFrom_93 (lv_at hl 6 rfl) ?_
            obtain ⟨hi, hf⟩ := ck_some hf
            refine va_iald hx hb hK hP 1 0 rfl rfl hi dX0_waysFrom_95 ?_
            refine lv_iload_n hx hb dX0_waysFrom_96 rfl (lv_at hl 4 rfl) ?_
            refine lv_iand hx hb dX0_waysFrom_97 ?_
            refine lv_if_ne (tgt := 137) hx hb dX0_waysFrom_98 (by decide) (fun cc => ?_) (fun cc => ?_)
            · replace hf := if_f cc hf
              exact b137 x1 x2 x3 x4 x5 woven tied ties holes byTowns first H locs ls hP hD hS (lv_sub hl [1, 2, 3, 4, 5, 6] rfl) hf
            · replace hf := if_t cc hf
              refine lv_aload_n hx hb dX0_waysFrom_101 rfl (lv_at hl 1 rfl) ?_
              refine va_get (ci := 0) (v := .ref (h 1)) (C := RX0) (T := TX0) (N := 7) hx hb hT hin_X0 hown hK hP 0 rfl rfl 0 (by decide) (hT _ wf_X0_9) (fun _ h9 => h9) rfl dX0_waysFrom_102 ?_
              refine lv_iload hx hb dX0_waysFrom_105 (lv_at hl 6 rfl) ?_
              refine lv_dup2_11 hx hb dX0_waysFrom_107 rfl rfl ?_
              obtain ⟨hi, hf⟩ := ck_some hf
              refine va_iald hx hb hK hP 1 0 rfl rfl hi dX0_waysFrom_108 ?_
              refine lv_iload_n hx hb dX0_waysFrom_109 rfl (lv_at hl 3 rfl) ?_
              refine lv_ior hx hb dX0_waysFrom_110 ?_
              obtain ⟨hi, hf⟩ := ck_some hf
              refine va_iast hx hb hK hP hD hS 1 0 rfl rfl hi dX0_waysFrom_111 (fun H locs hP hD hS => ?_)
              have hP : va_P D vwCl (wX0 cyI cyJ cyZ cyO h (upd woven x5.toNatClampNeg ((woven x5.toNatClampNeg) ||| x2)) tied ties holes byTowns ways first) H := hP
              have hD : va_D A (wX0 cyI cyJ cyZ cyO h (upd woven x5.toNatClampNeg ((woven x5.toNatClampNeg) ||| x2)) tied ties holes byTowns ways first) := hD
              refine lv_iload hx hb dX0_waysFrom_112 (lv_at hl 5 rfl) ?_
              refine lv_aload_n hx hb dX0_waysFrom_114 rfl (lv_at hl 1 rfl) ?_
              refine lv_iload_n hx hb dX0_waysFrom_115 rfl (lv_at hl 2 rfl) ?_
              refine lv_iconst (v := 1) hx hb dX0_waysFrom_116 (by decide) ?_
              refine lv_iadd hx hb dX0_waysFrom_117 ?_
              obtain ⟨q2, hq2, hf⟩ := bd_some hf
              have hC : [0, 1, 2].map (fun i => (wX0 cyI cyJ cyZ cyO h (upd woven x5.toNatClampNeg ((woven x5.toNatClampNeg) ||| x2)) tied ties holes byTowns ways first)[i]?) = (wX0 cyI cyJ cyZ cyO h (upd woven x5.toNatClampNeg ((woven x5.toNatClampNeg) ||| x2)) tied ties holes byTowns ways first).map some := rfl
              refine cl_i (rn_V (As := [.int (x1 + 1)]) (rest := [.int x4]) (C := RX0) hx hb hml hown hT hK hN hP hD [0, 1, 2] hC rfl (ihd h H.size (upd woven x5.toNatClampNeg ((woven x5.toNatClampNeg) ||| x2)) tied ties holes byTowns ways first (x1 + 1) q2 hq2) wm_X0_36 wi_X0_waysFrom wl_X0_waysFrom wz_X0 wc_X0_waysFrom hd_X0_waysFrom ⟨rfl, rfl⟩ ⟨by dsimp only; omega, by dsimp only; omega⟩ (q0 := 0) (ci := 0) rfl rfl rfl rfl hl.1 rfl (Nat.le_of_ble_eq_true rfl) dX0_waysFrom_118 ⟨Nat.zero_le _, Nat.zero_le _⟩) hP hD hS hA [0, 1, 2] hC [(true, 0), (true, 1), (true, 2)] (ws' := wX0 cyI cyJ cyZ cyO h q2.2.1 tied ties holes byTowns ways q2.2.2) rfl rfl rfl (fun H locs hP hD hS => ?_)
              refine lv_iadd hx hb dX0_waysFrom_121 ?_
              refine lv_istore (lv' := [(4, .int (x4 + q2.1)), (6, .int s0), (0, .ref (h 0)), (1, .int x1), (2, .int x2), (3, .int x3), (5, .int x5)]) hx hb dX0_waysFrom_122 hl (by decide) rfl (fun ls hl => ?_)
              refine lv_aload_n hx hb dX0_waysFrom_124 rfl (lv_at hl 2 rfl) ?_
              refine va_get (ci := 0) (v := .ref (h 1)) (C := RX0) (T := TX0) (N := 7) hx hb hT hin_X0 hown hK hP 0 rfl rfl 0 (by decide) (hT _ wf_X0_9) (fun _ h9 => h9) rfl dX0_waysFrom_125 ?_
              refine lv_iload hx hb dX0_waysFrom_128 (lv_at hl 6 rfl) ?_
              refine lv_dup2_11 hx hb dX0_waysFrom_130 rfl rfl ?_
              obtain ⟨hi, hf⟩ := ck_some hf
              refine va_iald hx hb hK hP 1 0 rfl rfl hi dX0_waysFrom_131 ?_
              refine lv_iload_n hx hb dX0_waysFrom_132 rfl (lv_at hl 4 rfl) ?_
              refine lv_iconst (v := (-1)) hx hb dX0_waysFrom_133 (by decide) ?_
              refine lv_ixor hx hb dX0_waysFrom_134 ?_
              refine lv_iand hx hb dX0_waysFrom_135 ?_
              obtain ⟨hi, hf⟩ := ck_some hf
              refine va_iast hx hb hK hP hD hS 1 0 rfl rfl hi dX0_waysFrom_136 (fun H locs hP hD hS => ?_)
              have hP : va_P D vwCl (wX0 cyI cyJ cyZ cyO h (upd q2.2.1 x5.toNatClampNeg ((q2.2.1 x5.toNatClampNeg) &&& (x2 ^^^ ((-1) : Int32)))) tied ties holes byTowns ways q2.2.2) H := hP
              have hD : va_D A (wX0 cyI cyJ cyZ cyO h (upd q2.2.1 x5.toNatClampNeg ((q2.2.1 x5.toNatClampNeg) &&& (x2 ^^^ ((-1) : Int32)))) tied ties holes byTowns ways q2.2.2) := hD
              exact b137 x1 x2 x3 (x4 + q2.1) x5 (upd q2.2.1 x5.toNatClampNeg ((q2.2.1 x5.toNatClampNeg) &&& (x2 ^^^ ((-1) : Int32)))) tied ties holes byTowns q2.2.2 H locs ls hP hD hS (lv_sub hl [2, 3, 4, 5, 0, 6] rfl) hf
        have b81 : ∀ (x1 : Int32) (x2 : Int32) (x3 : Int32) (x4 : Int32) (x5 : Int32) (woven : Nat → Int32) (tied : Nat → Int32) (ties : Int32) (holes : Int32) (byTowns : Int32) (first : Int32) (H : Heap) (locs : List Loc) (ls : Array Slot), va_P D vwCl (wX0 cyI cyJ cyZ cyO h woven tied ties holes byTowns ways first) H → va_D A (wX0 cyI cyJ cyZ cyO h woven tied ties holes byTowns ways first) → va_S A s.heap H locs → lv_has ls 7 [(0, .ref (h 0)), (1, .int x1), (2, .int x2), (3, .int x3), (4, .int x4), (5, .int x5)] → g_X0_waysFrom_b81 nf (g_X0_waysFrom nf d) (g_X0_waysFrom_l56 nf (g_X0_waysFrom nf d) n56) x1 x2 x3 x4 x5 woven tied ties holes byTowns first = some q → W p l e ({ frames := 2 + (d + 1), cells := 0, slots := 0, locals := 44 + (d + 1) * 26 } : Room) s m ([.ref (h 0), .int p1] : List Value).toArray below meth c H locs 0 0 (MQ below (qI D (wX0 cyI cyJ cyZ cyO h q.2.1 tied ties holes byTowns ways q.2.2) q.1 A) ([.ref (h 0), .int p1] : List Value).toArray s 0 0 A) (F0 m 81 ls []) := by
          intro x1 x2 x3 x4 x5 woven tied ties holes byTowns first H locs ls hP hD hS hl hf
          unfold g_X0_waysFrom_b81 at hf
          refine lv_iconst (v := 0) hx hb dX0_waysFrom_81 (by decide) ?_
          exact b82 x1 x2 x3 x4 x5 0 woven tied ties holes byTowns first H locs ls hP hD hS (lv_sub hl [0, 1, 2, 3, 4, 5] rfl) hf
        intro x1 x2 x3 x4 x5 woven tied ties holes byTowns first H locs ls hP hD hS hl hf
        rw [g_X0_waysFrom_l56] at hf
        refine lv_iload hx hb dX0_waysFrom_56 (lv_at hl 5 rfl) ?_
        refine lv_iconst (v := 3) hx hb dX0_waysFrom_58 (by decide) ?_
        refine lv_icmp_gt (tgt := 143) hx hb dX0_waysFrom_59 (by decide) (fun cc => ?_) (fun cc => ?_)
        · replace hf := if_t cc hf
          refine lv_iload hx hb dX0_waysFrom_143 (lv_at hl 4 rfl) ?_
          cases Option.some.inj hf
          exact W.iret hx hb hr (fun t ht hW => ⟨⟨_, (), rfl, rfl, by show va_P D vwCl _ t.heap; rw [ht]; exact hP⟩, hS.F ht⟩) hS.2.2 dX0_waysFrom_145
        · replace hf := if_f cc hf
          refine lv_iload hx hb dX0_waysFrom_62 (lv_at hl 5 rfl) ?_
          refine lv_iconst (v := 2) hx hb dX0_waysFrom_64 (by decide) ?_
          refine lv_icmp_ne (tgt := 81) hx hb dX0_waysFrom_65 (by decide) (fun cc => ?_) (fun cc => ?_)
          · replace hf := if_f cc hf
            exact b81 x1 x2 x3 x4 x5 woven tied ties holes byTowns first H locs ls hP hD hS (lv_sub hl [0, 1, 2, 3, 4, 5] rfl) hf
          · replace hf := if_t cc hf
            refine lv_aload_n hx hb dX0_waysFrom_68 rfl (lv_at hl 0 rfl) ?_
            refine va_get (ci := 0) (v := .int byTowns) (C := RX0) (T := TX0) (N := 7) hx hb hT hin_X0 hown hK hP 0 rfl rfl 4 (by decide) (hT _ wf_X0_26) (fun _ h9 => h9) rfl dX0_waysFrom_69 ?_
            refine lv_iload_n hx hb dX0_waysFrom_72 rfl (lv_at hl 2 rfl) ?_
            refine lv_iand hx hb dX0_waysFrom_73 ?_
            refine lv_if_eq (tgt := 81) hx hb dX0_waysFrom_74 (by decide) (fun cc => ?_) (fun cc => ?_)
            · replace hf := if_t cc hf
              exact b81 x1 x2 x3 x4 x5 woven tied ties holes byTowns first H locs ls hP hD hS (lv_sub hl [0, 1, 2, 3, 4, 5] rfl) hf
            · replace hf := if_f cc hf
              refine lv_iconst (v := 1) hx hb dX0_waysFrom_77 (by decide) ?_
              refine lv_goto (tgt := 82) hx hb dX0_waysFrom_78 (by decide) ?_
              exact b82 x1 x2 x3 x4 x5 1 woven tied ties holes byTowns first H locs ls hP hD hS (lv_sub hl [0, 1, 2, 3, 4, 5] rfl) hf
    have main : ∀ (H : Heap) (locs : List Loc) (ls : Array Slot), va_P D vwCl (wX0 cyI cyJ cyZ cyO h woven tied ties holes byTowns ways first) H → va_D A (wX0 cyI cyJ cyZ cyO h woven tied ties holes byTowns ways first) → va_S A s.heap H locs → lv_has ls 7 [(0, .ref (h 0)), (1, .int p1)] → W p l e ({ frames := 2 + (d + 1), cells := 0, slots := 0, locals := 44 + (d + 1) * 26 } : Room) s m ([.ref (h 0), .int p1] : List Value).toArray below meth c H locs 0 0 (MQ below (qI D (wX0 cyI cyJ cyZ cyO h q.2.1 tied ties holes byTowns ways q.2.2) q.1 A) ([.ref (h 0), .int p1] : List Value).toArray s 0 0 A) (F0 m 0 ls []) := by
      intro H locs ls hP hD hS hl
      rw [g_X0_waysFrom] at hf
      refine lv_iload_n hx hb dX0_waysFrom_0 rfl (lv_at hl 1 rfl) ?_
      refine lv_if_lt (tgt := 12) hx hb dX0_waysFrom_1 (by decide) (fun cc => ?_) (fun cc => ?_)
      · replace hf := if_t cc hf
        exact b12 woven tied ties holes byTowns first H locs ls hP hD hS (lv_sub hl [0] rfl) hf
      · replace hf := if_f cc hf
        refine lv_iload_n hx hb dX0_waysFrom_4 rfl (lv_at hl 1 rfl) ?_
        refine lv_aload_n hx hb dX0_waysFrom_5 rfl (lv_at hl 0 rfl) ?_
        refine va_get (ci := 0) (v := .int ties) (C := RX0) (T := TX0) (N := 7) hx hb hT hin_X0 hown hK hP 0 rfl rfl 2 (by decide) (hT _ wf_X0_42) (fun _ h9 => h9) rfl dX0_waysFrom_6 ?_
        refine lv_icmp_lt (tgt := 38) hx hb dX0_waysFrom_9 (by decide) (fun cc => ?_) (fun cc => ?_)
        · replace hf := if_t cc hf
          refine lv_aload_n hx hb dX0_waysFrom_38 rfl (lv_at hl 0 rfl) ?_
          refine va_get (ci := 0) (v := .ref (h 2)) (C := RX0) (T := TX0) (N := 7) hx hb hT hin_X0 hown hK hP 0 rfl rfl 1 (by decide) (hT _ wf_X0_15) (fun _ h9 => h9) rfl dX0_waysFrom_39 ?_
          refine lv_iload_n hx hb dX0_waysFrom_42 rfl (lv_at hl 1 rfl) ?_
          obtain ⟨hi, hf⟩ := ck_some hf
          refine va_iald hx hb hK hP 2 0 rfl rfl hi dX0_waysFrom_43 ?_
          refine lv_istore_n (lv' := [(2, .int (tied p1.toNatClampNeg)), (0, .ref (h 0)), (1, .int p1)]) hx hb dX0_waysFrom_44 rfl hl (by decide) rfl (fun ls hl => ?_)
          refine lv_iload_n hx hb dX0_waysFrom_45 rfl (lv_at hl 0 rfl) ?_
          obtain ⟨q3, hq3, hf⟩ := bd_some hf
          have hC : ([] : List Nat).map (fun i => (wX0 cyI cyJ cyZ cyO h woven tied ties holes byTowns ways first)[i]?) = ([] : va_W).map some := rfl
          refine cl_i (rn_SN (As := [.int (tied p1.toNatClampNeg)]) (rest := []) (host := RX8) hx hb hml hown hT hK hN hP hD [] hC rfl (c_X8_allBeside l D cyI cyJ cyZ cyO H.size (tied p1.toNatClampNeg) nf q3 hq3) (by decide) wt_X8_allBeside wz_X8 wc_X8_allBeside hd_X8_allBeside ⟨rfl, rfl⟩ ⟨by dsimp only; omega, by dsimp only; omega⟩ rfl hl.1 rfl (Nat.le_of_ble_eq_true rfl) dX0_waysFrom_46 ⟨Nat.zero_le _, Nat.zero_le _⟩) hP hD hS hA [] hC [(false, 0), (false, 1), (false, 2)] (ws' := wX0 cyI cyJ cyZ cyO h woven tied ties holes byTowns ways first) rfl rfl rfl (fun H locs hP hD hS => ?_)
          refine lv_istore_n (lv' := [(3, .int q3), (2, .int (tied p1.toNatClampNeg)), (0, .ref (h 0)), (1, .int p1)]) hx hb dX0_waysFrom_49 rfl hl (by decide) rfl (fun ls hl => ?_)
          refine lv_iconst (v := 0) hx hb dX0_waysFrom_50 (by decide) ?_
          refine lv_istore (lv' := [(4, .int 0), (3, .int q3), (2, .int (tied p1.toNatClampNeg)), (0, .ref (h 0)), (1, .int p1)]) hx hb dX0_waysFrom_51 hl (by decide) rfl (fun ls hl => ?_)
          refine lv_iconst (v := 1) hx hb dX0_waysFrom_53 (by decide) ?_
          refine lv_istore (lv' := [(5, .int 1), (4, .int 0), (3, .int q3), (2, .int (tied p1.toNatClampNeg)), (0, .ref (h 0)), (1, .int p1)]) hx hb dX0_waysFrom_54 hl (by decide) rfl (fun ls hl => ?_)
          exact l56 nf p1 (tied p1.toNatClampNeg) q3 0 1 woven tied ties holes byTowns first H locs ls hP hD hS (lv_sub hl [4, 5, 3, 2, 1, 0] rfl) hf
        · replace hf := if_f cc hf
          exact b12 woven tied ties holes byTowns first H locs ls hP hD hS (lv_sub hl [0] rfl) hf
    have hl := lv_entry ([.ref (h 0), .int p1]) (n := 7) (Nat.le_of_ble_eq_true rfl)
    rw [lg_entry_eq]
    exact main s.heap [] _ hP hD hS hl
theorem hd_X0_darn : yX0_darn.cls = RX0 ∧ yX0_darn.cls ≠ "java/lang/invoke/MethodHandle" ∧ yX0_darn.cls ≠ "java/lang/invoke/VarHandle" ∧ (parseMethodDescriptor yX0_darn.desc).map (fun d => d.parameters.length) = some 2 := by decide +kernel
set_option maxHeartbeats 4000000 in
set_option maxRecDepth 100000 in
theorem c_X0_darn (l : Launch) (D : va_G) (cyI cyJ cyZ cyO : ClassId) (h : Nat → Nat) (sz : Nat) (woven : Nat → Int32) (tied : Nat → Int32) (ties : Int32) (holes : Int32) (byTowns : Int32) (ways : Int32) (first : Int32) (p1 : Int32) (p2 : Int32) (nf : Nat) (q : (Nat → Int32) × (Nat → Int32) × Int32 × Int32 × Int32 × Int32 × Int32) (hf : g_X0_darn nf p1 p2 woven tied ties holes byTowns ways first = some q) : Met l yX0_darn (Cond.code yX0_darn cX0_darn 4 none :: tbG) ({ frames := 14, cells := 0, slots := 0, locals := 356 } : Room) (va_Pc [.ref (h 0), .int p1, .int p2] (pcB D (ty4 cyI cyJ cyZ cyO) sz (wX0 cyI cyJ cyZ cyO h woven tied ties holes byTowns ways first))) (qV D (wX0 cyI cyJ cyZ cyO h q.1 q.2.1 q.2.2.1 q.2.2.2.1 q.2.2.2.2.1 q.2.2.2.2.2.1 q.2.2.2.2.2.2) (va_A (wX0 cyI cyJ cyZ cyO h woven tied ties holes byTowns ways first) sz)) 0 0 (va_A (wX0 cyI cyJ cyZ cyO h woven tied ties holes byTowns ways first) sz) := by
  refine Met.ofW (cc := cX0_darn) (maxL := 4) (ret := none) (by decide) rfl ?_
  intro p e s m args below meth c s₁ B hml hv
  obtain ⟨rfl, hsz, hP, hK, hD0, hN⟩ := hv
  have hx := B.exec
  have hb := B.bytes
  have hr := B.returns
  have hT : ∀ w ∈ tbG, w.before ([.ref (h 0), .int p1, .int p2] : List Value).toArray s = true := fun w h => atoms_spec (ws := (Cond.code yX0_darn cX0_darn 4 none :: tbG)) B.pre w (List.mem_cons_of_mem _ h)
  have hown : s.vm.findClass RX0 = some m.cls := findClass_of_methodNamed B.named
  have hlocks := B.notSynchronized
  subst hsz
  have hD := hD0.self (sz := s.heap.size)
  generalize hAe : va_A (wX0 cyI cyJ cyZ cyO h woven tied ties holes byTowns ways first) s.heap.size = A at hD ⊢
  have hA : ∀ q : Nat, s.heap.size ≤ q → A q := fun q h => by rw [← hAe]; exact Or.inr h
  have hS : va_S A s.heap s.heap [] := va_S.rf
  show W p l e ({ frames := 14, cells := 0, slots := 0, locals := 356 } : Room) s m ([.ref (h 0), .int p1, .int p2] : List Value).toArray below meth c s.heap [] 0 0 (MQ below (qV D (wX0 cyI cyJ cyZ cyO h q.1 q.2.1 q.2.2.1 q.2.2.2.1 q.2.2.2.2.1 q.2.2.2.2.2.1 q.2.2.2.2.2.2) A) ([.ref (h 0), .int p1, .int p2] : List Value).toArray s 0 0 A) _
  have main : ∀ (H : Heap) (locs : List Loc) (ls : Array Slot), va_P D vwCl (wX0 cyI cyJ cyZ cyO h woven tied ties holes byTowns ways first) H → va_D A (wX0 cyI cyJ cyZ cyO h woven tied ties holes byTowns ways first) → va_S A s.heap H locs → lv_has ls 4 [(0, .ref (h 0)), (1, .int p1), (2, .int p2)] → W p l e ({ frames := 14, cells := 0, slots := 0, locals := 356 } : Room) s m ([.ref (h 0), .int p1, .int p2] : List Value).toArray below meth c H locs 0 0 (MQ below (qV D (wX0 cyI cyJ cyZ cyO h q.1 q.2.1 q.2.2.1 q.2.2.2.1 q.2.2.2.2.1 q.2.2.2.2.2.1 q.2.2.2.2.2.2) A) ([.ref (h 0), .int p1, .int p2] : List Value).toArray s 0 0 A) (F0 m 0 ls []) := by
    intro H locs ls hP hD hS hl
    unfold g_X0_darn at hf
    refine lv_aload_n hx hb dX0_darn_0 rfl (lv_at hl 0 rfl) ?_
    refine lv_iload_n hx hb dX0_darn_1 rfl (lv_at hl 1 rfl) ?_
    refine va_put (ci := 0) (v := .int p1) (ty := .int) (C := RX0) (T := TX0) (N := 7) hx hb hT hin_X0 tyX0 tyX0_ok nmX0 hown hK hP hD hS 0 rfl rfl 3 (by decide) (hT _ wf_X0_18) (fun _ h9 => h9) rfl (tyX0_ok 3 (by decide)) rfl rfl (Nat.le_of_ble_eq_true rfl) dX0_darn_2 (fun H locs hP hD hS => ?_)
    have hP : va_P D vwCl (wX0 cyI cyJ cyZ cyO h woven tied ties p1 byTowns ways first) H := hP
    have hD : va_D A (wX0 cyI cyJ cyZ cyO h woven tied ties p1 byTowns ways first) := hD
    refine lv_aload_n hx hb dX0_darn_5 rfl (lv_at hl 0 rfl) ?_
    refine lv_iload_n hx hb dX0_darn_6 rfl (lv_at hl 2 rfl) ?_
    obtain ⟨q1, hq1, hf⟩ := bd_some hf
    have hC : ([] : List Nat).map (fun i => (wX0 cyI cyJ cyZ cyO h woven tied ties p1 byTowns ways first)[i]?) = ([] : va_W).map some := rfl
    refine cl_i (rn_SN (As := [.int p2]) (rest := [.ref (h 0)]) (host := RX8) hx hb hml hown hT hK hN hP hD [] hC rfl (c_X8_allBeside l D cyI cyJ cyZ cyO H.size p2 nf q1 hq1) (by decide) wt_X8_allBeside wz_X8 wc_X8_allBeside hd_X8_allBeside ⟨rfl, rfl⟩ ⟨Nat.le_of_ble_eq_true rfl, Nat.le_of_ble_eq_true rfl⟩ rfl hl.1 rfl (Nat.le_of_ble_eq_true rfl) dX0_darn_7 ⟨Nat.zero_le _, Nat.zero_le _⟩) hP hD hS hA [] hC [(false, 0), (false, 1), (false, 2)] (ws' := wX0 cyI cyJ cyZ cyO h woven tied ties p1 byTowns ways first) rfl rfl rfl (fun H locs hP hD hS => ?_)
    refine va_put (ci := 0) (v := .int q1) (ty := .int) (C := RX0) (T := TX0) (N := 7) hx hb hT hin_X0 tyX0 tyX0_ok nmX0 hown hK hP hD hS 0 rfl rfl 4 (by decide) (hT _ wf_X0_26) (fun _ h9 => h9) rfl (tyX0_ok 4 (by decide)) rfl rfl (Nat.le_of_ble_eq_true rfl) dX0_darn_10 (fun H locs hP hD hS => ?_)
    have hP : va_P D vwCl (wX0 cyI cyJ cyZ cyO h woven tied ties p1 q1 ways first) H := hP
    have hD : va_D A (wX0 cyI cyJ cyZ cyO h woven tied ties p1 q1 ways first) := hD
    refine lv_aload_n hx hb dX0_darn_13 rfl (lv_at hl 0 rfl) ?_
    refine lv_bipush (v := (-6)) hx hb dX0_darn_14 (by decide) ?_
    refine va_put (ci := 0) (v := .int (-6)) (ty := .int) (C := RX0) (T := TX0) (N := 7) hx hb hT hin_X0 tyX0 tyX0_ok nmX0 hown hK hP hD hS 0 rfl rfl 6 (by decide) (hT _ wf_X0_29) (fun _ h9 => h9) rfl (tyX0_ok 6 (by decide)) rfl rfl (Nat.le_of_ble_eq_true rfl) dX0_darn_16 (fun H locs hP hD hS => ?_)
    have hP : va_P D vwCl (wX0 cyI cyJ cyZ cyO h woven tied ties p1 q1 ways (-6)) H := hP
    have hD : va_D A (wX0 cyI cyJ cyZ cyO h woven tied ties p1 q1 ways (-6)) := hD
    refine lv_aload_n hx hb dX0_darn_19 rfl (lv_at hl 0 rfl) ?_
    obtain ⟨q2, hq2, hf⟩ := bd_some hf
    have hC : [0, 1, 2].map (fun i => (wX0 cyI cyJ cyZ cyO h woven tied ties p1 q1 ways (-6))[i]?) = (wX0 cyI cyJ cyZ cyO h woven tied ties p1 q1 ways (-6)).map some := rfl
    refine cl_i (rn_V (As := []) (rest := []) (C := RX0) hx hb hml hown hT hK hN hP hD [0, 1, 2] hC rfl (c_X0_partHoles l D cyI cyJ cyZ cyO h H.size woven tied ties p1 q1 ways (-6) nf q2 hq2) wm_X0_32 wi_X0_partHoles wl_X0_partHoles wz_X0 wc_X0_partHoles hd_X0_partHoles ⟨rfl, rfl⟩ ⟨Nat.le_of_ble_eq_true rfl, Nat.le_of_ble_eq_true rfl⟩ (q0 := 0) (ci := 0) rfl rfl rfl rfl hl.1 rfl (Nat.le_of_ble_eq_true rfl) dX0_darn_20 ⟨Nat.zero_le _, Nat.zero_le _⟩) hP hD hS hA [0, 1, 2] hC [(true, 0), (true, 1), (true, 2)] (ws' := wX0 cyI cyJ cyZ cyO h q2.2.1 q2.2.2.1 q2.2.2.2 p1 q1 ways (-6)) rfl rfl rfl (fun H locs hP hD hS => ?_)
    refine lv_istore_n (lv' := [(3, .int q2.1), (0, .ref (h 0)), (1, .int p1), (2, .int p2)]) hx hb dX0_darn_23 rfl hl (by decide) rfl (fun ls hl => ?_)
    refine lv_aload_n hx hb dX0_darn_24 rfl (lv_at hl 1 rfl) ?_
    refine lv_iload_n hx hb dX0_darn_25 rfl (lv_at hl 0 rfl) ?_
    refine lv_aload_n hx hb dX0_darn_26 rfl (lv_at hl 1 rfl) ?_
    refine lv_iconst (v := 0) hx hb dX0_darn_27 (by decide) ?_
    obtain ⟨q3, hq3, hf⟩ := bd_some hf
    have hC : [0, 1, 2].map (fun i => (wX0 cyI cyJ cyZ cyO h q2.2.1 q2.2.2.1 q2.2.2.2 p1 q1 ways (-6))[i]?) = (wX0 cyI cyJ cyZ cyO h q2.2.1 q2.2.2.1 q2.2.2.2 p1 q1 ways (-6)).map some := rfl
    refine cl_i (rn_V (As := [.int 0]) (rest := [.int q2.1, .ref (h 0)]) (C := RX0) hx hb hml hown hT hK hN hP hD [0, 1, 2] hC rfl (c_X0_waysFrom l D cyI cyJ cyZ cyO h H.size q2.2.1 q2.2.2.1 q2.2.2.2 p1 q1 ways (-6) 0 nf 11 q3 hq3) wm_X0_36 wi_X0_waysFrom wl_X0_waysFrom wz_X0 wc_X0_waysFrom hd_X0_waysFrom ⟨rfl, rfl⟩ ⟨Nat.le_of_ble_eq_true rfl, Nat.le_of_ble_eq_true rfl⟩ (q0 := 0) (ci := 0) rfl rfl rfl rfl hl.1 rfl (Nat.le_of_ble_eq_true rfl) dX0_darn_28 ⟨Nat.zero_le _, Nat.zero_le _⟩) hP hD hS hA [0, 1, 2] hC [(true, 0), (true, 1), (true, 2)] (ws' := wX0 cyI cyJ cyZ cyO h q3.2.1 q2.2.2.1 q2.2.2.2 p1 q1 ways q3.2.2) rfl rfl rfl (fun H locs hP hD hS => ?_)
    refine lv_imul hx hb dX0_darn_31 ?_
    refine va_put (ci := 0) (v := .int (q2.1 * q3.1)) (ty := .int) (C := RX0) (T := TX0) (N := 7) hx hb hT hin_X0 tyX0 tyX0_ok nmX0 hown hK hP hD hS 0 rfl rfl 5 (by decide) (hT _ wf_X0_39) (fun _ h9 => h9) rfl (tyX0_ok 5 (by decide)) rfl rfl (Nat.le_of_ble_eq_true rfl) dX0_darn_32 (fun H locs hP hD hS => ?_)
    have hP : va_P D vwCl (wX0 cyI cyJ cyZ cyO h q3.2.1 q2.2.2.1 q2.2.2.2 p1 q1 (q2.1 * q3.1) q3.2.2) H := hP
    have hD : va_D A (wX0 cyI cyJ cyZ cyO h q3.2.1 q2.2.2.1 q2.2.2.2 p1 q1 (q2.1 * q3.1) q3.2.2) := hD
    cases Option.some.inj hf
    exact W.vret hx hb hr (fun t ht hW => ⟨⟨(), rfl, trivial, by show va_P D vwCl _ t.heap; rw [ht]; exact hP⟩, hS.F ht⟩) hS.2.2 dX0_darn_35
  have hl := lv_entry ([.ref (h 0), .int p1, .int p2]) (n := 4) (Nat.le_of_ble_eq_true rfl)
  rw [lg_entry_eq]
  exact main s.heap [] _ hP hD hS hl
theorem hd_X1_become : yX1_become.cls = RX1 ∧ yX1_become.cls ≠ "java/lang/invoke/MethodHandle" ∧ yX1_become.cls ≠ "java/lang/invoke/VarHandle" ∧ (parseMethodDescriptor yX1_become.desc).map (fun d => d.parameters.length) = some 1 := by decide +kernel
set_option maxHeartbeats 4000000 in
set_option maxRecDepth 100000 in
theorem c_X1_become (l : Launch) (D : va_G) (cyI cyJ cyZ cyO : ClassId) (h h2 : Nat → Nat) (sz : Nat) (lands : Nat → Int32) (camphors : Nat → Int32) (there : Nat → Int32) (mothCells : Nat → Int32) (mothHeads : Nat → Int32) (threads : Nat → Int32) (sightNights : Nat → Int32) (sightCells : Nat → Int32) (sights : Int32) (night : Int32) (eaten : Int32) (o_lands : Nat → Int32) (o_camphors : Nat → Int32) (o_there : Nat → Int32) (o_mothCells : Nat → Int32) (o_mothHeads : Nat → Int32) (o_threads : Nat → Int32) (o_sightNights : Nat → Int32) (o_sightCells : Nat → Int32) (o_sights : Int32) (o_night : Int32) (o_eaten : Int32) (nf : Nat) (q : (Nat → Int32) × (Nat → Int32) × (Nat → Int32) × (Nat → Int32) × (Nat → Int32) × (Nat → Int32) × (Nat → Int32) × (Nat → Int32) × Int32 × Int32) (hf : g_X1_become nf lands camphors there mothCells mothHeads threads sightNights sightCells sights night o_lands o_camphors o_there o_mothCells o_mothHeads o_threads o_sightNights o_sightCells o_sights o_night = some q) : Met l yX1_become (Cond.code yX1_become cX1_become 3 none :: tbG) ({ frames := 0, cells := 0, slots := 0, locals := 0 } : Room) (va_Pc [.ref (h 0), .ref (h2 0)] (pcB D (ty4 cyI cyJ cyZ cyO) sz (vw1 cyI cyJ cyZ cyO h h2 lands camphors there mothCells mothHeads threads sightNights sightCells sights night eaten o_lands o_camphors o_there o_mothCells o_mothHeads o_threads o_sightNights o_sightCells o_sights o_night o_eaten))) (qV D (vw1 cyI cyJ cyZ cyO h h2 q.1 q.2.1 q.2.2.1 q.2.2.2.1 q.2.2.2.2.1 q.2.2.2.2.2.1 q.2.2.2.2.2.2.1 q.2.2.2.2.2.2.2.1 q.2.2.2.2.2.2.2.2.1 q.2.2.2.2.2.2.2.2.2 eaten o_lands o_camphors o_there o_mothCells o_mothHeads o_threads o_sightNights o_sightCells o_sights o_night o_eaten) (va_A (vw1 cyI cyJ cyZ cyO h h2 lands camphors there mothCells mothHeads threads sightNights sightCells sights night eaten o_lands o_camphors o_there o_mothCells o_mothHeads o_threads o_sightNights o_sightCells o_sights o_night o_eaten) sz)) 0 0 (va_A (vw1 cyI cyJ cyZ cyO h h2 lands camphors there mothCells mothHeads threads sightNights sightCells sights night eaten o_lands o_camphors o_there o_mothCells o_mothHeads o_threads o_sightNights o_sightCells o_sights o_night o_eaten) sz) := by
  refine Met.ofW (cc := cX1_become) (maxL := 3) (ret := none) (by decide) rfl ?_
  intro p e s m args below meth c s₁ B hml hv
  obtain ⟨rfl, hsz, hP, hK, hD0, hN⟩ := hv
  have hx := B.exec
  have hb := B.bytes
  have hr := B.returns
  have hT : ∀ w ∈ tbG, w.before ([.ref (h 0), .ref (h2 0)] : List Value).toArray s = true := fun w h => atoms_spec (ws := (Cond.code yX1_become cX1_become 3 none :: tbG)) B.pre w (List.mem_cons_of_mem _ h)
  have hown : s.vm.findClass RX1 = some m.cls := findClass_of_methodNamed B.named
  have hlocks := B.notSynchronized
  subst hsz
  have hD := hD0.self (sz := s.heap.size)
  generalize hAe : va_A (vw1 cyI cyJ cyZ cyO h h2 lands camphors there mothCells mothHeads threads sightNights sightCells sights night eaten o_lands o_camphors o_there o_mothCells o_mothHeads o_threads o_sightNights o_sightCells o_sights o_night o_eaten) s.heap.size = A at hD ⊢
  have hA : ∀ q : Nat, s.heap.size ≤ q → A q := fun q h => by rw [← hAe]; exact Or.inr h
  have hS : va_S A s.heap s.heap [] := va_S.rf
  show W p l e ({ frames := 0, cells := 0, slots := 0, locals := 0 } : Room) s m ([.ref (h 0), .ref (h2 0)] : List Value).toArray below meth c s.heap [] 0 0 (MQ below (qV D (vw1 cyI cyJ cyZ cyO h h2 q.1 q.2.1 q.2.2.1 q.2.2.2.1 q.2.2.2.2.1 q.2.2.2.2.2.1 q.2.2.2.2.2.2.1 q.2.2.2.2.2.2.2.1 q.2.2.2.2.2.2.2.2.1 q.2.2.2.2.2.2.2.2.2 eaten o_lands o_camphors o_there o_mothCells o_mothHeads o_threads o_sightNights o_sightCells o_sights o_night o_eaten) A) ([.ref (h 0), .ref (h2 0)] : List Value).toArray s 0 0 A) _
  have l114 : ∀ (n114 : Nat) (x2 : Int32) (lands : Nat → Int32) (camphors : Nat → Int32) (there : Nat → Int32) (mothCells : Nat → Int32) (mothHeads : Nat → Int32) (threads : Nat → Int32) (sightNights : Nat → Int32) (sightCells : Nat → Int32) (sights : Int32) (night : Int32) (o_lands : Nat → Int32) (o_camphors : Nat → Int32) (o_there : Nat → Int32) (o_mothCells : Nat → Int32) (o_mothHeads : Nat → Int32) (o_threads : Nat → Int32) (o_sightNights : Nat → Int32) (o_sightCells : Nat → Int32) (o_sights : Int32) (o_night : Int32) (H : Heap) (locs : List Loc) (ls : Array Slot), va_P D vwCl (vw1 cyI cyJ cyZ cyO h h2 lands camphors there mothCells mothHeads threads sightNights sightCells sights night eaten o_lands o_camphors o_there o_mothCells o_mothHeads o_threads o_sightNights o_sightCells o_sights o_night o_eaten) H → va_D A (vw1 cyI cyJ cyZ cyO h h2 lands camphors there mothCells mothHeads threads sightNights sightCells sights night eaten o_lands o_camphors o_there o_mothCells o_mothHeads o_threads o_sightNights o_sightCells o_sights o_night o_eaten) → va_S A s.heap H locs → lv_has ls 3 [(0, .ref (h 0)), (1, .ref (h2 0)), (2, .int x2)] → g_X1_become_l114 nf n114 x2 lands camphors there mothCells mothHeads threads sightNights sightCells sights night o_lands o_camphors o_there o_mothCells o_mothHeads o_threads o_sightNights o_sightCells o_sights o_night = some q → W p l e ({ frames := 0, cells := 0, slots := 0, locals := 0 } : Room) s m ([.ref (h 0), .ref (h2 0)] : List Value).toArray below meth c H locs 0 0 (MQ below (qV D (vw1 cyI cyJ cyZ cyO h h2 q.1 q.2.1 q.2.2.1 q.2.2.2.1 q.2.2.2.2.1 q.2.2.2.2.2.1 q.2.2.2.2.2.2.1 q.2.2.2.2.2.2.2.1 q.2.2.2.2.2.2.2.2.1 q.2.2.2.2.2.2.2.2.2 eaten o_lands o_camphors o_there o_mothCells o_mothHeads o_threads o_sightNights o_sightCells o_sights o_night o_eaten) A) ([.ref (h 0), .ref (h2 0)] : List Value).toArray s 0 0 A) (F0 m 114 ls []) := by
    intro n114
    induction n114 with
    | zero =>
      intro x2 lands camphors there mothCells mothHeads threads sightNights sightCells sights night o_lands o_camphors o_there o_mothCells o_mothHeads o_threads o_sightNights o_sightCells o_sights o_night H locs ls hP hD hS hl hf
      rw [g_X1_become_l114] at hf
      cases hf
    | succ n114 ih114 =>
      intro x2 lands camphors there mothCells mothHeads threads sightNights sightCells sights night o_lands o_camphors o_there o_mothCells o_mothHeads o_threads o_sightNights o_sightCells o_sights o_night H locs ls hP hD hS hl hf
      rw [g_X1_become_l114] at hf
      refine lv_iload_n hx hb dX1_become_114 rfl (lv_at hl 2 rfl) ?_
      refine lv_bipush (v := 8) hx hb dX1_become_115 (by decide) ?_
      refine lv_icmp_ge (tgt := 150) hx hb dX1_become_117 (by decide) (fun cc => ?_) (fun cc => ?_)
      · replace hf := if_t cc hf
        refine lv_aload_n hx hb dX1_become_150 rfl (lv_at hl 0 rfl) ?_
        refine lv_aload_n hx hb dX1_become_151 rfl (lv_at hl 1 rfl) ?_
        refine va_get (ci := 1) (v := .int o_sights) (C := RX1) (T := TX1) (N := 11) hx hb hT hin_X1 hown hK hP 9 rfl rfl 8 (by decide) (hT _ wf_X1_41) (fun _ h9 => h9) rfl dX1_become_152 ?_
        refine va_put (ci := 1) (v := .int o_sights) (ty := .int) (C := RX1) (T := TX1) (N := 11) hx hb hT hin_X1 tyX1 tyX1_ok nmX1 hown hK hP hD hS 0 rfl rfl 8 (by decide) (hT _ wf_X1_41) (fun _ h9 => h9) rfl (tyX1_ok 8 (by decide)) rfl rfl (Nat.le_of_ble_eq_true rfl) dX1_become_155 (fun H locs hP hD hS => ?_)
        have hP : va_P D vwCl (vw1 cyI cyJ cyZ cyO h h2 lands camphors there mothCells mothHeads threads sightNights sightCells o_sights night eaten o_lands o_camphors o_there o_mothCells o_mothHeads o_threads o_sightNights o_sightCells o_sights o_night o_eaten) H := hP
        have hD : va_D A (vw1 cyI cyJ cyZ cyO h h2 lands camphors there mothCells mothHeads threads sightNights sightCells o_sights night eaten o_lands o_camphors o_there o_mothCells o_mothHeads o_threads o_sightNights o_sightCells o_sights o_night o_eaten) := hD
        refine lv_aload_n hx hb dX1_become_158 rfl (lv_at hl 0 rfl) ?_
        refine lv_aload_n hx hb dX1_become_159 rfl (lv_at hl 1 rfl) ?_
        refine va_get (ci := 1) (v := .int o_night) (C := RX1) (T := TX1) (N := 11) hx hb hT hin_X1 hown hK hP 9 rfl rfl 9 (by decide) (hT _ wf_X1_44) (fun _ h9 => h9) rfl dX1_become_160 ?_
        refine va_put (ci := 1) (v := .int o_night) (ty := .int) (C := RX1) (T := TX1) (N := 11) hx hb hT hin_X1 tyX1 tyX1_ok nmX1 hown hK hP hD hS 0 rfl rfl 9 (by decide) (hT _ wf_X1_44) (fun _ h9 => h9) rfl (tyX1_ok 9 (by decide)) rfl rfl (Nat.le_of_ble_eq_true rfl) dX1_become_163 (fun H locs hP hD hS => ?_)
        have hP : va_P D vwCl (vw1 cyI cyJ cyZ cyO h h2 lands camphors there mothCells mothHeads threads sightNights sightCells o_sights o_night eaten o_lands o_camphors o_there o_mothCells o_mothHeads o_threads o_sightNights o_sightCells o_sights o_night o_eaten) H := hP
        have hD : va_D A (vw1 cyI cyJ cyZ cyO h h2 lands camphors there mothCells mothHeads threads sightNights sightCells o_sights o_night eaten o_lands o_camphors o_there o_mothCells o_mothHeads o_threads o_sightNights o_sightCells o_sights o_night o_eaten) := hD
        cases Option.some.inj hf
        exact W.vret hx hb hr (fun t ht hW => ⟨⟨(), rfl, trivial, by show va_P D vwCl _ t.heap; rw [ht]; exact hP⟩, hS.F ht⟩) hS.2.2 dX1_become_166
      · replace hf := if_f cc hf
        refine lv_aload_n hx hb dX1_become_120 rfl (lv_at hl 0 rfl) ?_
        refine va_get (ci := 1) (v := .ref (h 7)) (C := RX1) (T := TX1) (N := 11) hx hb hT hin_X1 hown hK hP 0 rfl rfl 6 (by decide) (hT _ wf_X1_31) (fun _ h9 => h9) rfl dX1_become_121 ?_
        refine lv_iload_n hx hb dX1_become_124 rfl (lv_at hl 2 rfl) ?_
        refine lv_aload_n hx hb dX1_become_125 rfl (lv_at hl 1 rfl) ?_
        refine va_get (ci := 1) (v := .ref (h2 7)) (C := RX1) (T := TX1) (N := 11) hx hb hT hin_X1 hown hK hP 9 rfl rfl 6 (by decide) (hT _ wf_X1_31) (fun _ h9 => h9) rfl dX1_become_126 ?_
        refine lv_iload_n hx hb dX1_become_129 rfl (lv_at hl 2 rfl) ?_
        obtain ⟨hi, hf⟩ := ck_some hf
        refine va_iald hx hb hK hP 16 0 rfl rfl hi dX1_become_130 ?_
        obtain ⟨hi, hf⟩ := ck_some hf
        refine va_iast hx hb hK hP hD hS 7 0 rfl rfl hi dX1_become_131 (fun H locs hP hD hS => ?_)
        have hP : va_P D vwCl (vw1 cyI cyJ cyZ cyO h h2 lands camphors there mothCells mothHeads threads (upd sightNights x2.toNatClampNeg (o_sightNights x2.toNatClampNeg)) sightCells sights night eaten o_lands o_camphors o_there o_mothCells o_mothHeads o_threads o_sightNights o_sightCells o_sights o_night o_eaten) H := hP
        have hD : va_D A (vw1 cyI cyJ cyZ cyO h h2 lands camphors there mothCells mothHeads threads (upd sightNights x2.toNatClampNeg (o_sightNights x2.toNatClampNeg)) sightCells sights night eaten o_lands o_camphors o_there o_mothCells o_mothHeads o_threads o_sightNights o_sightCells o_sights o_night o_eaten) := hD
        refine lv_aload_n hx hb dX1_become_132 rfl (lv_at hl 0 rfl) ?_
        refine va_get (ci := 1) (v := .ref (h 8)) (C := RX1) (T := TX1) (N := 11) hx hb hT hin_X1 hown hK hP 0 rfl rfl 7 (by decide) (hT _ wf_X1_34) (fun _ h9 => h9) rfl dX1_become_133 ?_
        refine lv_iload_n hx hb dX1_become_136 rfl (lv_at hl 2 rfl) ?_
        refine lv_aload_n hx hb dX1_become_137 rfl (lv_at hl 1 rfl) ?_
        refine va_get (ci := 1) (v := .ref (h2 8)) (C := RX1) (T := TX1) (N := 11) hx hb hT hin_X1 hown hK hP 9 rfl rfl 7 (by decide) (hT _ wf_X1_34) (fun _ h9 => h9) rfl dX1_become_138 ?_
        refine lv_iload_n hx hb dX1_become_141 rfl (lv_at hl 2 rfl) ?_
        obtain ⟨hi, hf⟩ := ck_some hf
        refine va_iald hx hb hK hP 17 0 rfl rfl hi dX1_become_142 ?_
        obtain ⟨hi, hf⟩ := ck_some hf
        refine va_iast hx hb hK hP hD hS 8 0 rfl rfl hi dX1_become_143 (fun H locs hP hD hS => ?_)
        have hP : va_P D vwCl (vw1 cyI cyJ cyZ cyO h h2 lands camphors there mothCells mothHeads threads (upd sightNights x2.toNatClampNeg (o_sightNights x2.toNatClampNeg)) (upd sightCells x2.toNatClampNeg (o_sightCells x2.toNatClampNeg)) sights night eaten o_lands o_camphors o_there o_mothCells o_mothHeads o_threads o_sightNights o_sightCells o_sights o_night o_eaten) H := hP
        have hD : va_D A (vw1 cyI cyJ cyZ cyO h h2 lands camphors there mothCells mothHeads threads (upd sightNights x2.toNatClampNeg (o_sightNights x2.toNatClampNeg)) (upd sightCells x2.toNatClampNeg (o_sightCells x2.toNatClampNeg)) sights night eaten o_lands o_camphors o_there o_mothCells o_mothHeads o_threads o_sightNights o_sightCells o_sights o_night o_eaten) := hD
        refine lv_iinc (v := (x2 + 1)) (lv' := [(2, .int (x2 + 1)), (0, .ref (h 0)), (1, .ref (h2 0))]) hx hb dX1_become_144 hl (k := 2) rfl rfl (by decide) rfl (fun ls hl => ?_)
        refine lv_goto (tgt := 114) hx hb dX1_become_147 (by decide) ?_
        exact ih114 (x2 + 1) lands camphors there mothCells mothHeads threads (upd sightNights x2.toNatClampNeg (o_sightNights x2.toNatClampNeg)) (upd sightCells x2.toNatClampNeg (o_sightCells x2.toNatClampNeg)) sights night o_lands o_camphors o_there o_mothCells o_mothHeads o_threads o_sightNights o_sightCells o_sights o_night H locs ls hP hD hS (lv_sub hl [1, 2, 0] rfl) hf
  have l89 : ∀ (n89 : Nat) (x2 : Int32) (lands : Nat → Int32) (camphors : Nat → Int32) (there : Nat → Int32) (mothCells : Nat → Int32) (mothHeads : Nat → Int32) (threads : Nat → Int32) (sightNights : Nat → Int32) (sightCells : Nat → Int32) (sights : Int32) (night : Int32) (o_lands : Nat → Int32) (o_camphors : Nat → Int32) (o_there : Nat → Int32) (o_mothCells : Nat → Int32) (o_mothHeads : Nat → Int32) (o_threads : Nat → Int32) (o_sightNights : Nat → Int32) (o_sightCells : Nat → Int32) (o_sights : Int32) (o_night : Int32) (H : Heap) (locs : List Loc) (ls : Array Slot), va_P D vwCl (vw1 cyI cyJ cyZ cyO h h2 lands camphors there mothCells mothHeads threads sightNights sightCells sights night eaten o_lands o_camphors o_there o_mothCells o_mothHeads o_threads o_sightNights o_sightCells o_sights o_night o_eaten) H → va_D A (vw1 cyI cyJ cyZ cyO h h2 lands camphors there mothCells mothHeads threads sightNights sightCells sights night eaten o_lands o_camphors o_there o_mothCells o_mothHeads o_threads o_sightNights o_sightCells o_sights o_night o_eaten) → va_S A s.heap H locs → lv_has ls 3 [(0, .ref (h 0)), (1, .ref (h2 0)), (2, .int x2)] → g_X1_become_l89 nf n89 x2 lands camphors there mothCells mothHeads threads sightNights sightCells sights night o_lands o_camphors o_there o_mothCells o_mothHeads o_threads o_sightNights o_sightCells o_sights o_night = some q → W p l e ({ frames := 0, cells := 0, slots := 0, locals := 0 } : Room) s m ([.ref (h 0), .ref (h2 0)] : List Value).toArray below meth c H locs 0 0 (MQ below (qV D (vw1 cyI cyJ cyZ cyO h h2 q.1 q.2.1 q.2.2.1 q.2.2.2.1 q.2.2.2.2.1 q.2.2.2.2.2.1 q.2.2.2.2.2.2.1 q.2.2.2.2.2.2.2.1 q.2.2.2.2.2.2.2.2.1 q.2.2.2.2.2.2.2.2.2 eaten o_lands o_camphors o_there o_mothCells o_mothHeads o_threads o_sightNights o_sightCells o_sights o_night o_eaten) A) ([.ref (h 0), .ref (h2 0)] : List Value).toArray s 0 0 A) (F0 m 89 ls []) := by
    intro n89
    induction n89 with
    | zero =>
      intro x2 lands camphors there mothCells mothHeads threads sightNights sightCells sights night o_lands o_camphors o_there o_mothCells o_mothHeads o_threads o_sightNights o_sightCells o_sights o_night H locs ls hP hD hS hl hf
      rw [g_X1_become_l89] at hf
      cases hf
    | succ n89 ih89 =>
      intro x2 lands camphors there mothCells mothHeads threads sightNights sightCells sights night o_lands o_camphors o_there o_mothCells o_mothHeads o_threads o_sightNights o_sightCells o_sights o_night H locs ls hP hD hS hl hf
      rw [g_X1_become_l89] at hf
      refine lv_iload_n hx hb dX1_become_89 rfl (lv_at hl 2 rfl) ?_
      refine lv_iconst (v := 3) hx hb dX1_become_90 (by decide) ?_
      refine lv_icmp_gt (tgt := 112) hx hb dX1_become_91 (by decide) (fun cc => ?_) (fun cc => ?_)
      · replace hf := if_t cc hf
        refine lv_iconst (v := 0) hx hb dX1_become_112 (by decide) ?_
        refine lv_istore_n (lv' := [(2, .int 0), (0, .ref (h 0)), (1, .ref (h2 0))]) hx hb dX1_become_113 rfl hl (by decide) rfl (fun ls hl => ?_)
        exact l114 nf 0 lands camphors there mothCells mothHeads threads sightNights sightCells sights night o_lands o_camphors o_there o_mothCells o_mothHeads o_threads o_sightNights o_sightCells o_sights o_night H locs ls hP hD hS (lv_sub hl [1, 2, 0] rfl) hf
      · replace hf := if_f cc hf
        refine lv_aload_n hx hb dX1_become_94 rfl (lv_at hl 0 rfl) ?_
        refine va_get (ci := 1) (v := .ref (h 6)) (C := RX1) (T := TX1) (N := 11) hx hb hT hin_X1 hown hK hP 0 rfl rfl 5 (by decide) (hT _ wf_X1_28) (fun _ h9 => h9) rfl dX1_become_95 ?_
        refine lv_iload_n hx hb dX1_become_98 rfl (lv_at hl 2 rfl) ?_
        refine lv_aload_n hx hb dX1_become_99 rfl (lv_at hl 1 rfl) ?_
        refine va_get (ci := 1) (v := .ref (h2 6)) (C := RX1) (T := TX1) (N := 11) hx hb hT hin_X1 hown hK hP 9 rfl rfl 5 (by decide) (hT _ wf_X1_28) (fun _ h9 => h9) rfl dX1_become_100 ?_
        refine lv_iload_n hx hb dX1_become_103 rfl (lv_at hl 2 rfl) ?_
        obtain ⟨hi, hf⟩ := ck_some hf
        refine va_iald hx hb hK hP 15 0 rfl rfl hi dX1_become_104 ?_
        obtain ⟨hi, hf⟩ := ck_some hf
        refine va_iast hx hb hK hP hD hS 6 0 rfl rfl hi dX1_become_105 (fun H locs hP hD hS => ?_)
        have hP : va_P D vwCl (vw1 cyI cyJ cyZ cyO h h2 lands camphors there mothCells mothHeads (upd threads x2.toNatClampNeg (o_threads x2.toNatClampNeg)) sightNights sightCells sights night eaten o_lands o_camphors o_there o_mothCells o_mothHeads o_threads o_sightNights o_sightCells o_sights o_night o_eaten) H := hP
        have hD : va_D A (vw1 cyI cyJ cyZ cyO h h2 lands camphors there mothCells mothHeads (upd threads x2.toNatClampNeg (o_threads x2.toNatClampNeg)) sightNights sightCells sights night eaten o_lands o_camphors o_there o_mothCells o_mothHeads o_threads o_sightNights o_sightCells o_sights o_night o_eaten) := hD
        refine lv_iinc (v := (x2 + 1)) (lv' := [(2, .int (x2 + 1)), (0, .ref (h 0)), (1, .ref (h2 0))]) hx hb dX1_become_106 hl (k := 2) rfl rfl (by decide) rfl (fun ls hl => ?_)
        refine lv_goto (tgt := 89) hx hb dX1_become_109 (by decide) ?_
        exact ih89 (x2 + 1) lands camphors there mothCells mothHeads (upd threads x2.toNatClampNeg (o_threads x2.toNatClampNeg)) sightNights sightCells sights night o_lands o_camphors o_there o_mothCells o_mothHeads o_threads o_sightNights o_sightCells o_sights o_night H locs ls hP hD hS (lv_sub hl [1, 2, 0] rfl) hf
  have l40 : ∀ (n40 : Nat) (x2 : Int32) (lands : Nat → Int32) (camphors : Nat → Int32) (there : Nat → Int32) (mothCells : Nat → Int32) (mothHeads : Nat → Int32) (threads : Nat → Int32) (sightNights : Nat → Int32) (sightCells : Nat → Int32) (sights : Int32) (night : Int32) (o_lands : Nat → Int32) (o_camphors : Nat → Int32) (o_there : Nat → Int32) (o_mothCells : Nat → Int32) (o_mothHeads : Nat → Int32) (o_threads : Nat → Int32) (o_sightNights : Nat → Int32) (o_sightCells : Nat → Int32) (o_sights : Int32) (o_night : Int32) (H : Heap) (locs : List Loc) (ls : Array Slot), va_P D vwCl (vw1 cyI cyJ cyZ cyO h h2 lands camphors there mothCells mothHeads threads sightNights sightCells sights night eaten o_lands o_camphors o_there o_mothCells o_mothHeads o_threads o_sightNights o_sightCells o_sights o_night o_eaten) H → va_D A (vw1 cyI cyJ cyZ cyO h h2 lands camphors there mothCells mothHeads threads sightNights sightCells sights night eaten o_lands o_camphors o_there o_mothCells o_mothHeads o_threads o_sightNights o_sightCells o_sights o_night o_eaten) → va_S A s.heap H locs → lv_has ls 3 [(0, .ref (h 0)), (1, .ref (h2 0)), (2, .int x2)] → g_X1_become_l40 nf n40 x2 lands camphors there mothCells mothHeads threads sightNights sightCells sights night o_lands o_camphors o_there o_mothCells o_mothHeads o_threads o_sightNights o_sightCells o_sights o_night = some q → W p l e ({ frames := 0, cells := 0, slots := 0, locals := 0 } : Room) s m ([.ref (h 0), .ref (h2 0)] : List Value).toArray below meth c H locs 0 0 (MQ below (qV D (vw1 cyI cyJ cyZ cyO h h2 q.1 q.2.1 q.2.2.1 q.2.2.2.1 q.2.2.2.2.1 q.2.2.2.2.2.1 q.2.2.2.2.2.2.1 q.2.2.2.2.2.2.2.1 q.2.2.2.2.2.2.2.2.1 q.2.2.2.2.2.2.2.2.2 eaten o_lands o_camphors o_there o_mothCells o_mothHeads o_threads o_sightNights o_sightCells o_sights o_night o_eaten) A) ([.ref (h 0), .ref (h2 0)] : List Value).toArray s 0 0 A) (F0 m 40 ls []) := by
    intro n40
    induction n40 with
    | zero =>
      intro x2 lands camphors there mothCells mothHeads threads sightNights sightCells sights night o_lands o_camphors o_there o_mothCells o_mothHeads o_threads o_sightNights o_sightCells o_sights o_night H locs ls hP hD hS hl hf
      rw [g_X1_become_l40] at hf
      cases hf
    | succ n40 ih40 =>
      intro x2 lands camphors there mothCells mothHeads threads sightNights sightCells sights night o_lands o_camphors o_there o_mothCells o_mothHeads o_threads o_sightNights o_sightCells o_sights o_night H locs ls hP hD hS hl hf
      rw [g_X1_become_l40] at hf
      refine lv_iload_n hx hb dX1_become_40 rfl (lv_at hl 2 rfl) ?_
      refine lv_iconst (v := 4) hx hb dX1_become_41 (by decide) ?_
      refine lv_icmp_ge (tgt := 87) hx hb dX1_become_42 (by decide) (fun cc => ?_) (fun cc => ?_)
      · replace hf := if_t cc hf
        refine lv_iconst (v := 1) hx hb dX1_become_87 (by decide) ?_
        refine lv_istore_n (lv' := [(2, .int 1), (0, .ref (h 0)), (1, .ref (h2 0))]) hx hb dX1_become_88 rfl hl (by decide) rfl (fun ls hl => ?_)
        exact l89 nf 1 lands camphors there mothCells mothHeads threads sightNights sightCells sights night o_lands o_camphors o_there o_mothCells o_mothHeads o_threads o_sightNights o_sightCells o_sights o_night H locs ls hP hD hS (lv_sub hl [1, 2, 0] rfl) hf
      · replace hf := if_f cc hf
        refine lv_aload_n hx hb dX1_become_45 rfl (lv_at hl 0 rfl) ?_
        refine va_get (ci := 1) (v := .ref (h 3)) (C := RX1) (T := TX1) (N := 11) hx hb hT hin_X1 hown hK hP 0 rfl rfl 2 (by decide) (hT _ wf_X1_18) (fun _ h9 => h9) rfl dX1_become_46 ?_
        refine lv_iload_n hx hb dX1_become_49 rfl (lv_at hl 2 rfl) ?_
        refine lv_aload_n hx hb dX1_become_50 rfl (lv_at hl 1 rfl) ?_
        refine va_get (ci := 1) (v := .ref (h2 3)) (C := RX1) (T := TX1) (N := 11) hx hb hT hin_X1 hown hK hP 9 rfl rfl 2 (by decide) (hT _ wf_X1_18) (fun _ h9 => h9) rfl dX1_become_51 ?_
        refine lv_iload_n hx hb dX1_become_54 rfl (lv_at hl 2 rfl) ?_
        obtain ⟨hi, hf⟩ := ck_some hf
        refine va_zald hx hb hK hP 12 2 rfl rfl hi dX1_become_55 ?_
        obtain ⟨hi, hf⟩ := ck_some hf
        obtain ⟨hz, hf⟩ := bz_some hf
        refine va_zast hx hb hK hP hD hS 3 2 rfl rfl hi dX1_become_56 (fun H locs hP hD hS => ?_)
        rw [(bz_nar hz).1] at hP hD
        have hP : va_P D vwCl (vw1 cyI cyJ cyZ cyO h h2 lands camphors (upd there x2.toNatClampNeg (o_there x2.toNatClampNeg)) mothCells mothHeads threads sightNights sightCells sights night eaten o_lands o_camphors o_there o_mothCells o_mothHeads o_threads o_sightNights o_sightCells o_sights o_night o_eaten) H := hP
        have hD : va_D A (vw1 cyI cyJ cyZ cyO h h2 lands camphors (upd there x2.toNatClampNeg (o_there x2.toNatClampNeg)) mothCells mothHeads threads sightNights sightCells sights night eaten o_lands o_camphors o_there o_mothCells o_mothHeads o_threads o_sightNights o_sightCells o_sights o_night o_eaten) := hD
        refine lv_aload_n hx hb dX1_become_57 rfl (lv_at hl 0 rfl) ?_
        refine va_get (ci := 1) (v := .ref (h 4)) (C := RX1) (T := TX1) (N := 11) hx hb hT hin_X1 hown hK hP 0 rfl rfl 3 (by decide) (hT _ wf_X1_22) (fun _ h9 => h9) rfl dX1_become_58 ?_
        refine lv_iload_n hx hb dX1_become_61 rfl (lv_at hl 2 rfl) ?_
        refine lv_aload_n hx hb dX1_become_62 rfl (lv_at hl 1 rfl) ?_
        refine va_get (ci := 1) (v := .ref (h2 4)) (C := RX1) (T := TX1) (N := 11) hx hb hT hin_X1 hown hK hP 9 rfl rfl 3 (by decide) (hT _ wf_X1_22) (fun _ h9 => h9) rfl dX1_become_63 ?_
        refine lv_iload_n hx hb dX1_become_66 rfl (lv_at hl 2 rfl) ?_
        obtain ⟨hi, hf⟩ := ck_some hf
        refine va_iald hx hb hK hP 13 0 rfl rfl hi dX1_become_67 ?_
        obtain ⟨hi, hf⟩ := ck_some hf
        refine va_iast hx hb hK hP hD hS 4 0 rfl rfl hi dX1_become_68 (fun H locs hP hD hS => ?_)
        have hP : va_P D vwCl (vw1 cyI cyJ cyZ cyO h h2 lands camphors (upd there x2.toNatClampNeg (o_there x2.toNatClampNeg)) (upd mothCells x2.toNatClampNeg (o_mothCells x2.toNatClampNeg)) mothHeads threads sightNights sightCells sights night eaten o_lands o_camphors o_there o_mothCells o_mothHeads o_threads o_sightNights o_sightCells o_sights o_night o_eaten) H := hP
        have hD : va_D A (vw1 cyI cyJ cyZ cyO h h2 lands camphors (upd there x2.toNatClampNeg (o_there x2.toNatClampNeg)) (upd mothCells x2.toNatClampNeg (o_mothCells x2.toNatClampNeg)) mothHeads threads sightNights sightCells sights night eaten o_lands o_camphors o_there o_mothCells o_mothHeads o_threads o_sightNights o_sightCells o_sights o_night o_eaten) := hD
        refine lv_aload_n hx hb dX1_become_69 rfl (lv_at hl 0 rfl) ?_
        refine va_get (ci := 1) (v := .ref (h 5)) (C := RX1) (T := TX1) (N := 11) hx hb hT hin_X1 hown hK hP 0 rfl rfl 4 (by decide) (hT _ wf_X1_25) (fun _ h9 => h9) rfl dX1_become_70 ?_
        refine lv_iload_n hx hb dX1_become_73 rfl (lv_at hl 2 rfl) ?_
        refine lv_aload_n hx hb dX1_become_74 rfl (lv_at hl 1 rfl) ?_
        refine va_get (ci := 1) (v := .ref (h2 5)) (C := RX1) (T := TX1) (N := 11) hx hb hT hin_X1 hown hK hP 9 rfl rfl 4 (by decide) (hT _ wf_X1_25) (fun _ h9 => h9) rfl dX1_become_75 ?_
        refine lv_iload_n hx hb dX1_become_78 rfl (lv_at hl 2 rfl) ?_
        obtain ⟨hi, hf⟩ := ck_some hf
        refine va_iald hx hb hK hP 14 0 rfl rfl hi dX1_become_79 ?_
        obtain ⟨hi, hf⟩ := ck_some hf
        refine va_iast hx hb hK hP hD hS 5 0 rfl rfl hi dX1_become_80 (fun H locs hP hD hS => ?_)
        have hP : va_P D vwCl (vw1 cyI cyJ cyZ cyO h h2 lands camphors (upd there x2.toNatClampNeg (o_there x2.toNatClampNeg)) (upd mothCells x2.toNatClampNeg (o_mothCells x2.toNatClampNeg)) (upd mothHeads x2.toNatClampNeg (o_mothHeads x2.toNatClampNeg)) threads sightNights sightCells sights night eaten o_lands o_camphors o_there o_mothCells o_mothHeads o_threads o_sightNights o_sightCells o_sights o_night o_eaten) H := hP
        have hD : va_D A (vw1 cyI cyJ cyZ cyO h h2 lands camphors (upd there x2.toNatClampNeg (o_there x2.toNatClampNeg)) (upd mothCells x2.toNatClampNeg (o_mothCells x2.toNatClampNeg)) (upd mothHeads x2.toNatClampNeg (o_mothHeads x2.toNatClampNeg)) threads sightNights sightCells sights night eaten o_lands o_camphors o_there o_mothCells o_mothHeads o_threads o_sightNights o_sightCells o_sights o_night o_eaten) := hD
        refine lv_iinc (v := (x2 + 1)) (lv' := [(2, .int (x2 + 1)), (0, .ref (h 0)), (1, .ref (h2 0))]) hx hb dX1_become_81 hl (k := 2) rfl rfl (by decide) rfl (fun ls hl => ?_)
        refine lv_goto (tgt := 40) hx hb dX1_become_84 (by decide) ?_
        exact ih40 (x2 + 1) lands camphors (upd there x2.toNatClampNeg (o_there x2.toNatClampNeg)) (upd mothCells x2.toNatClampNeg (o_mothCells x2.toNatClampNeg)) (upd mothHeads x2.toNatClampNeg (o_mothHeads x2.toNatClampNeg)) threads sightNights sightCells sights night o_lands o_camphors o_there o_mothCells o_mothHeads o_threads o_sightNights o_sightCells o_sights o_night H locs ls hP hD hS (lv_sub hl [1, 2, 0] rfl) hf
  have l2 : ∀ (n2 : Nat) (x2 : Int32) (lands : Nat → Int32) (camphors : Nat → Int32) (there : Nat → Int32) (mothCells : Nat → Int32) (mothHeads : Nat → Int32) (threads : Nat → Int32) (sightNights : Nat → Int32) (sightCells : Nat → Int32) (sights : Int32) (night : Int32) (o_lands : Nat → Int32) (o_camphors : Nat → Int32) (o_there : Nat → Int32) (o_mothCells : Nat → Int32) (o_mothHeads : Nat → Int32) (o_threads : Nat → Int32) (o_sightNights : Nat → Int32) (o_sightCells : Nat → Int32) (o_sights : Int32) (o_night : Int32) (H : Heap) (locs : List Loc) (ls : Array Slot), va_P D vwCl (vw1 cyI cyJ cyZ cyO h h2 lands camphors there mothCells mothHeads threads sightNights sightCells sights night eaten o_lands o_camphors o_there o_mothCells o_mothHeads o_threads o_sightNights o_sightCells o_sights o_night o_eaten) H → va_D A (vw1 cyI cyJ cyZ cyO h h2 lands camphors there mothCells mothHeads threads sightNights sightCells sights night eaten o_lands o_camphors o_there o_mothCells o_mothHeads o_threads o_sightNights o_sightCells o_sights o_night o_eaten) → va_S A s.heap H locs → lv_has ls 3 [(0, .ref (h 0)), (1, .ref (h2 0)), (2, .int x2)] → g_X1_become_l2 nf n2 x2 lands camphors there mothCells mothHeads threads sightNights sightCells sights night o_lands o_camphors o_there o_mothCells o_mothHeads o_threads o_sightNights o_sightCells o_sights o_night = some q → W p l e ({ frames := 0, cells := 0, slots := 0, locals := 0 } : Room) s m ([.ref (h 0), .ref (h2 0)] : List Value).toArray below meth c H locs 0 0 (MQ below (qV D (vw1 cyI cyJ cyZ cyO h h2 q.1 q.2.1 q.2.2.1 q.2.2.2.1 q.2.2.2.2.1 q.2.2.2.2.2.1 q.2.2.2.2.2.2.1 q.2.2.2.2.2.2.2.1 q.2.2.2.2.2.2.2.2.1 q.2.2.2.2.2.2.2.2.2 eaten o_lands o_camphors o_there o_mothCells o_mothHeads o_threads o_sightNights o_sightCells o_sights o_night o_eaten) A) ([.ref (h 0), .ref (h2 0)] : List Value).toArray s 0 0 A) (F0 m 2 ls []) := by
    intro n2
    induction n2 with
    | zero =>
      intro x2 lands camphors there mothCells mothHeads threads sightNights sightCells sights night o_lands o_camphors o_there o_mothCells o_mothHeads o_threads o_sightNights o_sightCells o_sights o_night H locs ls hP hD hS hl hf
      rw [g_X1_become_l2] at hf
      cases hf
    | succ n2 ih2 =>
      intro x2 lands camphors there mothCells mothHeads threads sightNights sightCells sights night o_lands o_camphors o_there o_mothCells o_mothHeads o_threads o_sightNights o_sightCells o_sights o_night H locs ls hP hD hS hl hf
      rw [g_X1_become_l2] at hf
      refine lv_iload_n hx hb dX1_become_2 rfl (lv_at hl 2 rfl) ?_
      refine lv_bipush (v := 25) hx hb dX1_become_3 (by decide) ?_
      refine lv_icmp_ge (tgt := 38) hx hb dX1_become_5 (by decide) (fun cc => ?_) (fun cc => ?_)
      · replace hf := if_t cc hf
        refine lv_iconst (v := 0) hx hb dX1_become_38 (by decide) ?_
        refine lv_istore_n (lv' := [(2, .int 0), (0, .ref (h 0)), (1, .ref (h2 0))]) hx hb dX1_become_39 rfl hl (by decide) rfl (fun ls hl => ?_)
        exact l40 nf 0 lands camphors there mothCells mothHeads threads sightNights sightCells sights night o_lands o_camphors o_there o_mothCells o_mothHeads o_threads o_sightNights o_sightCells o_sights o_night H locs ls hP hD hS (lv_sub hl [1, 2, 0] rfl) hf
      · replace hf := if_f cc hf
        refine lv_aload_n hx hb dX1_become_8 rfl (lv_at hl 0 rfl) ?_
        refine va_get (ci := 1) (v := .ref (h 1)) (C := RX1) (T := TX1) (N := 11) hx hb hT hin_X1 hown hK hP 0 rfl rfl 0 (by decide) (hT _ wf_X1_9) (fun _ h9 => h9) rfl dX1_become_9 ?_
        refine lv_iload_n hx hb dX1_become_12 rfl (lv_at hl 2 rfl) ?_
        refine lv_aload_n hx hb dX1_become_13 rfl (lv_at hl 1 rfl) ?_
        refine va_get (ci := 1) (v := .ref (h2 1)) (C := RX1) (T := TX1) (N := 11) hx hb hT hin_X1 hown hK hP 9 rfl rfl 0 (by decide) (hT _ wf_X1_9) (fun _ h9 => h9) rfl dX1_become_14 ?_
        refine lv_iload_n hx hb dX1_become_17 rfl (lv_at hl 2 rfl) ?_
        obtain ⟨hi, hf⟩ := ck_some hf
        refine va_iald hx hb hK hP 10 0 rfl rfl hi dX1_become_18 ?_
        obtain ⟨hi, hf⟩ := ck_some hf
        refine va_iast hx hb hK hP hD hS 1 0 rfl rfl hi dX1_become_19 (fun H locs hP hD hS => ?_)
        have hP : va_P D vwCl (vw1 cyI cyJ cyZ cyO h h2 (upd lands x2.toNatClampNeg (o_lands x2.toNatClampNeg)) camphors there mothCells mothHeads threads sightNights sightCells sights night eaten o_lands o_camphors o_there o_mothCells o_mothHeads o_threads o_sightNights o_sightCells o_sights o_night o_eaten) H := hP
        have hD : va_D A (vw1 cyI cyJ cyZ cyO h h2 (upd lands x2.toNatClampNeg (o_lands x2.toNatClampNeg)) camphors there mothCells mothHeads threads sightNights sightCells sights night eaten o_lands o_camphors o_there o_mothCells o_mothHeads o_threads o_sightNights o_sightCells o_sights o_night o_eaten) := hD
        refine lv_aload_n hx hb dX1_become_20 rfl (lv_at hl 0 rfl) ?_
        refine va_get (ci := 1) (v := .ref (h 2)) (C := RX1) (T := TX1) (N := 11) hx hb hT hin_X1 hown hK hP 0 rfl rfl 1 (by decide) (hT _ wf_X1_15) (fun _ h9 => h9) rfl dX1_become_21 ?_
        refine lv_iload_n hx hb dX1_become_24 rfl (lv_at hl 2 rfl) ?_
        refine lv_aload_n hx hb dX1_become_25 rfl (lv_at hl 1 rfl) ?_
        refine va_get (ci := 1) (v := .ref (h2 2)) (C := RX1) (T := TX1) (N := 11) hx hb hT hin_X1 hown hK hP 9 rfl rfl 1 (by decide) (hT _ wf_X1_15) (fun _ h9 => h9) rfl dX1_become_26 ?_
        refine lv_iload_n hx hb dX1_become_29 rfl (lv_at hl 2 rfl) ?_
        obtain ⟨hi, hf⟩ := ck_some hf
        refine va_iald hx hb hK hP 11 0 rfl rfl hi dX1_become_30 ?_
        obtain ⟨hi, hf⟩ := ck_some hf
        refine va_iast hx hb hK hP hD hS 2 0 rfl rfl hi dX1_become_31 (fun H locs hP hD hS => ?_)
        have hP : va_P D vwCl (vw1 cyI cyJ cyZ cyO h h2 (upd lands x2.toNatClampNeg (o_lands x2.toNatClampNeg)) (upd camphors x2.toNatClampNeg (o_camphors x2.toNatClampNeg)) there mothCells mothHeads threads sightNights sightCells sights night eaten o_lands o_camphors o_there o_mothCells o_mothHeads o_threads o_sightNights o_sightCells o_sights o_night o_eaten) H := hP
        have hD : va_D A (vw1 cyI cyJ cyZ cyO h h2 (upd lands x2.toNatClampNeg (o_lands x2.toNatClampNeg)) (upd camphors x2.toNatClampNeg (o_camphors x2.toNatClampNeg)) there mothCells mothHeads threads sightNights sightCells sights night eaten o_lands o_camphors o_there o_mothCells o_mothHeads o_threads o_sightNights o_sightCells o_sights o_night o_eaten) := hD
        refine lv_iinc (v := (x2 + 1)) (lv' := [(2, .int (x2 + 1)), (0, .ref (h 0)), (1, .ref (h2 0))]) hx hb dX1_become_32 hl (k := 2) rfl rfl (by decide) rfl (fun ls hl => ?_)
        refine lv_goto (tgt := 2) hx hb dX1_become_35 (by decide) ?_
        exact ih2 (x2 + 1) (upd lands x2.toNatClampNeg (o_lands x2.toNatClampNeg)) (upd camphors x2.toNatClampNeg (o_camphors x2.toNatClampNeg)) there mothCells mothHeads threads sightNights sightCells sights night o_lands o_camphors o_there o_mothCells o_mothHeads o_threads o_sightNights o_sightCells o_sights o_night H locs ls hP hD hS (lv_sub hl [1, 2, 0] rfl) hf
  have main : ∀ (H : Heap) (locs : List Loc) (ls : Array Slot), va_P D vwCl (vw1 cyI cyJ cyZ cyO h h2 lands camphors there mothCells mothHeads threads sightNights sightCells sights night eaten o_lands o_camphors o_there o_mothCells o_mothHeads o_threads o_sightNights o_sightCells o_sights o_night o_eaten) H → va_D A (vw1 cyI cyJ cyZ cyO h h2 lands camphors there mothCells mothHeads threads sightNights sightCells sights night eaten o_lands o_camphors o_there o_mothCells o_mothHeads o_threads o_sightNights o_sightCells o_sights o_night o_eaten) → va_S A s.heap H locs → lv_has ls 3 [(0, .ref (h 0)), (1, .ref (h2 0))] → W p l e ({ frames := 0, cells := 0, slots := 0, locals := 0 } : Room) s m ([.ref (h 0), .ref (h2 0)] : List Value).toArray below meth c H locs 0 0 (MQ below (qV D (vw1 cyI cyJ cyZ cyO h h2 q.1 q.2.1 q.2.2.1 q.2.2.2.1 q.2.2.2.2.1 q.2.2.2.2.2.1 q.2.2.2.2.2.2.1 q.2.2.2.2.2.2.2.1 q.2.2.2.2.2.2.2.2.1 q.2.2.2.2.2.2.2.2.2 eaten o_lands o_camphors o_there o_mothCells o_mothHeads o_threads o_sightNights o_sightCells o_sights o_night o_eaten) A) ([.ref (h 0), .ref (h2 0)] : List Value).toArray s 0 0 A) (F0 m 0 ls []) := by
    intro H locs ls hP hD hS hl
    unfold g_X1_become at hf
    refine lv_iconst (v := 0) hx hb dX1_become_0 (by decide) ?_
    refine lv_istore_n (lv' := [(2, .int 0), (0, .ref (h 0)), (1, .ref (h2 0))]) hx hb dX1_become_1 rfl hl (by decide) rfl (fun ls hl => ?_)
    exact l2 nf 0 lands camphors there mothCells mothHeads threads sightNights sightCells sights night o_lands o_camphors o_there o_mothCells o_mothHeads o_threads o_sightNights o_sightCells o_sights o_night H locs ls hP hD hS (lv_sub hl [1, 2, 0] rfl) hf
  have hl := lv_entry ([.ref (h 0), .ref (h2 0)]) (n := 3) (Nat.le_of_ble_eq_true rfl)
  rw [lg_entry_eq]
  exact main s.heap [] _ hP hD hS hl
theorem hd_X1_isThere : yX1_isThere.cls = RX1 ∧ yX1_isThere.cls ≠ "java/lang/invoke/MethodHandle" ∧ yX1_isThere.cls ≠ "java/lang/invoke/VarHandle" ∧ (parseMethodDescriptor yX1_isThere.desc).map (fun d => d.parameters.length) = some 1 := by decide +kernel
set_option maxHeartbeats 4000000 in
set_option maxRecDepth 100000 in
theorem c_X1_isThere (l : Launch) (D : va_G) (cyI cyJ cyZ cyO : ClassId) (h : Nat → Nat) (sz : Nat) (lands : Nat → Int32) (camphors : Nat → Int32) (there : Nat → Int32) (mothCells : Nat → Int32) (mothHeads : Nat → Int32) (threads : Nat → Int32) (sightNights : Nat → Int32) (sightCells : Nat → Int32) (sights : Int32) (night : Int32) (eaten : Int32) (p1 : Int32) (nf : Nat) (q : Int32) (hf : g_X1_isThere nf p1 there = some q) : Met l yX1_isThere (Cond.code yX1_isThere cX1_isThere 2 (some .boolean) :: tbG) ({ frames := 0, cells := 0, slots := 0, locals := 0 } : Room) (va_Pc [.ref (h 0), .int p1] (pcB D (ty4 cyI cyJ cyZ cyO) sz (wX1 cyI cyJ cyZ cyO h lands camphors there mothCells mothHeads threads sightNights sightCells sights night eaten))) (qI D (wX1 cyI cyJ cyZ cyO h lands camphors there mothCells mothHeads threads sightNights sightCells sights night eaten) q (va_A (wX1 cyI cyJ cyZ cyO h lands camphors there mothCells mothHeads threads sightNights sightCells sights night eaten) sz)) 0 0 (va_A (wX1 cyI cyJ cyZ cyO h lands camphors there mothCells mothHeads threads sightNights sightCells sights night eaten) sz) := by
  refine Met.ofW (cc := cX1_isThere) (maxL := 2) (ret := (some .boolean)) (by decide) rfl ?_
  intro p e s m args below meth c s₁ B hml hv
  obtain ⟨rfl, hsz, hP, hK, hD0, hN⟩ := hv
  have hx := B.exec
  have hb := B.bytes
  have hr := B.returns
  have hT : ∀ w ∈ tbG, w.before ([.ref (h 0), .int p1] : List Value).toArray s = true := fun w h => atoms_spec (ws := (Cond.code yX1_isThere cX1_isThere 2 (some .boolean) :: tbG)) B.pre w (List.mem_cons_of_mem _ h)
  have hown : s.vm.findClass RX1 = some m.cls := findClass_of_methodNamed B.named
  have hlocks := B.notSynchronized
  subst hsz
  have hD := hD0.self (sz := s.heap.size)
  generalize hAe : va_A (wX1 cyI cyJ cyZ cyO h lands camphors there mothCells mothHeads threads sightNights sightCells sights night eaten) s.heap.size = A at hD ⊢
  have hA : ∀ q : Nat, s.heap.size ≤ q → A q := fun q h => by rw [← hAe]; exact Or.inr h
  have hS : va_S A s.heap s.heap [] := va_S.rf
  show W p l e ({ frames := 0, cells := 0, slots := 0, locals := 0 } : Room) s m ([.ref (h 0), .int p1] : List Value).toArray below meth c s.heap [] 0 0 (MQ below (qI D (wX1 cyI cyJ cyZ cyO h lands camphors there mothCells mothHeads threads sightNights sightCells sights night eaten) q A) ([.ref (h 0), .int p1] : List Value).toArray s 0 0 A) _
  have main : ∀ (H : Heap) (locs : List Loc) (ls : Array Slot), va_P D vwCl (wX1 cyI cyJ cyZ cyO h lands camphors there mothCells mothHeads threads sightNights sightCells sights night eaten) H → va_D A (wX1 cyI cyJ cyZ cyO h lands camphors there mothCells mothHeads threads sightNights sightCells sights night eaten) → va_S A s.heap H locs → lv_has ls 2 [(0, .ref (h 0)), (1, .int p1)] → W p l e ({ frames := 0, cells := 0, slots := 0, locals := 0 } : Room) s m ([.ref (h 0), .int p1] : List Value).toArray below meth c H locs 0 0 (MQ below (qI D (wX1 cyI cyJ cyZ cyO h lands camphors there mothCells mothHeads threads sightNights sightCells sights night eaten) q A) ([.ref (h 0), .int p1] : List Value).toArray s 0 0 A) (F0 m 0 ls []) := by
    intro H locs ls hP hD hS hl
    unfold g_X1_isThere at hf
    refine lv_iload_n hx hb dX1_isThere_0 rfl (lv_at hl 1 rfl) ?_
    refine lv_if_lt (tgt := 22) hx hb dX1_isThere_1 (by decide) (fun cc => ?_) (fun cc => ?_)
    · replace hf := if_t cc hf
      refine lv_iconst (v := 0) hx hb dX1_isThere_22 (by decide) ?_
      obtain ⟨hz, hf⟩ := bz_some hf
      cases Option.some.inj hf
      exact W.zret hx hb hr (bz_nar hz).2 (fun t ht hW => ⟨⟨_, (), rfl, rfl, by show va_P D vwCl _ t.heap; rw [ht]; exact hP⟩, hS.F ht⟩) hS.2.2 dX1_isThere_23
    · replace hf := if_f cc hf
      refine lv_iload_n hx hb dX1_isThere_4 rfl (lv_at hl 1 rfl) ?_
      refine lv_iconst (v := 4) hx hb dX1_isThere_5 (by decide) ?_
      refine lv_icmp_ge (tgt := 22) hx hb dX1_isThere_6 (by decide) (fun cc => ?_) (fun cc => ?_)
      · replace hf := if_t cc hf
        refine lv_iconst (v := 0) hx hb dX1_isThere_22 (by decide) ?_
        obtain ⟨hz, hf⟩ := bz_some hf
        cases Option.some.inj hf
        exact W.zret hx hb hr (bz_nar hz).2 (fun t ht hW => ⟨⟨_, (), rfl, rfl, by show va_P D vwCl _ t.heap; rw [ht]; exact hP⟩, hS.F ht⟩) hS.2.2 dX1_isThere_23
      · replace hf := if_f cc hf
        refine lv_aload_n hx hb dX1_isThere_9 rfl (lv_at hl 0 rfl) ?_
        refine va_get (ci := 1) (v := .ref (h 3)) (C := RX1) (T := TX1) (N := 11) hx hb hT hin_X1 hown hK hP 0 rfl rfl 2 (by decide) (hT _ wf_X1_18) (fun _ h9 => h9) rfl dX1_isThere_10 ?_
        refine lv_iload_n hx hb dX1_isThere_13 rfl (lv_at hl 1 rfl) ?_
        obtain ⟨hi, hf⟩ := ck_some hf
        refine va_zald hx hb hK hP 3 2 rfl rfl hi dX1_isThere_14 ?_
        refine lv_if_eq (tgt := 22) hx hb dX1_isThere_15 (by decide) (fun cc => ?_) (fun cc => ?_)
        · replace hf := if_t cc hf
          refine lv_iconst (v := 0) hx hb dX1_isThere_22 (by decide) ?_
          obtain ⟨hz, hf⟩ := bz_some hf
          cases Option.some.inj hf
          exact W.zret hx hb hr (bz_nar hz).2 (fun t ht hW => ⟨⟨_, (), rfl, rfl, by show va_P D vwCl _ t.heap; rw [ht]; exact hP⟩, hS.F ht⟩) hS.2.2 dX1_isThere_23
        · replace hf := if_f cc hf
          refine lv_iconst (v := 1) hx hb dX1_isThere_18 (by decide) ?_
          refine lv_goto (tgt := 23) hx hb dX1_isThere_19 (by decide) ?_
          obtain ⟨hz, hf⟩ := bz_some hf
          cases Option.some.inj hf
          exact W.zret hx hb hr (bz_nar hz).2 (fun t ht hW => ⟨⟨_, (), rfl, rfl, by show va_P D vwCl _ t.heap; rw [ht]; exact hP⟩, hS.F ht⟩) hS.2.2 dX1_isThere_23
  have hl := lv_entry ([.ref (h 0), .int p1]) (n := 2) (Nat.le_of_ble_eq_true rfl)
  rw [lg_entry_eq]
  exact main s.heap [] _ hP hD hS hl
theorem hd_X1_mothBits : yX1_mothBits.cls = RX1 ∧ yX1_mothBits.cls ≠ "java/lang/invoke/MethodHandle" ∧ yX1_mothBits.cls ≠ "java/lang/invoke/VarHandle" ∧ (parseMethodDescriptor yX1_mothBits.desc).map (fun d => d.parameters.length) = some 0 := by decide +kernel
set_option maxHeartbeats 4000000 in
set_option maxRecDepth 100000 in
theorem c_X1_mothBits (l : Launch) (D : va_G) (cyI cyJ cyZ cyO : ClassId) (h : Nat → Nat) (sz : Nat) (lands : Nat → Int32) (camphors : Nat → Int32) (there : Nat → Int32) (mothCells : Nat → Int32) (mothHeads : Nat → Int32) (threads : Nat → Int32) (sightNights : Nat → Int32) (sightCells : Nat → Int32) (sights : Int32) (night : Int32) (eaten : Int32) (nf : Nat) (q : Int32) (hf : g_X1_mothBits nf there = some q) : Met l yX1_mothBits (Cond.code yX1_mothBits cX1_mothBits 3 (some .int) :: tbG) ({ frames := 0, cells := 0, slots := 0, locals := 0 } : Room) (va_Pc [.ref (h 0)] (pcB D (ty4 cyI cyJ cyZ cyO) sz (wX1 cyI cyJ cyZ cyO h lands camphors there mothCells mothHeads threads sightNights sightCells sights night eaten))) (qI D (wX1 cyI cyJ cyZ cyO h lands camphors there mothCells mothHeads threads sightNights sightCells sights night eaten) q (va_A (wX1 cyI cyJ cyZ cyO h lands camphors there mothCells mothHeads threads sightNights sightCells sights night eaten) sz)) 0 0 (va_A (wX1 cyI cyJ cyZ cyO h lands camphors there mothCells mothHeads threads sightNights sightCells sights night eaten) sz) := by
  refine Met.ofW (cc := cX1_mothBits) (maxL := 3) (ret := (some .int)) (by decide) rfl ?_
  intro p e s m args below meth c s₁ B hml hv
  obtain ⟨rfl, hsz, hP, hK, hD0, hN⟩ := hv
  have hx := B.exec
  have hb := B.bytes
  have hr := B.returns
  have hT : ∀ w ∈ tbG, w.before ([.ref (h 0)] : List Value).toArray s = true := fun w h => atoms_spec (ws := (Cond.code yX1_mothBits cX1_mothBits 3 (some .int) :: tbG)) B.pre w (List.mem_cons_of_mem _ h)
  have hown : s.vm.findClass RX1 = some m.cls := findClass_of_methodNamed B.named
  have hlocks := B.notSynchronized
  subst hsz
  have hD := hD0.self (sz := s.heap.size)
  generalize hAe : va_A (wX1 cyI cyJ cyZ cyO h lands camphors there mothCells mothHeads threads sightNights sightCells sights night eaten) s.heap.size = A at hD ⊢
  have hA : ∀ q : Nat, s.heap.size ≤ q → A q := fun q h => by rw [← hAe]; exact Or.inr h
  have hS : va_S A s.heap s.heap [] := va_S.rf
  show W p l e ({ frames := 0, cells := 0, slots := 0, locals := 0 } : Room) s m ([.ref (h 0)] : List Value).toArray below meth c s.heap [] 0 0 (MQ below (qI D (wX1 cyI cyJ cyZ cyO h lands camphors there mothCells mothHeads threads sightNights sightCells sights night eaten) q A) ([.ref (h 0)] : List Value).toArray s 0 0 A) _
  have l4 : ∀ (n4 : Nat) (x1 : Int32) (x2 : Int32) (there : Nat → Int32) (H : Heap) (locs : List Loc) (ls : Array Slot), va_P D vwCl (wX1 cyI cyJ cyZ cyO h lands camphors there mothCells mothHeads threads sightNights sightCells sights night eaten) H → va_D A (wX1 cyI cyJ cyZ cyO h lands camphors there mothCells mothHeads threads sightNights sightCells sights night eaten) → va_S A s.heap H locs → lv_has ls 3 [(0, .ref (h 0)), (1, .int x1), (2, .int x2)] → g_X1_mothBits_l4 nf n4 x1 x2 there = some q → W p l e ({ frames := 0, cells := 0, slots := 0, locals := 0 } : Room) s m ([.ref (h 0)] : List Value).toArray below meth c H locs 0 0 (MQ below (qI D (wX1 cyI cyJ cyZ cyO h lands camphors there mothCells mothHeads threads sightNights sightCells sights night eaten) q A) ([.ref (h 0)] : List Value).toArray s 0 0 A) (F0 m 4 ls []) := by
    intro n4
    induction n4 with
    | zero =>
      intro x1 x2 there H locs ls hP hD hS hl hf
      rw [g_X1_mothBits_l4] at hf
      cases hf
    | succ n4 ih4 =>
      have b26 : ∀ (x2 : Int32) (s0 : Int32) (s1 : Int32) (there : Nat → Int32) (H : Heap) (locs : List Loc) (ls : Array Slot), va_P D vwCl (wX1 cyI cyJ cyZ cyO h lands camphors there mothCells mothHeads threads sightNights sightCells sights night eaten) H → va_D A (wX1 cyI cyJ cyZ cyO h lands camphors there mothCells mothHeads threads sightNights sightCells sights night eaten) → va_S A s.heap H locs → lv_has ls 3 [(0, .ref (h 0)), (2, .int x2)] → g_X1_mothBits_b26 nf (g_X1_mothBits_l4 nf n4) x2 s0 s1 there = some q → W p l e ({ frames := 0, cells := 0, slots := 0, locals := 0 } : Room) s m ([.ref (h 0)] : List Value).toArray below meth c H locs 0 0 (MQ below (qI D (wX1 cyI cyJ cyZ cyO h lands camphors there mothCells mothHeads threads sightNights sightCells sights night eaten) q A) ([.ref (h 0)] : List Value).toArray s 0 0 A) (F0 m 26 ls [.int s1, .int s0]) := by
        intro x2 s0 s1 there H locs ls hP hD hS hl hf
        unfold g_X1_mothBits_b26 at hf
        refine lv_ior hx hb dX1_mothBits_26 ?_
        refine lv_istore_n (lv' := [(1, .int (s0 ||| s1)), (0, .ref (h 0)), (2, .int x2)]) hx hb dX1_mothBits_27 rfl hl (by decide) rfl (fun ls hl => ?_)
        refine lv_iinc (v := (x2 + 1)) (lv' := [(2, .int (x2 + 1)), (1, .int (s0 ||| s1)), (0, .ref (h 0))]) hx hb dX1_mothBits_28 hl (k := 2) rfl rfl (by decide) rfl (fun ls hl => ?_)
        refine lv_goto (tgt := 4) hx hb dX1_mothBits_31 (by decide) ?_
        exact ih4 (s0 ||| s1) (x2 + 1) there H locs ls hP hD hS (lv_sub hl [2, 1, 0] rfl) hf
      intro x1 x2 there H locs ls hP hD hS hl hf
      rw [g_X1_mothBits_l4] at hf
      refine lv_iload_n hx hb dX1_mothBits_4 rfl (lv_at hl 2 rfl) ?_
      refine lv_iconst (v := 4) hx hb dX1_mothBits_5 (by decide) ?_
      refine lv_icmp_ge (tgt := 34) hx hb dX1_mothBits_6 (by decide) (fun cc => ?_) (fun cc => ?_)
      · replace hf := if_t cc hf
        refine lv_iload_n hx hb dX1_mothBits_34 rfl (lv_at hl 1 rfl) ?_
        cases Option.some.inj hf
        exact W.iret hx hb hr (fun t ht hW => ⟨⟨_, (), rfl, rfl, by show va_P D vwCl _ t.heap; rw [ht]; exact hP⟩, hS.F ht⟩) hS.2.2 dX1_mothBits_35
      · replace hf := if_f cc hf
        refine lv_iload_n hx hb dX1_mothBits_9 rfl (lv_at hl 1 rfl) ?_
        refine lv_aload_n hx hb dX1_mothBits_10 rfl (lv_at hl 0 rfl) ?_
        refine va_get (ci := 1) (v := .ref (h 3)) (C := RX1) (T := TX1) (N := 11) hx hb hT hin_X1 hown hK hP 0 rfl rfl 2 (by decide) (hT _ wf_X1_18) (fun _ h9 => h9) rfl dX1_mothBits_11 ?_
        refine lv_iload_n hx hb dX1_mothBits_14 rfl (lv_at hl 2 rfl) ?_
        obtain ⟨hi, hf⟩ := ck_some hf
        refine va_zald hx hb hK hP 3 2 rfl rfl hi dX1_mothBits_15 ?_
        refine lv_if_eq (tgt := 25) hx hb dX1_mothBits_16 (by decide) (fun cc => ?_) (fun cc => ?_)
        · replace hf := if_t cc hf
          refine lv_iconst (v := 0) hx hb dX1_mothBits_25 (by decide) ?_
          exact b26 x2 x1 0 there H locs ls hP hD hS (lv_sub hl [0, 2] rfl) hf
        · replace hf := if_f cc hf
          refine lv_iconst (v := 1) hx hb dX1_mothBits_19 (by decide) ?_
          refine lv_iload_n hx hb dX1_mothBits_20 rfl (lv_at hl 2 rfl) ?_
          refine lv_ishl hx hb dX1_mothBits_21 ?_
          refine lv_goto (tgt := 26) hx hb dX1_mothBits_22 (by decide) ?_
          exact b26 x2 x1 ((1 : Int32) <<< (x2 &&& 31)) there H locs ls hP hD hS (lv_sub hl [0, 2] rfl) hf
  have main : ∀ (H : Heap) (locs : List Loc) (ls : Array Slot), va_P D vwCl (wX1 cyI cyJ cyZ cyO h lands camphors there mothCells mothHeads threads sightNights sightCells sights night eaten) H → va_D A (wX1 cyI cyJ cyZ cyO h lands camphors there mothCells mothHeads threads sightNights sightCells sights night eaten) → va_S A s.heap H locs → lv_has ls 3 [(0, .ref (h 0))] → W p l e ({ frames := 0, cells := 0, slots := 0, locals := 0 } : Room) s m ([.ref (h 0)] : List Value).toArray below meth c H locs 0 0 (MQ below (qI D (wX1 cyI cyJ cyZ cyO h lands camphors there mothCells mothHeads threads sightNights sightCells sights night eaten) q A) ([.ref (h 0)] : List Value).toArray s 0 0 A) (F0 m 0 ls []) := by
    intro H locs ls hP hD hS hl
    unfold g_X1_mothBits at hf
    refine lv_iconst (v := 0) hx hb dX1_mothBits_0 (by decide) ?_
    refine lv_istore_n (lv' := [(1, .int 0), (0, .ref (h 0))]) hx hb dX1_mothBits_1 rfl hl (by decide) rfl (fun ls hl => ?_)
    refine lv_iconst (v := 0) hx hb dX1_mothBits_2 (by decide) ?_
    refine lv_istore_n (lv' := [(2, .int 0), (1, .int 0), (0, .ref (h 0))]) hx hb dX1_mothBits_3 rfl hl (by decide) rfl (fun ls hl => ?_)
    exact l4 nf 0 0 there H locs ls hP hD hS (lv_sub hl [2, 1, 0] rfl) hf
  have hl := lv_entry ([.ref (h 0)]) (n := 3) (Nat.le_of_ble_eq_true rfl)
  rw [lg_entry_eq]
  exact main s.heap [] _ hP hD hS hl
theorem hd_X1_mothCellBits : yX1_mothCellBits.cls = RX1 ∧ yX1_mothCellBits.cls ≠ "java/lang/invoke/MethodHandle" ∧ yX1_mothCellBits.cls ≠ "java/lang/invoke/VarHandle" ∧ (parseMethodDescriptor yX1_mothCellBits.desc).map (fun d => d.parameters.length) = some 0 := by decide +kernel
set_option maxHeartbeats 4000000 in
set_option maxRecDepth 100000 in
theorem c_X1_mothCellBits (l : Launch) (D : va_G) (cyI cyJ cyZ cyO : ClassId) (h : Nat → Nat) (sz : Nat) (lands : Nat → Int32) (camphors : Nat → Int32) (there : Nat → Int32) (mothCells : Nat → Int32) (mothHeads : Nat → Int32) (threads : Nat → Int32) (sightNights : Nat → Int32) (sightCells : Nat → Int32) (sights : Int32) (night : Int32) (eaten : Int32) (nf : Nat) (q : Int32) (hf : g_X1_mothCellBits nf there mothCells = some q) : Met l yX1_mothCellBits (Cond.code yX1_mothCellBits cX1_mothCellBits 3 (some .int) :: tbG) ({ frames := 0, cells := 0, slots := 0, locals := 0 } : Room) (va_Pc [.ref (h 0)] (pcB D (ty4 cyI cyJ cyZ cyO) sz (wX1 cyI cyJ cyZ cyO h lands camphors there mothCells mothHeads threads sightNights sightCells sights night eaten))) (qI D (wX1 cyI cyJ cyZ cyO h lands camphors there mothCells mothHeads threads sightNights sightCells sights night eaten) q (va_A (wX1 cyI cyJ cyZ cyO h lands camphors there mothCells mothHeads threads sightNights sightCells sights night eaten) sz)) 0 0 (va_A (wX1 cyI cyJ cyZ cyO h lands camphors there mothCells mothHeads threads sightNights sightCells sights night eaten) sz) := by
  refine Met.ofW (cc := cX1_mothCellBits) (maxL := 3) (ret := (some .int)) (by decide) rfl ?_
  intro p e s m args below meth c s₁ B hml hv
  obtain ⟨rfl, hsz, hP, hK, hD0, hN⟩ := hv
  have hx := B.exec
  have hb := B.bytes
  have hr := B.returns
  have hT : ∀ w ∈ tbG, w.before ([.ref (h 0)] : List Value).toArray s = true := fun w h => atoms_spec (ws := (Cond.code yX1_mothCellBits cX1_mothCellBits 3 (some .int) :: tbG)) B.pre w (List.mem_cons_of_mem _ h)
  have hown : s.vm.findClass RX1 = some m.cls := findClass_of_methodNamed B.named
  have hlocks := B.notSynchronized
  subst hsz
  have hD := hD0.self (sz := s.heap.size)
  generalize hAe : va_A (wX1 cyI cyJ cyZ cyO h lands camphors there mothCells mothHeads threads sightNights sightCells sights night eaten) s.heap.size = A at hD ⊢
  have hA : ∀ q : Nat, s.heap.size ≤ q → A q := fun q h => by rw [← hAe]; exact Or.inr h
  have hS : va_S A s.heap s.heap [] := va_S.rf
  show W p l e ({ frames := 0, cells := 0, slots := 0, locals := 0 } : Room) s m ([.ref (h 0)] : List Value).toArray below meth c s.heap [] 0 0 (MQ below (qI D (wX1 cyI cyJ cyZ cyO h lands camphors there mothCells mothHeads threads sightNights sightCells sights night eaten) q A) ([.ref (h 0)] : List Value).toArray s 0 0 A) _
  have l4 : ∀ (n4 : Nat) (x1 : Int32) (x2 : Int32) (there : Nat → Int32) (mothCells : Nat → Int32) (H : Heap) (locs : List Loc) (ls : Array Slot), va_P D vwCl (wX1 cyI cyJ cyZ cyO h lands camphors there mothCells mothHeads threads sightNights sightCells sights night eaten) H → va_D A (wX1 cyI cyJ cyZ cyO h lands camphors there mothCells mothHeads threads sightNights sightCells sights night eaten) → va_S A s.heap H locs → lv_has ls 3 [(0, .ref (h 0)), (1, .int x1), (2, .int x2)] → g_X1_mothCellBits_l4 nf n4 x1 x2 there mothCells = some q → W p l e ({ frames := 0, cells := 0, slots := 0, locals := 0 } : Room) s m ([.ref (h 0)] : List Value).toArray below meth c H locs 0 0 (MQ below (qI D (wX1 cyI cyJ cyZ cyO h lands camphors there mothCells mothHeads threads sightNights sightCells sights night eaten) q A) ([.ref (h 0)] : List Value).toArray s 0 0 A) (F0 m 4 ls []) := by
    intro n4
    induction n4 with
    | zero =>
      intro x1 x2 there mothCells H locs ls hP hD hS hl hf
      rw [g_X1_mothCellBits_l4] at hf
      cases hf
    | succ n4 ih4 =>
      have b31 : ∀ (x2 : Int32) (s0 : Int32) (s1 : Int32) (there : Nat → Int32) (mothCells : Nat → Int32) (H : Heap) (locs : List Loc) (ls : Array Slot), va_P D vwCl (wX1 cyI cyJ cyZ cyO h lands camphors there mothCells mothHeads threads sightNights sightCells sights night eaten) H → va_D A (wX1 cyI cyJ cyZ cyO h lands camphors there mothCells mothHeads threads sightNights sightCells sights night eaten) → va_S A s.heap H locs → lv_has ls 3 [(0, .ref (h 0)), (2, .int x2)] → g_X1_mothCellBits_b31 nf (g_X1_mothCellBits_l4 nf n4) x2 s0 s1 there mothCells = some q → W p l e ({ frames := 0, cells := 0, slots := 0, locals := 0 } : Room) s m ([.ref (h 0)] : List Value).toArray below meth c H locs 0 0 (MQ below (qI D (wX1 cyI cyJ cyZ cyO h lands camphors there mothCells mothHeads threads sightNights sightCells sights night eaten) q A) ([.ref (h 0)] : List Value).toArray s 0 0 A) (F0 m 31 ls [.int s1, .int s0]) := by
        intro x2 s0 s1 there mothCells H locs ls hP hD hS hl hf
        unfold g_X1_mothCellBits_b31 at hf
        refine lv_ior hx hb dX1_mothCellBits_31 ?_
        refine lv_istore_n (lv' := [(1, .int (s0 ||| s1)), (0, .ref (h 0)), (2, .int x2)]) hx hb dX1_mothCellBits_32 rfl hl (by decide) rfl (fun ls hl => ?_)
        refine lv_iinc (v := (x2 + 1)) (lv' := [(2, .int (x2 + 1)), (1, .int (s0 ||| s1)), (0, .ref (h 0))]) hx hb dX1_mothCellBits_33 hl (k := 2) rfl rfl (by decide) rfl (fun ls hl => ?_)
        refine lv_goto (tgt := 4) hx hb dX1_mothCellBits_36 (by decide) ?_
        exact ih4 (s0 ||| s1) (x2 + 1) there mothCells H locs ls hP hD hS (lv_sub hl [2, 1, 0] rfl) hf
      intro x1 x2 there mothCells H locs ls hP hD hS hl hf
      rw [g_X1_mothCellBits_l4] at hf
      refine lv_iload_n hx hb dX1_mothCellBits_4 rfl (lv_at hl 2 rfl) ?_
      refine lv_iconst (v := 4) hx hb dX1_mothCellBits_5 (by decide) ?_
      refine lv_icmp_ge (tgt := 39) hx hb dX1_mothCellBits_6 (by decide) (fun cc => ?_) (fun cc => ?_)
      · replace hf := if_t cc hf
        refine lv_iload_n hx hb dX1_mothCellBits_39 rfl (lv_at hl 1 rfl) ?_
        cases Option.some.inj hf
        exact W.iret hx hb hr (fun t ht hW => ⟨⟨_, (), rfl, rfl, by show va_P D vwCl _ t.heap; rw [ht]; exact hP⟩, hS.F ht⟩) hS.2.2 dX1_mothCellBits_40
      · replace hf := if_f cc hf
        refine lv_iload_n hx hb dX1_mothCellBits_9 rfl (lv_at hl 1 rfl) ?_
        refine lv_aload_n hx hb dX1_mothCellBits_10 rfl (lv_at hl 0 rfl) ?_
        refine va_get (ci := 1) (v := .ref (h 3)) (C := RX1) (T := TX1) (N := 11) hx hb hT hin_X1 hown hK hP 0 rfl rfl 2 (by decide) (hT _ wf_X1_18) (fun _ h9 => h9) rfl dX1_mothCellBits_11 ?_
        refine lv_iload_n hx hb dX1_mothCellBits_14 rfl (lv_at hl 2 rfl) ?_
        obtain ⟨hi, hf⟩ := ck_some hf
        refine va_zald hx hb hK hP 3 2 rfl rfl hi dX1_mothCellBits_15 ?_
        refine lv_if_eq (tgt := 30) hx hb dX1_mothCellBits_16 (by decide) (fun cc => ?_) (fun cc => ?_)
        · replace hf := if_t cc hf
          refine lv_iconst (v := 0) hx hb dX1_mothCellBits_30 (by decide) ?_
          exact b31 x2 x1 0 there mothCells H locs ls hP hD hS (lv_sub hl [0, 2] rfl) hf
        · replace hf := if_f cc hf
          refine lv_iconst (v := 1) hx hb dX1_mothCellBits_19 (by decide) ?_
          refine lv_aload_n hx hb dX1_mothCellBits_20 rfl (lv_at hl 0 rfl) ?_
          refine va_get (ci := 1) (v := .ref (h 4)) (C := RX1) (T := TX1) (N := 11) hx hb hT hin_X1 hown hK hP 0 rfl rfl 3 (by decide) (hT _ wf_X1_22) (fun _ h9 => h9) rfl dX1_mothCellBits_21 ?_
          refine lv_iload_n hx hb dX1_mothCellBits_24 rfl (lv_at hl 2 rfl) ?_
          obtain ⟨hi, hf⟩ := ck_some hf
          refine va_iald hx hb hK hP 4 0 rfl rfl hi dX1_mothCellBits_25 ?_
          refine lv_ishl hx hb dX1_mothCellBits_26 ?_
          refine lv_goto (tgt := 31) hx hb dX1_mothCellBits_27 (by decide) ?_
          exact b31 x2 x1 ((1 : Int32) <<< ((mothCells x2.toNatClampNeg) &&& 31)) there mothCells H locs ls hP hD hS (lv_sub hl [0, 2] rfl) hf
  have main : ∀ (H : Heap) (locs : List Loc) (ls : Array Slot), va_P D vwCl (wX1 cyI cyJ cyZ cyO h lands camphors there mothCells mothHeads threads sightNights sightCells sights night eaten) H → va_D A (wX1 cyI cyJ cyZ cyO h lands camphors there mothCells mothHeads threads sightNights sightCells sights night eaten) → va_S A s.heap H locs → lv_has ls 3 [(0, .ref (h 0))] → W p l e ({ frames := 0, cells := 0, slots := 0, locals := 0 } : Room) s m ([.ref (h 0)] : List Value).toArray below meth c H locs 0 0 (MQ below (qI D (wX1 cyI cyJ cyZ cyO h lands camphors there mothCells mothHeads threads sightNights sightCells sights night eaten) q A) ([.ref (h 0)] : List Value).toArray s 0 0 A) (F0 m 0 ls []) := by
    intro H locs ls hP hD hS hl
    unfold g_X1_mothCellBits at hf
    refine lv_iconst (v := 0) hx hb dX1_mothCellBits_0 (by decide) ?_
    refine lv_istore_n (lv' := [(1, .int 0), (0, .ref (h 0))]) hx hb dX1_mothCellBits_1 rfl hl (by decide) rfl (fun ls hl => ?_)
    refine lv_iconst (v := 0) hx hb dX1_mothCellBits_2 (by decide) ?_
    refine lv_istore_n (lv' := [(2, .int 0), (1, .int 0), (0, .ref (h 0))]) hx hb dX1_mothCellBits_3 rfl hl (by decide) rfl (fun ls hl => ?_)
    exact l4 nf 0 0 there mothCells H locs ls hP hD hS (lv_sub hl [2, 1, 0] rfl) hf
  have hl := lv_entry ([.ref (h 0)]) (n := 3) (Nat.le_of_ble_eq_true rfl)
  rw [lg_entry_eq]
  exact main s.heap [] _ hP hD hS hl
theorem hd_X1_bitsOf : yX1_bitsOf.cls = RX1 ∧ yX1_bitsOf.cls ≠ "java/lang/invoke/MethodHandle" ∧ yX1_bitsOf.cls ≠ "java/lang/invoke/VarHandle" ∧ (parseMethodDescriptor yX1_bitsOf.desc).map (fun d => d.parameters.length) = some 1 := by decide +kernel
set_option maxHeartbeats 4000000 in
set_option maxRecDepth 100000 in
theorem c_X1_bitsOf (l : Launch) (D : va_G) (cyI cyJ cyZ cyO : ClassId) (h : Nat → Nat) (sz : Nat) (lands : Nat → Int32) (camphors : Nat → Int32) (there : Nat → Int32) (mothCells : Nat → Int32) (mothHeads : Nat → Int32) (threads : Nat → Int32) (sightNights : Nat → Int32) (sightCells : Nat → Int32) (sights : Int32) (night : Int32) (eaten : Int32) (p1 : Int32) (nf : Nat) (q : Int32) (hf : g_X1_bitsOf nf p1 lands = some q) : Met l yX1_bitsOf (Cond.code yX1_bitsOf cX1_bitsOf 4 (some .int) :: tbG) ({ frames := 0, cells := 0, slots := 0, locals := 0 } : Room) (va_Pc [.ref (h 0), .int p1] (pcB D (ty4 cyI cyJ cyZ cyO) sz (wX1 cyI cyJ cyZ cyO h lands camphors there mothCells mothHeads threads sightNights sightCells sights night eaten))) (qI D (wX1 cyI cyJ cyZ cyO h lands camphors there mothCells mothHeads threads sightNights sightCells sights night eaten) q (va_A (wX1 cyI cyJ cyZ cyO h lands camphors there mothCells mothHeads threads sightNights sightCells sights night eaten) sz)) 0 0 (va_A (wX1 cyI cyJ cyZ cyO h lands camphors there mothCells mothHeads threads sightNights sightCells sights night eaten) sz) := by
  refine Met.ofW (cc := cX1_bitsOf) (maxL := 4) (ret := (some .int)) (by decide) rfl ?_
  intro p e s m args below meth c s₁ B hml hv
  obtain ⟨rfl, hsz, hP, hK, hD0, hN⟩ := hv
  have hx := B.exec
  have hb := B.bytes
  have hr := B.returns
  have hT : ∀ w ∈ tbG, w.before ([.ref (h 0), .int p1] : List Value).toArray s = true := fun w h => atoms_spec (ws := (Cond.code yX1_bitsOf cX1_bitsOf 4 (some .int) :: tbG)) B.pre w (List.mem_cons_of_mem _ h)
  have hown : s.vm.findClass RX1 = some m.cls := findClass_of_methodNamed B.named
  have hlocks := B.notSynchronized
  subst hsz
  have hD := hD0.self (sz := s.heap.size)
  generalize hAe : va_A (wX1 cyI cyJ cyZ cyO h lands camphors there mothCells mothHeads threads sightNights sightCells sights night eaten) s.heap.size = A at hD ⊢
  have hA : ∀ q : Nat, s.heap.size ≤ q → A q := fun q h => by rw [← hAe]; exact Or.inr h
  have hS : va_S A s.heap s.heap [] := va_S.rf
  show W p l e ({ frames := 0, cells := 0, slots := 0, locals := 0 } : Room) s m ([.ref (h 0), .int p1] : List Value).toArray below meth c s.heap [] 0 0 (MQ below (qI D (wX1 cyI cyJ cyZ cyO h lands camphors there mothCells mothHeads threads sightNights sightCells sights night eaten) q A) ([.ref (h 0), .int p1] : List Value).toArray s 0 0 A) _
  have l4 : ∀ (n4 : Nat) (x1 : Int32) (x2 : Int32) (x3 : Int32) (lands : Nat → Int32) (H : Heap) (locs : List Loc) (ls : Array Slot), va_P D vwCl (wX1 cyI cyJ cyZ cyO h lands camphors there mothCells mothHeads threads sightNights sightCells sights night eaten) H → va_D A (wX1 cyI cyJ cyZ cyO h lands camphors there mothCells mothHeads threads sightNights sightCells sights night eaten) → va_S A s.heap H locs → lv_has ls 4 [(0, .ref (h 0)), (1, .int x1), (2, .int x2), (3, .int x3)] → g_X1_bitsOf_l4 nf n4 x1 x2 x3 lands = some q → W p l e ({ frames := 0, cells := 0, slots := 0, locals := 0 } : Room) s m ([.ref (h 0), .int p1] : List Value).toArray below meth c H locs 0 0 (MQ below (qI D (wX1 cyI cyJ cyZ cyO h lands camphors there mothCells mothHeads threads sightNights sightCells sights night eaten) q A) ([.ref (h 0), .int p1] : List Value).toArray s 0 0 A) (F0 m 4 ls []) := by
    intro n4
    induction n4 with
    | zero =>
      intro x1 x2 x3 lands H locs ls hP hD hS hl hf
      rw [g_X1_bitsOf_l4] at hf
      cases hf
    | succ n4 ih4 =>
      have b28 : ∀ (x1 : Int32) (x3 : Int32) (s0 : Int32) (s1 : Int32) (lands : Nat → Int32) (H : Heap) (locs : List Loc) (ls : Array Slot), va_P D vwCl (wX1 cyI cyJ cyZ cyO h lands camphors there mothCells mothHeads threads sightNights sightCells sights night eaten) H → va_D A (wX1 cyI cyJ cyZ cyO h lands camphors there mothCells mothHeads threads sightNights sightCells sights night eaten) → va_S A s.heap H locs → lv_has ls 4 [(0, .ref (h 0)), (1, .int x1), (3, .int x3)] → g_X1_bitsOf_b28 nf (g_X1_bitsOf_l4 nf n4) x1 x3 s0 s1 lands = some q → W p l e ({ frames := 0, cells := 0, slots := 0, locals := 0 } : Room) s m ([.ref (h 0), .int p1] : List Value).toArray below meth c H locs 0 0 (MQ below (qI D (wX1 cyI cyJ cyZ cyO h lands camphors there mothCells mothHeads threads sightNights sightCells sights night eaten) q A) ([.ref (h 0), .int p1] : List Value).toArray s 0 0 A) (F0 m 28 ls [.int s1, .int s0]) := by
        intro x1 x3 s0 s1 lands H locs ls hP hD hS hl hf
        unfold g_X1_bitsOf_b28 at hf
        refine lv_ior hx hb dX1_bitsOf_28 ?_
        refine lv_istore_n (lv' := [(2, .int (s0 ||| s1)), (0, .ref (h 0)), (1, .int x1), (3, .int x3)]) hx hb dX1_bitsOf_29 rfl hl (by decide) rfl (fun ls hl => ?_)
        refine lv_iinc (v := (x3 + 1)) (lv' := [(3, .int (x3 + 1)), (2, .int (s0 ||| s1)), (0, .ref (h 0)), (1, .int x1)]) hx hb dX1_bitsOf_30 hl (k := 3) rfl rfl (by decide) rfl (fun ls hl => ?_)
        refine lv_goto (tgt := 4) hx hb dX1_bitsOf_33 (by decide) ?_
        exact ih4 x1 (s0 ||| s1) (x3 + 1) lands H locs ls hP hD hS (lv_sub hl [2, 3, 1, 0] rfl) hf
      intro x1 x2 x3 lands H locs ls hP hD hS hl hf
      rw [g_X1_bitsOf_l4] at hf
      refine lv_iload_n hx hb dX1_bitsOf_4 rfl (lv_at hl 3 rfl) ?_
      refine lv_bipush (v := 25) hx hb dX1_bitsOf_5 (by decide) ?_
      refine lv_icmp_ge (tgt := 36) hx hb dX1_bitsOf_7 (by decide) (fun cc => ?_) (fun cc => ?_)
      · replace hf := if_t cc hf
        refine lv_iload_n hx hb dX1_bitsOf_36 rfl (lv_at hl 2 rfl) ?_
        cases Option.some.inj hf
        exact W.iret hx hb hr (fun t ht hW => ⟨⟨_, (), rfl, rfl, by show va_P D vwCl _ t.heap; rw [ht]; exact hP⟩, hS.F ht⟩) hS.2.2 dX1_bitsOf_37
      · replace hf := if_f cc hf
        refine lv_iload_n hx hb dX1_bitsOf_10 rfl (lv_at hl 2 rfl) ?_
        refine lv_aload_n hx hb dX1_bitsOf_11 rfl (lv_at hl 0 rfl) ?_
        refine va_get (ci := 1) (v := .ref (h 1)) (C := RX1) (T := TX1) (N := 11) hx hb hT hin_X1 hown hK hP 0 rfl rfl 0 (by decide) (hT _ wf_X1_9) (fun _ h9 => h9) rfl dX1_bitsOf_12 ?_
        refine lv_iload_n hx hb dX1_bitsOf_15 rfl (lv_at hl 3 rfl) ?_
        obtain ⟨hi, hf⟩ := ck_some hf
        refine va_iald hx hb hK hP 1 0 rfl rfl hi dX1_bitsOf_16 ?_
        refine lv_iload_n hx hb dX1_bitsOf_17 rfl (lv_at hl 1 rfl) ?_
        refine lv_icmp_ne (tgt := 27) hx hb dX1_bitsOf_18 (by decide) (fun cc => ?_) (fun cc => ?_)
        · replace hf := if_f cc hf
          refine lv_iconst (v := 0) hx hb dX1_bitsOf_27 (by decide) ?_
          exact b28 x1 x3 x2 0 lands H locs ls hP hD hS (lv_sub hl [0, 1, 3] rfl) hf
        · replace hf := if_t cc hf
          refine lv_iconst (v := 1) hx hb dX1_bitsOf_21 (by decide) ?_
          refine lv_iload_n hx hb dX1_bitsOf_22 rfl (lv_at hl 3 rfl) ?_
          refine lv_ishl hx hb dX1_bitsOf_23 ?_
          refine lv_goto (tgt := 28) hx hb dX1_bitsOf_24 (by decide) ?_
          exact b28 x1 x3 x2 ((1 : Int32) <<< (x3 &&& 31)) lands H locs ls hP hD hS (lv_sub hl [0, 1, 3] rfl) hf
  have main : ∀ (H : Heap) (locs : List Loc) (ls : Array Slot), va_P D vwCl (wX1 cyI cyJ cyZ cyO h lands camphors there mothCells mothHeads threads sightNights sightCells sights night eaten) H → va_D A (wX1 cyI cyJ cyZ cyO h lands camphors there mothCells mothHeads threads sightNights sightCells sights night eaten) → va_S A s.heap H locs → lv_has ls 4 [(0, .ref (h 0)), (1, .int p1)] → W p l e ({ frames := 0, cells := 0, slots := 0, locals := 0 } : Room) s m ([.ref (h 0), .int p1] : List Value).toArray below meth c H locs 0 0 (MQ below (qI D (wX1 cyI cyJ cyZ cyO h lands camphors there mothCells mothHeads threads sightNights sightCells sights night eaten) q A) ([.ref (h 0), .int p1] : List Value).toArray s 0 0 A) (F0 m 0 ls []) := by
    intro H locs ls hP hD hS hl
    unfold g_X1_bitsOf at hf
    refine lv_iconst (v := 0) hx hb dX1_bitsOf_0 (by decide) ?_
    refine lv_istore_n (lv' := [(2, .int 0), (0, .ref (h 0)), (1, .int p1)]) hx hb dX1_bitsOf_1 rfl hl (by decide) rfl (fun ls hl => ?_)
    refine lv_iconst (v := 0) hx hb dX1_bitsOf_2 (by decide) ?_
    refine lv_istore_n (lv' := [(3, .int 0), (2, .int 0), (0, .ref (h 0)), (1, .int p1)]) hx hb dX1_bitsOf_3 rfl hl (by decide) rfl (fun ls hl => ?_)
    exact l4 nf p1 0 0 lands H locs ls hP hD hS (lv_sub hl [2, 3, 1, 0] rfl) hf
  have hl := lv_entry ([.ref (h 0), .int p1]) (n := 4) (Nat.le_of_ble_eq_true rfl)
  rw [lg_entry_eq]
  exact main s.heap [] _ hP hD hS hl
theorem hd_J6_bitCount_0f7a4 : yJ6_bitCount_0f7a4.cls ≠ "java/lang/invoke/MethodHandle" ∧ yJ6_bitCount_0f7a4.cls ≠ "java/lang/invoke/VarHandle" ∧ (parseMethodDescriptor yJ6_bitCount_0f7a4.desc).map (fun d => d.parameters.length) = some 1 := by decide +kernel
set_option maxHeartbeats 4000000 in
set_option maxRecDepth 100000 in
theorem c_J6_bitCount_0f7a4 (l : Launch) (D : va_G) (cyI cyJ cyZ cyO : ClassId) (sz : Nat) (p0 : Int32) (nf : Nat) (q : Int32) (hf : g_J6_bitCount_0f7a4 nf p0 = some q) : Met l yJ6_bitCount_0f7a4 (Cond.code yJ6_bitCount_0f7a4 cJ6_bitCount_0f7a4 1 (some .int) :: tbG) ({ frames := 0, cells := 0, slots := 0, locals := 0 } : Room) (va_Pc [.int p0] (pcB D (ty4 cyI cyJ cyZ cyO) sz (([] : va_W)))) (qI D (([] : va_W)) q (va_A (([] : va_W)) sz)) 0 0 (va_A (([] : va_W)) sz) := by
  refine Met.ofW (cc := cJ6_bitCount_0f7a4) (maxL := 1) (ret := (some .int)) (by decide) rfl ?_
  intro p e s m args below meth c s₁ B hml hv
  obtain ⟨rfl, hsz, hP, hK, hD0, hN⟩ := hv
  have hx := B.exec
  have hb := B.bytes
  have hr := B.returns
  have hT : ∀ w ∈ tbG, w.before ([.int p0] : List Value).toArray s = true := fun w h => atoms_spec (ws := (Cond.code yJ6_bitCount_0f7a4 cJ6_bitCount_0f7a4 1 (some .int) :: tbG)) B.pre w (List.mem_cons_of_mem _ h)
  have hown : s.vm.findClass RJ6 = some m.cls := findClass_of_methodNamed B.named
  have hlocks := B.notSynchronized
  subst hsz
  have hD := hD0.self (sz := s.heap.size)
  generalize hAe : va_A (([] : va_W)) s.heap.size = A at hD ⊢
  have hA : ∀ q : Nat, s.heap.size ≤ q → A q := fun q h => by rw [← hAe]; exact Or.inr h
  have hS : va_S A s.heap s.heap [] := va_S.rf
  show W p l e ({ frames := 0, cells := 0, slots := 0, locals := 0 } : Room) s m ([.int p0] : List Value).toArray below meth c s.heap [] 0 0 (MQ below (qI D (([] : va_W)) q A) ([.int p0] : List Value).toArray s 0 0 A) _
  have main : ∀ (H : Heap) (locs : List Loc) (ls : Array Slot), va_P D vwCl (([] : va_W)) H → va_D A (([] : va_W)) → va_S A s.heap H locs → lv_has ls 1 [(0, .int p0)] → W p l e ({ frames := 0, cells := 0, slots := 0, locals := 0 } : Room) s m ([.int p0] : List Value).toArray below meth c H locs 0 0 (MQ below (qI D (([] : va_W)) q A) ([.int p0] : List Value).toArray s 0 0 A) (F0 m 0 ls []) := by
    intro H locs ls hP hD hS hl
    unfold g_J6_bitCount_0f7a4 at hf
    refine lv_iload_n hx hb dJ6_bitCount_0f7a4_0 rfl (lv_at hl 0 rfl) ?_
    refine lv_iload_n hx hb dJ6_bitCount_0f7a4_1 rfl (lv_at hl 0 rfl) ?_
    refine lv_iconst (v := 1) hx hb dJ6_bitCount_0f7a4_2 (by decide) ?_
    refine lv_iushr hx hb dJ6_bitCount_0f7a4_3 rfl ?_
    refine lv_ldcw (v := 1431655765) hx hb hown (hT _ wk_J6_265) dJ6_bitCount_0f7a4_4 ?_
    refine lv_iand hx hb dJ6_bitCount_0f7a4_7 ?_
    refine lv_isub hx hb dJ6_bitCount_0f7a4_8 ?_
    refine lv_istore_n (lv' := [(0, .int (p0 - ((p0.toUInt32 >>> ((1 : Int32).toUInt32 &&& Int32.toUInt32 31)).toInt32 &&& (1431655765 : Int32))))]) hx hb dJ6_bitCount_0f7a4_9 rfl hl (by decide) rfl (fun ls hl => ?_)
    refine lv_iload_n hx hb dJ6_bitCount_0f7a4_10 rfl (lv_at hl 0 rfl) ?_
    refine lv_ldcw (v := 858993459) hx hb hown (hT _ wk_J6_266) dJ6_bitCount_0f7a4_11 ?_
    refine lv_iand hx hb dJ6_bitCount_0f7a4_14 ?_
    refine lv_iload_n hx hb dJ6_bitCount_0f7a4_15 rfl (lv_at hl 0 rfl) ?_
    refine lv_iconst (v := 2) hx hb dJ6_bitCount_0f7a4_16 (by decide) ?_
    refine lv_iushr hx hb dJ6_bitCount_0f7a4_17 rfl ?_
    refine lv_ldcw (v := 858993459) hx hb hown (hT _ wk_J6_266) dJ6_bitCount_0f7a4_18 ?_
    refine lv_iand hx hb dJ6_bitCount_0f7a4_21 ?_
    refine lv_iadd hx hb dJ6_bitCount_0f7a4_22 ?_
    refine lv_istore_n (lv' := [(0, .int (((p0 - ((p0.toUInt32 >>> ((1 : Int32).toUInt32 &&& Int32.toUInt32 31)).toInt32 &&& (1431655765 : Int32))) &&& (858993459 : Int32)) + (((p0 - ((p0.toUInt32 >>> ((1 : Int32).toUInt32 &&& Int32.toUInt32 31)).toInt32 &&& (1431655765 : Int32))).toUInt32 >>> ((2 : Int32).toUInt32 &&& Int32.toUInt32 31)).toInt32 &&& (858993459 : Int32))))]) hx hb dJ6_bitCount_0f7a4_23 rfl hl (by decide) rfl (fun ls hl => ?_)
    refine lv_iload_n hx hb dJ6_bitCount_0f7a4_24 rfl (lv_at hl 0 rfl) ?_
    refine lv_iload_n hx hb dJ6_bitCount_0f7a4_25 rfl (lv_at hl 0 rfl) ?_
    refine lv_iconst (v := 4) hx hb dJ6_bitCount_0f7a4_26 (by decide) ?_
    refine lv_iushr hx hb dJ6_bitCount_0f7a4_27 rfl ?_
    refine lv_iadd hx hb dJ6_bitCount_0f7a4_28 ?_
    refine lv_ldcw (v := 252645135) hx hb hown (hT _ wk_J6_267) dJ6_bitCount_0f7a4_29 ?_
    refine lv_iand hx hb dJ6_bitCount_0f7a4_32 ?_
    refine lv_istore_n (lv' := [(0, .int (((((p0 - ((p0.toUInt32 >>> ((1 : Int32).toUInt32 &&& Int32.toUInt32 31)).toInt32 &&& (1431655765 : Int32))) &&& (858993459 : Int32)) + (((p0 - ((p0.toUInt32 >>> ((1 : Int32).toUInt32 &&& Int32.toUInt32 31)).toInt32 &&& (1431655765 : Int32))).toUInt32 >>> ((2 : Int32).toUInt32 &&& Int32.toUInt32 31)).toInt32 &&& (858993459 : Int32))) + ((((p0 - ((p0.toUInt32 >>> ((1 : Int32).toUInt32 &&& Int32.toUInt32 31)).toInt32 &&& (1431655765 : Int32))) &&& (858993459 : Int32)) + (((p0 - ((p0.toUInt32 >>> ((1 : Int32).toUInt32 &&& Int32.toUInt32 31)).toInt32 &&& (1431655765 : Int32))).toUInt32 >>> ((2 : Int32).toUInt32 &&& Int32.toUInt32 31)).toInt32 &&& (858993459 : Int32))).toUInt32 >>> ((4 : Int32).toUInt32 &&& Int32.toUInt32 31)).toInt32) &&& (252645135 : Int32)))]) hx hb dJ6_bitCount_0f7a4_33 rfl hl (by decide) rfl (fun ls hl => ?_)
    refine lv_iload_n hx hb dJ6_bitCount_0f7a4_34 rfl (lv_at hl 0 rfl) ?_
    refine lv_iload_n hx hb dJ6_bitCount_0f7a4_35 rfl (lv_at hl 0 rfl) ?_
    refine lv_bipush (v := 8) hx hb dJ6_bitCount_0f7a4_36 (by decide) ?_
    refine lv_iushr hx hb dJ6_bitCount_0f7a4_38 rfl ?_
    refine lv_iadd hx hb dJ6_bitCount_0f7a4_39 ?_
    refine lv_istore_n (lv' := [(0, .int ((((((p0 - ((p0.toUInt32 >>> ((1 : Int32).toUInt32 &&& Int32.toUInt32 31)).toInt32 &&& (1431655765 : Int32))) &&& (858993459 : Int32)) + (((p0 - ((p0.toUInt32 >>> ((1 : Int32).toUInt32 &&& Int32.toUInt32 31)).toInt32 &&& (1431655765 : Int32))).toUInt32 >>> ((2 : Int32).toUInt32 &&& Int32.toUInt32 31)).toInt32 &&& (858993459 : Int32))) + ((((p0 - ((p0.toUInt32 >>> ((1 : Int32).toUInt32 &&& Int32.toUInt32 31)).toInt32 &&& (1431655765 : Int32))) &&& (858993459 : Int32)) + (((p0 - ((p0.toUInt32 >>> ((1 : Int32).toUInt32 &&& Int32.toUInt32 31)).toInt32 &&& (1431655765 : Int32))).toUInt32 >>> ((2 : Int32).toUInt32 &&& Int32.toUInt32 31)).toInt32 &&& (858993459 : Int32))).toUInt32 >>> ((4 : Int32).toUInt32 &&& Int32.toUInt32 31)).toInt32) &&& (252645135 : Int32)) + ((((((p0 - ((p0.toUInt32 >>> ((1 : Int32).toUInt32 &&& Int32.toUInt32 31)).toInt32 &&& (1431655765 : Int32))) &&& (858993459 : Int32)) + (((p0 - ((p0.toUInt32 >>> ((1 : Int32).toUInt32 &&& Int32.toUInt32 31)).toInt32 &&& (1431655765 : Int32))).toUInt32 >>> ((2 : Int32).toUInt32 &&& Int32.toUInt32 31)).toInt32 &&& (858993459 : Int32))) + ((((p0 - ((p0.toUInt32 >>> ((1 : Int32).toUInt32 &&& Int32.toUInt32 31)).toInt32 &&& (1431655765 : Int32))) &&& (858993459 : Int32)) + (((p0 - ((p0.toUInt32 >>> ((1 : Int32).toUInt32 &&& Int32.toUInt32 31)).toInt32 &&& (1431655765 : Int32))).toUInt32 >>> ((2 : Int32).toUInt32 &&& Int32.toUInt32 31)).toInt32 &&& (858993459 : Int32))).toUInt32 >>> ((4 : Int32).toUInt32 &&& Int32.toUInt32 31)).toInt32) &&& (252645135 : Int32)).toUInt32 >>> ((8 : Int32).toUInt32 &&& Int32.toUInt32 31)).toInt32))]) hx hb dJ6_bitCount_0f7a4_40 rfl hl (by decide) rfl (fun ls hl => ?_)
    refine lv_iload_n hx hb dJ6_bitCount_0f7a4_41 rfl (lv_at hl 0 rfl) ?_
    refine lv_iload_n hx hb dJ6_bitCount_0f7a4_42 rfl (lv_at hl 0 rfl) ?_
    refine lv_bipush (v := 16) hx hb dJ6_bitCount_0f7a4_43 (by decide) ?_
    refine lv_iushr hx hb dJ6_bitCount_0f7a4_45 rfl ?_
    refine lv_iadd hx hb dJ6_bitCount_0f7a4_46 ?_
    refine lv_istore_n (lv' := [(0, .int (((((((p0 - ((p0.toUInt32 >>> ((1 : Int32).toUInt32 &&& Int32.toUInt32 31)).toInt32 &&& (1431655765 : Int32))) &&& (858993459 : Int32)) + (((p0 - ((p0.toUInt32 >>> ((1 : Int32).toUInt32 &&& Int32.toUInt32 31)).toInt32 &&& (1431655765 : Int32))).toUInt32 >>> ((2 : Int32).toUInt32 &&& Int32.toUInt32 31)).toInt32 &&& (858993459 : Int32))) + ((((p0 - ((p0.toUInt32 >>> ((1 : Int32).toUInt32 &&& Int32.toUInt32 31)).toInt32 &&& (1431655765 : Int32))) &&& (858993459 : Int32)) + (((p0 - ((p0.toUInt32 >>> ((1 : Int32).toUInt32 &&& Int32.toUInt32 31)).toInt32 &&& (1431655765 : Int32))).toUInt32 >>> ((2 : Int32).toUInt32 &&& Int32.toUInt32 31)).toInt32 &&& (858993459 : Int32))).toUInt32 >>> ((4 : Int32).toUInt32 &&& Int32.toUInt32 31)).toInt32) &&& (252645135 : Int32)) + ((((((p0 - ((p0.toUInt32 >>> ((1 : Int32).toUInt32 &&& Int32.toUInt32 31)).toInt32 &&& (1431655765 : Int32))) &&& (858993459 : Int32)) + (((p0 - ((p0.toUInt32 >>> ((1 : Int32).toUInt32 &&& Int32.toUInt32 31)).toInt32 &&& (1431655765 : Int32))).toUInt32 >>> ((2 : Int32).toUInt32 &&& Int32.toUInt32 31)).toInt32 &&& (858993459 : Int32))) + ((((p0 - ((p0.toUInt32 >>> ((1 : Int32).toUInt32 &&& Int32.toUInt32 31)).toInt32 &&& (1431655765 : Int32))) &&& (858993459 : Int32)) + (((p0 - ((p0.toUInt32 >>> ((1 : Int32).toUInt32 &&& Int32.toUInt32 31)).toInt32 &&& (1431655765 : Int32))).toUInt32 >>> ((2 : Int32).toUInt32 &&& Int32.toUInt32 31)).toInt32 &&& (858993459 : Int32))).toUInt32 >>> ((4 : Int32).toUInt32 &&& Int32.toUInt32 31)).toInt32) &&& (252645135 : Int32)).toUInt32 >>> ((8 : Int32).toUInt32 &&& Int32.toUInt32 31)).toInt32) + (((((((p0 - ((p0.toUInt32 >>> ((1 : Int32).toUInt32 &&& Int32.toUInt32 31)).toInt32 &&& (1431655765 : Int32))) &&& (858993459 : Int32)) + (((p0 - ((p0.toUInt32 >>> ((1 : Int32).toUInt32 &&& Int32.toUInt32 31)).toInt32 &&& (1431655765 : Int32))).toUInt32 >>> ((2 : Int32).toUInt32 &&& Int32.toUInt32 31)).toInt32 &&& (858993459 : Int32))) + ((((p0 - ((p0.toUInt32 >>> ((1 : Int32).toUInt32 &&& Int32.toUInt32 31)).toInt32 &&& (1431655765 : Int32))) &&& (858993459 : Int32)) + (((p0 - ((p0.toUInt32 >>> ((1 : Int32).toUInt32 &&& Int32.toUInt32 31)).toInt32 &&& (1431655765 : Int32))).toUInt32 >>> ((2 : Int32).toUInt32 &&& Int32.toUInt32 31)).toInt32 &&& (858993459 : Int32))).toUInt32 >>> ((4 : Int32).toUInt32 &&& Int32.toUInt32 31)).toInt32) &&& (252645135 : Int32)) + ((((((p0 - ((p0.toUInt32 >>> ((1 : Int32).toUInt32 &&& Int32.toUInt32 31)).toInt32 &&& (1431655765 : Int32))) &&& (858993459 : Int32)) + (((p0 - ((p0.toUInt32 >>> ((1 : Int32).toUInt32 &&& Int32.toUInt32 31)).toInt32 &&& (1431655765 : Int32))).toUInt32 >>> ((2 : Int32).toUInt32 &&& Int32.toUInt32 31)).toInt32 &&& (858993459 : Int32))) + ((((p0 - ((p0.toUInt32 >>> ((1 : Int32).toUInt32 &&& Int32.toUInt32 31)).toInt32 &&& (1431655765 : Int32))) &&& (858993459 : Int32)) + (((p0 - ((p0.toUInt32 >>> ((1 : Int32).toUInt32 &&& Int32.toUInt32 31)).toInt32 &&& (1431655765 : Int32))).toUInt32 >>> ((2 : Int32).toUInt32 &&& Int32.toUInt32 31)).toInt32 &&& (858993459 : Int32))).toUInt32 >>> ((4 : Int32).toUInt32 &&& Int32.toUInt32 31)).toInt32) &&& (252645135 : Int32)).toUInt32 >>> ((8 : Int32).toUInt32 &&& Int32.toUInt32 31)).toInt32).toUInt32 >>> ((16 : Int32).toUInt32 &&& Int32.toUInt32 31)).toInt32))]) hx hb dJ6_bitCount_0f7a4_47 rfl hl (by decide) rfl (fun ls hl => ?_)
    refine lv_iload_n hx hb dJ6_bitCount_0f7a4_48 rfl (lv_at hl 0 rfl) ?_
    refine lv_bipush (v := 63) hx hb dJ6_bitCount_0f7a4_49 (by decide) ?_
    refine lv_iand hx hb dJ6_bitCount_0f7a4_51 ?_
    cases Option.some.inj hf
    exact W.iret hx hb hr (fun t ht hW => ⟨⟨_, (), rfl, rfl, by show va_P D vwCl _ t.heap; rw [ht]; exact hP⟩, hS.F ht⟩) hS.2.2 dJ6_bitCount_0f7a4_52
  have hl := lv_entry ([.int p0]) (n := 1) (Nat.le_of_ble_eq_true rfl)
  rw [lg_entry_eq]
  exact main s.heap [] _ hP hD hS hl
theorem hd_X1_countOf : yX1_countOf.cls = RX1 ∧ yX1_countOf.cls ≠ "java/lang/invoke/MethodHandle" ∧ yX1_countOf.cls ≠ "java/lang/invoke/VarHandle" ∧ (parseMethodDescriptor yX1_countOf.desc).map (fun d => d.parameters.length) = some 1 := by decide +kernel
set_option maxHeartbeats 4000000 in
set_option maxRecDepth 100000 in
theorem c_X1_countOf (l : Launch) (D : va_G) (cyI cyJ cyZ cyO : ClassId) (h : Nat → Nat) (sz : Nat) (lands : Nat → Int32) (camphors : Nat → Int32) (there : Nat → Int32) (mothCells : Nat → Int32) (mothHeads : Nat → Int32) (threads : Nat → Int32) (sightNights : Nat → Int32) (sightCells : Nat → Int32) (sights : Int32) (night : Int32) (eaten : Int32) (p1 : Int32) (nf : Nat) (q : Int32) (hf : g_X1_countOf nf p1 lands = some q) : Met l yX1_countOf (Cond.code yX1_countOf cX1_countOf 2 (some .int) :: tbG) ({ frames := 1, cells := 0, slots := 0, locals := 23 } : Room) (va_Pc [.ref (h 0), .int p1] (pcB D (ty4 cyI cyJ cyZ cyO) sz (wX1 cyI cyJ cyZ cyO h lands camphors there mothCells mothHeads threads sightNights sightCells sights night eaten))) (qI D (wX1 cyI cyJ cyZ cyO h lands camphors there mothCells mothHeads threads sightNights sightCells sights night eaten) q (va_A (wX1 cyI cyJ cyZ cyO h lands camphors there mothCells mothHeads threads sightNights sightCells sights night eaten) sz)) 0 0 (va_A (wX1 cyI cyJ cyZ cyO h lands camphors there mothCells mothHeads threads sightNights sightCells sights night eaten) sz) := by
  refine Met.ofW (cc := cX1_countOf) (maxL := 2) (ret := (some .int)) (by decide) rfl ?_
  intro p e s m args below meth c s₁ B hml hv
  obtain ⟨rfl, hsz, hP, hK, hD0, hN⟩ := hv
  have hx := B.exec
  have hb := B.bytes
  have hr := B.returns
  have hT : ∀ w ∈ tbG, w.before ([.ref (h 0), .int p1] : List Value).toArray s = true := fun w h => atoms_spec (ws := (Cond.code yX1_countOf cX1_countOf 2 (some .int) :: tbG)) B.pre w (List.mem_cons_of_mem _ h)
  have hown : s.vm.findClass RX1 = some m.cls := findClass_of_methodNamed B.named
  have hlocks := B.notSynchronized
  subst hsz
  have hD := hD0.self (sz := s.heap.size)
  generalize hAe : va_A (wX1 cyI cyJ cyZ cyO h lands camphors there mothCells mothHeads threads sightNights sightCells sights night eaten) s.heap.size = A at hD ⊢
  have hA : ∀ q : Nat, s.heap.size ≤ q → A q := fun q h => by rw [← hAe]; exact Or.inr h
  have hS : va_S A s.heap s.heap [] := va_S.rf
  show W p l e ({ frames := 1, cells := 0, slots := 0, locals := 23 } : Room) s m ([.ref (h 0), .int p1] : List Value).toArray below meth c s.heap [] 0 0 (MQ below (qI D (wX1 cyI cyJ cyZ cyO h lands camphors there mothCells mothHeads threads sightNights sightCells sights night eaten) q A) ([.ref (h 0), .int p1] : List Value).toArray s 0 0 A) _
  have main : ∀ (H : Heap) (locs : List Loc) (ls : Array Slot), va_P D vwCl (wX1 cyI cyJ cyZ cyO h lands camphors there mothCells mothHeads threads sightNights sightCells sights night eaten) H → va_D A (wX1 cyI cyJ cyZ cyO h lands camphors there mothCells mothHeads threads sightNights sightCells sights night eaten) → va_S A s.heap H locs → lv_has ls 2 [(0, .ref (h 0)), (1, .int p1)] → W p l e ({ frames := 1, cells := 0, slots := 0, locals := 23 } : Room) s m ([.ref (h 0), .int p1] : List Value).toArray below meth c H locs 0 0 (MQ below (qI D (wX1 cyI cyJ cyZ cyO h lands camphors there mothCells mothHeads threads sightNights sightCells sights night eaten) q A) ([.ref (h 0), .int p1] : List Value).toArray s 0 0 A) (F0 m 0 ls []) := by
    intro H locs ls hP hD hS hl
    unfold g_X1_countOf at hf
    refine lv_aload_n hx hb dX1_countOf_0 rfl (lv_at hl 0 rfl) ?_
    refine lv_iload_n hx hb dX1_countOf_1 rfl (lv_at hl 1 rfl) ?_
    obtain ⟨q1, hq1, hf⟩ := bd_some hf
    have hC : [0, 1, 2, 3, 4, 5, 6, 7, 8].map (fun i => (wX1 cyI cyJ cyZ cyO h lands camphors there mothCells mothHeads threads sightNights sightCells sights night eaten)[i]?) = (wX1 cyI cyJ cyZ cyO h lands camphors there mothCells mothHeads threads sightNights sightCells sights night eaten).map some := rfl
    refine cl_i (rn_V (As := [.int p1]) (rest := []) (C := RX1) hx hb hml hown hT hK hN hP hD [0, 1, 2, 3, 4, 5, 6, 7, 8] hC rfl (c_X1_bitsOf l D cyI cyJ cyZ cyO h H.size lands camphors there mothCells mothHeads threads sightNights sightCells sights night eaten p1 nf q1 hq1) wm_X1_47 wi_X1_bitsOf wl_X1_bitsOf wz_X1 wc_X1_bitsOf hd_X1_bitsOf ⟨rfl, rfl⟩ ⟨Nat.le_of_ble_eq_true rfl, Nat.le_of_ble_eq_true rfl⟩ (q0 := 0) (ci := 1) rfl rfl rfl rfl hl.1 rfl (Nat.le_of_ble_eq_true rfl) dX1_countOf_2 ⟨Nat.zero_le _, Nat.zero_le _⟩) hP hD hS hA [0, 1, 2, 3, 4, 5, 6, 7, 8] hC [(true, 0), (true, 1), (true, 2), (true, 3), (true, 4), (true, 5), (true, 6), (true, 7), (true, 8)] (ws' := wX1 cyI cyJ cyZ cyO h lands camphors there mothCells mothHeads threads sightNights sightCells sights night eaten) rfl rfl rfl (fun H locs hP hD hS => ?_)
    obtain ⟨q2, hq2, hf⟩ := bd_some hf
    have hC : ([] : List Nat).map (fun i => (wX1 cyI cyJ cyZ cyO h lands camphors there mothCells mothHeads threads sightNights sightCells sights night eaten)[i]?) = ([] : va_W).map some := rfl
    refine cl_i (rn_S (As := [.int q1]) (rest := []) hx hb hml hown hT hK hN hP hD [] hC rfl (c_J6_bitCount_0f7a4 l D cyI cyJ cyZ cyO H.size q1 nf q2 hq2) wm_X1_51 wt_J6_bitCount_0f7a4 wz_J6 wc_J6_bitCount_0f7a4 hd_J6_bitCount_0f7a4 ⟨rfl, rfl⟩ ⟨Nat.le_of_ble_eq_true rfl, Nat.le_of_ble_eq_true rfl⟩ rfl hl.1 rfl (Nat.le_of_ble_eq_true rfl) dX1_countOf_5 ⟨Nat.zero_le _, Nat.zero_le _⟩) hP hD hS hA [] hC [(false, 0), (false, 1), (false, 2), (false, 3), (false, 4), (false, 5), (false, 6), (false, 7), (false, 8)] (ws' := wX1 cyI cyJ cyZ cyO h lands camphors there mothCells mothHeads threads sightNights sightCells sights night eaten) rfl rfl rfl (fun H locs hP hD hS => ?_)
    cases Option.some.inj hf
    exact W.iret hx hb hr (fun t ht hW => ⟨⟨_, (), rfl, rfl, by show va_P D vwCl _ t.heap; rw [ht]; exact hP⟩, hS.F ht⟩) hS.2.2 dX1_countOf_8
  have hl := lv_entry ([.ref (h 0), .int p1]) (n := 2) (Nat.le_of_ble_eq_true rfl)
  rw [lg_entry_eq]
  exact main s.heap [] _ hP hD hS hl
theorem hd_X1_threadsInAll : yX1_threadsInAll.cls = RX1 ∧ yX1_threadsInAll.cls ≠ "java/lang/invoke/MethodHandle" ∧ yX1_threadsInAll.cls ≠ "java/lang/invoke/VarHandle" ∧ (parseMethodDescriptor yX1_threadsInAll.desc).map (fun d => d.parameters.length) = some 0 := by decide +kernel
set_option maxHeartbeats 4000000 in
set_option maxRecDepth 100000 in
theorem c_X1_threadsInAll (l : Launch) (D : va_G) (cyI cyJ cyZ cyO : ClassId) (h : Nat → Nat) (sz : Nat) (lands : Nat → Int32) (camphors : Nat → Int32) (there : Nat → Int32) (mothCells : Nat → Int32) (mothHeads : Nat → Int32) (threads : Nat → Int32) (sightNights : Nat → Int32) (sightCells : Nat → Int32) (sights : Int32) (night : Int32) (eaten : Int32) (nf : Nat) (q : Int32) (hf : g_X1_threadsInAll nf threads = some q) : Met l yX1_threadsInAll (Cond.code yX1_threadsInAll cX1_threadsInAll 1 (some .int) :: tbG) ({ frames := 0, cells := 0, slots := 0, locals := 0 } : Room) (va_Pc [.ref (h 0)] (pcB D (ty4 cyI cyJ cyZ cyO) sz (wX1 cyI cyJ cyZ cyO h lands camphors there mothCells mothHeads threads sightNights sightCells sights night eaten))) (qI D (wX1 cyI cyJ cyZ cyO h lands camphors there mothCells mothHeads threads sightNights sightCells sights night eaten) q (va_A (wX1 cyI cyJ cyZ cyO h lands camphors there mothCells mothHeads threads sightNights sightCells sights night eaten) sz)) 0 0 (va_A (wX1 cyI cyJ cyZ cyO h lands camphors there mothCells mothHeads threads sightNights sightCells sights night eaten) sz) := by
  refine Met.ofW (cc := cX1_threadsInAll) (maxL := 1) (ret := (some .int)) (by decide) rfl ?_
  intro p e s m args below meth c s₁ B hml hv
  obtain ⟨rfl, hsz, hP, hK, hD0, hN⟩ := hv
  have hx := B.exec
  have hb := B.bytes
  have hr := B.returns
  have hT : ∀ w ∈ tbG, w.before ([.ref (h 0)] : List Value).toArray s = true := fun w h => atoms_spec (ws := (Cond.code yX1_threadsInAll cX1_threadsInAll 1 (some .int) :: tbG)) B.pre w (List.mem_cons_of_mem _ h)
  have hown : s.vm.findClass RX1 = some m.cls := findClass_of_methodNamed B.named
  have hlocks := B.notSynchronized
  subst hsz
  have hD := hD0.self (sz := s.heap.size)
  generalize hAe : va_A (wX1 cyI cyJ cyZ cyO h lands camphors there mothCells mothHeads threads sightNights sightCells sights night eaten) s.heap.size = A at hD ⊢
  have hA : ∀ q : Nat, s.heap.size ≤ q → A q := fun q h => by rw [← hAe]; exact Or.inr h
  have hS : va_S A s.heap s.heap [] := va_S.rf
  show W p l e ({ frames := 0, cells := 0, slots := 0, locals := 0 } : Room) s m ([.ref (h 0)] : List Value).toArray below meth c s.heap [] 0 0 (MQ below (qI D (wX1 cyI cyJ cyZ cyO h lands camphors there mothCells mothHeads threads sightNights sightCells sights night eaten) q A) ([.ref (h 0)] : List Value).toArray s 0 0 A) _
  have main : ∀ (H : Heap) (locs : List Loc) (ls : Array Slot), va_P D vwCl (wX1 cyI cyJ cyZ cyO h lands camphors there mothCells mothHeads threads sightNights sightCells sights night eaten) H → va_D A (wX1 cyI cyJ cyZ cyO h lands camphors there mothCells mothHeads threads sightNights sightCells sights night eaten) → va_S A s.heap H locs → lv_has ls 1 [(0, .ref (h 0))] → W p l e ({ frames := 0, cells := 0, slots := 0, locals := 0 } : Room) s m ([.ref (h 0)] : List Value).toArray below meth c H locs 0 0 (MQ below (qI D (wX1 cyI cyJ cyZ cyO h lands camphors there mothCells mothHeads threads sightNights sightCells sights night eaten) q A) ([.ref (h 0)] : List Value).toArray s 0 0 A) (F0 m 0 ls []) := by
    intro H locs ls hP hD hS hl
    unfold g_X1_threadsInAll at hf
    refine lv_aload_n hx hb dX1_threadsInAll_0 rfl (lv_at hl 0 rfl) ?_
    refine va_get (ci := 1) (v := .ref (h 6)) (C := RX1) (T := TX1) (N := 11) hx hb hT hin_X1 hown hK hP 0 rfl rfl 5 (by decide) (hT _ wf_X1_28) (fun _ h9 => h9) rfl dX1_threadsInAll_1 ?_
    refine lv_iconst (v := 1) hx hb dX1_threadsInAll_4 (by decide) ?_
    obtain ⟨hi, hf⟩ := ck_some hf
    refine va_iald hx hb hK hP 6 0 rfl rfl hi dX1_threadsInAll_5 ?_
    refine lv_aload_n hx hb dX1_threadsInAll_6 rfl (lv_at hl 0 rfl) ?_
    refine va_get (ci := 1) (v := .ref (h 6)) (C := RX1) (T := TX1) (N := 11) hx hb hT hin_X1 hown hK hP 0 rfl rfl 5 (by decide) (hT _ wf_X1_28) (fun _ h9 => h9) rfl dX1_threadsInAll_7 ?_
    refine lv_iconst (v := 2) hx hb dX1_threadsInAll_10 (by decide) ?_
    obtain ⟨hi, hf⟩ := ck_some hf
    refine va_iald hx hb hK hP 6 0 rfl rfl hi dX1_threadsInAll_11 ?_
    refine lv_iadd hx hb dX1_threadsInAll_12 ?_
    refine lv_aload_n hx hb dX1_threadsInAll_13 rfl (lv_at hl 0 rfl) ?_
    refine va_get (ci := 1) (v := .ref (h 6)) (C := RX1) (T := TX1) (N := 11) hx hb hT hin_X1 hown hK hP 0 rfl rfl 5 (by decide) (hT _ wf_X1_28) (fun _ h9 => h9) rfl dX1_threadsInAll_14 ?_
    refine lv_iconst (v := 3) hx hb dX1_threadsInAll_17 (by decide) ?_
    obtain ⟨hi, hf⟩ := ck_some hf
    refine va_iald hx hb hK hP 6 0 rfl rfl hi dX1_threadsInAll_18 ?_
    refine lv_iadd hx hb dX1_threadsInAll_19 ?_
    cases Option.some.inj hf
    exact W.iret hx hb hr (fun t ht hW => ⟨⟨_, (), rfl, rfl, by show va_P D vwCl _ t.heap; rw [ht]; exact hP⟩, hS.F ht⟩) hS.2.2 dX1_threadsInAll_20
  have hl := lv_entry ([.ref (h 0)]) (n := 1) (Nat.le_of_ble_eq_true rfl)
  rw [lg_entry_eq]
  exact main s.heap [] _ hP hD hS hl
theorem hd_X8_beside : yX8_beside.cls ≠ "java/lang/invoke/MethodHandle" ∧ yX8_beside.cls ≠ "java/lang/invoke/VarHandle" ∧ (parseMethodDescriptor yX8_beside.desc).map (fun d => d.parameters.length) = some 2 := by decide +kernel
set_option maxHeartbeats 4000000 in
set_option maxRecDepth 100000 in
theorem c_X8_beside (l : Launch) (D : va_G) (cyI cyJ cyZ cyO : ClassId) (sz : Nat) (p0 : Int32) (p1 : Int32) (nf : Nat) (q : Int32) (hf : g_X8_beside nf p0 p1 = some q) : Met l yX8_beside (Cond.code yX8_beside cX8_beside 2 (some .int) :: tbG) ({ frames := 0, cells := 0, slots := 0, locals := 0 } : Room) (va_Pc [.int p0, .int p1] (pcB D (ty4 cyI cyJ cyZ cyO) sz (([] : va_W)))) (qI D (([] : va_W)) q (va_A (([] : va_W)) sz)) 0 0 (va_A (([] : va_W)) sz) := by
  refine Met.ofW (cc := cX8_beside) (maxL := 2) (ret := (some .int)) (by decide) rfl ?_
  intro p e s m args below meth c s₁ B hml hv
  obtain ⟨rfl, hsz, hP, hK, hD0, hN⟩ := hv
  have hx := B.exec
  have hb := B.bytes
  have hr := B.returns
  have hT : ∀ w ∈ tbG, w.before ([.int p0, .int p1] : List Value).toArray s = true := fun w h => atoms_spec (ws := (Cond.code yX8_beside cX8_beside 2 (some .int) :: tbG)) B.pre w (List.mem_cons_of_mem _ h)
  have hown : s.vm.findClass RX8 = some m.cls := findClass_of_methodNamed B.named
  have hlocks := B.notSynchronized
  subst hsz
  have hD := hD0.self (sz := s.heap.size)
  generalize hAe : va_A (([] : va_W)) s.heap.size = A at hD ⊢
  have hA : ∀ q : Nat, s.heap.size ≤ q → A q := fun q h => by rw [← hAe]; exact Or.inr h
  have hS : va_S A s.heap s.heap [] := va_S.rf
  show W p l e ({ frames := 0, cells := 0, slots := 0, locals := 0 } : Room) s m ([.int p0, .int p1] : List Value).toArray below meth c s.heap [] 0 0 (MQ below (qI D (([] : va_W)) q A) ([.int p0, .int p1] : List Value).toArray s 0 0 A) _
  have main : ∀ (H : Heap) (locs : List Loc) (ls : Array Slot), va_P D vwCl (([] : va_W)) H → va_D A (([] : va_W)) → va_S A s.heap H locs → lv_has ls 2 [(0, .int p0), (1, .int p1)] → W p l e ({ frames := 0, cells := 0, slots := 0, locals := 0 } : Room) s m ([.int p0, .int p1] : List Value).toArray below meth c H locs 0 0 (MQ below (qI D (([] : va_W)) q A) ([.int p0, .int p1] : List Value).toArray s 0 0 A) (F0 m 0 ls []) := by
    intro H locs ls hP hD hS hl
    unfold g_X8_beside at hf
    refine lv_iload_n hx hb dX8_beside_0 rfl (lv_at hl 1 rfl) ?_
    by_cases c0 : p1 = 0
    · replace hf := if_t c0 hf
      refine lv_tableIn (off := 27) (tgt := 28) hx hb dX8_beside_1 (by rw [c0]; decide) (by rw [c0]; decide) (by rw [c0]; decide) (by decide) ?_
      refine lv_iload_n hx hb dX8_beside_28 rfl (lv_at hl 0 rfl) ?_
      refine lv_iconst (v := 5) hx hb dX8_beside_29 (by decide) ?_
      refine lv_icmp_lt (tgt := 39) hx hb dX8_beside_30 (by decide) (fun cc => ?_) (fun cc => ?_)
      · replace hf := if_t cc hf
        refine lv_iconst (v := (-1)) hx hb dX8_beside_39 (by decide) ?_
        cases Option.some.inj hf
        exact W.iret hx hb hr (fun t ht hW => ⟨⟨_, (), rfl, rfl, by show va_P D vwCl _ t.heap; rw [ht]; exact hP⟩, hS.F ht⟩) hS.2.2 dX8_beside_40
      · replace hf := if_f cc hf
        refine lv_iload_n hx hb dX8_beside_33 rfl (lv_at hl 0 rfl) ?_
        refine lv_iconst (v := 5) hx hb dX8_beside_34 (by decide) ?_
        refine lv_isub hx hb dX8_beside_35 ?_
        refine lv_goto (tgt := 40) hx hb dX8_beside_36 (by decide) ?_
        cases Option.some.inj hf
        exact W.iret hx hb hr (fun t ht hW => ⟨⟨_, (), rfl, rfl, by show va_P D vwCl _ t.heap; rw [ht]; exact hP⟩, hS.F ht⟩) hS.2.2 dX8_beside_40
    · replace hf := if_f c0 hf
      by_cases c1 : p1 = 1
      · replace hf := if_t c1 hf
        refine lv_tableIn (off := 40) (tgt := 41) hx hb dX8_beside_1 (by rw [c1]; decide) (by rw [c1]; decide) (by rw [c1]; decide) (by decide) ?_
        refine lv_iload_n hx hb dX8_beside_41 rfl (lv_at hl 0 rfl) ?_
        refine lv_iconst (v := 5) hx hb dX8_beside_42 (by decide) ?_
        refine lv_irem hx hb dX8_beside_43 (by decide) ?_
        refine lv_iconst (v := 4) hx hb dX8_beside_44 (by decide) ?_
        refine lv_icmp_ge (tgt := 54) hx hb dX8_beside_45 (by decide) (fun cc => ?_) (fun cc => ?_)
        · replace hf := if_t cc hf
          refine lv_iconst (v := (-1)) hx hb dX8_beside_54 (by decide) ?_
          cases Option.some.inj hf
          exact W.iret hx hb hr (fun t ht hW => ⟨⟨_, (), rfl, rfl, by show va_P D vwCl _ t.heap; rw [ht]; exact hP⟩, hS.F ht⟩) hS.2.2 dX8_beside_55
        · replace hf := if_f cc hf
          refine lv_iload_n hx hb dX8_beside_48 rfl (lv_at hl 0 rfl) ?_
          refine lv_iconst (v := 1) hx hb dX8_beside_49 (by decide) ?_
          refine lv_iadd hx hb dX8_beside_50 ?_
          refine lv_goto (tgt := 55) hx hb dX8_beside_51 (by decide) ?_
          cases Option.some.inj hf
          exact W.iret hx hb hr (fun t ht hW => ⟨⟨_, (), rfl, rfl, by show va_P D vwCl _ t.heap; rw [ht]; exact hP⟩, hS.F ht⟩) hS.2.2 dX8_beside_55
      · replace hf := if_f c1 hf
        by_cases c2 : p1 = 2
        · replace hf := if_t c2 hf
          refine lv_tableIn (off := 55) (tgt := 56) hx hb dX8_beside_1 (by rw [c2]; decide) (by rw [c2]; decide) (by rw [c2]; decide) (by decide) ?_
          refine lv_iload_n hx hb dX8_beside_56 rfl (lv_at hl 0 rfl) ?_
          refine lv_bipush (v := 20) hx hb dX8_beside_57 (by decide) ?_
          refine lv_icmp_ge (tgt := 68) hx hb dX8_beside_59 (by decide) (fun cc => ?_) (fun cc => ?_)
          · replace hf := if_t cc hf
            refine lv_iconst (v := (-1)) hx hb dX8_beside_68 (by decide) ?_
            cases Option.some.inj hf
            exact W.iret hx hb hr (fun t ht hW => ⟨⟨_, (), rfl, rfl, by show va_P D vwCl _ t.heap; rw [ht]; exact hP⟩, hS.F ht⟩) hS.2.2 dX8_beside_69
          · replace hf := if_f cc hf
            refine lv_iload_n hx hb dX8_beside_62 rfl (lv_at hl 0 rfl) ?_
            refine lv_iconst (v := 5) hx hb dX8_beside_63 (by decide) ?_
            refine lv_iadd hx hb dX8_beside_64 ?_
            refine lv_goto (tgt := 69) hx hb dX8_beside_65 (by decide) ?_
            cases Option.some.inj hf
            exact W.iret hx hb hr (fun t ht hW => ⟨⟨_, (), rfl, rfl, by show va_P D vwCl _ t.heap; rw [ht]; exact hP⟩, hS.F ht⟩) hS.2.2 dX8_beside_69
        · replace hf := if_f c2 hf
          refine lv_tableOut (tgt := 70) hx hb dX8_beside_1 (by have z0 := lv_neT c0 (show (0 : Int32).toInt = 0 by decide); have z1 := lv_neT c1 (show (1 : Int32).toInt = 1 by decide); have z2 := lv_neT c2 (show (2 : Int32).toInt = 2 by decide); omega) (by decide) ?_
          refine lv_iload_n hx hb dX8_beside_70 rfl (lv_at hl 0 rfl) ?_
          refine lv_iconst (v := 5) hx hb dX8_beside_71 (by decide) ?_
          refine lv_irem hx hb dX8_beside_72 (by decide) ?_
          refine lv_if_le (tgt := 82) hx hb dX8_beside_73 (by decide) (fun cc => ?_) (fun cc => ?_)
          · replace hf := if_t cc hf
            refine lv_iconst (v := (-1)) hx hb dX8_beside_82 (by decide) ?_
            cases Option.some.inj hf
            exact W.iret hx hb hr (fun t ht hW => ⟨⟨_, (), rfl, rfl, by show va_P D vwCl _ t.heap; rw [ht]; exact hP⟩, hS.F ht⟩) hS.2.2 dX8_beside_83
          · replace hf := if_f cc hf
            refine lv_iload_n hx hb dX8_beside_76 rfl (lv_at hl 0 rfl) ?_
            refine lv_iconst (v := 1) hx hb dX8_beside_77 (by decide) ?_
            refine lv_isub hx hb dX8_beside_78 ?_
            refine lv_goto (tgt := 83) hx hb dX8_beside_79 (by decide) ?_
            cases Option.some.inj hf
            exact W.iret hx hb hr (fun t ht hW => ⟨⟨_, (), rfl, rfl, by show va_P D vwCl _ t.heap; rw [ht]; exact hP⟩, hS.F ht⟩) hS.2.2 dX8_beside_83
  have hl := lv_entry ([.int p0, .int p1]) (n := 2) (Nat.le_of_ble_eq_true rfl)
  rw [lg_entry_eq]
  exact main s.heap [] _ hP hD hS hl
theorem hd_X8_isCell : yX8_isCell.cls ≠ "java/lang/invoke/MethodHandle" ∧ yX8_isCell.cls ≠ "java/lang/invoke/VarHandle" ∧ (parseMethodDescriptor yX8_isCell.desc).map (fun d => d.parameters.length) = some 1 := by decide +kernel
set_option maxHeartbeats 4000000 in
set_option maxRecDepth 100000 in
theorem c_X8_isCell (l : Launch) (D : va_G) (cyI cyJ cyZ cyO : ClassId) (sz : Nat) (p0 : Int32) (nf : Nat) (q : Int32) (hf : g_X8_isCell nf p0 = some q) : Met l yX8_isCell (Cond.code yX8_isCell cX8_isCell 1 (some .boolean) :: tbG) ({ frames := 0, cells := 0, slots := 0, locals := 0 } : Room) (va_Pc [.int p0] (pcB D (ty4 cyI cyJ cyZ cyO) sz (([] : va_W)))) (qI D (([] : va_W)) q (va_A (([] : va_W)) sz)) 0 0 (va_A (([] : va_W)) sz) := by
  refine Met.ofW (cc := cX8_isCell) (maxL := 1) (ret := (some .boolean)) (by decide) rfl ?_
  intro p e s m args below meth c s₁ B hml hv
  obtain ⟨rfl, hsz, hP, hK, hD0, hN⟩ := hv
  have hx := B.exec
  have hb := B.bytes
  have hr := B.returns
  have hT : ∀ w ∈ tbG, w.before ([.int p0] : List Value).toArray s = true := fun w h => atoms_spec (ws := (Cond.code yX8_isCell cX8_isCell 1 (some .boolean) :: tbG)) B.pre w (List.mem_cons_of_mem _ h)
  have hown : s.vm.findClass RX8 = some m.cls := findClass_of_methodNamed B.named
  have hlocks := B.notSynchronized
  subst hsz
  have hD := hD0.self (sz := s.heap.size)
  generalize hAe : va_A (([] : va_W)) s.heap.size = A at hD ⊢
  have hA : ∀ q : Nat, s.heap.size ≤ q → A q := fun q h => by rw [← hAe]; exact Or.inr h
  have hS : va_S A s.heap s.heap [] := va_S.rf
  show W p l e ({ frames := 0, cells := 0, slots := 0, locals := 0 } : Room) s m ([.int p0] : List Value).toArray below meth c s.heap [] 0 0 (MQ below (qI D (([] : va_W)) q A) ([.int p0] : List Value).toArray s 0 0 A) _
  have main : ∀ (H : Heap) (locs : List Loc) (ls : Array Slot), va_P D vwCl (([] : va_W)) H → va_D A (([] : va_W)) → va_S A s.heap H locs → lv_has ls 1 [(0, .int p0)] → W p l e ({ frames := 0, cells := 0, slots := 0, locals := 0 } : Room) s m ([.int p0] : List Value).toArray below meth c H locs 0 0 (MQ below (qI D (([] : va_W)) q A) ([.int p0] : List Value).toArray s 0 0 A) (F0 m 0 ls []) := by
    intro H locs ls hP hD hS hl
    unfold g_X8_isCell at hf
    refine lv_iload_n hx hb dX8_isCell_0 rfl (lv_at hl 0 rfl) ?_
    refine lv_if_lt (tgt := 14) hx hb dX8_isCell_1 (by decide) (fun cc => ?_) (fun cc => ?_)
    · replace hf := if_t cc hf
      refine lv_iconst (v := 0) hx hb dX8_isCell_14 (by decide) ?_
      obtain ⟨hz, hf⟩ := bz_some hf
      cases Option.some.inj hf
      exact W.zret hx hb hr (bz_nar hz).2 (fun t ht hW => ⟨⟨_, (), rfl, rfl, by show va_P D vwCl _ t.heap; rw [ht]; exact hP⟩, hS.F ht⟩) hS.2.2 dX8_isCell_15
    · replace hf := if_f cc hf
      refine lv_iload_n hx hb dX8_isCell_4 rfl (lv_at hl 0 rfl) ?_
      refine lv_bipush (v := 25) hx hb dX8_isCell_5 (by decide) ?_
      refine lv_icmp_ge (tgt := 14) hx hb dX8_isCell_7 (by decide) (fun cc => ?_) (fun cc => ?_)
      · replace hf := if_t cc hf
        refine lv_iconst (v := 0) hx hb dX8_isCell_14 (by decide) ?_
        obtain ⟨hz, hf⟩ := bz_some hf
        cases Option.some.inj hf
        exact W.zret hx hb hr (bz_nar hz).2 (fun t ht hW => ⟨⟨_, (), rfl, rfl, by show va_P D vwCl _ t.heap; rw [ht]; exact hP⟩, hS.F ht⟩) hS.2.2 dX8_isCell_15
      · replace hf := if_f cc hf
        refine lv_iconst (v := 1) hx hb dX8_isCell_10 (by decide) ?_
        refine lv_goto (tgt := 15) hx hb dX8_isCell_11 (by decide) ?_
        obtain ⟨hz, hf⟩ := bz_some hf
        cases Option.some.inj hf
        exact W.zret hx hb hr (bz_nar hz).2 (fun t ht hW => ⟨⟨_, (), rfl, rfl, by show va_P D vwCl _ t.heap; rw [ht]; exact hP⟩, hS.F ht⟩) hS.2.2 dX8_isCell_15
  have hl := lv_entry ([.int p0]) (n := 1) (Nat.le_of_ble_eq_true rfl)
  rw [lg_entry_eq]
  exact main s.heap [] _ hP hD hS hl
theorem hd_X1_fourLandsFrom : yX1_fourLandsFrom.cls = RX1 ∧ yX1_fourLandsFrom.cls ≠ "java/lang/invoke/MethodHandle" ∧ yX1_fourLandsFrom.cls ≠ "java/lang/invoke/VarHandle" ∧ (parseMethodDescriptor yX1_fourLandsFrom.desc).map (fun d => d.parameters.length) = some 1 := by decide +kernel
set_option maxHeartbeats 4000000 in
set_option maxRecDepth 100000 in
theorem c_X1_fourLandsFrom (l : Launch) (D : va_G) (cyI cyJ cyZ cyO : ClassId) (h : Nat → Nat) (sz : Nat) (lands : Nat → Int32) (camphors : Nat → Int32) (there : Nat → Int32) (mothCells : Nat → Int32) (mothHeads : Nat → Int32) (threads : Nat → Int32) (sightNights : Nat → Int32) (sightCells : Nat → Int32) (sights : Int32) (night : Int32) (eaten : Int32) (p1 : Int32) (nf : Nat) (q : Int32) (hf : g_X1_fourLandsFrom nf p1 lands = some q) : Met l yX1_fourLandsFrom (Cond.code yX1_fourLandsFrom cX1_fourLandsFrom 4 (some .int) :: tbG) ({ frames := 1, cells := 0, slots := 0, locals := 21 } : Room) (va_Pc [.ref (h 0), .int p1] (pcB D (ty4 cyI cyJ cyZ cyO) sz (wX1 cyI cyJ cyZ cyO h lands camphors there mothCells mothHeads threads sightNights sightCells sights night eaten))) (qI D (wX1 cyI cyJ cyZ cyO h lands camphors there mothCells mothHeads threads sightNights sightCells sights night eaten) q (va_A (wX1 cyI cyJ cyZ cyO h lands camphors there mothCells mothHeads threads sightNights sightCells sights night eaten) sz)) 0 0 (va_A (wX1 cyI cyJ cyZ cyO h lands camphors there mothCells mothHeads threads sightNights sightCells sights night eaten) sz) := by
  refine Met.ofW (cc := cX1_fourLandsFrom) (maxL := 4) (ret := (some .int)) (by decide) rfl ?_
  intro p e s m args below meth c s₁ B hml hv
  obtain ⟨rfl, hsz, hP, hK, hD0, hN⟩ := hv
  have hx := B.exec
  have hb := B.bytes
  have hr := B.returns
  have hT : ∀ w ∈ tbG, w.before ([.ref (h 0), .int p1] : List Value).toArray s = true := fun w h => atoms_spec (ws := (Cond.code yX1_fourLandsFrom cX1_fourLandsFrom 4 (some .int) :: tbG)) B.pre w (List.mem_cons_of_mem _ h)
  have hown : s.vm.findClass RX1 = some m.cls := findClass_of_methodNamed B.named
  have hlocks := B.notSynchronized
  subst hsz
  have hD := hD0.self (sz := s.heap.size)
  generalize hAe : va_A (wX1 cyI cyJ cyZ cyO h lands camphors there mothCells mothHeads threads sightNights sightCells sights night eaten) s.heap.size = A at hD ⊢
  have hA : ∀ q : Nat, s.heap.size ≤ q → A q := fun q h => by rw [← hAe]; exact Or.inr h
  have hS : va_S A s.heap s.heap [] := va_S.rf
  show W p l e ({ frames := 1, cells := 0, slots := 0, locals := 21 } : Room) s m ([.ref (h 0), .int p1] : List Value).toArray below meth c s.heap [] 0 0 (MQ below (qI D (wX1 cyI cyJ cyZ cyO h lands camphors there mothCells mothHeads threads sightNights sightCells sights night eaten) q A) ([.ref (h 0), .int p1] : List Value).toArray s 0 0 A) _
  have main : ∀ (H : Heap) (locs : List Loc) (ls : Array Slot), va_P D vwCl (wX1 cyI cyJ cyZ cyO h lands camphors there mothCells mothHeads threads sightNights sightCells sights night eaten) H → va_D A (wX1 cyI cyJ cyZ cyO h lands camphors there mothCells mothHeads threads sightNights sightCells sights night eaten) → va_S A s.heap H locs → lv_has ls 4 [(0, .ref (h 0)), (1, .int p1)] → W p l e ({ frames := 1, cells := 0, slots := 0, locals := 21 } : Room) s m ([.ref (h 0), .int p1] : List Value).toArray below meth c H locs 0 0 (MQ below (qI D (wX1 cyI cyJ cyZ cyO h lands camphors there mothCells mothHeads threads sightNights sightCells sights night eaten) q A) ([.ref (h 0), .int p1] : List Value).toArray s 0 0 A) (F0 m 0 ls []) := by
    intro H locs ls hP hD hS hl
    unfold g_X1_fourLandsFrom at hf
    refine lv_iload_n hx hb dX1_fourLandsFrom_0 rfl (lv_at hl 1 rfl) ?_
    refine lv_iconst (v := 1) hx hb dX1_fourLandsFrom_1 (by decide) ?_
    obtain ⟨q1, hq1, hf⟩ := bd_some hf
    have hC : ([] : List Nat).map (fun i => (wX1 cyI cyJ cyZ cyO h lands camphors there mothCells mothHeads threads sightNights sightCells sights night eaten)[i]?) = ([] : va_W).map some := rfl
    refine cl_i (rn_SN (As := [.int p1, .int 1]) (rest := []) (host := RX8) hx hb hml hown hT hK hN hP hD [] hC rfl (c_X8_beside l D cyI cyJ cyZ cyO H.size p1 1 nf q1 hq1) (by decide) wt_X8_beside wz_X8 wc_X8_beside hd_X8_beside ⟨rfl, rfl⟩ ⟨Nat.le_of_ble_eq_true rfl, Nat.le_of_ble_eq_true rfl⟩ rfl hl.1 rfl (Nat.le_of_ble_eq_true rfl) dX1_fourLandsFrom_2 ⟨Nat.zero_le _, Nat.zero_le _⟩) hP hD hS hA [] hC [(false, 0), (false, 1), (false, 2), (false, 3), (false, 4), (false, 5), (false, 6), (false, 7), (false, 8)] (ws' := wX1 cyI cyJ cyZ cyO h lands camphors there mothCells mothHeads threads sightNights sightCells sights night eaten) rfl rfl rfl (fun H locs hP hD hS => ?_)
    refine lv_istore_n (lv' := [(2, .int q1), (0, .ref (h 0)), (1, .int p1)]) hx hb dX1_fourLandsFrom_5 rfl hl (by decide) rfl (fun ls hl => ?_)
    refine lv_iload_n hx hb dX1_fourLandsFrom_6 rfl (lv_at hl 2 rfl) ?_
    refine lv_iconst (v := 2) hx hb dX1_fourLandsFrom_7 (by decide) ?_
    obtain ⟨q2, hq2, hf⟩ := bd_some hf
    have hC : ([] : List Nat).map (fun i => (wX1 cyI cyJ cyZ cyO h lands camphors there mothCells mothHeads threads sightNights sightCells sights night eaten)[i]?) = ([] : va_W).map some := rfl
    refine cl_i (rn_SN (As := [.int p1, .int 2]) (rest := []) (host := RX8) hx hb hml hown hT hK hN hP hD [] hC rfl (c_X8_beside l D cyI cyJ cyZ cyO H.size p1 2 nf q2 hq2) (by decide) wt_X8_beside wz_X8 wc_X8_beside hd_X8_beside ⟨rfl, rfl⟩ ⟨Nat.le_of_ble_eq_true rfl, Nat.le_of_ble_eq_true rfl⟩ rfl hl.1 rfl (Nat.le_of_ble_eq_true rfl) dX1_fourLandsFrom_8 ⟨Nat.zero_le _, Nat.zero_le _⟩) hP hD hS hA [] hC [(false, 0), (false, 1), (false, 2), (false, 3), (false, 4), (false, 5), (false, 6), (false, 7), (false, 8)] (ws' := wX1 cyI cyJ cyZ cyO h lands camphors there mothCells mothHeads threads sightNights sightCells sights night eaten) rfl rfl rfl (fun H locs hP hD hS => ?_)
    refine lv_istore_n (lv' := [(3, .int q2), (2, .int q1), (0, .ref (h 0)), (1, .int p1)]) hx hb dX1_fourLandsFrom_11 rfl hl (by decide) rfl (fun ls hl => ?_)
    refine lv_iload_n hx hb dX1_fourLandsFrom_12 rfl (lv_at hl 1 rfl) ?_
    obtain ⟨q3, hq3, hf⟩ := bd_some hf
    have hC : ([] : List Nat).map (fun i => (wX1 cyI cyJ cyZ cyO h lands camphors there mothCells mothHeads threads sightNights sightCells sights night eaten)[i]?) = ([] : va_W).map some := rfl
    refine cl_i (rn_SN (As := [.int q1]) (rest := []) (host := RX8) hx hb hml hown hT hK hN hP hD [] hC rfl (c_X8_isCell l D cyI cyJ cyZ cyO H.size q1 nf q3 hq3) (by decide) wt_X8_isCell wz_X8 wc_X8_isCell hd_X8_isCell ⟨rfl, rfl⟩ ⟨Nat.le_of_ble_eq_true rfl, Nat.le_of_ble_eq_true rfl⟩ rfl hl.1 rfl (Nat.le_of_ble_eq_true rfl) dX1_fourLandsFrom_13 ⟨Nat.zero_le _, Nat.zero_le _⟩) hP hD hS hA [] hC [(false, 0), (false, 1), (false, 2), (false, 3), (false, 4), (false, 5), (false, 6), (false, 7), (false, 8)] (ws' := wX1 cyI cyJ cyZ cyO h lands camphors there mothCells mothHeads threads sightNights sightCells sights night eaten) rfl rfl rfl (fun H locs hP hD hS => ?_)
    refine lv_if_eq (tgt := 35) hx hb dX1_fourLandsFrom_16 (by decide) (fun cc => ?_) (fun cc => ?_)
    · replace hf := if_t cc hf
      refine lv_iconst (v := (-1)) hx hb dX1_fourLandsFrom_35 (by decide) ?_
      cases Option.some.inj hf
      exact W.iret hx hb hr (fun t ht hW => ⟨⟨_, (), rfl, rfl, by show va_P D vwCl _ t.heap; rw [ht]; exact hP⟩, hS.F ht⟩) hS.2.2 dX1_fourLandsFrom_36
    · replace hf := if_f cc hf
      refine lv_iload_n hx hb dX1_fourLandsFrom_19 rfl (lv_at hl 0 rfl) ?_
      obtain ⟨q4, hq4, hf⟩ := bd_some hf
      have hC : ([] : List Nat).map (fun i => (wX1 cyI cyJ cyZ cyO h lands camphors there mothCells mothHeads threads sightNights sightCells sights night eaten)[i]?) = ([] : va_W).map some := rfl
      refine cl_i (rn_SN (As := [.int q2]) (rest := []) (host := RX8) hx hb hml hown hT hK hN hP hD [] hC rfl (c_X8_isCell l D cyI cyJ cyZ cyO H.size q2 nf q4 hq4) (by decide) wt_X8_isCell wz_X8 wc_X8_isCell hd_X8_isCell ⟨rfl, rfl⟩ ⟨Nat.le_of_ble_eq_true rfl, Nat.le_of_ble_eq_true rfl⟩ rfl hl.1 rfl (Nat.le_of_ble_eq_true rfl) dX1_fourLandsFrom_20 ⟨Nat.zero_le _, Nat.zero_le _⟩) hP hD hS hA [] hC [(false, 0), (false, 1), (false, 2), (false, 3), (false, 4), (false, 5), (false, 6), (false, 7), (false, 8)] (ws' := wX1 cyI cyJ cyZ cyO h lands camphors there mothCells mothHeads threads sightNights sightCells sights night eaten) rfl rfl rfl (fun H locs hP hD hS => ?_)
      refine lv_if_eq (tgt := 35) hx hb dX1_fourLandsFrom_23 (by decide) (fun cc => ?_) (fun cc => ?_)
      · replace hf := if_t cc hf
        refine lv_iconst (v := (-1)) hx hb dX1_fourLandsFrom_35 (by decide) ?_
        cases Option.some.inj hf
        exact W.iret hx hb hr (fun t ht hW => ⟨⟨_, (), rfl, rfl, by show va_P D vwCl _ t.heap; rw [ht]; exact hP⟩, hS.F ht⟩) hS.2.2 dX1_fourLandsFrom_36
      · replace hf := if_f cc hf
        refine lv_iload_n hx hb dX1_fourLandsFrom_26 rfl (lv_at hl 0 rfl) ?_
        refine lv_iconst (v := 1) hx hb dX1_fourLandsFrom_27 (by decide) ?_
        refine lv_iadd hx hb dX1_fourLandsFrom_28 ?_
        obtain ⟨q5, hq5, hf⟩ := bd_some hf
        have hC : ([] : List Nat).map (fun i => (wX1 cyI cyJ cyZ cyO h lands camphors there mothCells mothHeads threads sightNights sightCells sights night eaten)[i]?) = ([] : va_W).map some := rfl
        refine cl_i (rn_SN (As := [.int (q2 + 1)]) (rest := []) (host := RX8) hx hb hml hown hT hK hN hP hD [] hC rfl (c_X8_isCell l D cyI cyJ cyZ cyO H.size (q2 + 1) nf q5 hq5) (by decide) wt_X8_isCell wz_X8 wc_X8_isCell hd_X8_isCell ⟨rfl, rfl⟩ ⟨Nat.le_of_ble_eq_true rfl, Nat.le_of_ble_eq_true rfl⟩ rfl hl.1 rfl (Nat.le_of_ble_eq_true rfl) dX1_fourLandsFrom_29 ⟨Nat.zero_le _, Nat.zero_le _⟩) hP hD hS hA [] hC [(false, 0), (false, 1), (false, 2), (false, 3), (false, 4), (false, 5), (false, 6), (false, 7), (false, 8)] (ws' := wX1 cyI cyJ cyZ cyO h lands camphors there mothCells mothHeads threads sightNights sightCells sights night eaten) rfl rfl rfl (fun H locs hP hD hS => ?_)
        refine lv_if_ne (tgt := 37) hx hb dX1_fourLandsFrom_32 (by decide) (fun cc => ?_) (fun cc => ?_)
        · replace hf := if_f cc hf
          refine lv_sipush (v := 1000) hx hb dX1_fourLandsFrom_37 (by decide) ?_
          refine lv_aload_n hx hb dX1_fourLandsFrom_40 rfl (lv_at hl 2 rfl) ?_
          refine va_get (ci := 1) (v := .ref (h 1)) (C := RX1) (T := TX1) (N := 11) hx hb hT hin_X1 hown hK hP 0 rfl rfl 0 (by decide) (hT _ wf_X1_9) (fun _ h9 => h9) rfl dX1_fourLandsFrom_41 ?_
          refine lv_iload_n hx hb dX1_fourLandsFrom_44 rfl (lv_at hl 3 rfl) ?_
          obtain ⟨hi, hf⟩ := ck_some hf
          refine va_iald hx hb hK hP 1 0 rfl rfl hi dX1_fourLandsFrom_45 ?_
          refine lv_imul hx hb dX1_fourLandsFrom_46 ?_
          refine lv_bipush (v := 100) hx hb dX1_fourLandsFrom_47 (by decide) ?_
          refine lv_aload_n hx hb dX1_fourLandsFrom_49 rfl (lv_at hl 2 rfl) ?_
          refine va_get (ci := 1) (v := .ref (h 1)) (C := RX1) (T := TX1) (N := 11) hx hb hT hin_X1 hown hK hP 0 rfl rfl 0 (by decide) (hT _ wf_X1_9) (fun _ h9 => h9) rfl dX1_fourLandsFrom_50 ?_
          refine lv_iload_n hx hb dX1_fourLandsFrom_53 rfl (lv_at hl 1 rfl) ?_
          obtain ⟨hi, hf⟩ := ck_some hf
          refine va_iald hx hb hK hP 1 0 rfl rfl hi dX1_fourLandsFrom_54 ?_
          refine lv_imul hx hb dX1_fourLandsFrom_55 ?_
          refine lv_iadd hx hb dX1_fourLandsFrom_56 ?_
          refine lv_bipush (v := 10) hx hb dX1_fourLandsFrom_57 (by decide) ?_
          refine lv_aload_n hx hb dX1_fourLandsFrom_59 rfl (lv_at hl 2 rfl) ?_
          refine va_get (ci := 1) (v := .ref (h 1)) (C := RX1) (T := TX1) (N := 11) hx hb hT hin_X1 hown hK hP 0 rfl rfl 0 (by decide) (hT _ wf_X1_9) (fun _ h9 => h9) rfl dX1_fourLandsFrom_60 ?_
          refine lv_iload_n hx hb dX1_fourLandsFrom_63 rfl (lv_at hl 0 rfl) ?_
          obtain ⟨hi, hf⟩ := ck_some hf
          refine va_iald hx hb hK hP 1 0 rfl rfl hi dX1_fourLandsFrom_64 ?_
          refine lv_imul hx hb dX1_fourLandsFrom_65 ?_
          refine lv_iadd hx hb dX1_fourLandsFrom_66 ?_
          refine lv_aload_n hx hb dX1_fourLandsFrom_67 rfl (lv_at hl 2 rfl) ?_
          refine va_get (ci := 1) (v := .ref (h 1)) (C := RX1) (T := TX1) (N := 11) hx hb hT hin_X1 hown hK hP 0 rfl rfl 0 (by decide) (hT _ wf_X1_9) (fun _ h9 => h9) rfl dX1_fourLandsFrom_68 ?_
          refine lv_iload_n hx hb dX1_fourLandsFrom_71 rfl (lv_at hl 0 rfl) ?_
          refine lv_iconst (v := 1) hx hb dX1_fourLandsFrom_72 (by decide) ?_
          refine lv_iadd hx hb dX1_fourLandsFrom_73 ?_
          obtain ⟨hi, hf⟩ := ck_some hf
          refine va_iald hx hb hK hP 1 0 rfl rfl hi dX1_fourLandsFrom_74 ?_
          refine lv_iadd hx hb dX1_fourLandsFrom_75 ?_
          cases Option.some.inj hf
          exact W.iret hx hb hr (fun t ht hW => ⟨⟨_, (), rfl, rfl, by show va_P D vwCl _ t.heap; rw [ht]; exact hP⟩, hS.F ht⟩) hS.2.2 dX1_fourLandsFrom_76
        · replace hf := if_t cc hf
          refine lv_iconst (v := (-1)) hx hb dX1_fourLandsFrom_35 (by decide) ?_
          cases Option.some.inj hf
          exact W.iret hx hb hr (fun t ht hW => ⟨⟨_, (), rfl, rfl, by show va_P D vwCl _ t.heap; rw [ht]; exact hP⟩, hS.F ht⟩) hS.2.2 dX1_fourLandsFrom_36
  have hl := lv_entry ([.ref (h 0), .int p1]) (n := 4) (Nat.le_of_ble_eq_true rfl)
  rw [lg_entry_eq]
  exact main s.heap [] _ hP hD hS hl
theorem hd_X1_addSight : yX1_addSight.cls = RX1 ∧ yX1_addSight.cls ≠ "java/lang/invoke/MethodHandle" ∧ yX1_addSight.cls ≠ "java/lang/invoke/VarHandle" ∧ (parseMethodDescriptor yX1_addSight.desc).map (fun d => d.parameters.length) = some 2 := by decide +kernel
set_option maxHeartbeats 4000000 in
set_option maxRecDepth 100000 in
theorem c_X1_addSight (l : Launch) (D : va_G) (cyI cyJ cyZ cyO : ClassId) (h : Nat → Nat) (sz : Nat) (lands : Nat → Int32) (camphors : Nat → Int32) (there : Nat → Int32) (mothCells : Nat → Int32) (mothHeads : Nat → Int32) (threads : Nat → Int32) (sightNights : Nat → Int32) (sightCells : Nat → Int32) (sights : Int32) (night : Int32) (eaten : Int32) (p1 : Int32) (p2 : Int32) (nf : Nat) (q : Int32 × (Nat → Int32) × (Nat → Int32) × Int32) (hf : g_X1_addSight nf p1 p2 sightNights sightCells sights = some q) : Met l yX1_addSight (Cond.code yX1_addSight cX1_addSight 3 (some .boolean) :: tbG) ({ frames := 0, cells := 0, slots := 0, locals := 0 } : Room) (va_Pc [.ref (h 0), .int p1, .int p2] (pcB D (ty4 cyI cyJ cyZ cyO) sz (wX1 cyI cyJ cyZ cyO h lands camphors there mothCells mothHeads threads sightNights sightCells sights night eaten))) (qI D (wX1 cyI cyJ cyZ cyO h lands camphors there mothCells mothHeads threads q.2.1 q.2.2.1 q.2.2.2 night eaten) q.1 (va_A (wX1 cyI cyJ cyZ cyO h lands camphors there mothCells mothHeads threads sightNights sightCells sights night eaten) sz)) 0 0 (va_A (wX1 cyI cyJ cyZ cyO h lands camphors there mothCells mothHeads threads sightNights sightCells sights night eaten) sz) := by
  refine Met.ofW (cc := cX1_addSight) (maxL := 3) (ret := (some .boolean)) (by decide) rfl ?_
  intro p e s m args below meth c s₁ B hml hv
  obtain ⟨rfl, hsz, hP, hK, hD0, hN⟩ := hv
  have hx := B.exec
  have hb := B.bytes
  have hr := B.returns
  have hT : ∀ w ∈ tbG, w.before ([.ref (h 0), .int p1, .int p2] : List Value).toArray s = true := fun w h => atoms_spec (ws := (Cond.code yX1_addSight cX1_addSight 3 (some .boolean) :: tbG)) B.pre w (List.mem_cons_of_mem _ h)
  have hown : s.vm.findClass RX1 = some m.cls := findClass_of_methodNamed B.named
  have hlocks := B.notSynchronized
  subst hsz
  have hD := hD0.self (sz := s.heap.size)
  generalize hAe : va_A (wX1 cyI cyJ cyZ cyO h lands camphors there mothCells mothHeads threads sightNights sightCells sights night eaten) s.heap.size = A at hD ⊢
  have hA : ∀ q : Nat, s.heap.size ≤ q → A q := fun q h => by rw [← hAe]; exact Or.inr h
  have hS : va_S A s.heap s.heap [] := va_S.rf
  show W p l e ({ frames := 0, cells := 0, slots := 0, locals := 0 } : Room) s m ([.ref (h 0), .int p1, .int p2] : List Value).toArray below meth c s.heap [] 0 0 (MQ below (qI D (wX1 cyI cyJ cyZ cyO h lands camphors there mothCells mothHeads threads q.2.1 q.2.2.1 q.2.2.2 night eaten) q.1 A) ([.ref (h 0), .int p1, .int p2] : List Value).toArray s 0 0 A) _
  have main : ∀ (H : Heap) (locs : List Loc) (ls : Array Slot), va_P D vwCl (wX1 cyI cyJ cyZ cyO h lands camphors there mothCells mothHeads threads sightNights sightCells sights night eaten) H → va_D A (wX1 cyI cyJ cyZ cyO h lands camphors there mothCells mothHeads threads sightNights sightCells sights night eaten) → va_S A s.heap H locs → lv_has ls 3 [(0, .ref (h 0)), (1, .int p1), (2, .int p2)] → W p l e ({ frames := 0, cells := 0, slots := 0, locals := 0 } : Room) s m ([.ref (h 0), .int p1, .int p2] : List Value).toArray below meth c H locs 0 0 (MQ below (qI D (wX1 cyI cyJ cyZ cyO h lands camphors there mothCells mothHeads threads q.2.1 q.2.2.1 q.2.2.2 night eaten) q.1 A) ([.ref (h 0), .int p1, .int p2] : List Value).toArray s 0 0 A) (F0 m 0 ls []) := by
    intro H locs ls hP hD hS hl
    unfold g_X1_addSight at hf
    refine lv_aload_n hx hb dX1_addSight_0 rfl (lv_at hl 0 rfl) ?_
    refine va_get (ci := 1) (v := .int sights) (C := RX1) (T := TX1) (N := 11) hx hb hT hin_X1 hown hK hP 0 rfl rfl 8 (by decide) (hT _ wf_X1_41) (fun _ h9 => h9) rfl dX1_addSight_1 ?_
    refine lv_bipush (v := 8) hx hb dX1_addSight_4 (by decide) ?_
    refine lv_icmp_lt (tgt := 11) hx hb dX1_addSight_6 (by decide) (fun cc => ?_) (fun cc => ?_)
    · replace hf := if_t cc hf
      refine lv_aload_n hx hb dX1_addSight_11 rfl (lv_at hl 0 rfl) ?_
      refine va_get (ci := 1) (v := .ref (h 7)) (C := RX1) (T := TX1) (N := 11) hx hb hT hin_X1 hown hK hP 0 rfl rfl 6 (by decide) (hT _ wf_X1_31) (fun _ h9 => h9) rfl dX1_addSight_12 ?_
      refine lv_aload_n hx hb dX1_addSight_15 rfl (lv_at hl 0 rfl) ?_
      refine va_get (ci := 1) (v := .int sights) (C := RX1) (T := TX1) (N := 11) hx hb hT hin_X1 hown hK hP 0 rfl rfl 8 (by decide) (hT _ wf_X1_41) (fun _ h9 => h9) rfl dX1_addSight_16 ?_
      refine lv_iload_n hx hb dX1_addSight_19 rfl (lv_at hl 1 rfl) ?_
      obtain ⟨hi, hf⟩ := ck_some hf
      refine va_iast hx hb hK hP hD hS 7 0 rfl rfl hi dX1_addSight_20 (fun H locs hP hD hS => ?_)
      have hP : va_P D vwCl (wX1 cyI cyJ cyZ cyO h lands camphors there mothCells mothHeads threads (upd sightNights sights.toNatClampNeg p1) sightCells sights night eaten) H := hP
      have hD : va_D A (wX1 cyI cyJ cyZ cyO h lands camphors there mothCells mothHeads threads (upd sightNights sights.toNatClampNeg p1) sightCells sights night eaten) := hD
      refine lv_aload_n hx hb dX1_addSight_21 rfl (lv_at hl 0 rfl) ?_
      refine va_get (ci := 1) (v := .ref (h 8)) (C := RX1) (T := TX1) (N := 11) hx hb hT hin_X1 hown hK hP 0 rfl rfl 7 (by decide) (hT _ wf_X1_34) (fun _ h9 => h9) rfl dX1_addSight_22 ?_
      refine lv_aload_n hx hb dX1_addSight_25 rfl (lv_at hl 0 rfl) ?_
      refine va_get (ci := 1) (v := .int sights) (C := RX1) (T := TX1) (N := 11) hx hb hT hin_X1 hown hK hP 0 rfl rfl 8 (by decide) (hT _ wf_X1_41) (fun _ h9 => h9) rfl dX1_addSight_26 ?_
      refine lv_iload_n hx hb dX1_addSight_29 rfl (lv_at hl 2 rfl) ?_
      obtain ⟨hi, hf⟩ := ck_some hf
      refine va_iast hx hb hK hP hD hS 8 0 rfl rfl hi dX1_addSight_30 (fun H locs hP hD hS => ?_)
      have hP : va_P D vwCl (wX1 cyI cyJ cyZ cyO h lands camphors there mothCells mothHeads threads (upd sightNights sights.toNatClampNeg p1) (upd sightCells sights.toNatClampNeg p2) sights night eaten) H := hP
      have hD : va_D A (wX1 cyI cyJ cyZ cyO h lands camphors there mothCells mothHeads threads (upd sightNights sights.toNatClampNeg p1) (upd sightCells sights.toNatClampNeg p2) sights night eaten) := hD
      refine lv_aload_n hx hb dX1_addSight_31 rfl (lv_at hl 0 rfl) ?_
      refine lv_dup hx hb dX1_addSight_32 rfl ?_
      refine va_get (ci := 1) (v := .int sights) (C := RX1) (T := TX1) (N := 11) hx hb hT hin_X1 hown hK hP 0 rfl rfl 8 (by decide) (hT _ wf_X1_41) (fun _ h9 => h9) rfl dX1_addSight_33 ?_
      refine lv_iconst (v := 1) hx hb dX1_addSight_36 (by decide) ?_
      refine lv_iadd hx hb dX1_addSight_37 ?_
      refine va_put (ci := 1) (v := .int (sights + 1)) (ty := .int) (C := RX1) (T := TX1) (N := 11) hx hb hT hin_X1 tyX1 tyX1_ok nmX1 hown hK hP hD hS 0 rfl rfl 8 (by decide) (hT _ wf_X1_41) (fun _ h9 => h9) rfl (tyX1_ok 8 (by decide)) rfl rfl (Nat.le_of_ble_eq_true rfl) dX1_addSight_38 (fun H locs hP hD hS => ?_)
      have hP : va_P D vwCl (wX1 cyI cyJ cyZ cyO h lands camphors there mothCells mothHeads threads (upd sightNights sights.toNatClampNeg p1) (upd sightCells sights.toNatClampNeg p2) (sights + 1) night eaten) H := hP
      have hD : va_D A (wX1 cyI cyJ cyZ cyO h lands camphors there mothCells mothHeads threads (upd sightNights sights.toNatClampNeg p1) (upd sightCells sights.toNatClampNeg p2) (sights + 1) night eaten) := hD
      refine lv_iconst (v := 1) hx hb dX1_addSight_41 (by decide) ?_
      obtain ⟨hz, hf⟩ := bz_some hf
      cases Option.some.inj hf
      exact W.zret hx hb hr (bz_nar hz).2 (fun t ht hW => ⟨⟨_, (), rfl, rfl, by show va_P D vwCl _ t.heap; rw [ht]; exact hP⟩, hS.F ht⟩) hS.2.2 dX1_addSight_42
    · replace hf := if_f cc hf
      refine lv_iconst (v := 0) hx hb dX1_addSight_9 (by decide) ?_
      obtain ⟨hz, hf⟩ := bz_some hf
      cases Option.some.inj hf
      exact W.zret hx hb hr (bz_nar hz).2 (fun t ht hW => ⟨⟨_, (), rfl, rfl, by show va_P D vwCl _ t.heap; rw [ht]; exact hP⟩, hS.F ht⟩) hS.2.2 dX1_addSight_10
  have hl := lv_entry ([.ref (h 0), .int p1, .int p2]) (n := 3) (Nat.le_of_ble_eq_true rfl)
  rw [lg_entry_eq]
  exact main s.heap [] _ hP hD hS hl
theorem hd_X1_turn : yX1_turn.cls = RX1 ∧ yX1_turn.cls ≠ "java/lang/invoke/MethodHandle" ∧ yX1_turn.cls ≠ "java/lang/invoke/VarHandle" ∧ (parseMethodDescriptor yX1_turn.desc).map (fun d => d.parameters.length) = some 2 := by decide +kernel
set_option maxHeartbeats 4000000 in
set_option maxRecDepth 100000 in
theorem c_X1_turn (l : Launch) (D : va_G) (cyI cyJ cyZ cyO : ClassId) (h : Nat → Nat) (sz : Nat) (lands : Nat → Int32) (camphors : Nat → Int32) (there : Nat → Int32) (mothCells : Nat → Int32) (mothHeads : Nat → Int32) (threads : Nat → Int32) (sightNights : Nat → Int32) (sightCells : Nat → Int32) (sights : Int32) (night : Int32) (eaten : Int32) (p1 : Int32) (p2 : Int32) (nf : Nat) (q : Int32 × (Nat → Int32)) (hf : g_X1_turn nf p1 p2 there mothHeads = some q) : Met l yX1_turn (Cond.code yX1_turn cX1_turn 3 (some .int) :: tbG) ({ frames := 1, cells := 0, slots := 0, locals := 21 } : Room) (va_Pc [.ref (h 0), .int p1, .int p2] (pcB D (ty4 cyI cyJ cyZ cyO) sz (wX1 cyI cyJ cyZ cyO h lands camphors there mothCells mothHeads threads sightNights sightCells sights night eaten))) (qI D (wX1 cyI cyJ cyZ cyO h lands camphors there mothCells q.2 threads sightNights sightCells sights night eaten) q.1 (va_A (wX1 cyI cyJ cyZ cyO h lands camphors there mothCells mothHeads threads sightNights sightCells sights night eaten) sz)) 0 0 (va_A (wX1 cyI cyJ cyZ cyO h lands camphors there mothCells mothHeads threads sightNights sightCells sights night eaten) sz) := by
  refine Met.ofW (cc := cX1_turn) (maxL := 3) (ret := (some .int)) (by decide) rfl ?_
  intro p e s m args below meth c s₁ B hml hv
  obtain ⟨rfl, hsz, hP, hK, hD0, hN⟩ := hv
  have hx := B.exec
  have hb := B.bytes
  have hr := B.returns
  have hT : ∀ w ∈ tbG, w.before ([.ref (h 0), .int p1, .int p2] : List Value).toArray s = true := fun w h => atoms_spec (ws := (Cond.code yX1_turn cX1_turn 3 (some .int) :: tbG)) B.pre w (List.mem_cons_of_mem _ h)
  have hown : s.vm.findClass RX1 = some m.cls := findClass_of_methodNamed B.named
  have hlocks := B.notSynchronized
  subst hsz
  have hD := hD0.self (sz := s.heap.size)
  generalize hAe : va_A (wX1 cyI cyJ cyZ cyO h lands camphors there mothCells mothHeads threads sightNights sightCells sights night eaten) s.heap.size = A at hD ⊢
  have hA : ∀ q : Nat, s.heap.size ≤ q → A q := fun q h => by rw [← hAe]; exact Or.inr h
  have hS : va_S A s.heap s.heap [] := va_S.rf
  show W p l e ({ frames := 1, cells := 0, slots := 0, locals := 21 } : Room) s m ([.ref (h 0), .int p1, .int p2] : List Value).toArray below meth c s.heap [] 0 0 (MQ below (qI D (wX1 cyI cyJ cyZ cyO h lands camphors there mothCells q.2 threads sightNights sightCells sights night eaten) q.1 A) ([.ref (h 0), .int p1, .int p2] : List Value).toArray s 0 0 A) _
  have main : ∀ (H : Heap) (locs : List Loc) (ls : Array Slot), va_P D vwCl (wX1 cyI cyJ cyZ cyO h lands camphors there mothCells mothHeads threads sightNights sightCells sights night eaten) H → va_D A (wX1 cyI cyJ cyZ cyO h lands camphors there mothCells mothHeads threads sightNights sightCells sights night eaten) → va_S A s.heap H locs → lv_has ls 3 [(0, .ref (h 0)), (1, .int p1), (2, .int p2)] → W p l e ({ frames := 1, cells := 0, slots := 0, locals := 21 } : Room) s m ([.ref (h 0), .int p1, .int p2] : List Value).toArray below meth c H locs 0 0 (MQ below (qI D (wX1 cyI cyJ cyZ cyO h lands camphors there mothCells q.2 threads sightNights sightCells sights night eaten) q.1 A) ([.ref (h 0), .int p1, .int p2] : List Value).toArray s 0 0 A) (F0 m 0 ls []) := by
    intro H locs ls hP hD hS hl
    unfold g_X1_turn at hf
    refine lv_aload_n hx hb dX1_turn_0 rfl (lv_at hl 0 rfl) ?_
    refine lv_iload_n hx hb dX1_turn_1 rfl (lv_at hl 1 rfl) ?_
    obtain ⟨q1, hq1, hf⟩ := bd_some hf
    have hC : [0, 1, 2, 3, 4, 5, 6, 7, 8].map (fun i => (wX1 cyI cyJ cyZ cyO h lands camphors there mothCells mothHeads threads sightNights sightCells sights night eaten)[i]?) = (wX1 cyI cyJ cyZ cyO h lands camphors there mothCells mothHeads threads sightNights sightCells sights night eaten).map some := rfl
    refine cl_i (rn_V (As := [.int p1]) (rest := []) (C := RX1) hx hb hml hown hT hK hN hP hD [0, 1, 2, 3, 4, 5, 6, 7, 8] hC rfl (c_X1_isThere l D cyI cyJ cyZ cyO h H.size lands camphors there mothCells mothHeads threads sightNights sightCells sights night eaten p1 nf q1 hq1) wm_X1_64 wi_X1_isThere wl_X1_isThere wz_X1 wc_X1_isThere hd_X1_isThere ⟨rfl, rfl⟩ ⟨Nat.le_of_ble_eq_true rfl, Nat.le_of_ble_eq_true rfl⟩ (q0 := 0) (ci := 1) rfl rfl rfl rfl hl.1 rfl (Nat.le_of_ble_eq_true rfl) dX1_turn_2 ⟨Nat.zero_le _, Nat.zero_le _⟩) hP hD hS hA [0, 1, 2, 3, 4, 5, 6, 7, 8] hC [(true, 0), (true, 1), (true, 2), (true, 3), (true, 4), (true, 5), (true, 6), (true, 7), (true, 8)] (ws' := wX1 cyI cyJ cyZ cyO h lands camphors there mothCells mothHeads threads sightNights sightCells sights night eaten) rfl rfl rfl (fun H locs hP hD hS => ?_)
    refine lv_if_ne (tgt := 10) hx hb dX1_turn_5 (by decide) (fun cc => ?_) (fun cc => ?_)
    · replace hf := if_f cc hf
      refine lv_aload_n hx hb dX1_turn_10 rfl (lv_at hl 0 rfl) ?_
      refine va_get (ci := 1) (v := .ref (h 5)) (C := RX1) (T := TX1) (N := 11) hx hb hT hin_X1 hown hK hP 0 rfl rfl 4 (by decide) (hT _ wf_X1_25) (fun _ h9 => h9) rfl dX1_turn_11 ?_
      refine lv_iload_n hx hb dX1_turn_14 rfl (lv_at hl 1 rfl) ?_
      obtain ⟨hi, hf⟩ := ck_some hf
      refine va_iald hx hb hK hP 5 0 rfl rfl hi dX1_turn_15 ?_
      refine lv_iload_n hx hb dX1_turn_16 rfl (lv_at hl 2 rfl) ?_
      refine lv_icmp_ne (tgt := 22) hx hb dX1_turn_17 (by decide) (fun cc => ?_) (fun cc => ?_)
      · replace hf := if_f cc hf
        refine lv_aload_n hx hb dX1_turn_22 rfl (lv_at hl 0 rfl) ?_
        refine va_get (ci := 1) (v := .ref (h 5)) (C := RX1) (T := TX1) (N := 11) hx hb hT hin_X1 hown hK hP 0 rfl rfl 4 (by decide) (hT _ wf_X1_25) (fun _ h9 => h9) rfl dX1_turn_23 ?_
        refine lv_iload_n hx hb dX1_turn_26 rfl (lv_at hl 1 rfl) ?_
        refine lv_iload_n hx hb dX1_turn_27 rfl (lv_at hl 2 rfl) ?_
        obtain ⟨hi, hf⟩ := ck_some hf
        refine va_iast hx hb hK hP hD hS 5 0 rfl rfl hi dX1_turn_28 (fun H locs hP hD hS => ?_)
        have hP : va_P D vwCl (wX1 cyI cyJ cyZ cyO h lands camphors there mothCells (upd mothHeads p1.toNatClampNeg p2) threads sightNights sightCells sights night eaten) H := hP
        have hD : va_D A (wX1 cyI cyJ cyZ cyO h lands camphors there mothCells (upd mothHeads p1.toNatClampNeg p2) threads sightNights sightCells sights night eaten) := hD
        refine lv_iconst (v := 0) hx hb dX1_turn_29 (by decide) ?_
        cases Option.some.inj hf
        exact W.iret hx hb hr (fun t ht hW => ⟨⟨_, (), rfl, rfl, by show va_P D vwCl _ t.heap; rw [ht]; exact hP⟩, hS.F ht⟩) hS.2.2 dX1_turn_30
      · replace hf := if_t cc hf
        refine lv_iconst (v := 2) hx hb dX1_turn_20 (by decide) ?_
        cases Option.some.inj hf
        exact W.iret hx hb hr (fun t ht hW => ⟨⟨_, (), rfl, rfl, by show va_P D vwCl _ t.heap; rw [ht]; exact hP⟩, hS.F ht⟩) hS.2.2 dX1_turn_21
    · replace hf := if_t cc hf
      refine lv_iconst (v := 1) hx hb dX1_turn_8 (by decide) ?_
      cases Option.some.inj hf
      exact W.iret hx hb hr (fun t ht hW => ⟨⟨_, (), rfl, rfl, by show va_P D vwCl _ t.heap; rw [ht]; exact hP⟩, hS.F ht⟩) hS.2.2 dX1_turn_9
  have hl := lv_entry ([.ref (h 0), .int p1, .int p2]) (n := 3) (Nat.le_of_ble_eq_true rfl)
  rw [lg_entry_eq]
  exact main s.heap [] _ hP hD hS hl
theorem hd_X1_catchMoth : yX1_catchMoth.cls = RX1 ∧ yX1_catchMoth.cls ≠ "java/lang/invoke/MethodHandle" ∧ yX1_catchMoth.cls ≠ "java/lang/invoke/VarHandle" ∧ (parseMethodDescriptor yX1_catchMoth.desc).map (fun d => d.parameters.length) = some 1 := by decide +kernel
set_option maxHeartbeats 4000000 in
set_option maxRecDepth 100000 in
theorem c_X1_catchMoth (l : Launch) (D : va_G) (cyI cyJ cyZ cyO : ClassId) (h : Nat → Nat) (sz : Nat) (lands : Nat → Int32) (camphors : Nat → Int32) (there : Nat → Int32) (mothCells : Nat → Int32) (mothHeads : Nat → Int32) (threads : Nat → Int32) (sightNights : Nat → Int32) (sightCells : Nat → Int32) (sights : Int32) (night : Int32) (eaten : Int32) (p1 : Int32) (nf : Nat) (q : Int32 × (Nat → Int32)) (hf : g_X1_catchMoth nf p1 there = some q) : Met l yX1_catchMoth (Cond.code yX1_catchMoth cX1_catchMoth 2 (some .int) :: tbG) ({ frames := 1, cells := 0, slots := 0, locals := 21 } : Room) (va_Pc [.ref (h 0), .int p1] (pcB D (ty4 cyI cyJ cyZ cyO) sz (wX1 cyI cyJ cyZ cyO h lands camphors there mothCells mothHeads threads sightNights sightCells sights night eaten))) (qI D (wX1 cyI cyJ cyZ cyO h lands camphors q.2 mothCells mothHeads threads sightNights sightCells sights night eaten) q.1 (va_A (wX1 cyI cyJ cyZ cyO h lands camphors there mothCells mothHeads threads sightNights sightCells sights night eaten) sz)) 0 0 (va_A (wX1 cyI cyJ cyZ cyO h lands camphors there mothCells mothHeads threads sightNights sightCells sights night eaten) sz) := by
  refine Met.ofW (cc := cX1_catchMoth) (maxL := 2) (ret := (some .int)) (by decide) rfl ?_
  intro p e s m args below meth c s₁ B hml hv
  obtain ⟨rfl, hsz, hP, hK, hD0, hN⟩ := hv
  have hx := B.exec
  have hb := B.bytes
  have hr := B.returns
  have hT : ∀ w ∈ tbG, w.before ([.ref (h 0), .int p1] : List Value).toArray s = true := fun w h => atoms_spec (ws := (Cond.code yX1_catchMoth cX1_catchMoth 2 (some .int) :: tbG)) B.pre w (List.mem_cons_of_mem _ h)
  have hown : s.vm.findClass RX1 = some m.cls := findClass_of_methodNamed B.named
  have hlocks := B.notSynchronized
  subst hsz
  have hD := hD0.self (sz := s.heap.size)
  generalize hAe : va_A (wX1 cyI cyJ cyZ cyO h lands camphors there mothCells mothHeads threads sightNights sightCells sights night eaten) s.heap.size = A at hD ⊢
  have hA : ∀ q : Nat, s.heap.size ≤ q → A q := fun q h => by rw [← hAe]; exact Or.inr h
  have hS : va_S A s.heap s.heap [] := va_S.rf
  show W p l e ({ frames := 1, cells := 0, slots := 0, locals := 21 } : Room) s m ([.ref (h 0), .int p1] : List Value).toArray below meth c s.heap [] 0 0 (MQ below (qI D (wX1 cyI cyJ cyZ cyO h lands camphors q.2 mothCells mothHeads threads sightNights sightCells sights night eaten) q.1 A) ([.ref (h 0), .int p1] : List Value).toArray s 0 0 A) _
  have main : ∀ (H : Heap) (locs : List Loc) (ls : Array Slot), va_P D vwCl (wX1 cyI cyJ cyZ cyO h lands camphors there mothCells mothHeads threads sightNights sightCells sights night eaten) H → va_D A (wX1 cyI cyJ cyZ cyO h lands camphors there mothCells mothHeads threads sightNights sightCells sights night eaten) → va_S A s.heap H locs → lv_has ls 2 [(0, .ref (h 0)), (1, .int p1)] → W p l e ({ frames := 1, cells := 0, slots := 0, locals := 21 } : Room) s m ([.ref (h 0), .int p1] : List Value).toArray below meth c H locs 0 0 (MQ below (qI D (wX1 cyI cyJ cyZ cyO h lands camphors q.2 mothCells mothHeads threads sightNights sightCells sights night eaten) q.1 A) ([.ref (h 0), .int p1] : List Value).toArray s 0 0 A) (F0 m 0 ls []) := by
    intro H locs ls hP hD hS hl
    unfold g_X1_catchMoth at hf
    refine lv_aload_n hx hb dX1_catchMoth_0 rfl (lv_at hl 0 rfl) ?_
    refine lv_iload_n hx hb dX1_catchMoth_1 rfl (lv_at hl 1 rfl) ?_
    obtain ⟨q1, hq1, hf⟩ := bd_some hf
    have hC : [0, 1, 2, 3, 4, 5, 6, 7, 8].map (fun i => (wX1 cyI cyJ cyZ cyO h lands camphors there mothCells mothHeads threads sightNights sightCells sights night eaten)[i]?) = (wX1 cyI cyJ cyZ cyO h lands camphors there mothCells mothHeads threads sightNights sightCells sights night eaten).map some := rfl
    refine cl_i (rn_V (As := [.int p1]) (rest := []) (C := RX1) hx hb hml hown hT hK hN hP hD [0, 1, 2, 3, 4, 5, 6, 7, 8] hC rfl (c_X1_isThere l D cyI cyJ cyZ cyO h H.size lands camphors there mothCells mothHeads threads sightNights sightCells sights night eaten p1 nf q1 hq1) wm_X1_64 wi_X1_isThere wl_X1_isThere wz_X1 wc_X1_isThere hd_X1_isThere ⟨rfl, rfl⟩ ⟨Nat.le_of_ble_eq_true rfl, Nat.le_of_ble_eq_true rfl⟩ (q0 := 0) (ci := 1) rfl rfl rfl rfl hl.1 rfl (Nat.le_of_ble_eq_true rfl) dX1_catchMoth_2 ⟨Nat.zero_le _, Nat.zero_le _⟩) hP hD hS hA [0, 1, 2, 3, 4, 5, 6, 7, 8] hC [(true, 0), (true, 1), (true, 2), (true, 3), (true, 4), (true, 5), (true, 6), (true, 7), (true, 8)] (ws' := wX1 cyI cyJ cyZ cyO h lands camphors there mothCells mothHeads threads sightNights sightCells sights night eaten) rfl rfl rfl (fun H locs hP hD hS => ?_)
    refine lv_if_ne (tgt := 10) hx hb dX1_catchMoth_5 (by decide) (fun cc => ?_) (fun cc => ?_)
    · replace hf := if_f cc hf
      refine lv_aload_n hx hb dX1_catchMoth_10 rfl (lv_at hl 0 rfl) ?_
      refine va_get (ci := 1) (v := .ref (h 3)) (C := RX1) (T := TX1) (N := 11) hx hb hT hin_X1 hown hK hP 0 rfl rfl 2 (by decide) (hT _ wf_X1_18) (fun _ h9 => h9) rfl dX1_catchMoth_11 ?_
      refine lv_iload_n hx hb dX1_catchMoth_14 rfl (lv_at hl 1 rfl) ?_
      refine lv_iconst (v := 0) hx hb dX1_catchMoth_15 (by decide) ?_
      obtain ⟨hi, hf⟩ := ck_some hf
      obtain ⟨hz, hf⟩ := bz_some hf
      refine va_zast hx hb hK hP hD hS 3 2 rfl rfl hi dX1_catchMoth_16 (fun H locs hP hD hS => ?_)
      rw [(bz_nar hz).1] at hP hD
      have hP : va_P D vwCl (wX1 cyI cyJ cyZ cyO h lands camphors (upd there p1.toNatClampNeg 0) mothCells mothHeads threads sightNights sightCells sights night eaten) H := hP
      have hD : va_D A (wX1 cyI cyJ cyZ cyO h lands camphors (upd there p1.toNatClampNeg 0) mothCells mothHeads threads sightNights sightCells sights night eaten) := hD
      refine lv_iconst (v := 0) hx hb dX1_catchMoth_17 (by decide) ?_
      cases Option.some.inj hf
      exact W.iret hx hb hr (fun t ht hW => ⟨⟨_, (), rfl, rfl, by show va_P D vwCl _ t.heap; rw [ht]; exact hP⟩, hS.F ht⟩) hS.2.2 dX1_catchMoth_18
    · replace hf := if_t cc hf
      refine lv_iconst (v := 1) hx hb dX1_catchMoth_8 (by decide) ?_
      cases Option.some.inj hf
      exact W.iret hx hb hr (fun t ht hW => ⟨⟨_, (), rfl, rfl, by show va_P D vwCl _ t.heap; rw [ht]; exact hP⟩, hS.F ht⟩) hS.2.2 dX1_catchMoth_9
  have hl := lv_entry ([.ref (h 0), .int p1]) (n := 2) (Nat.le_of_ble_eq_true rfl)
  rw [lg_entry_eq]
  exact main s.heap [] _ hP hD hS hl
theorem hd_X1_layCamphor : yX1_layCamphor.cls = RX1 ∧ yX1_layCamphor.cls ≠ "java/lang/invoke/MethodHandle" ∧ yX1_layCamphor.cls ≠ "java/lang/invoke/VarHandle" ∧ (parseMethodDescriptor yX1_layCamphor.desc).map (fun d => d.parameters.length) = some 1 := by decide +kernel
set_option maxHeartbeats 4000000 in
set_option maxRecDepth 100000 in
theorem c_X1_layCamphor (l : Launch) (D : va_G) (cyI cyJ cyZ cyO : ClassId) (h : Nat → Nat) (sz : Nat) (lands : Nat → Int32) (camphors : Nat → Int32) (there : Nat → Int32) (mothCells : Nat → Int32) (mothHeads : Nat → Int32) (threads : Nat → Int32) (sightNights : Nat → Int32) (sightCells : Nat → Int32) (sights : Int32) (night : Int32) (eaten : Int32) (p1 : Int32) (nf : Nat) (q : Int32 × (Nat → Int32)) (hf : g_X1_layCamphor nf p1 camphors = some q) : Met l yX1_layCamphor (Cond.code yX1_layCamphor cX1_layCamphor 2 (some .int) :: tbG) ({ frames := 1, cells := 0, slots := 0, locals := 20 } : Room) (va_Pc [.ref (h 0), .int p1] (pcB D (ty4 cyI cyJ cyZ cyO) sz (wX1 cyI cyJ cyZ cyO h lands camphors there mothCells mothHeads threads sightNights sightCells sights night eaten))) (qI D (wX1 cyI cyJ cyZ cyO h lands q.2 there mothCells mothHeads threads sightNights sightCells sights night eaten) q.1 (va_A (wX1 cyI cyJ cyZ cyO h lands camphors there mothCells mothHeads threads sightNights sightCells sights night eaten) sz)) 0 0 (va_A (wX1 cyI cyJ cyZ cyO h lands camphors there mothCells mothHeads threads sightNights sightCells sights night eaten) sz) := by
  refine Met.ofW (cc := cX1_layCamphor) (maxL := 2) (ret := (some .int)) (by decide) rfl ?_
  intro p e s m args below meth c s₁ B hml hv
  obtain ⟨rfl, hsz, hP, hK, hD0, hN⟩ := hv
  have hx := B.exec
  have hb := B.bytes
  have hr := B.returns
  have hT : ∀ w ∈ tbG, w.before ([.ref (h 0), .int p1] : List Value).toArray s = true := fun w h => atoms_spec (ws := (Cond.code yX1_layCamphor cX1_layCamphor 2 (some .int) :: tbG)) B.pre w (List.mem_cons_of_mem _ h)
  have hown : s.vm.findClass RX1 = some m.cls := findClass_of_methodNamed B.named
  have hlocks := B.notSynchronized
  subst hsz
  have hD := hD0.self (sz := s.heap.size)
  generalize hAe : va_A (wX1 cyI cyJ cyZ cyO h lands camphors there mothCells mothHeads threads sightNights sightCells sights night eaten) s.heap.size = A at hD ⊢
  have hA : ∀ q : Nat, s.heap.size ≤ q → A q := fun q h => by rw [← hAe]; exact Or.inr h
  have hS : va_S A s.heap s.heap [] := va_S.rf
  show W p l e ({ frames := 1, cells := 0, slots := 0, locals := 20 } : Room) s m ([.ref (h 0), .int p1] : List Value).toArray below meth c s.heap [] 0 0 (MQ below (qI D (wX1 cyI cyJ cyZ cyO h lands q.2 there mothCells mothHeads threads sightNights sightCells sights night eaten) q.1 A) ([.ref (h 0), .int p1] : List Value).toArray s 0 0 A) _
  have main : ∀ (H : Heap) (locs : List Loc) (ls : Array Slot), va_P D vwCl (wX1 cyI cyJ cyZ cyO h lands camphors there mothCells mothHeads threads sightNights sightCells sights night eaten) H → va_D A (wX1 cyI cyJ cyZ cyO h lands camphors there mothCells mothHeads threads sightNights sightCells sights night eaten) → va_S A s.heap H locs → lv_has ls 2 [(0, .ref (h 0)), (1, .int p1)] → W p l e ({ frames := 1, cells := 0, slots := 0, locals := 20 } : Room) s m ([.ref (h 0), .int p1] : List Value).toArray below meth c H locs 0 0 (MQ below (qI D (wX1 cyI cyJ cyZ cyO h lands q.2 there mothCells mothHeads threads sightNights sightCells sights night eaten) q.1 A) ([.ref (h 0), .int p1] : List Value).toArray s 0 0 A) (F0 m 0 ls []) := by
    intro H locs ls hP hD hS hl
    unfold g_X1_layCamphor at hf
    refine lv_iload_n hx hb dX1_layCamphor_0 rfl (lv_at hl 1 rfl) ?_
    obtain ⟨q1, hq1, hf⟩ := bd_some hf
    have hC : ([] : List Nat).map (fun i => (wX1 cyI cyJ cyZ cyO h lands camphors there mothCells mothHeads threads sightNights sightCells sights night eaten)[i]?) = ([] : va_W).map some := rfl
    refine cl_i (rn_SN (As := [.int p1]) (rest := []) (host := RX8) hx hb hml hown hT hK hN hP hD [] hC rfl (c_X8_isCell l D cyI cyJ cyZ cyO H.size p1 nf q1 hq1) (by decide) wt_X8_isCell wz_X8 wc_X8_isCell hd_X8_isCell ⟨rfl, rfl⟩ ⟨Nat.le_of_ble_eq_true rfl, Nat.le_of_ble_eq_true rfl⟩ rfl hl.1 rfl (Nat.le_of_ble_eq_true rfl) dX1_layCamphor_1 ⟨Nat.zero_le _, Nat.zero_le _⟩) hP hD hS hA [] hC [(false, 0), (false, 1), (false, 2), (false, 3), (false, 4), (false, 5), (false, 6), (false, 7), (false, 8)] (ws' := wX1 cyI cyJ cyZ cyO h lands camphors there mothCells mothHeads threads sightNights sightCells sights night eaten) rfl rfl rfl (fun H locs hP hD hS => ?_)
    refine lv_if_eq (tgt := 17) hx hb dX1_layCamphor_4 (by decide) (fun cc => ?_) (fun cc => ?_)
    · replace hf := if_t cc hf
      refine lv_iconst (v := 3) hx hb dX1_layCamphor_17 (by decide) ?_
      cases Option.some.inj hf
      exact W.iret hx hb hr (fun t ht hW => ⟨⟨_, (), rfl, rfl, by show va_P D vwCl _ t.heap; rw [ht]; exact hP⟩, hS.F ht⟩) hS.2.2 dX1_layCamphor_18
    · replace hf := if_f cc hf
      refine lv_aload_n hx hb dX1_layCamphor_7 rfl (lv_at hl 0 rfl) ?_
      refine va_get (ci := 1) (v := .ref (h 2)) (C := RX1) (T := TX1) (N := 11) hx hb hT hin_X1 hown hK hP 0 rfl rfl 1 (by decide) (hT _ wf_X1_15) (fun _ h9 => h9) rfl dX1_layCamphor_8 ?_
      refine lv_iload_n hx hb dX1_layCamphor_11 rfl (lv_at hl 1 rfl) ?_
      obtain ⟨hi, hf⟩ := ck_some hf
      refine va_iald hx hb hK hP 2 0 rfl rfl hi dX1_layCamphor_12 ?_
      refine lv_iconst (v := 3) hx hb dX1_layCamphor_13 (by decide) ?_
      refine lv_icmp_lt (tgt := 19) hx hb dX1_layCamphor_14 (by decide) (fun cc => ?_) (fun cc => ?_)
      · replace hf := if_t cc hf
        refine lv_aload_n hx hb dX1_layCamphor_19 rfl (lv_at hl 0 rfl) ?_
        refine va_get (ci := 1) (v := .ref (h 2)) (C := RX1) (T := TX1) (N := 11) hx hb hT hin_X1 hown hK hP 0 rfl rfl 1 (by decide) (hT _ wf_X1_15) (fun _ h9 => h9) rfl dX1_layCamphor_20 ?_
        refine lv_iload_n hx hb dX1_layCamphor_23 rfl (lv_at hl 1 rfl) ?_
        refine lv_iconst (v := 3) hx hb dX1_layCamphor_24 (by decide) ?_
        obtain ⟨hi, hf⟩ := ck_some hf
        refine va_iast hx hb hK hP hD hS 2 0 rfl rfl hi dX1_layCamphor_25 (fun H locs hP hD hS => ?_)
        have hP : va_P D vwCl (wX1 cyI cyJ cyZ cyO h lands (upd camphors p1.toNatClampNeg 3) there mothCells mothHeads threads sightNights sightCells sights night eaten) H := hP
        have hD : va_D A (wX1 cyI cyJ cyZ cyO h lands (upd camphors p1.toNatClampNeg 3) there mothCells mothHeads threads sightNights sightCells sights night eaten) := hD
        refine lv_iconst (v := 0) hx hb dX1_layCamphor_26 (by decide) ?_
        cases Option.some.inj hf
        exact W.iret hx hb hr (fun t ht hW => ⟨⟨_, (), rfl, rfl, by show va_P D vwCl _ t.heap; rw [ht]; exact hP⟩, hS.F ht⟩) hS.2.2 dX1_layCamphor_27
      · replace hf := if_f cc hf
        refine lv_iconst (v := 3) hx hb dX1_layCamphor_17 (by decide) ?_
        cases Option.some.inj hf
        exact W.iret hx hb hr (fun t ht hW => ⟨⟨_, (), rfl, rfl, by show va_P D vwCl _ t.heap; rw [ht]; exact hP⟩, hS.F ht⟩) hS.2.2 dX1_layCamphor_18
  have hl := lv_entry ([.ref (h 0), .int p1]) (n := 2) (Nat.le_of_ble_eq_true rfl)
  rw [lg_entry_eq]
  exact main s.heap [] _ hP hD hS hl
theorem hd_X8_within : yX8_within.cls ≠ "java/lang/invoke/MethodHandle" ∧ yX8_within.cls ≠ "java/lang/invoke/VarHandle" ∧ (parseMethodDescriptor yX8_within.desc).map (fun d => d.parameters.length) = some 3 := by decide +kernel
set_option maxHeartbeats 4000000 in
set_option maxRecDepth 100000 in
theorem c_X8_within (l : Launch) (D : va_G) (cyI cyJ cyZ cyO : ClassId) (sz : Nat) (p0 : Int32) (p1 : Int32) (p2 : Int32) (nf : Nat) (q : Int32) (hf : g_X8_within nf p0 p1 p2 = some q) : Met l yX8_within (Cond.code yX8_within cX8_within 3 (some .boolean) :: tbG) ({ frames := 0, cells := 0, slots := 0, locals := 0 } : Room) (va_Pc [.int p0, .int p1, .int p2] (pcB D (ty4 cyI cyJ cyZ cyO) sz (([] : va_W)))) (qI D (([] : va_W)) q (va_A (([] : va_W)) sz)) 0 0 (va_A (([] : va_W)) sz) := by
  refine Met.ofW (cc := cX8_within) (maxL := 3) (ret := (some .boolean)) (by decide) rfl ?_
  intro p e s m args below meth c s₁ B hml hv
  obtain ⟨rfl, hsz, hP, hK, hD0, hN⟩ := hv
  have hx := B.exec
  have hb := B.bytes
  have hr := B.returns
  have hT : ∀ w ∈ tbG, w.before ([.int p0, .int p1, .int p2] : List Value).toArray s = true := fun w h => atoms_spec (ws := (Cond.code yX8_within cX8_within 3 (some .boolean) :: tbG)) B.pre w (List.mem_cons_of_mem _ h)
  have hown : s.vm.findClass RX8 = some m.cls := findClass_of_methodNamed B.named
  have hlocks := B.notSynchronized
  subst hsz
  have hD := hD0.self (sz := s.heap.size)
  generalize hAe : va_A (([] : va_W)) s.heap.size = A at hD ⊢
  have hA : ∀ q : Nat, s.heap.size ≤ q → A q := fun q h => by rw [← hAe]; exact Or.inr h
  have hS : va_S A s.heap s.heap [] := va_S.rf
  show W p l e ({ frames := 0, cells := 0, slots := 0, locals := 0 } : Room) s m ([.int p0, .int p1, .int p2] : List Value).toArray below meth c s.heap [] 0 0 (MQ below (qI D (([] : va_W)) q A) ([.int p0, .int p1, .int p2] : List Value).toArray s 0 0 A) _
  have main : ∀ (H : Heap) (locs : List Loc) (ls : Array Slot), va_P D vwCl (([] : va_W)) H → va_D A (([] : va_W)) → va_S A s.heap H locs → lv_has ls 3 [(0, .int p0), (1, .int p1), (2, .int p2)] → W p l e ({ frames := 0, cells := 0, slots := 0, locals := 0 } : Room) s m ([.int p0, .int p1, .int p2] : List Value).toArray below meth c H locs 0 0 (MQ below (qI D (([] : va_W)) q A) ([.int p0, .int p1, .int p2] : List Value).toArray s 0 0 A) (F0 m 0 ls []) := by
    intro H locs ls hP hD hS hl
    unfold g_X8_within at hf
    refine lv_iload_n hx hb dX8_within_0 rfl (lv_at hl 0 rfl) ?_
    refine lv_iload_n hx hb dX8_within_1 rfl (lv_at hl 1 rfl) ?_
    refine lv_icmp_lt (tgt := 14) hx hb dX8_within_2 (by decide) (fun cc => ?_) (fun cc => ?_)
    · replace hf := if_t cc hf
      refine lv_iconst (v := 0) hx hb dX8_within_14 (by decide) ?_
      obtain ⟨hz, hf⟩ := bz_some hf
      cases Option.some.inj hf
      exact W.zret hx hb hr (bz_nar hz).2 (fun t ht hW => ⟨⟨_, (), rfl, rfl, by show va_P D vwCl _ t.heap; rw [ht]; exact hP⟩, hS.F ht⟩) hS.2.2 dX8_within_15
    · replace hf := if_f cc hf
      refine lv_iload_n hx hb dX8_within_5 rfl (lv_at hl 0 rfl) ?_
      refine lv_iload_n hx hb dX8_within_6 rfl (lv_at hl 2 rfl) ?_
      refine lv_icmp_gt (tgt := 14) hx hb dX8_within_7 (by decide) (fun cc => ?_) (fun cc => ?_)
      · replace hf := if_t cc hf
        refine lv_iconst (v := 0) hx hb dX8_within_14 (by decide) ?_
        obtain ⟨hz, hf⟩ := bz_some hf
        cases Option.some.inj hf
        exact W.zret hx hb hr (bz_nar hz).2 (fun t ht hW => ⟨⟨_, (), rfl, rfl, by show va_P D vwCl _ t.heap; rw [ht]; exact hP⟩, hS.F ht⟩) hS.2.2 dX8_within_15
      · replace hf := if_f cc hf
        refine lv_iconst (v := 1) hx hb dX8_within_10 (by decide) ?_
        refine lv_goto (tgt := 15) hx hb dX8_within_11 (by decide) ?_
        obtain ⟨hz, hf⟩ := bz_some hf
        cases Option.some.inj hf
        exact W.zret hx hb hr (bz_nar hz).2 (fun t ht hW => ⟨⟨_, (), rfl, rfl, by show va_P D vwCl _ t.heap; rw [ht]; exact hP⟩, hS.F ht⟩) hS.2.2 dX8_within_15
  have hl := lv_entry ([.int p0, .int p1, .int p2]) (n := 3) (Nat.le_of_ble_eq_true rfl)
  rw [lg_entry_eq]
  exact main s.heap [] _ hP hD hS hl
theorem hd_X8_isThread : yX8_isThread.cls ≠ "java/lang/invoke/MethodHandle" ∧ yX8_isThread.cls ≠ "java/lang/invoke/VarHandle" ∧ (parseMethodDescriptor yX8_isThread.desc).map (fun d => d.parameters.length) = some 1 := by decide +kernel
set_option maxHeartbeats 4000000 in
set_option maxRecDepth 100000 in
theorem c_X8_isThread (l : Launch) (D : va_G) (cyI cyJ cyZ cyO : ClassId) (sz : Nat) (p0 : Int32) (nf : Nat) (q : Int32) (hf : g_X8_isThread nf p0 = some q) : Met l yX8_isThread (Cond.code yX8_isThread cX8_isThread 1 (some .boolean) :: tbG) ({ frames := 1, cells := 0, slots := 0, locals := 22 } : Room) (va_Pc [.int p0] (pcB D (ty4 cyI cyJ cyZ cyO) sz (([] : va_W)))) (qI D (([] : va_W)) q (va_A (([] : va_W)) sz)) 0 0 (va_A (([] : va_W)) sz) := by
  refine Met.ofW (cc := cX8_isThread) (maxL := 1) (ret := (some .boolean)) (by decide) rfl ?_
  intro p e s m args below meth c s₁ B hml hv
  obtain ⟨rfl, hsz, hP, hK, hD0, hN⟩ := hv
  have hx := B.exec
  have hb := B.bytes
  have hr := B.returns
  have hT : ∀ w ∈ tbG, w.before ([.int p0] : List Value).toArray s = true := fun w h => atoms_spec (ws := (Cond.code yX8_isThread cX8_isThread 1 (some .boolean) :: tbG)) B.pre w (List.mem_cons_of_mem _ h)
  have hown : s.vm.findClass RX8 = some m.cls := findClass_of_methodNamed B.named
  have hlocks := B.notSynchronized
  subst hsz
  have hD := hD0.self (sz := s.heap.size)
  generalize hAe : va_A (([] : va_W)) s.heap.size = A at hD ⊢
  have hA : ∀ q : Nat, s.heap.size ≤ q → A q := fun q h => by rw [← hAe]; exact Or.inr h
  have hS : va_S A s.heap s.heap [] := va_S.rf
  show W p l e ({ frames := 1, cells := 0, slots := 0, locals := 22 } : Room) s m ([.int p0] : List Value).toArray below meth c s.heap [] 0 0 (MQ below (qI D (([] : va_W)) q A) ([.int p0] : List Value).toArray s 0 0 A) _
  have main : ∀ (H : Heap) (locs : List Loc) (ls : Array Slot), va_P D vwCl (([] : va_W)) H → va_D A (([] : va_W)) → va_S A s.heap H locs → lv_has ls 1 [(0, .int p0)] → W p l e ({ frames := 1, cells := 0, slots := 0, locals := 22 } : Room) s m ([.int p0] : List Value).toArray below meth c H locs 0 0 (MQ below (qI D (([] : va_W)) q A) ([.int p0] : List Value).toArray s 0 0 A) (F0 m 0 ls []) := by
    intro H locs ls hP hD hS hl
    unfold g_X8_isThread at hf
    refine lv_iload_n hx hb dX8_isThread_0 rfl (lv_at hl 0 rfl) ?_
    refine lv_iconst (v := 1) hx hb dX8_isThread_1 (by decide) ?_
    refine lv_iconst (v := 3) hx hb dX8_isThread_2 (by decide) ?_
    obtain ⟨q1, hq1, hf⟩ := bd_some hf
    have hC : ([] : List Nat).map (fun i => (([] : va_W))[i]?) = ([] : va_W).map some := rfl
    refine cl_i (rn_S (As := [.int p0, .int 1, .int 3]) (rest := []) hx hb hml hown hT hK hN hP hD [] hC rfl (c_X8_within l D cyI cyJ cyZ cyO H.size p0 1 3 nf q1 hq1) wm_X8_80 wt_X8_within wz_X8 wc_X8_within hd_X8_within ⟨rfl, rfl⟩ ⟨Nat.le_of_ble_eq_true rfl, Nat.le_of_ble_eq_true rfl⟩ rfl hl.1 rfl (Nat.le_of_ble_eq_true rfl) dX8_isThread_3 ⟨Nat.zero_le _, Nat.zero_le _⟩) hP hD hS hA [] hC [] (ws' := ([] : va_W)) rfl rfl rfl (fun H locs hP hD hS => ?_)
    obtain ⟨hz, hf⟩ := bz_some hf
    cases Option.some.inj hf
    exact W.zret hx hb hr (bz_nar hz).2 (fun t ht hW => ⟨⟨_, (), rfl, rfl, by show va_P D vwCl _ t.heap; rw [ht]; exact hP⟩, hS.F ht⟩) hS.2.2 dX8_isThread_6
  have hl := lv_entry ([.int p0]) (n := 1) (Nat.le_of_ble_eq_true rfl)
  rw [lg_entry_eq]
  exact main s.heap [] _ hP hD hS hl
theorem hd_X1_landBy : yX1_landBy.cls ≠ "java/lang/invoke/MethodHandle" ∧ yX1_landBy.cls ≠ "java/lang/invoke/VarHandle" ∧ (parseMethodDescriptor yX1_landBy.desc).map (fun d => d.parameters.length) = some 1 := by decide +kernel
set_option maxHeartbeats 4000000 in
set_option maxRecDepth 100000 in
theorem c_X1_landBy (l : Launch) (D : va_G) (cyI cyJ cyZ cyO : ClassId) (sz : Nat) (p0 : Int32) (nf : Nat) (q : Int32) (hf : g_X1_landBy nf p0 = some q) : Met l yX1_landBy (Cond.code yX1_landBy cX1_landBy 1 (some .int) :: tbG) ({ frames := 0, cells := 0, slots := 0, locals := 0 } : Room) (va_Pc [.int p0] (pcB D (ty4 cyI cyJ cyZ cyO) sz (([] : va_W)))) (qI D (([] : va_W)) q (va_A (([] : va_W)) sz)) 0 0 (va_A (([] : va_W)) sz) := by
  refine Met.ofW (cc := cX1_landBy) (maxL := 1) (ret := (some .int)) (by decide) rfl ?_
  intro p e s m args below meth c s₁ B hml hv
  obtain ⟨rfl, hsz, hP, hK, hD0, hN⟩ := hv
  have hx := B.exec
  have hb := B.bytes
  have hr := B.returns
  have hT : ∀ w ∈ tbG, w.before ([.int p0] : List Value).toArray s = true := fun w h => atoms_spec (ws := (Cond.code yX1_landBy cX1_landBy 1 (some .int) :: tbG)) B.pre w (List.mem_cons_of_mem _ h)
  have hown : s.vm.findClass RX1 = some m.cls := findClass_of_methodNamed B.named
  have hlocks := B.notSynchronized
  subst hsz
  have hD := hD0.self (sz := s.heap.size)
  generalize hAe : va_A (([] : va_W)) s.heap.size = A at hD ⊢
  have hA : ∀ q : Nat, s.heap.size ≤ q → A q := fun q h => by rw [← hAe]; exact Or.inr h
  have hS : va_S A s.heap s.heap [] := va_S.rf
  show W p l e ({ frames := 0, cells := 0, slots := 0, locals := 0 } : Room) s m ([.int p0] : List Value).toArray below meth c s.heap [] 0 0 (MQ below (qI D (([] : va_W)) q A) ([.int p0] : List Value).toArray s 0 0 A) _
  have main : ∀ (H : Heap) (locs : List Loc) (ls : Array Slot), va_P D vwCl (([] : va_W)) H → va_D A (([] : va_W)) → va_S A s.heap H locs → lv_has ls 1 [(0, .int p0)] → W p l e ({ frames := 0, cells := 0, slots := 0, locals := 0 } : Room) s m ([.int p0] : List Value).toArray below meth c H locs 0 0 (MQ below (qI D (([] : va_W)) q A) ([.int p0] : List Value).toArray s 0 0 A) (F0 m 0 ls []) := by
    intro H locs ls hP hD hS hl
    unfold g_X1_landBy at hf
    refine lv_iload_n hx hb dX1_landBy_0 rfl (lv_at hl 0 rfl) ?_
    by_cases c0 : p0 = 1
    · replace hf := if_t c0 hf
      refine lv_lookup (off := 27) (tgt := 28) hx hb dX1_landBy_1 (by decide) (by rw [c0]; decide) (by decide) ?_
      refine lv_iconst (v := 2) hx hb dX1_landBy_28 (by decide) ?_
      cases Option.some.inj hf
      exact W.iret hx hb hr (fun t ht hW => ⟨⟨_, (), rfl, rfl, by show va_P D vwCl _ t.heap; rw [ht]; exact hP⟩, hS.F ht⟩) hS.2.2 dX1_landBy_29
    · replace hf := if_f c0 hf
      by_cases c1 : p0 = 2
      · replace hf := if_t c1 hf
        refine lv_lookup (off := 29) (tgt := 30) hx hb dX1_landBy_1 (by decide) (by rw [c1]; decide) (by decide) ?_
        refine lv_iconst (v := 3) hx hb dX1_landBy_30 (by decide) ?_
        cases Option.some.inj hf
        exact W.iret hx hb hr (fun t ht hW => ⟨⟨_, (), rfl, rfl, by show va_P D vwCl _ t.heap; rw [ht]; exact hP⟩, hS.F ht⟩) hS.2.2 dX1_landBy_31
      · replace hf := if_f c1 hf
        refine lv_lookup (off := 31) (tgt := 32) hx hb dX1_landBy_1 (by decide) (by show Op.lookupswitch.offset [(1, 27), (2, 29)] 31 _ = _; rw [lv_osw c0 (show (1 : Int32).toInt = 1 by decide), lv_osw c1 (show (2 : Int32).toInt = 2 by decide)]; rfl) (by decide) ?_
        refine lv_iconst (v := 5) hx hb dX1_landBy_32 (by decide) ?_
        cases Option.some.inj hf
        exact W.iret hx hb hr (fun t ht hW => ⟨⟨_, (), rfl, rfl, by show va_P D vwCl _ t.heap; rw [ht]; exact hP⟩, hS.F ht⟩) hS.2.2 dX1_landBy_33
  have hl := lv_entry ([.int p0]) (n := 1) (Nat.le_of_ble_eq_true rfl)
  rw [lg_entry_eq]
  exact main s.heap [] _ hP hD hS hl
theorem hd_X1_darn : yX1_darn.cls = RX1 ∧ yX1_darn.cls ≠ "java/lang/invoke/MethodHandle" ∧ yX1_darn.cls ≠ "java/lang/invoke/VarHandle" ∧ (parseMethodDescriptor yX1_darn.desc).map (fun d => d.parameters.length) = some 2 := by decide +kernel
set_option maxHeartbeats 4000000 in
set_option maxRecDepth 100000 in
theorem c_X1_darn (l : Launch) (D : va_G) (cyI cyJ cyZ cyO : ClassId) (h : Nat → Nat) (sz : Nat) (lands : Nat → Int32) (camphors : Nat → Int32) (there : Nat → Int32) (mothCells : Nat → Int32) (mothHeads : Nat → Int32) (threads : Nat → Int32) (sightNights : Nat → Int32) (sightCells : Nat → Int32) (sights : Int32) (night : Int32) (eaten : Int32) (p1 : Int32) (p2 : Int32) (nf : Nat) (q : Int32 × (Nat → Int32) × (Nat → Int32)) (hf : g_X1_darn nf p1 p2 lands threads = some q) : Met l yX1_darn (Cond.code yX1_darn cX1_darn 3 (some .int) :: tbG) ({ frames := 2, cells := 0, slots := 0, locals := 42 } : Room) (va_Pc [.ref (h 0), .int p1, .int p2] (pcB D (ty4 cyI cyJ cyZ cyO) sz (wX1 cyI cyJ cyZ cyO h lands camphors there mothCells mothHeads threads sightNights sightCells sights night eaten))) (qI D (wX1 cyI cyJ cyZ cyO h q.2.1 camphors there mothCells mothHeads q.2.2 sightNights sightCells sights night eaten) q.1 (va_A (wX1 cyI cyJ cyZ cyO h lands camphors there mothCells mothHeads threads sightNights sightCells sights night eaten) sz)) 0 0 (va_A (wX1 cyI cyJ cyZ cyO h lands camphors there mothCells mothHeads threads sightNights sightCells sights night eaten) sz) := by
  refine Met.ofW (cc := cX1_darn) (maxL := 3) (ret := (some .int)) (by decide) rfl ?_
  intro p e s m args below meth c s₁ B hml hv
  obtain ⟨rfl, hsz, hP, hK, hD0, hN⟩ := hv
  have hx := B.exec
  have hb := B.bytes
  have hr := B.returns
  have hT : ∀ w ∈ tbG, w.before ([.ref (h 0), .int p1, .int p2] : List Value).toArray s = true := fun w h => atoms_spec (ws := (Cond.code yX1_darn cX1_darn 3 (some .int) :: tbG)) B.pre w (List.mem_cons_of_mem _ h)
  have hown : s.vm.findClass RX1 = some m.cls := findClass_of_methodNamed B.named
  have hlocks := B.notSynchronized
  subst hsz
  have hD := hD0.self (sz := s.heap.size)
  generalize hAe : va_A (wX1 cyI cyJ cyZ cyO h lands camphors there mothCells mothHeads threads sightNights sightCells sights night eaten) s.heap.size = A at hD ⊢
  have hA : ∀ q : Nat, s.heap.size ≤ q → A q := fun q h => by rw [← hAe]; exact Or.inr h
  have hS : va_S A s.heap s.heap [] := va_S.rf
  show W p l e ({ frames := 2, cells := 0, slots := 0, locals := 42 } : Room) s m ([.ref (h 0), .int p1, .int p2] : List Value).toArray below meth c s.heap [] 0 0 (MQ below (qI D (wX1 cyI cyJ cyZ cyO h q.2.1 camphors there mothCells mothHeads q.2.2 sightNights sightCells sights night eaten) q.1 A) ([.ref (h 0), .int p1, .int p2] : List Value).toArray s 0 0 A) _
  have main : ∀ (H : Heap) (locs : List Loc) (ls : Array Slot), va_P D vwCl (wX1 cyI cyJ cyZ cyO h lands camphors there mothCells mothHeads threads sightNights sightCells sights night eaten) H → va_D A (wX1 cyI cyJ cyZ cyO h lands camphors there mothCells mothHeads threads sightNights sightCells sights night eaten) → va_S A s.heap H locs → lv_has ls 3 [(0, .ref (h 0)), (1, .int p1), (2, .int p2)] → W p l e ({ frames := 2, cells := 0, slots := 0, locals := 42 } : Room) s m ([.ref (h 0), .int p1, .int p2] : List Value).toArray below meth c H locs 0 0 (MQ below (qI D (wX1 cyI cyJ cyZ cyO h q.2.1 camphors there mothCells mothHeads q.2.2 sightNights sightCells sights night eaten) q.1 A) ([.ref (h 0), .int p1, .int p2] : List Value).toArray s 0 0 A) (F0 m 0 ls []) := by
    intro H locs ls hP hD hS hl
    unfold g_X1_darn at hf
    refine lv_iload_n hx hb dX1_darn_0 rfl (lv_at hl 1 rfl) ?_
    obtain ⟨q1, hq1, hf⟩ := bd_some hf
    have hC : ([] : List Nat).map (fun i => (wX1 cyI cyJ cyZ cyO h lands camphors there mothCells mothHeads threads sightNights sightCells sights night eaten)[i]?) = ([] : va_W).map some := rfl
    refine cl_i (rn_SN (As := [.int p1]) (rest := []) (host := RX8) hx hb hml hown hT hK hN hP hD [] hC rfl (c_X8_isCell l D cyI cyJ cyZ cyO H.size p1 nf q1 hq1) (by decide) wt_X8_isCell wz_X8 wc_X8_isCell hd_X8_isCell ⟨rfl, rfl⟩ ⟨Nat.le_of_ble_eq_true rfl, Nat.le_of_ble_eq_true rfl⟩ rfl hl.1 rfl (Nat.le_of_ble_eq_true rfl) dX1_darn_1 ⟨Nat.zero_le _, Nat.zero_le _⟩) hP hD hS hA [] hC [(false, 0), (false, 1), (false, 2), (false, 3), (false, 4), (false, 5), (false, 6), (false, 7), (false, 8)] (ws' := wX1 cyI cyJ cyZ cyO h lands camphors there mothCells mothHeads threads sightNights sightCells sights night eaten) rfl rfl rfl (fun H locs hP hD hS => ?_)
    refine lv_if_eq (tgt := 16) hx hb dX1_darn_4 (by decide) (fun cc => ?_) (fun cc => ?_)
    · replace hf := if_t cc hf
      refine lv_iconst (v := 4) hx hb dX1_darn_16 (by decide) ?_
      cases Option.some.inj hf
      exact W.iret hx hb hr (fun t ht hW => ⟨⟨_, (), rfl, rfl, by show va_P D vwCl _ t.heap; rw [ht]; exact hP⟩, hS.F ht⟩) hS.2.2 dX1_darn_17
    · replace hf := if_f cc hf
      refine lv_aload_n hx hb dX1_darn_7 rfl (lv_at hl 0 rfl) ?_
      refine va_get (ci := 1) (v := .ref (h 1)) (C := RX1) (T := TX1) (N := 11) hx hb hT hin_X1 hown hK hP 0 rfl rfl 0 (by decide) (hT _ wf_X1_9) (fun _ h9 => h9) rfl dX1_darn_8 ?_
      refine lv_iload_n hx hb dX1_darn_11 rfl (lv_at hl 1 rfl) ?_
      obtain ⟨hi, hf⟩ := ck_some hf
      refine va_iald hx hb hK hP 1 0 rfl rfl hi dX1_darn_12 ?_
      refine lv_if_eq (tgt := 18) hx hb dX1_darn_13 (by decide) (fun cc => ?_) (fun cc => ?_)
      · replace hf := if_t cc hf
        refine lv_iload_n hx hb dX1_darn_18 rfl (lv_at hl 2 rfl) ?_
        obtain ⟨q2, hq2, hf⟩ := bd_some hf
        have hC : ([] : List Nat).map (fun i => (wX1 cyI cyJ cyZ cyO h lands camphors there mothCells mothHeads threads sightNights sightCells sights night eaten)[i]?) = ([] : va_W).map some := rfl
        refine cl_i (rn_SN (As := [.int p2]) (rest := []) (host := RX8) hx hb hml hown hT hK hN hP hD [] hC rfl (c_X8_isThread l D cyI cyJ cyZ cyO H.size p2 nf q2 hq2) (by decide) wt_X8_isThread wz_X8 wc_X8_isThread hd_X8_isThread ⟨rfl, rfl⟩ ⟨Nat.le_of_ble_eq_true rfl, Nat.le_of_ble_eq_true rfl⟩ rfl hl.1 rfl (Nat.le_of_ble_eq_true rfl) dX1_darn_19 ⟨Nat.zero_le _, Nat.zero_le _⟩) hP hD hS hA [] hC [(false, 0), (false, 1), (false, 2), (false, 3), (false, 4), (false, 5), (false, 6), (false, 7), (false, 8)] (ws' := wX1 cyI cyJ cyZ cyO h lands camphors there mothCells mothHeads threads sightNights sightCells sights night eaten) rfl rfl rfl (fun H locs hP hD hS => ?_)
        refine lv_if_eq (tgt := 34) hx hb dX1_darn_22 (by decide) (fun cc => ?_) (fun cc => ?_)
        · replace hf := if_t cc hf
          refine lv_iconst (v := 5) hx hb dX1_darn_34 (by decide) ?_
          cases Option.some.inj hf
          exact W.iret hx hb hr (fun t ht hW => ⟨⟨_, (), rfl, rfl, by show va_P D vwCl _ t.heap; rw [ht]; exact hP⟩, hS.F ht⟩) hS.2.2 dX1_darn_35
        · replace hf := if_f cc hf
          refine lv_aload_n hx hb dX1_darn_25 rfl (lv_at hl 0 rfl) ?_
          refine va_get (ci := 1) (v := .ref (h 6)) (C := RX1) (T := TX1) (N := 11) hx hb hT hin_X1 hown hK hP 0 rfl rfl 5 (by decide) (hT _ wf_X1_28) (fun _ h9 => h9) rfl dX1_darn_26 ?_
          refine lv_iload_n hx hb dX1_darn_29 rfl (lv_at hl 2 rfl) ?_
          obtain ⟨hi, hf⟩ := ck_some hf
          refine va_iald hx hb hK hP 6 0 rfl rfl hi dX1_darn_30 ?_
          refine lv_if_ne (tgt := 36) hx hb dX1_darn_31 (by decide) (fun cc => ?_) (fun cc => ?_)
          · replace hf := if_f cc hf
            refine lv_aload_n hx hb dX1_darn_36 rfl (lv_at hl 0 rfl) ?_
            refine va_get (ci := 1) (v := .ref (h 6)) (C := RX1) (T := TX1) (N := 11) hx hb hT hin_X1 hown hK hP 0 rfl rfl 5 (by decide) (hT _ wf_X1_28) (fun _ h9 => h9) rfl dX1_darn_37 ?_
            refine lv_iload_n hx hb dX1_darn_40 rfl (lv_at hl 2 rfl) ?_
            refine lv_dup2_11 hx hb dX1_darn_41 rfl rfl ?_
            obtain ⟨hi, hf⟩ := ck_some hf
            refine va_iald hx hb hK hP 6 0 rfl rfl hi dX1_darn_42 ?_
            refine lv_iconst (v := 1) hx hb dX1_darn_43 (by decide) ?_
            refine lv_isub hx hb dX1_darn_44 ?_
            obtain ⟨hi, hf⟩ := ck_some hf
            refine va_iast hx hb hK hP hD hS 6 0 rfl rfl hi dX1_darn_45 (fun H locs hP hD hS => ?_)
            have hP : va_P D vwCl (wX1 cyI cyJ cyZ cyO h lands camphors there mothCells mothHeads (upd threads p2.toNatClampNeg ((threads p2.toNatClampNeg) - 1)) sightNights sightCells sights night eaten) H := hP
            have hD : va_D A (wX1 cyI cyJ cyZ cyO h lands camphors there mothCells mothHeads (upd threads p2.toNatClampNeg ((threads p2.toNatClampNeg) - 1)) sightNights sightCells sights night eaten) := hD
            refine lv_aload_n hx hb dX1_darn_46 rfl (lv_at hl 0 rfl) ?_
            refine va_get (ci := 1) (v := .ref (h 1)) (C := RX1) (T := TX1) (N := 11) hx hb hT hin_X1 hown hK hP 0 rfl rfl 0 (by decide) (hT _ wf_X1_9) (fun _ h9 => h9) rfl dX1_darn_47 ?_
            refine lv_iload_n hx hb dX1_darn_50 rfl (lv_at hl 1 rfl) ?_
            refine lv_iload_n hx hb dX1_darn_51 rfl (lv_at hl 2 rfl) ?_
            obtain ⟨q3, hq3, hf⟩ := bd_some hf
            have hC : ([] : List Nat).map (fun i => (wX1 cyI cyJ cyZ cyO h lands camphors there mothCells mothHeads (upd threads p2.toNatClampNeg ((threads p2.toNatClampNeg) - 1)) sightNights sightCells sights night eaten)[i]?) = ([] : va_W).map some := rfl
            refine cl_i (rn_S (As := [.int p2]) (rest := [.int p1, .ref (h 1)]) hx hb hml hown hT hK hN hP hD [] hC rfl (c_X1_landBy l D cyI cyJ cyZ cyO H.size p2 nf q3 hq3) wm_X1_70 wt_X1_landBy wz_X1 wc_X1_landBy hd_X1_landBy ⟨rfl, rfl⟩ ⟨Nat.le_of_ble_eq_true rfl, Nat.le_of_ble_eq_true rfl⟩ rfl hl.1 rfl (Nat.le_of_ble_eq_true rfl) dX1_darn_52 ⟨Nat.zero_le _, Nat.zero_le _⟩) hP hD hS hA [] hC [(false, 0), (false, 1), (false, 2), (false, 3), (false, 4), (false, 5), (false, 6), (false, 7), (false, 8)] (ws' := wX1 cyI cyJ cyZ cyO h lands camphors there mothCells mothHeads (upd threads p2.toNatClampNeg ((threads p2.toNatClampNeg) - 1)) sightNights sightCells sights night eaten) rfl rfl rfl (fun H locs hP hD hS => ?_)
            obtain ⟨hi, hf⟩ := ck_some hf
            refine va_iast hx hb hK hP hD hS 1 0 rfl rfl hi dX1_darn_55 (fun H locs hP hD hS => ?_)
            have hP : va_P D vwCl (wX1 cyI cyJ cyZ cyO h (upd lands p1.toNatClampNeg q3) camphors there mothCells mothHeads (upd threads p2.toNatClampNeg ((threads p2.toNatClampNeg) - 1)) sightNights sightCells sights night eaten) H := hP
            have hD : va_D A (wX1 cyI cyJ cyZ cyO h (upd lands p1.toNatClampNeg q3) camphors there mothCells mothHeads (upd threads p2.toNatClampNeg ((threads p2.toNatClampNeg) - 1)) sightNights sightCells sights night eaten) := hD
            refine lv_iconst (v := 0) hx hb dX1_darn_56 (by decide) ?_
            cases Option.some.inj hf
            exact W.iret hx hb hr (fun t ht hW => ⟨⟨_, (), rfl, rfl, by show va_P D vwCl _ t.heap; rw [ht]; exact hP⟩, hS.F ht⟩) hS.2.2 dX1_darn_57
          · replace hf := if_t cc hf
            refine lv_iconst (v := 5) hx hb dX1_darn_34 (by decide) ?_
            cases Option.some.inj hf
            exact W.iret hx hb hr (fun t ht hW => ⟨⟨_, (), rfl, rfl, by show va_P D vwCl _ t.heap; rw [ht]; exact hP⟩, hS.F ht⟩) hS.2.2 dX1_darn_35
      · replace hf := if_f cc hf
        refine lv_iconst (v := 4) hx hb dX1_darn_16 (by decide) ?_
        cases Option.some.inj hf
        exact W.iret hx hb hr (fun t ht hW => ⟨⟨_, (), rfl, rfl, by show va_P D vwCl _ t.heap; rw [ht]; exact hP⟩, hS.F ht⟩) hS.2.2 dX1_darn_17
  have hl := lv_entry ([.ref (h 0), .int p1, .int p2]) (n := 3) (Nat.le_of_ble_eq_true rfl)
  rw [lg_entry_eq]
  exact main s.heap [] _ hP hD hS hl
theorem hd_X1_eat : yX1_eat.cls = RX1 ∧ yX1_eat.cls ≠ "java/lang/invoke/MethodHandle" ∧ yX1_eat.cls ≠ "java/lang/invoke/VarHandle" ∧ (parseMethodDescriptor yX1_eat.desc).map (fun d => d.parameters.length) = some 1 := by decide +kernel
set_option maxHeartbeats 4000000 in
set_option maxRecDepth 100000 in
theorem c_X1_eat (l : Launch) (D : va_G) (cyI cyJ cyZ cyO : ClassId) (h : Nat → Nat) (sz : Nat) (lands : Nat → Int32) (camphors : Nat → Int32) (there : Nat → Int32) (mothCells : Nat → Int32) (mothHeads : Nat → Int32) (threads : Nat → Int32) (sightNights : Nat → Int32) (sightCells : Nat → Int32) (sights : Int32) (night : Int32) (eaten : Int32) (p1 : Int32) (nf : Nat) (q : (Nat → Int32) × Int32) (hf : g_X1_eat nf p1 lands eaten = some q) : Met l yX1_eat (Cond.code yX1_eat cX1_eat 2 none :: tbG) ({ frames := 0, cells := 0, slots := 0, locals := 0 } : Room) (va_Pc [.ref (h 0), .int p1] (pcB D (ty4 cyI cyJ cyZ cyO) sz (wX1 cyI cyJ cyZ cyO h lands camphors there mothCells mothHeads threads sightNights sightCells sights night eaten))) (qV D (wX1 cyI cyJ cyZ cyO h q.1 camphors there mothCells mothHeads threads sightNights sightCells sights night q.2) (va_A (wX1 cyI cyJ cyZ cyO h lands camphors there mothCells mothHeads threads sightNights sightCells sights night eaten) sz)) 0 0 (va_A (wX1 cyI cyJ cyZ cyO h lands camphors there mothCells mothHeads threads sightNights sightCells sights night eaten) sz) := by
  refine Met.ofW (cc := cX1_eat) (maxL := 2) (ret := none) (by decide) rfl ?_
  intro p e s m args below meth c s₁ B hml hv
  obtain ⟨rfl, hsz, hP, hK, hD0, hN⟩ := hv
  have hx := B.exec
  have hb := B.bytes
  have hr := B.returns
  have hT : ∀ w ∈ tbG, w.before ([.ref (h 0), .int p1] : List Value).toArray s = true := fun w h => atoms_spec (ws := (Cond.code yX1_eat cX1_eat 2 none :: tbG)) B.pre w (List.mem_cons_of_mem _ h)
  have hown : s.vm.findClass RX1 = some m.cls := findClass_of_methodNamed B.named
  have hlocks := B.notSynchronized
  subst hsz
  have hD := hD0.self (sz := s.heap.size)
  generalize hAe : va_A (wX1 cyI cyJ cyZ cyO h lands camphors there mothCells mothHeads threads sightNights sightCells sights night eaten) s.heap.size = A at hD ⊢
  have hA : ∀ q : Nat, s.heap.size ≤ q → A q := fun q h => by rw [← hAe]; exact Or.inr h
  have hS : va_S A s.heap s.heap [] := va_S.rf
  show W p l e ({ frames := 0, cells := 0, slots := 0, locals := 0 } : Room) s m ([.ref (h 0), .int p1] : List Value).toArray below meth c s.heap [] 0 0 (MQ below (qV D (wX1 cyI cyJ cyZ cyO h q.1 camphors there mothCells mothHeads threads sightNights sightCells sights night q.2) A) ([.ref (h 0), .int p1] : List Value).toArray s 0 0 A) _
  have b24 : ∀ (x1 : Int32) (lands : Nat → Int32) (eaten : Int32) (H : Heap) (locs : List Loc) (ls : Array Slot), va_P D vwCl (wX1 cyI cyJ cyZ cyO h lands camphors there mothCells mothHeads threads sightNights sightCells sights night eaten) H → va_D A (wX1 cyI cyJ cyZ cyO h lands camphors there mothCells mothHeads threads sightNights sightCells sights night eaten) → va_S A s.heap H locs → lv_has ls 2 [(0, .ref (h 0)), (1, .int x1)] → g_X1_eat_b24 nf x1 lands eaten = some q → W p l e ({ frames := 0, cells := 0, slots := 0, locals := 0 } : Room) s m ([.ref (h 0), .int p1] : List Value).toArray below meth c H locs 0 0 (MQ below (qV D (wX1 cyI cyJ cyZ cyO h q.1 camphors there mothCells mothHeads threads sightNights sightCells sights night q.2) A) ([.ref (h 0), .int p1] : List Value).toArray s 0 0 A) (F0 m 24 ls []) := by
    intro x1 lands eaten H locs ls hP hD hS hl hf
    unfold g_X1_eat_b24 at hf
    refine lv_aload_n hx hb dX1_eat_24 rfl (lv_at hl 0 rfl) ?_
    refine va_get (ci := 1) (v := .ref (h 1)) (C := RX1) (T := TX1) (N := 11) hx hb hT hin_X1 hown hK hP 0 rfl rfl 0 (by decide) (hT _ wf_X1_9) (fun _ h9 => h9) rfl dX1_eat_25 ?_
    refine lv_iload_n hx hb dX1_eat_28 rfl (lv_at hl 1 rfl) ?_
    refine lv_iconst (v := 0) hx hb dX1_eat_29 (by decide) ?_
    obtain ⟨hi, hf⟩ := ck_some hf
    refine va_iast hx hb hK hP hD hS 1 0 rfl rfl hi dX1_eat_30 (fun H locs hP hD hS => ?_)
    have hP : va_P D vwCl (wX1 cyI cyJ cyZ cyO h (upd lands x1.toNatClampNeg 0) camphors there mothCells mothHeads threads sightNights sightCells sights night eaten) H := hP
    have hD : va_D A (wX1 cyI cyJ cyZ cyO h (upd lands x1.toNatClampNeg 0) camphors there mothCells mothHeads threads sightNights sightCells sights night eaten) := hD
    cases Option.some.inj hf
    exact W.vret hx hb hr (fun t ht hW => ⟨⟨(), rfl, trivial, by show va_P D vwCl _ t.heap; rw [ht]; exact hP⟩, hS.F ht⟩) hS.2.2 dX1_eat_31
  have main : ∀ (H : Heap) (locs : List Loc) (ls : Array Slot), va_P D vwCl (wX1 cyI cyJ cyZ cyO h lands camphors there mothCells mothHeads threads sightNights sightCells sights night eaten) H → va_D A (wX1 cyI cyJ cyZ cyO h lands camphors there mothCells mothHeads threads sightNights sightCells sights night eaten) → va_S A s.heap H locs → lv_has ls 2 [(0, .ref (h 0)), (1, .int p1)] → W p l e ({ frames := 0, cells := 0, slots := 0, locals := 0 } : Room) s m ([.ref (h 0), .int p1] : List Value).toArray below meth c H locs 0 0 (MQ below (qV D (wX1 cyI cyJ cyZ cyO h q.1 camphors there mothCells mothHeads threads sightNights sightCells sights night q.2) A) ([.ref (h 0), .int p1] : List Value).toArray s 0 0 A) (F0 m 0 ls []) := by
    intro H locs ls hP hD hS hl
    unfold g_X1_eat at hf
    refine lv_aload_n hx hb dX1_eat_0 rfl (lv_at hl 0 rfl) ?_
    refine va_get (ci := 1) (v := .ref (h 1)) (C := RX1) (T := TX1) (N := 11) hx hb hT hin_X1 hown hK hP 0 rfl rfl 0 (by decide) (hT _ wf_X1_9) (fun _ h9 => h9) rfl dX1_eat_1 ?_
    refine lv_iload_n hx hb dX1_eat_4 rfl (lv_at hl 1 rfl) ?_
    obtain ⟨hi, hf⟩ := ck_some hf
    refine va_iald hx hb hK hP 1 0 rfl rfl hi dX1_eat_5 ?_
    refine lv_iconst (v := 4) hx hb dX1_eat_6 (by decide) ?_
    refine lv_icmp_ne (tgt := 24) hx hb dX1_eat_7 (by decide) (fun cc => ?_) (fun cc => ?_)
    · replace hf := if_f cc hf
      exact b24 p1 lands eaten H locs ls hP hD hS (lv_sub hl [0, 1] rfl) hf
    · replace hf := if_t cc hf
      refine lv_aload_n hx hb dX1_eat_10 rfl (lv_at hl 0 rfl) ?_
      refine va_get (ci := 1) (v := .int eaten) (C := RX1) (T := TX1) (N := 11) hx hb hT hin_X1 hown hK hP 0 rfl rfl 10 (by decide) (hT _ wf_X1_37) (fun _ h9 => h9) rfl dX1_eat_11 ?_
      refine lv_bipush (v := (-6)) hx hb dX1_eat_14 (by decide) ?_
      refine lv_icmp_ne (tgt := 24) hx hb dX1_eat_16 (by decide) (fun cc => ?_) (fun cc => ?_)
      · replace hf := if_f cc hf
        exact b24 p1 lands eaten H locs ls hP hD hS (lv_sub hl [0, 1] rfl) hf
      · replace hf := if_t cc hf
        refine lv_aload_n hx hb dX1_eat_19 rfl (lv_at hl 0 rfl) ?_
        refine lv_iload_n hx hb dX1_eat_20 rfl (lv_at hl 1 rfl) ?_
        refine va_put (ci := 1) (v := .int p1) (ty := .int) (C := RX1) (T := TX1) (N := 11) hx hb hT hin_X1 tyX1 tyX1_ok nmX1 hown hK hP hD hS 0 rfl rfl 10 (by decide) (hT _ wf_X1_37) (fun _ h9 => h9) rfl (tyX1_ok 10 (by decide)) rfl rfl (Nat.le_of_ble_eq_true rfl) dX1_eat_21 (fun H locs hP hD hS => ?_)
        have hP : va_P D vwCl (wX1 cyI cyJ cyZ cyO h lands camphors there mothCells mothHeads threads sightNights sightCells sights night p1) H := hP
        have hD : va_D A (wX1 cyI cyJ cyZ cyO h lands camphors there mothCells mothHeads threads sightNights sightCells sights night p1) := hD
        exact b24 p1 lands p1 H locs ls hP hD hS (lv_sub hl [0, 1] rfl) hf
  have hl := lv_entry ([.ref (h 0), .int p1]) (n := 2) (Nat.le_of_ble_eq_true rfl)
  rw [lg_entry_eq]
  exact main s.heap [] _ hP hD hS hl
theorem hd_X1_fly : yX1_fly.cls = RX1 ∧ yX1_fly.cls ≠ "java/lang/invoke/MethodHandle" ∧ yX1_fly.cls ≠ "java/lang/invoke/VarHandle" ∧ (parseMethodDescriptor yX1_fly.desc).map (fun d => d.parameters.length) = some 1 := by decide +kernel
set_option maxHeartbeats 4000000 in
set_option maxRecDepth 100000 in
theorem c_X1_fly (l : Launch) (D : va_G) (cyI cyJ cyZ cyO : ClassId) (h : Nat → Nat) (sz : Nat) (lands : Nat → Int32) (camphors : Nat → Int32) (there : Nat → Int32) (mothCells : Nat → Int32) (mothHeads : Nat → Int32) (threads : Nat → Int32) (sightNights : Nat → Int32) (sightCells : Nat → Int32) (sights : Int32) (night : Int32) (eaten : Int32) (p1 : Int32) (nf : Nat) (q : (Nat → Int32) × (Nat → Int32) × (Nat → Int32) × Int32) (hf : g_X1_fly nf p1 lands camphors mothCells mothHeads eaten = some q) : Met l yX1_fly (Cond.code yX1_fly cX1_fly 5 none :: tbG) ({ frames := 1, cells := 0, slots := 0, locals := 21 } : Room) (va_Pc [.ref (h 0), .int p1] (pcB D (ty4 cyI cyJ cyZ cyO) sz (wX1 cyI cyJ cyZ cyO h lands camphors there mothCells mothHeads threads sightNights sightCells sights night eaten))) (qV D (wX1 cyI cyJ cyZ cyO h q.1 camphors there q.2.1 q.2.2.1 threads sightNights sightCells sights night q.2.2.2) (va_A (wX1 cyI cyJ cyZ cyO h lands camphors there mothCells mothHeads threads sightNights sightCells sights night eaten) sz)) 0 0 (va_A (wX1 cyI cyJ cyZ cyO h lands camphors there mothCells mothHeads threads sightNights sightCells sights night eaten) sz) := by
  refine Met.ofW (cc := cX1_fly) (maxL := 5) (ret := none) (by decide) rfl ?_
  intro p e s m args below meth c s₁ B hml hv
  obtain ⟨rfl, hsz, hP, hK, hD0, hN⟩ := hv
  have hx := B.exec
  have hb := B.bytes
  have hr := B.returns
  have hT : ∀ w ∈ tbG, w.before ([.ref (h 0), .int p1] : List Value).toArray s = true := fun w h => atoms_spec (ws := (Cond.code yX1_fly cX1_fly 5 none :: tbG)) B.pre w (List.mem_cons_of_mem _ h)
  have hown : s.vm.findClass RX1 = some m.cls := findClass_of_methodNamed B.named
  have hlocks := B.notSynchronized
  subst hsz
  have hD := hD0.self (sz := s.heap.size)
  generalize hAe : va_A (wX1 cyI cyJ cyZ cyO h lands camphors there mothCells mothHeads threads sightNights sightCells sights night eaten) s.heap.size = A at hD ⊢
  have hA : ∀ q : Nat, s.heap.size ≤ q → A q := fun q h => by rw [← hAe]; exact Or.inr h
  have hS : va_S A s.heap s.heap [] := va_S.rf
  show W p l e ({ frames := 1, cells := 0, slots := 0, locals := 21 } : Room) s m ([.ref (h 0), .int p1] : List Value).toArray below meth c s.heap [] 0 0 (MQ below (qV D (wX1 cyI cyJ cyZ cyO h q.1 camphors there q.2.1 q.2.2.1 threads sightNights sightCells sights night q.2.2.2) A) ([.ref (h 0), .int p1] : List Value).toArray s 0 0 A) _
  have l2 : ∀ (n2 : Nat) (x1 : Int32) (x2 : Int32) (lands : Nat → Int32) (camphors : Nat → Int32) (mothCells : Nat → Int32) (mothHeads : Nat → Int32) (eaten : Int32) (H : Heap) (locs : List Loc) (ls : Array Slot), va_P D vwCl (wX1 cyI cyJ cyZ cyO h lands camphors there mothCells mothHeads threads sightNights sightCells sights night eaten) H → va_D A (wX1 cyI cyJ cyZ cyO h lands camphors there mothCells mothHeads threads sightNights sightCells sights night eaten) → va_S A s.heap H locs → lv_has ls 5 [(0, .ref (h 0)), (1, .int x1), (2, .int x2)] → g_X1_fly_l2 nf n2 x1 x2 lands camphors mothCells mothHeads eaten = some q → W p l e ({ frames := 1, cells := 0, slots := 0, locals := 21 } : Room) s m ([.ref (h 0), .int p1] : List Value).toArray below meth c H locs 0 0 (MQ below (qV D (wX1 cyI cyJ cyZ cyO h q.1 camphors there q.2.1 q.2.2.1 threads sightNights sightCells sights night q.2.2.2) A) ([.ref (h 0), .int p1] : List Value).toArray s 0 0 A) (F0 m 2 ls []) := by
    intro n2
    induction n2 with
    | zero =>
      intro x1 x2 lands camphors mothCells mothHeads eaten H locs ls hP hD hS hl hf
      rw [g_X1_fly_l2] at hf
      cases hf
    | succ n2 ih2 =>
      have b70 : ∀ (x1 : Int32) (x2 : Int32) (lands : Nat → Int32) (camphors : Nat → Int32) (mothCells : Nat → Int32) (mothHeads : Nat → Int32) (eaten : Int32) (H : Heap) (locs : List Loc) (ls : Array Slot), va_P D vwCl (wX1 cyI cyJ cyZ cyO h lands camphors there mothCells mothHeads threads sightNights sightCells sights night eaten) H → va_D A (wX1 cyI cyJ cyZ cyO h lands camphors there mothCells mothHeads threads sightNights sightCells sights night eaten) → va_S A s.heap H locs → lv_has ls 5 [(0, .ref (h 0)), (1, .int x1), (2, .int x2)] → g_X1_fly_b70 nf (g_X1_fly_l2 nf n2) x1 x2 lands camphors mothCells mothHeads eaten = some q → W p l e ({ frames := 1, cells := 0, slots := 0, locals := 21 } : Room) s m ([.ref (h 0), .int p1] : List Value).toArray below meth c H locs 0 0 (MQ below (qV D (wX1 cyI cyJ cyZ cyO h q.1 camphors there q.2.1 q.2.2.1 threads sightNights sightCells sights night q.2.2.2) A) ([.ref (h 0), .int p1] : List Value).toArray s 0 0 A) (F0 m 70 ls []) := by
        intro x1 x2 lands camphors mothCells mothHeads eaten H locs ls hP hD hS hl hf
        unfold g_X1_fly_b70 at hf
        refine lv_iinc (v := (x2 + 1)) (lv' := [(2, .int (x2 + 1)), (0, .ref (h 0)), (1, .int x1)]) hx hb dX1_fly_70 hl (k := 2) rfl rfl (by decide) rfl (fun ls hl => ?_)
        refine lv_goto (tgt := 2) hx hb dX1_fly_73 (by decide) ?_
        exact ih2 x1 (x2 + 1) lands camphors mothCells mothHeads eaten H locs ls hP hD hS (lv_sub hl [1, 2, 0] rfl) hf
      intro x1 x2 lands camphors mothCells mothHeads eaten H locs ls hP hD hS hl hf
      rw [g_X1_fly_l2] at hf
      refine lv_iload_n hx hb dX1_fly_2 rfl (lv_at hl 2 rfl) ?_
      refine lv_iconst (v := 4) hx hb dX1_fly_3 (by decide) ?_
      refine lv_icmp_ge (tgt := 76) hx hb dX1_fly_4 (by decide) (fun cc => ?_) (fun cc => ?_)
      · replace hf := if_t cc hf
        cases Option.some.inj hf
        exact W.vret hx hb hr (fun t ht hW => ⟨⟨(), rfl, trivial, by show va_P D vwCl _ t.heap; rw [ht]; exact hP⟩, hS.F ht⟩) hS.2.2 dX1_fly_76
      · replace hf := if_f cc hf
        refine lv_aload_n hx hb dX1_fly_7 rfl (lv_at hl 0 rfl) ?_
        refine va_get (ci := 1) (v := .ref (h 5)) (C := RX1) (T := TX1) (N := 11) hx hb hT hin_X1 hown hK hP 0 rfl rfl 4 (by decide) (hT _ wf_X1_25) (fun _ h9 => h9) rfl dX1_fly_8 ?_
        refine lv_iload_n hx hb dX1_fly_11 rfl (lv_at hl 1 rfl) ?_
        obtain ⟨hi, hf⟩ := ck_some hf
        refine va_iald hx hb hK hP 5 0 rfl rfl hi dX1_fly_12 ?_
        refine lv_iload_n hx hb dX1_fly_13 rfl (lv_at hl 2 rfl) ?_
        refine lv_iadd hx hb dX1_fly_14 ?_
        refine lv_iconst (v := 4) hx hb dX1_fly_15 (by decide) ?_
        refine lv_irem hx hb dX1_fly_16 (by decide) ?_
        refine lv_istore_n (lv' := [(3, .int (((mothHeads x1.toNatClampNeg) + x2) - ((mothHeads x1.toNatClampNeg) + x2) / 4 * 4)), (0, .ref (h 0)), (1, .int x1), (2, .int x2)]) hx hb dX1_fly_17 rfl hl (by decide) rfl (fun ls hl => ?_)
        refine lv_aload_n hx hb dX1_fly_18 rfl (lv_at hl 1 rfl) ?_
        refine va_get (ci := 1) (v := .ref (h 4)) (C := RX1) (T := TX1) (N := 11) hx hb hT hin_X1 hown hK hP 0 rfl rfl 3 (by decide) (hT _ wf_X1_22) (fun _ h9 => h9) rfl dX1_fly_19 ?_
        refine lv_iload_n hx hb dX1_fly_22 rfl (lv_at hl 2 rfl) ?_
        obtain ⟨hi, hf⟩ := ck_some hf
        refine va_iald hx hb hK hP 4 0 rfl rfl hi dX1_fly_23 ?_
        refine lv_iload_n hx hb dX1_fly_24 rfl (lv_at hl 0 rfl) ?_
        obtain ⟨q1, hq1, hf⟩ := bd_some hf
        have hC : ([] : List Nat).map (fun i => (wX1 cyI cyJ cyZ cyO h lands camphors there mothCells mothHeads threads sightNights sightCells sights night eaten)[i]?) = ([] : va_W).map some := rfl
        refine cl_i (rn_SN (As := [.int (mothCells x1.toNatClampNeg), .int (((mothHeads x1.toNatClampNeg) + x2) - ((mothHeads x1.toNatClampNeg) + x2) / 4 * 4)]) (rest := []) (host := RX8) hx hb hml hown hT hK hN hP hD [] hC rfl (c_X8_beside l D cyI cyJ cyZ cyO H.size (mothCells x1.toNatClampNeg) (((mothHeads x1.toNatClampNeg) + x2) - ((mothHeads x1.toNatClampNeg) + x2) / 4 * 4) nf q1 hq1) (by decide) wt_X8_beside wz_X8 wc_X8_beside hd_X8_beside ⟨rfl, rfl⟩ ⟨Nat.le_of_ble_eq_true rfl, Nat.le_of_ble_eq_true rfl⟩ rfl hl.1 rfl (Nat.le_of_ble_eq_true rfl) dX1_fly_25 ⟨Nat.zero_le _, Nat.zero_le _⟩) hP hD hS hA [] hC [(false, 0), (false, 1), (false, 2), (false, 3), (false, 4), (false, 5), (false, 6), (false, 7), (false, 8)] (ws' := wX1 cyI cyJ cyZ cyO h lands camphors there mothCells mothHeads threads sightNights sightCells sights night eaten) rfl rfl rfl (fun H locs hP hD hS => ?_)
        refine lv_istore (lv' := [(4, .int q1), (3, .int (((mothHeads x1.toNatClampNeg) + x2) - ((mothHeads x1.toNatClampNeg) + x2) / 4 * 4)), (0, .ref (h 0)), (1, .int x1), (2, .int x2)]) hx hb dX1_fly_28 hl (by decide) rfl (fun ls hl => ?_)
        refine lv_iload hx hb dX1_fly_30 (lv_at hl 0 rfl) ?_
        obtain ⟨q2, hq2, hf⟩ := bd_some hf
        have hC : ([] : List Nat).map (fun i => (wX1 cyI cyJ cyZ cyO h lands camphors there mothCells mothHeads threads sightNights sightCells sights night eaten)[i]?) = ([] : va_W).map some := rfl
        refine cl_i (rn_SN (As := [.int q1]) (rest := []) (host := RX8) hx hb hml hown hT hK hN hP hD [] hC rfl (c_X8_isCell l D cyI cyJ cyZ cyO H.size q1 nf q2 hq2) (by decide) wt_X8_isCell wz_X8 wc_X8_isCell hd_X8_isCell ⟨rfl, rfl⟩ ⟨Nat.le_of_ble_eq_true rfl, Nat.le_of_ble_eq_true rfl⟩ rfl hl.1 rfl (Nat.le_of_ble_eq_true rfl) dX1_fly_32 ⟨Nat.zero_le _, Nat.zero_le _⟩) hP hD hS hA [] hC [(false, 0), (false, 1), (false, 2), (false, 3), (false, 4), (false, 5), (false, 6), (false, 7), (false, 8)] (ws' := wX1 cyI cyJ cyZ cyO h lands camphors there mothCells mothHeads threads sightNights sightCells sights night eaten) rfl rfl rfl (fun H locs hP hD hS => ?_)
        refine lv_if_eq (tgt := 70) hx hb dX1_fly_35 (by decide) (fun cc => ?_) (fun cc => ?_)
        · replace hf := if_t cc hf
          exact b70 x1 x2 lands camphors mothCells mothHeads eaten H locs ls hP hD hS (lv_sub hl [2, 3, 4] rfl) hf
        · replace hf := if_f cc hf
          refine lv_aload_n hx hb dX1_fly_38 rfl (lv_at hl 2 rfl) ?_
          refine va_get (ci := 1) (v := .ref (h 2)) (C := RX1) (T := TX1) (N := 11) hx hb hT hin_X1 hown hK hP 0 rfl rfl 1 (by decide) (hT _ wf_X1_15) (fun _ h9 => h9) rfl dX1_fly_39 ?_
          refine lv_iload hx hb dX1_fly_42 (lv_at hl 0 rfl) ?_
          obtain ⟨hi, hf⟩ := ck_some hf
          refine va_iald hx hb hK hP 2 0 rfl rfl hi dX1_fly_44 ?_
          refine lv_if_ne (tgt := 70) hx hb dX1_fly_45 (by decide) (fun cc => ?_) (fun cc => ?_)
          · replace hf := if_f cc hf
            exact b70 x1 x2 lands camphors mothCells mothHeads eaten H locs ls hP hD hS (lv_sub hl [2, 3, 4] rfl) hf
          · replace hf := if_t cc hf
            refine lv_aload_n hx hb dX1_fly_48 rfl (lv_at hl 2 rfl) ?_
            refine va_get (ci := 1) (v := .ref (h 5)) (C := RX1) (T := TX1) (N := 11) hx hb hT hin_X1 hown hK hP 0 rfl rfl 4 (by decide) (hT _ wf_X1_25) (fun _ h9 => h9) rfl dX1_fly_49 ?_
            refine lv_iload_n hx hb dX1_fly_52 rfl (lv_at hl 3 rfl) ?_
            refine lv_iload_n hx hb dX1_fly_53 rfl (lv_at hl 1 rfl) ?_
            obtain ⟨hi, hf⟩ := ck_some hf
            refine va_iast hx hb hK hP hD hS 5 0 rfl rfl hi dX1_fly_54 (fun H locs hP hD hS => ?_)
            have hP : va_P D vwCl (wX1 cyI cyJ cyZ cyO h lands camphors there mothCells (upd mothHeads x1.toNatClampNeg (((mothHeads x1.toNatClampNeg) + x2) - ((mothHeads x1.toNatClampNeg) + x2) / 4 * 4)) threads sightNights sightCells sights night eaten) H := hP
            have hD : va_D A (wX1 cyI cyJ cyZ cyO h lands camphors there mothCells (upd mothHeads x1.toNatClampNeg (((mothHeads x1.toNatClampNeg) + x2) - ((mothHeads x1.toNatClampNeg) + x2) / 4 * 4)) threads sightNights sightCells sights night eaten) := hD
            refine lv_aload_n hx hb dX1_fly_55 rfl (lv_at hl 2 rfl) ?_
            refine va_get (ci := 1) (v := .ref (h 4)) (C := RX1) (T := TX1) (N := 11) hx hb hT hin_X1 hown hK hP 0 rfl rfl 3 (by decide) (hT _ wf_X1_22) (fun _ h9 => h9) rfl dX1_fly_56 ?_
            refine lv_iload_n hx hb dX1_fly_59 rfl (lv_at hl 3 rfl) ?_
            refine lv_iload hx hb dX1_fly_60 (lv_at hl 0 rfl) ?_
            obtain ⟨hi, hf⟩ := ck_some hf
            refine va_iast hx hb hK hP hD hS 4 0 rfl rfl hi dX1_fly_62 (fun H locs hP hD hS => ?_)
            have hP : va_P D vwCl (wX1 cyI cyJ cyZ cyO h lands camphors there (upd mothCells x1.toNatClampNeg q1) (upd mothHeads x1.toNatClampNeg (((mothHeads x1.toNatClampNeg) + x2) - ((mothHeads x1.toNatClampNeg) + x2) / 4 * 4)) threads sightNights sightCells sights night eaten) H := hP
            have hD : va_D A (wX1 cyI cyJ cyZ cyO h lands camphors there (upd mothCells x1.toNatClampNeg q1) (upd mothHeads x1.toNatClampNeg (((mothHeads x1.toNatClampNeg) + x2) - ((mothHeads x1.toNatClampNeg) + x2) / 4 * 4)) threads sightNights sightCells sights night eaten) := hD
            refine lv_aload_n hx hb dX1_fly_63 rfl (lv_at hl 2 rfl) ?_
            refine lv_iload hx hb dX1_fly_64 (lv_at hl 0 rfl) ?_
            obtain ⟨q3, hq3, hf⟩ := bd_some hf
            have hC : [0, 1, 2, 3, 4, 5, 6, 7, 8].map (fun i => (wX1 cyI cyJ cyZ cyO h lands camphors there (upd mothCells x1.toNatClampNeg q1) (upd mothHeads x1.toNatClampNeg (((mothHeads x1.toNatClampNeg) + x2) - ((mothHeads x1.toNatClampNeg) + x2) / 4 * 4)) threads sightNights sightCells sights night eaten)[i]?) = (wX1 cyI cyJ cyZ cyO h lands camphors there (upd mothCells x1.toNatClampNeg q1) (upd mothHeads x1.toNatClampNeg (((mothHeads x1.toNatClampNeg) + x2) - ((mothHeads x1.toNatClampNeg) + x2) / 4 * 4)) threads sightNights sightCells sights night eaten).map some := rfl
            refine cl_v (rn_V (As := [.int q1]) (rest := []) (C := RX1) hx hb hml hown hT hK hN hP hD [0, 1, 2, 3, 4, 5, 6, 7, 8] hC rfl (c_X1_eat l D cyI cyJ cyZ cyO h H.size lands camphors there (upd mothCells x1.toNatClampNeg q1) (upd mothHeads x1.toNatClampNeg (((mothHeads x1.toNatClampNeg) + x2) - ((mothHeads x1.toNatClampNeg) + x2) / 4 * 4)) threads sightNights sightCells sights night eaten q1 nf q3 hq3) wm_X1_82 wi_X1_eat wl_X1_eat wz_X1 wc_X1_eat hd_X1_eat ⟨rfl, rfl⟩ ⟨Nat.le_of_ble_eq_true rfl, Nat.le_of_ble_eq_true rfl⟩ (q0 := 0) (ci := 1) rfl rfl rfl rfl hl.1 rfl (Nat.le_of_ble_eq_true rfl) dX1_fly_66 ⟨Nat.zero_le _, Nat.zero_le _⟩) hP hD hS hA [0, 1, 2, 3, 4, 5, 6, 7, 8] hC [(true, 0), (true, 1), (true, 2), (true, 3), (true, 4), (true, 5), (true, 6), (true, 7), (true, 8)] (ws' := wX1 cyI cyJ cyZ cyO h q3.1 camphors there (upd mothCells x1.toNatClampNeg q1) (upd mothHeads x1.toNatClampNeg (((mothHeads x1.toNatClampNeg) + x2) - ((mothHeads x1.toNatClampNeg) + x2) / 4 * 4)) threads sightNights sightCells sights night q3.2) rfl rfl rfl (fun H locs hP hD hS => ?_)
            cases Option.some.inj hf
            exact W.vret hx hb hr (fun t ht hW => ⟨⟨(), rfl, trivial, by show va_P D vwCl _ t.heap; rw [ht]; exact hP⟩, hS.F ht⟩) hS.2.2 dX1_fly_69
  have main : ∀ (H : Heap) (locs : List Loc) (ls : Array Slot), va_P D vwCl (wX1 cyI cyJ cyZ cyO h lands camphors there mothCells mothHeads threads sightNights sightCells sights night eaten) H → va_D A (wX1 cyI cyJ cyZ cyO h lands camphors there mothCells mothHeads threads sightNights sightCells sights night eaten) → va_S A s.heap H locs → lv_has ls 5 [(0, .ref (h 0)), (1, .int p1)] → W p l e ({ frames := 1, cells := 0, slots := 0, locals := 21 } : Room) s m ([.ref (h 0), .int p1] : List Value).toArray below meth c H locs 0 0 (MQ below (qV D (wX1 cyI cyJ cyZ cyO h q.1 camphors there q.2.1 q.2.2.1 threads sightNights sightCells sights night q.2.2.2) A) ([.ref (h 0), .int p1] : List Value).toArray s 0 0 A) (F0 m 0 ls []) := by
    intro H locs ls hP hD hS hl
    unfold g_X1_fly at hf
    refine lv_iconst (v := 0) hx hb dX1_fly_0 (by decide) ?_
    refine lv_istore_n (lv' := [(2, .int 0), (0, .ref (h 0)), (1, .int p1)]) hx hb dX1_fly_1 rfl hl (by decide) rfl (fun ls hl => ?_)
    exact l2 nf p1 0 lands camphors mothCells mothHeads eaten H locs ls hP hD hS (lv_sub hl [1, 2, 0] rfl) hf
  have hl := lv_entry ([.ref (h 0), .int p1]) (n := 5) (Nat.le_of_ble_eq_true rfl)
  rw [lg_entry_eq]
  exact main s.heap [] _ hP hD hS hl
theorem hd_X1_passNight : yX1_passNight.cls = RX1 ∧ yX1_passNight.cls ≠ "java/lang/invoke/MethodHandle" ∧ yX1_passNight.cls ≠ "java/lang/invoke/VarHandle" ∧ (parseMethodDescriptor yX1_passNight.desc).map (fun d => d.parameters.length) = some 0 := by decide +kernel
set_option maxHeartbeats 4000000 in
set_option maxRecDepth 100000 in
theorem c_X1_passNight (l : Launch) (D : va_G) (cyI cyJ cyZ cyO : ClassId) (h : Nat → Nat) (sz : Nat) (lands : Nat → Int32) (camphors : Nat → Int32) (there : Nat → Int32) (mothCells : Nat → Int32) (mothHeads : Nat → Int32) (threads : Nat → Int32) (sightNights : Nat → Int32) (sightCells : Nat → Int32) (sights : Int32) (night : Int32) (eaten : Int32) (nf : Nat) (q : Int32 × (Nat → Int32) × (Nat → Int32) × (Nat → Int32) × (Nat → Int32) × Int32 × Int32) (hf : g_X1_passNight nf lands camphors there mothCells mothHeads night eaten = some q) : Met l yX1_passNight (Cond.code yX1_passNight cX1_passNight 2 (some .int) :: tbG) ({ frames := 2, cells := 0, slots := 0, locals := 45 } : Room) (va_Pc [.ref (h 0)] (pcB D (ty4 cyI cyJ cyZ cyO) sz (wX1 cyI cyJ cyZ cyO h lands camphors there mothCells mothHeads threads sightNights sightCells sights night eaten))) (qI D (wX1 cyI cyJ cyZ cyO h q.2.1 q.2.2.1 there q.2.2.2.1 q.2.2.2.2.1 threads sightNights sightCells sights q.2.2.2.2.2.1 q.2.2.2.2.2.2) q.1 (va_A (wX1 cyI cyJ cyZ cyO h lands camphors there mothCells mothHeads threads sightNights sightCells sights night eaten) sz)) 0 0 (va_A (wX1 cyI cyJ cyZ cyO h lands camphors there mothCells mothHeads threads sightNights sightCells sights night eaten) sz) := by
  refine Met.ofW (cc := cX1_passNight) (maxL := 2) (ret := (some .int)) (by decide) rfl ?_
  intro p e s m args below meth c s₁ B hml hv
  obtain ⟨rfl, hsz, hP, hK, hD0, hN⟩ := hv
  have hx := B.exec
  have hb := B.bytes
  have hr := B.returns
  have hT : ∀ w ∈ tbG, w.before ([.ref (h 0)] : List Value).toArray s = true := fun w h => atoms_spec (ws := (Cond.code yX1_passNight cX1_passNight 2 (some .int) :: tbG)) B.pre w (List.mem_cons_of_mem _ h)
  have hown : s.vm.findClass RX1 = some m.cls := findClass_of_methodNamed B.named
  have hlocks := B.notSynchronized
  subst hsz
  have hD := hD0.self (sz := s.heap.size)
  generalize hAe : va_A (wX1 cyI cyJ cyZ cyO h lands camphors there mothCells mothHeads threads sightNights sightCells sights night eaten) s.heap.size = A at hD ⊢
  have hA : ∀ q : Nat, s.heap.size ≤ q → A q := fun q h => by rw [← hAe]; exact Or.inr h
  have hS : va_S A s.heap s.heap [] := va_S.rf
  show W p l e ({ frames := 2, cells := 0, slots := 0, locals := 45 } : Room) s m ([.ref (h 0)] : List Value).toArray below meth c s.heap [] 0 0 (MQ below (qI D (wX1 cyI cyJ cyZ cyO h q.2.1 q.2.2.1 there q.2.2.2.1 q.2.2.2.2.1 threads sightNights sightCells sights q.2.2.2.2.2.1 q.2.2.2.2.2.2) q.1 A) ([.ref (h 0)] : List Value).toArray s 0 0 A) _
  have l47 : ∀ (n47 : Nat) (x1 : Int32) (lands : Nat → Int32) (camphors : Nat → Int32) (there : Nat → Int32) (mothCells : Nat → Int32) (mothHeads : Nat → Int32) (night : Int32) (eaten : Int32) (H : Heap) (locs : List Loc) (ls : Array Slot), va_P D vwCl (wX1 cyI cyJ cyZ cyO h lands camphors there mothCells mothHeads threads sightNights sightCells sights night eaten) H → va_D A (wX1 cyI cyJ cyZ cyO h lands camphors there mothCells mothHeads threads sightNights sightCells sights night eaten) → va_S A s.heap H locs → lv_has ls 2 [(0, .ref (h 0)), (1, .int x1)] → g_X1_passNight_l47 nf n47 x1 lands camphors there mothCells mothHeads night eaten = some q → W p l e ({ frames := 2, cells := 0, slots := 0, locals := 45 } : Room) s m ([.ref (h 0)] : List Value).toArray below meth c H locs 0 0 (MQ below (qI D (wX1 cyI cyJ cyZ cyO h q.2.1 q.2.2.1 there q.2.2.2.1 q.2.2.2.2.1 threads sightNights sightCells sights q.2.2.2.2.2.1 q.2.2.2.2.2.2) q.1 A) ([.ref (h 0)] : List Value).toArray s 0 0 A) (F0 m 47 ls []) := by
    intro n47
    induction n47 with
    | zero =>
      intro x1 lands camphors there mothCells mothHeads night eaten H locs ls hP hD hS hl hf
      rw [g_X1_passNight_l47] at hf
      cases hf
    | succ n47 ih47 =>
      intro x1 lands camphors there mothCells mothHeads night eaten H locs ls hP hD hS hl hf
      rw [g_X1_passNight_l47] at hf
      refine lv_iload_n hx hb dX1_passNight_47 rfl (lv_at hl 1 rfl) ?_
      refine lv_bipush (v := 25) hx hb dX1_passNight_48 (by decide) ?_
      refine lv_icmp_ge (tgt := 77) hx hb dX1_passNight_50 (by decide) (fun cc => ?_) (fun cc => ?_)
      · replace hf := if_t cc hf
        refine lv_aload_n hx hb dX1_passNight_77 rfl (lv_at hl 0 rfl) ?_
        refine lv_dup hx hb dX1_passNight_78 rfl ?_
        refine va_get (ci := 1) (v := .int night) (C := RX1) (T := TX1) (N := 11) hx hb hT hin_X1 hown hK hP 0 rfl rfl 9 (by decide) (hT _ wf_X1_44) (fun _ h9 => h9) rfl dX1_passNight_79 ?_
        refine lv_iconst (v := 1) hx hb dX1_passNight_82 (by decide) ?_
        refine lv_iadd hx hb dX1_passNight_83 ?_
        refine va_put (ci := 1) (v := .int (night + 1)) (ty := .int) (C := RX1) (T := TX1) (N := 11) hx hb hT hin_X1 tyX1 tyX1_ok nmX1 hown hK hP hD hS 0 rfl rfl 9 (by decide) (hT _ wf_X1_44) (fun _ h9 => h9) rfl (tyX1_ok 9 (by decide)) rfl rfl (Nat.le_of_ble_eq_true rfl) dX1_passNight_84 (fun H locs hP hD hS => ?_)
        have hP : va_P D vwCl (wX1 cyI cyJ cyZ cyO h lands camphors there mothCells mothHeads threads sightNights sightCells sights (night + 1) eaten) H := hP
        have hD : va_D A (wX1 cyI cyJ cyZ cyO h lands camphors there mothCells mothHeads threads sightNights sightCells sights (night + 1) eaten) := hD
        refine lv_iconst (v := 0) hx hb dX1_passNight_87 (by decide) ?_
        cases Option.some.inj hf
        exact W.iret hx hb hr (fun t ht hW => ⟨⟨_, (), rfl, rfl, by show va_P D vwCl _ t.heap; rw [ht]; exact hP⟩, hS.F ht⟩) hS.2.2 dX1_passNight_88
      · replace hf := if_f cc hf
        refine lv_aload_n hx hb dX1_passNight_53 rfl (lv_at hl 0 rfl) ?_
        refine va_get (ci := 1) (v := .ref (h 2)) (C := RX1) (T := TX1) (N := 11) hx hb hT hin_X1 hown hK hP 0 rfl rfl 1 (by decide) (hT _ wf_X1_15) (fun _ h9 => h9) rfl dX1_passNight_54 ?_
        refine lv_iload_n hx hb dX1_passNight_57 rfl (lv_at hl 1 rfl) ?_
        refine lv_iconst (v := 0) hx hb dX1_passNight_58 (by decide) ?_
        refine lv_aload_n hx hb dX1_passNight_59 rfl (lv_at hl 0 rfl) ?_
        refine va_get (ci := 1) (v := .ref (h 2)) (C := RX1) (T := TX1) (N := 11) hx hb hT hin_X1 hown hK hP 0 rfl rfl 1 (by decide) (hT _ wf_X1_15) (fun _ h9 => h9) rfl dX1_passNight_60 ?_
        refine lv_iload_n hx hb dX1_passNight_63 rfl (lv_at hl 1 rfl) ?_
        obtain ⟨hi, hf⟩ := ck_some hf
        refine va_iald hx hb hK hP 2 0 rfl rfl hi dX1_passNight_64 ?_
        refine lv_iconst (v := 1) hx hb dX1_passNight_65 (by decide) ?_
        refine lv_isub hx hb dX1_passNight_66 ?_
        refine va_mmax (x := 0) (y := ((camphors x1.toNatClampNeg) - 1)) hx hb (by rw [hml]; exact hl.1.symm) hown (hT _ wm_X1_77) (hT _ wt_J9_max_7cf53) (hT _ wz_J9) (hT _ wc_J9_max_7cf53) (Nat.le_of_ble_eq_true rfl) (Nat.le_of_ble_eq_true rfl) (Nat.zero_le _) (Nat.zero_le _) dX1_passNight_67 ?_
        obtain ⟨hi, hf⟩ := ck_some hf
        refine va_iast hx hb hK hP hD hS 2 0 rfl rfl hi dX1_passNight_70 (fun H locs hP hD hS => ?_)
        have hP : va_P D vwCl (wX1 cyI cyJ cyZ cyO h lands (upd camphors x1.toNatClampNeg (if 0 < ((camphors x1.toNatClampNeg) - 1) then ((camphors x1.toNatClampNeg) - 1) else 0)) there mothCells mothHeads threads sightNights sightCells sights night eaten) H := hP
        have hD : va_D A (wX1 cyI cyJ cyZ cyO h lands (upd camphors x1.toNatClampNeg (if 0 < ((camphors x1.toNatClampNeg) - 1) then ((camphors x1.toNatClampNeg) - 1) else 0)) there mothCells mothHeads threads sightNights sightCells sights night eaten) := hD
        refine lv_iinc (v := (x1 + 1)) (lv' := [(1, .int (x1 + 1)), (0, .ref (h 0))]) hx hb dX1_passNight_71 hl (k := 1) rfl rfl (by decide) rfl (fun ls hl => ?_)
        refine lv_goto (tgt := 47) hx hb dX1_passNight_74 (by decide) ?_
        exact ih47 (x1 + 1) lands (upd camphors x1.toNatClampNeg (if 0 < ((camphors x1.toNatClampNeg) - 1) then ((camphors x1.toNatClampNeg) - 1) else 0)) there mothCells mothHeads night eaten H locs ls hP hD hS (lv_sub hl [1, 0] rfl) hf
  have l20 : ∀ (n20 : Nat) (x1 : Int32) (lands : Nat → Int32) (camphors : Nat → Int32) (there : Nat → Int32) (mothCells : Nat → Int32) (mothHeads : Nat → Int32) (night : Int32) (eaten : Int32) (H : Heap) (locs : List Loc) (ls : Array Slot), va_P D vwCl (wX1 cyI cyJ cyZ cyO h lands camphors there mothCells mothHeads threads sightNights sightCells sights night eaten) H → va_D A (wX1 cyI cyJ cyZ cyO h lands camphors there mothCells mothHeads threads sightNights sightCells sights night eaten) → va_S A s.heap H locs → lv_has ls 2 [(0, .ref (h 0)), (1, .int x1)] → g_X1_passNight_l20 nf n20 x1 lands camphors there mothCells mothHeads night eaten = some q → W p l e ({ frames := 2, cells := 0, slots := 0, locals := 45 } : Room) s m ([.ref (h 0)] : List Value).toArray below meth c H locs 0 0 (MQ below (qI D (wX1 cyI cyJ cyZ cyO h q.2.1 q.2.2.1 there q.2.2.2.1 q.2.2.2.2.1 threads sightNights sightCells sights q.2.2.2.2.2.1 q.2.2.2.2.2.2) q.1 A) ([.ref (h 0)] : List Value).toArray s 0 0 A) (F0 m 20 ls []) := by
    intro n20
    induction n20 with
    | zero =>
      intro x1 lands camphors there mothCells mothHeads night eaten H locs ls hP hD hS hl hf
      rw [g_X1_passNight_l20] at hf
      cases hf
    | succ n20 ih20 =>
      have b39 : ∀ (x1 : Int32) (lands : Nat → Int32) (camphors : Nat → Int32) (there : Nat → Int32) (mothCells : Nat → Int32) (mothHeads : Nat → Int32) (night : Int32) (eaten : Int32) (H : Heap) (locs : List Loc) (ls : Array Slot), va_P D vwCl (wX1 cyI cyJ cyZ cyO h lands camphors there mothCells mothHeads threads sightNights sightCells sights night eaten) H → va_D A (wX1 cyI cyJ cyZ cyO h lands camphors there mothCells mothHeads threads sightNights sightCells sights night eaten) → va_S A s.heap H locs → lv_has ls 2 [(0, .ref (h 0)), (1, .int x1)] → g_X1_passNight_b39 nf (g_X1_passNight_l20 nf n20) x1 lands camphors there mothCells mothHeads night eaten = some q → W p l e ({ frames := 2, cells := 0, slots := 0, locals := 45 } : Room) s m ([.ref (h 0)] : List Value).toArray below meth c H locs 0 0 (MQ below (qI D (wX1 cyI cyJ cyZ cyO h q.2.1 q.2.2.1 there q.2.2.2.1 q.2.2.2.2.1 threads sightNights sightCells sights q.2.2.2.2.2.1 q.2.2.2.2.2.2) q.1 A) ([.ref (h 0)] : List Value).toArray s 0 0 A) (F0 m 39 ls []) := by
        intro x1 lands camphors there mothCells mothHeads night eaten H locs ls hP hD hS hl hf
        unfold g_X1_passNight_b39 at hf
        refine lv_iinc (v := (x1 + 1)) (lv' := [(1, .int (x1 + 1)), (0, .ref (h 0))]) hx hb dX1_passNight_39 hl (k := 1) rfl rfl (by decide) rfl (fun ls hl => ?_)
        refine lv_goto (tgt := 20) hx hb dX1_passNight_42 (by decide) ?_
        exact ih20 (x1 + 1) lands camphors there mothCells mothHeads night eaten H locs ls hP hD hS (lv_sub hl [1, 0] rfl) hf
      intro x1 lands camphors there mothCells mothHeads night eaten H locs ls hP hD hS hl hf
      rw [g_X1_passNight_l20] at hf
      refine lv_iload_n hx hb dX1_passNight_20 rfl (lv_at hl 1 rfl) ?_
      refine lv_iconst (v := 4) hx hb dX1_passNight_21 (by decide) ?_
      refine lv_icmp_ge (tgt := 45) hx hb dX1_passNight_22 (by decide) (fun cc => ?_) (fun cc => ?_)
      · replace hf := if_t cc hf
        refine lv_iconst (v := 0) hx hb dX1_passNight_45 (by decide) ?_
        refine lv_istore_n (lv' := [(1, .int 0), (0, .ref (h 0))]) hx hb dX1_passNight_46 rfl hl (by decide) rfl (fun ls hl => ?_)
        exact l47 nf 0 lands camphors there mothCells mothHeads night eaten H locs ls hP hD hS (lv_sub hl [1, 0] rfl) hf
      · replace hf := if_f cc hf
        refine lv_aload_n hx hb dX1_passNight_25 rfl (lv_at hl 0 rfl) ?_
        refine va_get (ci := 1) (v := .ref (h 3)) (C := RX1) (T := TX1) (N := 11) hx hb hT hin_X1 hown hK hP 0 rfl rfl 2 (by decide) (hT _ wf_X1_18) (fun _ h9 => h9) rfl dX1_passNight_26 ?_
        refine lv_iload_n hx hb dX1_passNight_29 rfl (lv_at hl 1 rfl) ?_
        obtain ⟨hi, hf⟩ := ck_some hf
        refine va_zald hx hb hK hP 3 2 rfl rfl hi dX1_passNight_30 ?_
        refine lv_if_eq (tgt := 39) hx hb dX1_passNight_31 (by decide) (fun cc => ?_) (fun cc => ?_)
        · replace hf := if_t cc hf
          exact b39 x1 lands camphors there mothCells mothHeads night eaten H locs ls hP hD hS (lv_sub hl [0, 1] rfl) hf
        · replace hf := if_f cc hf
          refine lv_aload_n hx hb dX1_passNight_34 rfl (lv_at hl 0 rfl) ?_
          refine lv_iload_n hx hb dX1_passNight_35 rfl (lv_at hl 1 rfl) ?_
          obtain ⟨q1, hq1, hf⟩ := bd_some hf
          have hC : [0, 1, 2, 3, 4, 5, 6, 7, 8].map (fun i => (wX1 cyI cyJ cyZ cyO h lands camphors there mothCells mothHeads threads sightNights sightCells sights night eaten)[i]?) = (wX1 cyI cyJ cyZ cyO h lands camphors there mothCells mothHeads threads sightNights sightCells sights night eaten).map some := rfl
          refine cl_v (rn_V (As := [.int x1]) (rest := []) (C := RX1) hx hb hml hown hT hK hN hP hD [0, 1, 2, 3, 4, 5, 6, 7, 8] hC rfl (c_X1_fly l D cyI cyJ cyZ cyO h H.size lands camphors there mothCells mothHeads threads sightNights sightCells sights night eaten x1 nf q1 hq1) wm_X1_73 wi_X1_fly wl_X1_fly wz_X1 wc_X1_fly hd_X1_fly ⟨rfl, rfl⟩ ⟨Nat.le_of_ble_eq_true rfl, Nat.le_of_ble_eq_true rfl⟩ (q0 := 0) (ci := 1) rfl rfl rfl rfl hl.1 rfl (Nat.le_of_ble_eq_true rfl) dX1_passNight_36 ⟨Nat.zero_le _, Nat.zero_le _⟩) hP hD hS hA [0, 1, 2, 3, 4, 5, 6, 7, 8] hC [(true, 0), (true, 1), (true, 2), (true, 3), (true, 4), (true, 5), (true, 6), (true, 7), (true, 8)] (ws' := wX1 cyI cyJ cyZ cyO h q1.1 camphors there q1.2.1 q1.2.2.1 threads sightNights sightCells sights night q1.2.2.2) rfl rfl rfl (fun H locs hP hD hS => ?_)
          exact b39 x1 q1.1 camphors there q1.2.1 q1.2.2.1 night q1.2.2.2 H locs ls hP hD hS (lv_sub hl [0, 1] rfl) hf
  have main : ∀ (H : Heap) (locs : List Loc) (ls : Array Slot), va_P D vwCl (wX1 cyI cyJ cyZ cyO h lands camphors there mothCells mothHeads threads sightNights sightCells sights night eaten) H → va_D A (wX1 cyI cyJ cyZ cyO h lands camphors there mothCells mothHeads threads sightNights sightCells sights night eaten) → va_S A s.heap H locs → lv_has ls 2 [(0, .ref (h 0))] → W p l e ({ frames := 2, cells := 0, slots := 0, locals := 45 } : Room) s m ([.ref (h 0)] : List Value).toArray below meth c H locs 0 0 (MQ below (qI D (wX1 cyI cyJ cyZ cyO h q.2.1 q.2.2.1 there q.2.2.2.1 q.2.2.2.2.1 threads sightNights sightCells sights q.2.2.2.2.2.1 q.2.2.2.2.2.2) q.1 A) ([.ref (h 0)] : List Value).toArray s 0 0 A) (F0 m 0 ls []) := by
    intro H locs ls hP hD hS hl
    unfold g_X1_passNight at hf
    refine lv_aload_n hx hb dX1_passNight_0 rfl (lv_at hl 0 rfl) ?_
    refine va_get (ci := 1) (v := .int night) (C := RX1) (T := TX1) (N := 11) hx hb hT hin_X1 hown hK hP 0 rfl rfl 9 (by decide) (hT _ wf_X1_44) (fun _ h9 => h9) rfl dX1_passNight_1 ?_
    refine lv_bipush (v := 99) hx hb dX1_passNight_4 (by decide) ?_
    refine lv_icmp_lt (tgt := 12) hx hb dX1_passNight_6 (by decide) (fun cc => ?_) (fun cc => ?_)
    · replace hf := if_t cc hf
      refine lv_aload_n hx hb dX1_passNight_12 rfl (lv_at hl 0 rfl) ?_
      refine lv_bipush (v := (-6)) hx hb dX1_passNight_13 (by decide) ?_
      refine va_put (ci := 1) (v := .int (-6)) (ty := .int) (C := RX1) (T := TX1) (N := 11) hx hb hT hin_X1 tyX1 tyX1_ok nmX1 hown hK hP hD hS 0 rfl rfl 10 (by decide) (hT _ wf_X1_37) (fun _ h9 => h9) rfl (tyX1_ok 10 (by decide)) rfl rfl (Nat.le_of_ble_eq_true rfl) dX1_passNight_15 (fun H locs hP hD hS => ?_)
      have hP : va_P D vwCl (wX1 cyI cyJ cyZ cyO h lands camphors there mothCells mothHeads threads sightNights sightCells sights night (-6)) H := hP
      have hD : va_D A (wX1 cyI cyJ cyZ cyO h lands camphors there mothCells mothHeads threads sightNights sightCells sights night (-6)) := hD
      refine lv_iconst (v := 0) hx hb dX1_passNight_18 (by decide) ?_
      refine lv_istore_n (lv' := [(1, .int 0), (0, .ref (h 0))]) hx hb dX1_passNight_19 rfl hl (by decide) rfl (fun ls hl => ?_)
      exact l20 nf 0 lands camphors there mothCells mothHeads night (-6) H locs ls hP hD hS (lv_sub hl [1, 0] rfl) hf
    · replace hf := if_f cc hf
      refine lv_bipush (v := 6) hx hb dX1_passNight_9 (by decide) ?_
      cases Option.some.inj hf
      exact W.iret hx hb hr (fun t ht hW => ⟨⟨_, (), rfl, rfl, by show va_P D vwCl _ t.heap; rw [ht]; exact hP⟩, hS.F ht⟩) hS.2.2 dX1_passNight_11
  have hl := lv_entry ([.ref (h 0)]) (n := 2) (Nat.le_of_ble_eq_true rfl)
  rw [lg_entry_eq]
  exact main s.heap [] _ hP hD hS hl
theorem hd_X1_draw : yX1_draw.cls = RX1 ∧ yX1_draw.cls ≠ "java/lang/invoke/MethodHandle" ∧ yX1_draw.cls ≠ "java/lang/invoke/VarHandle" ∧ (parseMethodDescriptor yX1_draw.desc).map (fun d => d.parameters.length) = some 2 := by decide +kernel
set_option maxHeartbeats 4000000 in
set_option maxRecDepth 100000 in
theorem c_X1_draw (l : Launch) (D : va_G) (cyI cyJ cyZ cyO : ClassId) (h : Nat → Nat) (sz : Nat) (lands : Nat → Int32) (camphors : Nat → Int32) (there : Nat → Int32) (mothCells : Nat → Int32) (mothHeads : Nat → Int32) (threads : Nat → Int32) (sightNights : Nat → Int32) (sightCells : Nat → Int32) (sights : Int32) (night : Int32) (eaten : Int32) (p1 : Int32) (p2 : Int32) (nf : Nat) (q : (Nat → Int32) × (Nat → Int32) × (Nat → Int32) × (Nat → Int32) × (Nat → Int32) × Int32 × Int32) (hf : g_X1_draw nf p1 p2 lands camphors there mothCells mothHeads threads night eaten = some q) : Met l yX1_draw (Cond.code yX1_draw cX1_draw 3 none :: tbG) ({ frames := 3, cells := 0, slots := 0, locals := 66 } : Room) (va_Pc [.ref (h 0), .int p1, .int p2] (pcB D (ty4 cyI cyJ cyZ cyO) sz (wX1 cyI cyJ cyZ cyO h lands camphors there mothCells mothHeads threads sightNights sightCells sights night eaten))) (qV D (wX1 cyI cyJ cyZ cyO h q.1 q.2.1 there q.2.2.1 q.2.2.2.1 q.2.2.2.2.1 sightNights sightCells sights q.2.2.2.2.2.1 q.2.2.2.2.2.2) (va_A (wX1 cyI cyJ cyZ cyO h lands camphors there mothCells mothHeads threads sightNights sightCells sights night eaten) sz)) 0 0 (va_A (wX1 cyI cyJ cyZ cyO h lands camphors there mothCells mothHeads threads sightNights sightCells sights night eaten) sz) := by
  refine Met.ofW (cc := cX1_draw) (maxL := 3) (ret := none) (by decide) rfl ?_
  intro p e s m args below meth c s₁ B hml hv
  obtain ⟨rfl, hsz, hP, hK, hD0, hN⟩ := hv
  have hx := B.exec
  have hb := B.bytes
  have hr := B.returns
  have hT : ∀ w ∈ tbG, w.before ([.ref (h 0), .int p1, .int p2] : List Value).toArray s = true := fun w h => atoms_spec (ws := (Cond.code yX1_draw cX1_draw 3 none :: tbG)) B.pre w (List.mem_cons_of_mem _ h)
  have hown : s.vm.findClass RX1 = some m.cls := findClass_of_methodNamed B.named
  have hlocks := B.notSynchronized
  subst hsz
  have hD := hD0.self (sz := s.heap.size)
  generalize hAe : va_A (wX1 cyI cyJ cyZ cyO h lands camphors there mothCells mothHeads threads sightNights sightCells sights night eaten) s.heap.size = A at hD ⊢
  have hA : ∀ q : Nat, s.heap.size ≤ q → A q := fun q h => by rw [← hAe]; exact Or.inr h
  have hS : va_S A s.heap s.heap [] := va_S.rf
  show W p l e ({ frames := 3, cells := 0, slots := 0, locals := 66 } : Room) s m ([.ref (h 0), .int p1, .int p2] : List Value).toArray below meth c s.heap [] 0 0 (MQ below (qV D (wX1 cyI cyJ cyZ cyO h q.1 q.2.1 there q.2.2.1 q.2.2.2.1 q.2.2.2.2.1 sightNights sightCells sights q.2.2.2.2.2.1 q.2.2.2.2.2.2) A) ([.ref (h 0), .int p1, .int p2] : List Value).toArray s 0 0 A) _
  have b60 : ∀ (x2 : Int32) (lands : Nat → Int32) (camphors : Nat → Int32) (there : Nat → Int32) (mothCells : Nat → Int32) (mothHeads : Nat → Int32) (threads : Nat → Int32) (night : Int32) (eaten : Int32) (H : Heap) (locs : List Loc) (ls : Array Slot), va_P D vwCl (wX1 cyI cyJ cyZ cyO h lands camphors there mothCells mothHeads threads sightNights sightCells sights night eaten) H → va_D A (wX1 cyI cyJ cyZ cyO h lands camphors there mothCells mothHeads threads sightNights sightCells sights night eaten) → va_S A s.heap H locs → lv_has ls 3 [(0, .ref (h 0)), (2, .int x2)] → g_X1_draw_b60 nf x2 lands camphors there mothCells mothHeads threads night eaten = some q → W p l e ({ frames := 3, cells := 0, slots := 0, locals := 66 } : Room) s m ([.ref (h 0), .int p1, .int p2] : List Value).toArray below meth c H locs 0 0 (MQ below (qV D (wX1 cyI cyJ cyZ cyO h q.1 q.2.1 there q.2.2.1 q.2.2.2.1 q.2.2.2.2.1 sightNights sightCells sights q.2.2.2.2.2.1 q.2.2.2.2.2.2) A) ([.ref (h 0), .int p1, .int p2] : List Value).toArray s 0 0 A) (F0 m 60 ls []) := by
    intro x2 lands camphors there mothCells mothHeads threads night eaten H locs ls hP hD hS hl hf
    unfold g_X1_draw_b60 at hf
    refine lv_aload_n hx hb dX1_draw_60 rfl (lv_at hl 0 rfl) ?_
    refine lv_iload_n hx hb dX1_draw_61 rfl (lv_at hl 1 rfl) ?_
    refine lv_bipush (v := 25) hx hb dX1_draw_62 (by decide) ?_
    refine lv_irem hx hb dX1_draw_64 (by decide) ?_
    refine lv_iconst (v := 1) hx hb dX1_draw_65 (by decide) ?_
    refine lv_iload_n hx hb dX1_draw_66 rfl (lv_at hl 1 rfl) ?_
    refine lv_bipush (v := 25) hx hb dX1_draw_67 (by decide) ?_
    refine lv_idiv hx hb dX1_draw_69 (by decide) ?_
    refine lv_iconst (v := 3) hx hb dX1_draw_70 (by decide) ?_
    refine lv_irem hx hb dX1_draw_71 (by decide) ?_
    refine lv_iadd hx hb dX1_draw_72 ?_
    obtain ⟨q1, hq1, hf⟩ := bd_some hf
    have hC : [0, 1, 2, 3, 4, 5, 6, 7, 8].map (fun i => (wX1 cyI cyJ cyZ cyO h lands camphors there mothCells mothHeads threads sightNights sightCells sights night eaten)[i]?) = (wX1 cyI cyJ cyZ cyO h lands camphors there mothCells mothHeads threads sightNights sightCells sights night eaten).map some := rfl
    refine cl_i (rn_V (As := [.int (x2 - x2 / 25 * 25), .int (1 + ((x2 / 25) - (x2 / 25) / 3 * 3))]) (rest := []) (C := RX1) hx hb hml hown hT hK hN hP hD [0, 1, 2, 3, 4, 5, 6, 7, 8] hC rfl (c_X1_darn l D cyI cyJ cyZ cyO h H.size lands camphors there mothCells mothHeads threads sightNights sightCells sights night eaten (x2 - x2 / 25 * 25) (1 + ((x2 / 25) - (x2 / 25) / 3 * 3)) nf q1 hq1) wm_X1_91 wi_X1_darn wl_X1_darn wz_X1 wc_X1_darn hd_X1_darn ⟨rfl, rfl⟩ ⟨Nat.le_of_ble_eq_true rfl, Nat.le_of_ble_eq_true rfl⟩ (q0 := 0) (ci := 1) rfl rfl rfl rfl hl.1 rfl (Nat.le_of_ble_eq_true rfl) dX1_draw_73 ⟨Nat.zero_le _, Nat.zero_le _⟩) hP hD hS hA [0, 1, 2, 3, 4, 5, 6, 7, 8] hC [(true, 0), (true, 1), (true, 2), (true, 3), (true, 4), (true, 5), (true, 6), (true, 7), (true, 8)] (ws' := wX1 cyI cyJ cyZ cyO h q1.2.1 camphors there mothCells mothHeads q1.2.2 sightNights sightCells sights night eaten) rfl rfl rfl (fun H locs hP hD hS => ?_)
    refine lv_pop hx hb dX1_draw_76 rfl ?_
    refine lv_goto (tgt := 85) hx hb dX1_draw_77 (by decide) ?_
    cases Option.some.inj hf
    exact W.vret hx hb hr (fun t ht hW => ⟨⟨(), rfl, trivial, by show va_P D vwCl _ t.heap; rw [ht]; exact hP⟩, hS.F ht⟩) hS.2.2 dX1_draw_85
  have main : ∀ (H : Heap) (locs : List Loc) (ls : Array Slot), va_P D vwCl (wX1 cyI cyJ cyZ cyO h lands camphors there mothCells mothHeads threads sightNights sightCells sights night eaten) H → va_D A (wX1 cyI cyJ cyZ cyO h lands camphors there mothCells mothHeads threads sightNights sightCells sights night eaten) → va_S A s.heap H locs → lv_has ls 3 [(0, .ref (h 0)), (1, .int p1), (2, .int p2)] → W p l e ({ frames := 3, cells := 0, slots := 0, locals := 66 } : Room) s m ([.ref (h 0), .int p1, .int p2] : List Value).toArray below meth c H locs 0 0 (MQ below (qV D (wX1 cyI cyJ cyZ cyO h q.1 q.2.1 there q.2.2.1 q.2.2.2.1 q.2.2.2.2.1 sightNights sightCells sights q.2.2.2.2.2.1 q.2.2.2.2.2.2) A) ([.ref (h 0), .int p1, .int p2] : List Value).toArray s 0 0 A) (F0 m 0 ls []) := by
    intro H locs ls hP hD hS hl
    unfold g_X1_draw at hf
    refine lv_iload_n hx hb dX1_draw_0 rfl (lv_at hl 1 rfl) ?_
    by_cases c0 : p1 = 0
    · replace hf := if_t c0 hf
      refine lv_tableIn (off := 31) (tgt := 32) hx hb dX1_draw_1 (by rw [c0]; decide) (by rw [c0]; decide) (by rw [c0]; decide) (by decide) ?_
      refine lv_aload_n hx hb dX1_draw_32 rfl (lv_at hl 0 rfl) ?_
      refine lv_iload_n hx hb dX1_draw_33 rfl (lv_at hl 2 rfl) ?_
      refine lv_iconst (v := 4) hx hb dX1_draw_34 (by decide) ?_
      refine lv_irem hx hb dX1_draw_35 (by decide) ?_
      refine lv_iload_n hx hb dX1_draw_36 rfl (lv_at hl 2 rfl) ?_
      refine lv_iconst (v := 4) hx hb dX1_draw_37 (by decide) ?_
      refine lv_idiv hx hb dX1_draw_38 (by decide) ?_
      refine lv_iconst (v := 4) hx hb dX1_draw_39 (by decide) ?_
      refine lv_irem hx hb dX1_draw_40 (by decide) ?_
      obtain ⟨q2, hq2, hf⟩ := bd_some hf
      have hC : [0, 1, 2, 3, 4, 5, 6, 7, 8].map (fun i => (wX1 cyI cyJ cyZ cyO h lands camphors there mothCells mothHeads threads sightNights sightCells sights night eaten)[i]?) = (wX1 cyI cyJ cyZ cyO h lands camphors there mothCells mothHeads threads sightNights sightCells sights night eaten).map some := rfl
      refine cl_i (rn_V (As := [.int (p2 - p2 / 4 * 4), .int ((p2 / 4) - (p2 / 4) / 4 * 4)]) (rest := []) (C := RX1) hx hb hml hown hT hK hN hP hD [0, 1, 2, 3, 4, 5, 6, 7, 8] hC rfl (c_X1_turn l D cyI cyJ cyZ cyO h H.size lands camphors there mothCells mothHeads threads sightNights sightCells sights night eaten (p2 - p2 / 4 * 4) ((p2 / 4) - (p2 / 4) / 4 * 4) nf q2 hq2) wm_X1_85 wi_X1_turn wl_X1_turn wz_X1 wc_X1_turn hd_X1_turn ⟨rfl, rfl⟩ ⟨Nat.le_of_ble_eq_true rfl, Nat.le_of_ble_eq_true rfl⟩ (q0 := 0) (ci := 1) rfl rfl rfl rfl hl.1 rfl (Nat.le_of_ble_eq_true rfl) dX1_draw_41 ⟨Nat.zero_le _, Nat.zero_le _⟩) hP hD hS hA [0, 1, 2, 3, 4, 5, 6, 7, 8] hC [(true, 0), (true, 1), (true, 2), (true, 3), (true, 4), (true, 5), (true, 6), (true, 7), (true, 8)] (ws' := wX1 cyI cyJ cyZ cyO h lands camphors there mothCells q2.2 threads sightNights sightCells sights night eaten) rfl rfl rfl (fun H locs hP hD hS => ?_)
      refine lv_pop hx hb dX1_draw_44 rfl ?_
      refine lv_goto (tgt := 85) hx hb dX1_draw_45 (by decide) ?_
      cases Option.some.inj hf
      exact W.vret hx hb hr (fun t ht hW => ⟨⟨(), rfl, trivial, by show va_P D vwCl _ t.heap; rw [ht]; exact hP⟩, hS.F ht⟩) hS.2.2 dX1_draw_85
    · replace hf := if_f c0 hf
      by_cases c1 : p1 = 1
      · replace hf := if_t c1 hf
        refine lv_tableIn (off := 47) (tgt := 48) hx hb dX1_draw_1 (by rw [c1]; decide) (by rw [c1]; decide) (by rw [c1]; decide) (by decide) ?_
        refine lv_aload_n hx hb dX1_draw_48 rfl (lv_at hl 0 rfl) ?_
        refine lv_iload_n hx hb dX1_draw_49 rfl (lv_at hl 2 rfl) ?_
        refine lv_bipush (v := 25) hx hb dX1_draw_50 (by decide) ?_
        refine lv_irem hx hb dX1_draw_52 (by decide) ?_
        obtain ⟨q3, hq3, hf⟩ := bd_some hf
        have hC : [0, 1, 2, 3, 4, 5, 6, 7, 8].map (fun i => (wX1 cyI cyJ cyZ cyO h lands camphors there mothCells mothHeads threads sightNights sightCells sights night eaten)[i]?) = (wX1 cyI cyJ cyZ cyO h lands camphors there mothCells mothHeads threads sightNights sightCells sights night eaten).map some := rfl
        refine cl_i (rn_V (As := [.int (p2 - p2 / 25 * 25)]) (rest := []) (C := RX1) hx hb hml hown hT hK hN hP hD [0, 1, 2, 3, 4, 5, 6, 7, 8] hC rfl (c_X1_layCamphor l D cyI cyJ cyZ cyO h H.size lands camphors there mothCells mothHeads threads sightNights sightCells sights night eaten (p2 - p2 / 25 * 25) nf q3 hq3) wm_X1_88 wi_X1_layCamphor wl_X1_layCamphor wz_X1 wc_X1_layCamphor hd_X1_layCamphor ⟨rfl, rfl⟩ ⟨Nat.le_of_ble_eq_true rfl, Nat.le_of_ble_eq_true rfl⟩ (q0 := 0) (ci := 1) rfl rfl rfl rfl hl.1 rfl (Nat.le_of_ble_eq_true rfl) dX1_draw_53 ⟨Nat.zero_le _, Nat.zero_le _⟩) hP hD hS hA [0, 1, 2, 3, 4, 5, 6, 7, 8] hC [(true, 0), (true, 1), (true, 2), (true, 3), (true, 4), (true, 5), (true, 6), (true, 7), (true, 8)] (ws' := wX1 cyI cyJ cyZ cyO h lands q3.2 there mothCells mothHeads threads sightNights sightCells sights night eaten) rfl rfl rfl (fun H locs hP hD hS => ?_)
        refine lv_pop hx hb dX1_draw_56 rfl ?_
        refine lv_goto (tgt := 85) hx hb dX1_draw_57 (by decide) ?_
        cases Option.some.inj hf
        exact W.vret hx hb hr (fun t ht hW => ⟨⟨(), rfl, trivial, by show va_P D vwCl _ t.heap; rw [ht]; exact hP⟩, hS.F ht⟩) hS.2.2 dX1_draw_85
      · replace hf := if_f c1 hf
        by_cases c2 : p1 = 2
        · replace hf := if_t c2 hf
          refine lv_tableIn (off := 59) (tgt := 60) hx hb dX1_draw_1 (by rw [c2]; decide) (by rw [c2]; decide) (by rw [c2]; decide) (by decide) ?_
          exact b60 p2 lands camphors there mothCells mothHeads threads night eaten H locs ls hP hD hS (lv_sub hl [0, 2] rfl) hf
        · replace hf := if_f c2 hf
          by_cases c3 : p1 = 3
          · replace hf := if_t c3 hf
            refine lv_tableIn (off := 59) (tgt := 60) hx hb dX1_draw_1 (by rw [c3]; decide) (by rw [c3]; decide) (by rw [c3]; decide) (by decide) ?_
            exact b60 p2 lands camphors there mothCells mothHeads threads night eaten H locs ls hP hD hS (lv_sub hl [0, 2] rfl) hf
          · replace hf := if_f c3 hf
            refine lv_tableOut (tgt := 80) hx hb dX1_draw_1 (by have z0 := lv_neT c0 (show (0 : Int32).toInt = 0 by decide); have z1 := lv_neT c1 (show (1 : Int32).toInt = 1 by decide); have z2 := lv_neT c2 (show (2 : Int32).toInt = 2 by decide); have z3 := lv_neT c3 (show (3 : Int32).toInt = 3 by decide); omega) (by decide) ?_
            refine lv_aload_n hx hb dX1_draw_80 rfl (lv_at hl 0 rfl) ?_
            obtain ⟨q4, hq4, hf⟩ := bd_some hf
            have hC : [0, 1, 2, 3, 4, 5, 6, 7, 8].map (fun i => (wX1 cyI cyJ cyZ cyO h lands camphors there mothCells mothHeads threads sightNights sightCells sights night eaten)[i]?) = (wX1 cyI cyJ cyZ cyO h lands camphors there mothCells mothHeads threads sightNights sightCells sights night eaten).map some := rfl
            refine cl_i (rn_V (As := []) (rest := []) (C := RX1) hx hb hml hown hT hK hN hP hD [0, 1, 2, 3, 4, 5, 6, 7, 8] hC rfl (c_X1_passNight l D cyI cyJ cyZ cyO h H.size lands camphors there mothCells mothHeads threads sightNights sightCells sights night eaten nf q4 hq4) wm_X1_94 wi_X1_passNight wl_X1_passNight wz_X1 wc_X1_passNight hd_X1_passNight ⟨rfl, rfl⟩ ⟨Nat.le_of_ble_eq_true rfl, Nat.le_of_ble_eq_true rfl⟩ (q0 := 0) (ci := 1) rfl rfl rfl rfl hl.1 rfl (Nat.le_of_ble_eq_true rfl) dX1_draw_81 ⟨Nat.zero_le _, Nat.zero_le _⟩) hP hD hS hA [0, 1, 2, 3, 4, 5, 6, 7, 8] hC [(true, 0), (true, 1), (true, 2), (true, 3), (true, 4), (true, 5), (true, 6), (true, 7), (true, 8)] (ws' := wX1 cyI cyJ cyZ cyO h q4.2.1 q4.2.2.1 there q4.2.2.2.1 q4.2.2.2.2.1 threads sightNights sightCells sights q4.2.2.2.2.2.1 q4.2.2.2.2.2.2) rfl rfl rfl (fun H locs hP hD hS => ?_)
            refine lv_pop hx hb dX1_draw_84 rfl ?_
            cases Option.some.inj hf
            exact W.vret hx hb hr (fun t ht hW => ⟨⟨(), rfl, trivial, by show va_P D vwCl _ t.heap; rw [ht]; exact hP⟩, hS.F ht⟩) hS.2.2 dX1_draw_85
  have hl := lv_entry ([.ref (h 0), .int p1, .int p2]) (n := 3) (Nat.le_of_ble_eq_true rfl)
  rw [lg_entry_eq]
  exact main s.heap [] _ hP hD hS hl
theorem hd_X2_pour : yX2_pour.cls = RX2 ∧ yX2_pour.cls ≠ "java/lang/invoke/MethodHandle" ∧ yX2_pour.cls ≠ "java/lang/invoke/VarHandle" ∧ (parseMethodDescriptor yX2_pour.desc).map (fun d => d.parameters.length) = some 1 := by decide +kernel
set_option maxHeartbeats 4000000 in
set_option maxRecDepth 100000 in
theorem c_X2_pour (l : Launch) (D : va_G) (cyI cyJ cyZ cyO : ClassId) (h : Nat → Nat) (sz : Nat) (shares : Nat → Int64) (moved : Nat → Int64) (parts : Int64) (p1 : Int32) (nf : Nat) (q : (Nat → Int64) × Int64) (hf : g_X2_pour nf p1 shares parts = some q) : Met l yX2_pour (Cond.code yX2_pour cX2_pour 3 none :: tbG) ({ frames := 0, cells := 0, slots := 0, locals := 0 } : Room) (va_Pc [.ref (h 0), .int p1] (pcB D (ty4 cyI cyJ cyZ cyO) sz (wX2 cyI cyJ cyZ cyO h shares moved parts))) (qV D (wX2 cyI cyJ cyZ cyO h q.1 moved q.2) (va_A (wX2 cyI cyJ cyZ cyO h shares moved parts) sz)) 0 0 (va_A (wX2 cyI cyJ cyZ cyO h shares moved parts) sz) := by
  refine Met.ofW (cc := cX2_pour) (maxL := 3) (ret := none) (by decide) rfl ?_
  intro p e s m args below meth c s₁ B hml hv
  obtain ⟨rfl, hsz, hP, hK, hD0, hN⟩ := hv
  have hx := B.exec
  have hb := B.bytes
  have hr := B.returns
  have hT : ∀ w ∈ tbG, w.before ([.ref (h 0), .int p1] : List Value).toArray s = true := fun w h => atoms_spec (ws := (Cond.code yX2_pour cX2_pour 3 none :: tbG)) B.pre w (List.mem_cons_of_mem _ h)
  have hown : s.vm.findClass RX2 = some m.cls := findClass_of_methodNamed B.named
  have hlocks := B.notSynchronized
  subst hsz
  have hD := hD0.self (sz := s.heap.size)
  generalize hAe : va_A (wX2 cyI cyJ cyZ cyO h shares moved parts) s.heap.size = A at hD ⊢
  have hA : ∀ q : Nat, s.heap.size ≤ q → A q := fun q h => by rw [← hAe]; exact Or.inr h
  have hS : va_S A s.heap s.heap [] := va_S.rf
  show W p l e ({ frames := 0, cells := 0, slots := 0, locals := 0 } : Room) s m ([.ref (h 0), .int p1] : List Value).toArray below meth c s.heap [] 0 0 (MQ below (qV D (wX2 cyI cyJ cyZ cyO h q.1 moved q.2) A) ([.ref (h 0), .int p1] : List Value).toArray s 0 0 A) _
  have l2 : ∀ (n2 : Nat) (x1 : Int32) (x2 : Int32) (shares : Nat → Int64) (parts : Int64) (H : Heap) (locs : List Loc) (ls : Array Slot), va_P D vwCl (wX2 cyI cyJ cyZ cyO h shares moved parts) H → va_D A (wX2 cyI cyJ cyZ cyO h shares moved parts) → va_S A s.heap H locs → lv_has ls 3 [(0, .ref (h 0)), (1, .int x1), (2, .int x2)] → g_X2_pour_l2 nf n2 x1 x2 shares parts = some q → W p l e ({ frames := 0, cells := 0, slots := 0, locals := 0 } : Room) s m ([.ref (h 0), .int p1] : List Value).toArray below meth c H locs 0 0 (MQ below (qV D (wX2 cyI cyJ cyZ cyO h q.1 moved q.2) A) ([.ref (h 0), .int p1] : List Value).toArray s 0 0 A) (F0 m 2 ls []) := by
    intro n2
    induction n2 with
    | zero =>
      intro x1 x2 shares parts H locs ls hP hD hS hl hf
      rw [g_X2_pour_l2] at hf
      cases hf
    | succ n2 ih2 =>
      have b23 : ∀ (x1 : Int32) (x2 : Int32) (s1 : Int32) (s2 : Int64) (shares : Nat → Int64) (parts : Int64) (H : Heap) (locs : List Loc) (ls : Array Slot), va_P D vwCl (wX2 cyI cyJ cyZ cyO h shares moved parts) H → va_D A (wX2 cyI cyJ cyZ cyO h shares moved parts) → va_S A s.heap H locs → lv_has ls 3 [(0, .ref (h 0)), (1, .int x1), (2, .int x2)] → g_X2_pour_b23 nf (g_X2_pour_l2 nf n2) x1 x2 s1 s2 shares parts = some q → W p l e ({ frames := 0, cells := 0, slots := 0, locals := 0 } : Room) s m ([.ref (h 0), .int p1] : List Value).toArray below meth c H locs 0 0 (MQ below (qV D (wX2 cyI cyJ cyZ cyO h q.1 moved q.2) A) ([.ref (h 0), .int p1] : List Value).toArray s 0 0 A) (F0 m 23 ls [.long s2, .int s1, .ref (h 1)]) := by
        intro x1 x2 s1 s2 shares parts H locs ls hP hD hS hl hf
        unfold g_X2_pour_b23 at hf
        obtain ⟨hi, hf⟩ := ck_some hf
        refine va_last hx hb hK hP hD hS 1 1 rfl rfl hi dX2_pour_23 (fun H locs hP hD hS => ?_)
        have hP : va_P D vwCl (wX2 cyI cyJ cyZ cyO h (vp_updL shares s1.toNatClampNeg s2) moved parts) H := hP
        have hD : va_D A (wX2 cyI cyJ cyZ cyO h (vp_updL shares s1.toNatClampNeg s2) moved parts) := hD
        refine lv_iinc (v := (x2 + 1)) (lv' := [(2, .int (x2 + 1)), (0, .ref (h 0)), (1, .int x1)]) hx hb dX2_pour_24 hl (k := 2) rfl rfl (by decide) rfl (fun ls hl => ?_)
        refine lv_goto (tgt := 2) hx hb dX2_pour_27 (by decide) ?_
        exact ih2 x1 (x2 + 1) (vp_updL shares s1.toNatClampNeg s2) parts H locs ls hP hD hS (lv_sub hl [1, 2, 0] rfl) hf
      intro x1 x2 shares parts H locs ls hP hD hS hl hf
      rw [g_X2_pour_l2] at hf
      refine lv_iload_n hx hb dX2_pour_2 rfl (lv_at hl 2 rfl) ?_
      refine lv_bipush (v := 9) hx hb dX2_pour_3 (by decide) ?_
      refine lv_icmp_gt (tgt := 30) hx hb dX2_pour_5 (by decide) (fun cc => ?_) (fun cc => ?_)
      · replace hf := if_t cc hf
        refine lv_aload_n hx hb dX2_pour_30 rfl (lv_at hl 0 rfl) ?_
        refine lv_lconst (v := 1) hx hb dX2_pour_31 (by decide) ?_
        refine va_put (ci := 2) (v := .long 1) (ty := .long) (C := RX2) (T := TX2) (N := 3) hx hb hT hin_X2 tyX2 tyX2_ok nmX2 hown hK hP hD hS 0 rfl rfl 2 (by decide) (hT _ wf_X2_18) (fun _ h9 => h9) rfl (tyX2_ok 2 (by decide)) rfl rfl (Nat.le_of_ble_eq_true rfl) dX2_pour_32 (fun H locs hP hD hS => ?_)
        have hP : va_P D vwCl (wX2 cyI cyJ cyZ cyO h shares moved 1) H := hP
        have hD : va_D A (wX2 cyI cyJ cyZ cyO h shares moved 1) := hD
        cases Option.some.inj hf
        exact W.vret hx hb hr (fun t ht hW => ⟨⟨(), rfl, trivial, by show va_P D vwCl _ t.heap; rw [ht]; exact hP⟩, hS.F ht⟩) hS.2.2 dX2_pour_35
      · replace hf := if_f cc hf
        refine lv_aload_n hx hb dX2_pour_8 rfl (lv_at hl 0 rfl) ?_
        refine va_get (ci := 2) (v := .ref (h 1)) (C := RX2) (T := TX2) (N := 3) hx hb hT hin_X2 hown hK hP 0 rfl rfl 0 (by decide) (hT _ wf_X2_9) (fun _ h9 => h9) rfl dX2_pour_9 ?_
        refine lv_iload_n hx hb dX2_pour_12 rfl (lv_at hl 2 rfl) ?_
        refine lv_iload_n hx hb dX2_pour_13 rfl (lv_at hl 2 rfl) ?_
        refine lv_iload_n hx hb dX2_pour_14 rfl (lv_at hl 1 rfl) ?_
        refine lv_icmp_ne (tgt := 22) hx hb dX2_pour_15 (by decide) (fun cc => ?_) (fun cc => ?_)
        · replace hf := if_f cc hf
          refine lv_lconst (v := 0) hx hb dX2_pour_22 (by decide) ?_
          exact b23 x1 x2 x2 0 shares parts H locs ls hP hD hS (lv_sub hl [0, 1, 2] rfl) hf
        · replace hf := if_t cc hf
          refine lv_lconst (v := 1) hx hb dX2_pour_18 (by decide) ?_
          refine lv_goto (tgt := 23) hx hb dX2_pour_19 (by decide) ?_
          exact b23 x1 x2 x2 1 shares parts H locs ls hP hD hS (lv_sub hl [0, 1, 2] rfl) hf
  have main : ∀ (H : Heap) (locs : List Loc) (ls : Array Slot), va_P D vwCl (wX2 cyI cyJ cyZ cyO h shares moved parts) H → va_D A (wX2 cyI cyJ cyZ cyO h shares moved parts) → va_S A s.heap H locs → lv_has ls 3 [(0, .ref (h 0)), (1, .int p1)] → W p l e ({ frames := 0, cells := 0, slots := 0, locals := 0 } : Room) s m ([.ref (h 0), .int p1] : List Value).toArray below meth c H locs 0 0 (MQ below (qV D (wX2 cyI cyJ cyZ cyO h q.1 moved q.2) A) ([.ref (h 0), .int p1] : List Value).toArray s 0 0 A) (F0 m 0 ls []) := by
    intro H locs ls hP hD hS hl
    unfold g_X2_pour at hf
    refine lv_iconst (v := 0) hx hb dX2_pour_0 (by decide) ?_
    refine lv_istore_n (lv' := [(2, .int 0), (0, .ref (h 0)), (1, .int p1)]) hx hb dX2_pour_1 rfl hl (by decide) rfl (fun ls hl => ?_)
    exact l2 nf p1 0 shares parts H locs ls hP hD hS (lv_sub hl [1, 2, 0] rfl) hf
  have hl := lv_entry ([.ref (h 0), .int p1]) (n := 3) (Nat.le_of_ble_eq_true rfl)
  rw [lg_entry_eq]
  exact main s.heap [] _ hP hD hS hl
theorem hd_X2_move : yX2_move.cls = RX2 ∧ yX2_move.cls ≠ "java/lang/invoke/MethodHandle" ∧ yX2_move.cls ≠ "java/lang/invoke/VarHandle" ∧ (parseMethodDescriptor yX2_move.desc).map (fun d => d.parameters.length) = some 3 := by decide +kernel
set_option maxHeartbeats 4000000 in
set_option maxRecDepth 100000 in
theorem c_X2_move (l : Launch) (D : va_G) (cyI cyJ cyZ cyO : ClassId) (h : Nat → Nat) (sz : Nat) (shares : Nat → Int64) (moved : Nat → Int64) (parts : Int64) (p1 : Int32) (p2 : Int32) (p3 : Int32) (nf : Nat) (q : (Nat → Int64) × (Nat → Int64) × Int64) (hf : g_X2_move nf p1 p2 p3 shares moved parts = some q) : Met l yX2_move (Cond.code yX2_move cX2_move 5 none :: tbG) ({ frames := 1, cells := 0, slots := 0, locals := 40 } : Room) (va_Pc [.ref (h 0), .int p1, .int p2, .int p3] (pcB D (ty4 cyI cyJ cyZ cyO) sz (wX2 cyI cyJ cyZ cyO h shares moved parts))) (qV D (wX2 cyI cyJ cyZ cyO h q.1 q.2.1 q.2.2) (va_A (wX2 cyI cyJ cyZ cyO h shares moved parts) sz)) 0 0 (va_A (wX2 cyI cyJ cyZ cyO h shares moved parts) sz) := by
  refine Met.ofW (cc := cX2_move) (maxL := 5) (ret := none) (by decide) rfl ?_
  intro p e s m args below meth c s₁ B hml hv
  obtain ⟨rfl, hsz, hP, hK, hD0, hN⟩ := hv
  have hx := B.exec
  have hb := B.bytes
  have hr := B.returns
  have hT : ∀ w ∈ tbG, w.before ([.ref (h 0), .int p1, .int p2, .int p3] : List Value).toArray s = true := fun w h => atoms_spec (ws := (Cond.code yX2_move cX2_move 5 none :: tbG)) B.pre w (List.mem_cons_of_mem _ h)
  have hown : s.vm.findClass RX2 = some m.cls := findClass_of_methodNamed B.named
  have hlocks := B.notSynchronized
  subst hsz
  have hD := hD0.self (sz := s.heap.size)
  generalize hAe : va_A (wX2 cyI cyJ cyZ cyO h shares moved parts) s.heap.size = A at hD ⊢
  have hA : ∀ q : Nat, s.heap.size ≤ q → A q := fun q h => by rw [← hAe]; exact Or.inr h
  have hS : va_S A s.heap s.heap [] := va_S.rf
  show W p l e ({ frames := 1, cells := 0, slots := 0, locals := 40 } : Room) s m ([.ref (h 0), .int p1, .int p2, .int p3] : List Value).toArray below meth c s.heap [] 0 0 (MQ below (qV D (wX2 cyI cyJ cyZ cyO h q.1 q.2.1 q.2.2) A) ([.ref (h 0), .int p1, .int p2, .int p3] : List Value).toArray s 0 0 A) _
  have l126 : ∀ (n126 : Nat) (x4 : Int32) (shares : Nat → Int64) (moved : Nat → Int64) (parts : Int64) (H : Heap) (locs : List Loc) (ls : Array Slot), va_P D vwCl (wX2 cyI cyJ cyZ cyO h shares moved parts) H → va_D A (wX2 cyI cyJ cyZ cyO h shares moved parts) → va_S A s.heap H locs → lv_has ls 5 [(0, .ref (h 0)), (4, .int x4)] → g_X2_move_l126 nf n126 x4 shares moved parts = some q → W p l e ({ frames := 1, cells := 0, slots := 0, locals := 40 } : Room) s m ([.ref (h 0), .int p1, .int p2, .int p3] : List Value).toArray below meth c H locs 0 0 (MQ below (qV D (wX2 cyI cyJ cyZ cyO h q.1 q.2.1 q.2.2) A) ([.ref (h 0), .int p1, .int p2, .int p3] : List Value).toArray s 0 0 A) (F0 m 126 ls []) := by
    intro n126
    induction n126 with
    | zero =>
      intro x4 shares moved parts H locs ls hP hD hS hl hf
      rw [g_X2_move_l126] at hf
      cases hf
    | succ n126 ih126 =>
      intro x4 shares moved parts H locs ls hP hD hS hl hf
      rw [g_X2_move_l126] at hf
      refine lv_iload hx hb dX2_move_126 (lv_at hl 1 rfl) ?_
      refine lv_bipush (v := 9) hx hb dX2_move_128 (by decide) ?_
      refine lv_icmp_gt (tgt := 153) hx hb dX2_move_130 (by decide) (fun cc => ?_) (fun cc => ?_)
      · replace hf := if_t cc hf
        refine lv_aload_n hx hb dX2_move_153 rfl (lv_at hl 0 rfl) ?_
        refine lv_dup hx hb dX2_move_154 rfl ?_
        refine va_get (ci := 2) (v := .long parts) (C := RX2) (T := TX2) (N := 3) hx hb hT hin_X2 hown hK hP 0 rfl rfl 2 (by decide) (hT _ wf_X2_18) (fun _ h9 => h9) rfl dX2_move_155 ?_
        refine lv_ldc2 (v := 10) hx hb hown (hT _ wk_X2_31) dX2_move_158 ?_
        refine lv_lmul hx hb dX2_move_161 ?_
        refine va_put (ci := 2) (v := .long (parts * 10)) (ty := .long) (C := RX2) (T := TX2) (N := 3) hx hb hT hin_X2 tyX2 tyX2_ok nmX2 hown hK hP hD hS 0 rfl rfl 2 (by decide) (hT _ wf_X2_18) (fun _ h9 => h9) rfl (tyX2_ok 2 (by decide)) rfl rfl (Nat.le_of_ble_eq_true rfl) dX2_move_162 (fun H locs hP hD hS => ?_)
        have hP : va_P D vwCl (wX2 cyI cyJ cyZ cyO h shares moved (parts * 10)) H := hP
        have hD : va_D A (wX2 cyI cyJ cyZ cyO h shares moved (parts * 10)) := hD
        cases Option.some.inj hf
        exact W.vret hx hb hr (fun t ht hW => ⟨⟨(), rfl, trivial, by show va_P D vwCl _ t.heap; rw [ht]; exact hP⟩, hS.F ht⟩) hS.2.2 dX2_move_165
      · replace hf := if_f cc hf
        refine lv_aload_n hx hb dX2_move_133 rfl (lv_at hl 0 rfl) ?_
        refine va_get (ci := 2) (v := .ref (h 1)) (C := RX2) (T := TX2) (N := 3) hx hb hT hin_X2 hown hK hP 0 rfl rfl 0 (by decide) (hT _ wf_X2_9) (fun _ h9 => h9) rfl dX2_move_134 ?_
        refine lv_iload hx hb dX2_move_137 (lv_at hl 1 rfl) ?_
        refine lv_aload_n hx hb dX2_move_139 rfl (lv_at hl 0 rfl) ?_
        refine va_get (ci := 2) (v := .ref (h 2)) (C := RX2) (T := TX2) (N := 3) hx hb hT hin_X2 hown hK hP 0 rfl rfl 1 (by decide) (hT _ wf_X2_15) (fun _ h9 => h9) rfl dX2_move_140 ?_
        refine lv_iload hx hb dX2_move_143 (lv_at hl 1 rfl) ?_
        obtain ⟨hi, hf⟩ := ck_some hf
        refine va_lald hx hb hK hP 2 1 rfl rfl hi dX2_move_145 ?_
        obtain ⟨hi, hf⟩ := ck_some hf
        refine va_last hx hb hK hP hD hS 1 1 rfl rfl hi dX2_move_146 (fun H locs hP hD hS => ?_)
        have hP : va_P D vwCl (wX2 cyI cyJ cyZ cyO h (vp_updL shares x4.toNatClampNeg (moved x4.toNatClampNeg)) moved parts) H := hP
        have hD : va_D A (wX2 cyI cyJ cyZ cyO h (vp_updL shares x4.toNatClampNeg (moved x4.toNatClampNeg)) moved parts) := hD
        refine lv_iinc (v := (x4 + 1)) (lv' := [(4, .int (x4 + 1)), (0, .ref (h 0))]) hx hb dX2_move_147 hl (k := 1) rfl rfl (by decide) rfl (fun ls hl => ?_)
        refine lv_goto (tgt := 126) hx hb dX2_move_150 (by decide) ?_
        exact ih126 (x4 + 1) (vp_updL shares x4.toNatClampNeg (moved x4.toNatClampNeg)) moved parts H locs ls hP hD hS (lv_sub hl [1, 0] rfl) hf
  have b123 : ∀ (shares : Nat → Int64) (moved : Nat → Int64) (parts : Int64) (H : Heap) (locs : List Loc) (ls : Array Slot), va_P D vwCl (wX2 cyI cyJ cyZ cyO h shares moved parts) H → va_D A (wX2 cyI cyJ cyZ cyO h shares moved parts) → va_S A s.heap H locs → lv_has ls 5 [(0, .ref (h 0))] → g_X2_move_b123 nf shares moved parts = some q → W p l e ({ frames := 1, cells := 0, slots := 0, locals := 40 } : Room) s m ([.ref (h 0), .int p1, .int p2, .int p3] : List Value).toArray below meth c H locs 0 0 (MQ below (qV D (wX2 cyI cyJ cyZ cyO h q.1 q.2.1 q.2.2) A) ([.ref (h 0), .int p1, .int p2, .int p3] : List Value).toArray s 0 0 A) (F0 m 123 ls []) := by
    intro shares moved parts H locs ls hP hD hS hl hf
    unfold g_X2_move_b123 at hf
    refine lv_iconst (v := 0) hx hb dX2_move_123 (by decide) ?_
    refine lv_istore (lv' := [(4, .int 0), (0, .ref (h 0))]) hx hb dX2_move_124 hl (by decide) rfl (fun ls hl => ?_)
    exact l126 nf 0 shares moved parts H locs ls hP hD hS (lv_sub hl [1, 0] rfl) hf
  have l27 : ∀ (n27 : Nat) (x1 : Int32) (x2 : Int32) (x3 : Int32) (x4 : Int32) (shares : Nat → Int64) (moved : Nat → Int64) (parts : Int64) (H : Heap) (locs : List Loc) (ls : Array Slot), va_P D vwCl (wX2 cyI cyJ cyZ cyO h shares moved parts) H → va_D A (wX2 cyI cyJ cyZ cyO h shares moved parts) → va_S A s.heap H locs → lv_has ls 5 [(0, .ref (h 0)), (1, .int x1), (2, .int x2), (3, .int x3), (4, .int x4)] → g_X2_move_l27 nf n27 x1 x2 x3 x4 shares moved parts = some q → W p l e ({ frames := 1, cells := 0, slots := 0, locals := 40 } : Room) s m ([.ref (h 0), .int p1, .int p2, .int p3] : List Value).toArray below meth c H locs 0 0 (MQ below (qV D (wX2 cyI cyJ cyZ cyO h q.1 q.2.1 q.2.2) A) ([.ref (h 0), .int p1, .int p2, .int p3] : List Value).toArray s 0 0 A) (F0 m 27 ls []) := by
    intro n27
    induction n27 with
    | zero =>
      intro x1 x2 x3 x4 shares moved parts H locs ls hP hD hS hl hf
      rw [g_X2_move_l27] at hf
      cases hf
    | succ n27 ih27 =>
      intro x1 x2 x3 x4 shares moved parts H locs ls hP hD hS hl hf
      rw [g_X2_move_l27] at hf
      refine lv_iload hx hb dX2_move_27 (lv_at hl 4 rfl) ?_
      refine lv_iload_n hx hb dX2_move_29 rfl (lv_at hl 1 rfl) ?_
      refine lv_icmp_gt (tgt := 123) hx hb dX2_move_30 (by decide) (fun cc => ?_) (fun cc => ?_)
      · replace hf := if_t cc hf
        exact b123 shares moved parts H locs ls hP hD hS (lv_sub hl [0] rfl) hf
      · replace hf := if_f cc hf
        refine lv_iload hx hb dX2_move_33 (lv_at hl 4 rfl) ?_
        refine lv_bipush (v := 9) hx hb dX2_move_35 (by decide) ?_
        refine lv_icmp_gt (tgt := 123) hx hb dX2_move_37 (by decide) (fun cc => ?_) (fun cc => ?_)
        · replace hf := if_t cc hf
          exact b123 shares moved parts H locs ls hP hD hS (lv_sub hl [0] rfl) hf
        · replace hf := if_f cc hf
          refine lv_aload_n hx hb dX2_move_40 rfl (lv_at hl 0 rfl) ?_
          refine va_get (ci := 2) (v := .ref (h 2)) (C := RX2) (T := TX2) (N := 3) hx hb hT hin_X2 hown hK hP 0 rfl rfl 1 (by decide) (hT _ wf_X2_15) (fun _ h9 => h9) rfl dX2_move_41 ?_
          refine lv_iload hx hb dX2_move_44 (lv_at hl 4 rfl) ?_
          refine lv_iconst (v := 1) hx hb dX2_move_46 (by decide) ?_
          refine lv_iadd hx hb dX2_move_47 ?_
          refine lv_iload_n hx hb dX2_move_48 rfl (lv_at hl 1 rfl) ?_
          refine va_mmin (x := (x4 + 1)) (y := x1) hx hb (by rw [hml]; exact hl.1.symm) hown (hT _ wm_X2_22) (hT _ wt_J9_min_7cf53) (hT _ wz_J9) (hT _ wc_J9_min_7cf53) (Nat.le_of_ble_eq_true rfl) (Nat.le_of_ble_eq_true rfl) (Nat.zero_le _) (Nat.zero_le _) dX2_move_49 ?_
          refine lv_dup2_11 hx hb dX2_move_52 rfl rfl ?_
          obtain ⟨hi, hf⟩ := ck_some hf
          refine va_lald hx hb hK hP 2 1 rfl rfl hi dX2_move_53 ?_
          refine lv_iload_n hx hb dX2_move_54 rfl (lv_at hl 2 rfl) ?_
          refine lv_i2l hx hb dX2_move_55 rfl ?_
          refine lv_aload_n hx hb dX2_move_56 rfl (lv_at hl 0 rfl) ?_
          refine va_get (ci := 2) (v := .ref (h 1)) (C := RX2) (T := TX2) (N := 3) hx hb hT hin_X2 hown hK hP 0 rfl rfl 0 (by decide) (hT _ wf_X2_9) (fun _ h9 => h9) rfl dX2_move_57 ?_
          refine lv_iload hx hb dX2_move_60 (lv_at hl 4 rfl) ?_
          obtain ⟨hi, hf⟩ := ck_some hf
          refine va_lald hx hb hK hP 1 1 rfl rfl hi dX2_move_62 ?_
          refine lv_lmul hx hb dX2_move_63 ?_
          refine lv_ladd hx hb dX2_move_64 ?_
          obtain ⟨hi, hf⟩ := ck_some hf
          refine va_last hx hb hK hP hD hS 2 1 rfl rfl hi dX2_move_65 (fun H locs hP hD hS => ?_)
          have hP : va_P D vwCl (wX2 cyI cyJ cyZ cyO h shares (vp_updL moved (if x1 < (x4 + 1) then x1 else (x4 + 1)).toNatClampNeg ((moved (if x1 < (x4 + 1) then x1 else (x4 + 1)).toNatClampNeg) + (x2.toInt64 * (shares x4.toNatClampNeg)))) parts) H := hP
          have hD : va_D A (wX2 cyI cyJ cyZ cyO h shares (vp_updL moved (if x1 < (x4 + 1) then x1 else (x4 + 1)).toNatClampNeg ((moved (if x1 < (x4 + 1) then x1 else (x4 + 1)).toNatClampNeg) + (x2.toInt64 * (shares x4.toNatClampNeg)))) parts) := hD
          refine lv_aload_n hx hb dX2_move_66 rfl (lv_at hl 0 rfl) ?_
          refine va_get (ci := 2) (v := .ref (h 2)) (C := RX2) (T := TX2) (N := 3) hx hb hT hin_X2 hown hK hP 0 rfl rfl 1 (by decide) (hT _ wf_X2_15) (fun _ h9 => h9) rfl dX2_move_67 ?_
          refine lv_iload hx hb dX2_move_70 (lv_at hl 4 rfl) ?_
          refine lv_iconst (v := 1) hx hb dX2_move_72 (by decide) ?_
          refine lv_isub hx hb dX2_move_73 ?_
          refine lv_iconst (v := 0) hx hb dX2_move_74 (by decide) ?_
          refine va_mmax (x := (x4 - 1)) (y := 0) hx hb (by rw [hml]; exact hl.1.symm) hown (hT _ wm_X2_28) (hT _ wt_J9_max_7cf53) (hT _ wz_J9) (hT _ wc_J9_max_7cf53) (Nat.le_of_ble_eq_true rfl) (Nat.le_of_ble_eq_true rfl) (Nat.zero_le _) (Nat.zero_le _) dX2_move_75 ?_
          refine lv_dup2_11 hx hb dX2_move_78 rfl rfl ?_
          obtain ⟨hi, hf⟩ := ck_some hf
          refine va_lald hx hb hK hP 2 1 rfl rfl hi dX2_move_79 ?_
          refine lv_iload_n hx hb dX2_move_80 rfl (lv_at hl 3 rfl) ?_
          refine lv_i2l hx hb dX2_move_81 rfl ?_
          refine lv_aload_n hx hb dX2_move_82 rfl (lv_at hl 0 rfl) ?_
          refine va_get (ci := 2) (v := .ref (h 1)) (C := RX2) (T := TX2) (N := 3) hx hb hT hin_X2 hown hK hP 0 rfl rfl 0 (by decide) (hT _ wf_X2_9) (fun _ h9 => h9) rfl dX2_move_83 ?_
          refine lv_iload hx hb dX2_move_86 (lv_at hl 4 rfl) ?_
          obtain ⟨hi, hf⟩ := ck_some hf
          refine va_lald hx hb hK hP 1 1 rfl rfl hi dX2_move_88 ?_
          refine lv_lmul hx hb dX2_move_89 ?_
          refine lv_ladd hx hb dX2_move_90 ?_
          obtain ⟨hi, hf⟩ := ck_some hf
          refine va_last hx hb hK hP hD hS 2 1 rfl rfl hi dX2_move_91 (fun H locs hP hD hS => ?_)
          have hP : va_P D vwCl (wX2 cyI cyJ cyZ cyO h shares (vp_updL (vp_updL moved (if x1 < (x4 + 1) then x1 else (x4 + 1)).toNatClampNeg ((moved (if x1 < (x4 + 1) then x1 else (x4 + 1)).toNatClampNeg) + (x2.toInt64 * (shares x4.toNatClampNeg)))) (if (x4 - 1) < 0 then 0 else (x4 - 1)).toNatClampNeg (((vp_updL moved (if x1 < (x4 + 1) then x1 else (x4 + 1)).toNatClampNeg ((moved (if x1 < (x4 + 1) then x1 else (x4 + 1)).toNatClampNeg) + (x2.toInt64 * (shares x4.toNatClampNeg)))) (if (x4 - 1) < 0 then 0 else (x4 - 1)).toNatClampNeg) + (x3.toInt64 * (shares x4.toNatClampNeg)))) parts) H := hP
          have hD : va_D A (wX2 cyI cyJ cyZ cyO h shares (vp_updL (vp_updL moved (if x1 < (x4 + 1) then x1 else (x4 + 1)).toNatClampNeg ((moved (if x1 < (x4 + 1) then x1 else (x4 + 1)).toNatClampNeg) + (x2.toInt64 * (shares x4.toNatClampNeg)))) (if (x4 - 1) < 0 then 0 else (x4 - 1)).toNatClampNeg (((vp_updL moved (if x1 < (x4 + 1) then x1 else (x4 + 1)).toNatClampNeg ((moved (if x1 < (x4 + 1) then x1 else (x4 + 1)).toNatClampNeg) + (x2.toInt64 * (shares x4.toNatClampNeg)))) (if (x4 - 1) < 0 then 0 else (x4 - 1)).toNatClampNeg) + (x3.toInt64 * (shares x4.toNatClampNeg)))) parts) := hD
          refine lv_aload_n hx hb dX2_move_92 rfl (lv_at hl 0 rfl) ?_
          refine va_get (ci := 2) (v := .ref (h 2)) (C := RX2) (T := TX2) (N := 3) hx hb hT hin_X2 hown hK hP 0 rfl rfl 1 (by decide) (hT _ wf_X2_15) (fun _ h9 => h9) rfl dX2_move_93 ?_
          refine lv_iload hx hb dX2_move_96 (lv_at hl 4 rfl) ?_
          refine lv_dup2_11 hx hb dX2_move_98 rfl rfl ?_
          obtain ⟨hi, hf⟩ := ck_some hf
          refine va_lald hx hb hK hP 2 1 rfl rfl hi dX2_move_99 ?_
          refine lv_bipush (v := 10) hx hb dX2_move_100 (by decide) ?_
          refine lv_iload_n hx hb dX2_move_102 rfl (lv_at hl 2 rfl) ?_
          refine lv_isub hx hb dX2_move_103 ?_
          refine lv_iload_n hx hb dX2_move_104 rfl (lv_at hl 3 rfl) ?_
          refine lv_isub hx hb dX2_move_105 ?_
          refine lv_i2l hx hb dX2_move_106 rfl ?_
          refine lv_aload_n hx hb dX2_move_107 rfl (lv_at hl 0 rfl) ?_
          refine va_get (ci := 2) (v := .ref (h 1)) (C := RX2) (T := TX2) (N := 3) hx hb hT hin_X2 hown hK hP 0 rfl rfl 0 (by decide) (hT _ wf_X2_9) (fun _ h9 => h9) rfl dX2_move_108 ?_
          refine lv_iload hx hb dX2_move_111 (lv_at hl 4 rfl) ?_
          obtain ⟨hi, hf⟩ := ck_some hf
          refine va_lald hx hb hK hP 1 1 rfl rfl hi dX2_move_113 ?_
          refine lv_lmul hx hb dX2_move_114 ?_
          refine lv_ladd hx hb dX2_move_115 ?_
          obtain ⟨hi, hf⟩ := ck_some hf
          refine va_last hx hb hK hP hD hS 2 1 rfl rfl hi dX2_move_116 (fun H locs hP hD hS => ?_)
          have hP : va_P D vwCl (wX2 cyI cyJ cyZ cyO h shares (vp_updL (vp_updL (vp_updL moved (if x1 < (x4 + 1) then x1 else (x4 + 1)).toNatClampNeg ((moved (if x1 < (x4 + 1) then x1 else (x4 + 1)).toNatClampNeg) + (x2.toInt64 * (shares x4.toNatClampNeg)))) (if (x4 - 1) < 0 then 0 else (x4 - 1)).toNatClampNeg (((vp_updL moved (if x1 < (x4 + 1) then x1 else (x4 + 1)).toNatClampNeg ((moved (if x1 < (x4 + 1) then x1 else (x4 + 1)).toNatClampNeg) + (x2.toInt64 * (shares x4.toNatClampNeg)))) (if (x4 - 1) < 0 then 0 else (x4 - 1)).toNatClampNeg) + (x3.toInt64 * (shares x4.toNatClampNeg)))) x4.toNatClampNeg (((vp_updL (vp_updL moved (if x1 < (x4 + 1) then x1 else (x4 + 1)).toNatClampNeg ((moved (if x1 < (x4 + 1) then x1 else (x4 + 1)).toNatClampNeg) + (x2.toInt64 * (shares x4.toNatClampNeg)))) (if (x4 - 1) < 0 then 0 else (x4 - 1)).toNatClampNeg (((vp_updL moved (if x1 < (x4 + 1) then x1 else (x4 + 1)).toNatClampNeg ((moved (if x1 < (x4 + 1) then x1 else (x4 + 1)).toNatClampNeg) + (x2.toInt64 * (shares x4.toNatClampNeg)))) (if (x4 - 1) < 0 then 0 else (x4 - 1)).toNatClampNeg) + (x3.toInt64 * (shares x4.toNatClampNeg)))) x4.toNatClampNeg) + (((10 - x2) - x3).toInt64 * (shares x4.toNatClampNeg)))) parts) H := hP
          have hD : va_D A (wX2 cyI cyJ cyZ cyO h shares (vp_updL (vp_updL (vp_updL moved (if x1 < (x4 + 1) then x1 else (x4 + 1)).toNatClampNeg ((moved (if x1 < (x4 + 1) then x1 else (x4 + 1)).toNatClampNeg) + (x2.toInt64 * (shares x4.toNatClampNeg)))) (if (x4 - 1) < 0 then 0 else (x4 - 1)).toNatClampNeg (((vp_updL moved (if x1 < (x4 + 1) then x1 else (x4 + 1)).toNatClampNeg ((moved (if x1 < (x4 + 1) then x1 else (x4 + 1)).toNatClampNeg) + (x2.toInt64 * (shares x4.toNatClampNeg)))) (if (x4 - 1) < 0 then 0 else (x4 - 1)).toNatClampNeg) + (x3.toInt64 * (shares x4.toNatClampNeg)))) x4.toNatClampNeg (((vp_updL (vp_updL moved (if x1 < (x4 + 1) then x1 else (x4 + 1)).toNatClampNeg ((moved (if x1 < (x4 + 1) then x1 else (x4 + 1)).toNatClampNeg) + (x2.toInt64 * (shares x4.toNatClampNeg)))) (if (x4 - 1) < 0 then 0 else (x4 - 1)).toNatClampNeg (((vp_updL moved (if x1 < (x4 + 1) then x1 else (x4 + 1)).toNatClampNeg ((moved (if x1 < (x4 + 1) then x1 else (x4 + 1)).toNatClampNeg) + (x2.toInt64 * (shares x4.toNatClampNeg)))) (if (x4 - 1) < 0 then 0 else (x4 - 1)).toNatClampNeg) + (x3.toInt64 * (shares x4.toNatClampNeg)))) x4.toNatClampNeg) + (((10 - x2) - x3).toInt64 * (shares x4.toNatClampNeg)))) parts) := hD
          refine lv_iinc (v := (x4 + 1)) (lv' := [(4, .int (x4 + 1)), (0, .ref (h 0)), (1, .int x1), (2, .int x2), (3, .int x3)]) hx hb dX2_move_117 hl (k := 4) rfl rfl (by decide) rfl (fun ls hl => ?_)
          refine lv_goto (tgt := 27) hx hb dX2_move_120 (by decide) ?_
          exact ih27 x1 x2 x3 (x4 + 1) shares (vp_updL (vp_updL (vp_updL moved (if x1 < (x4 + 1) then x1 else (x4 + 1)).toNatClampNeg ((moved (if x1 < (x4 + 1) then x1 else (x4 + 1)).toNatClampNeg) + (x2.toInt64 * (shares x4.toNatClampNeg)))) (if (x4 - 1) < 0 then 0 else (x4 - 1)).toNatClampNeg (((vp_updL moved (if x1 < (x4 + 1) then x1 else (x4 + 1)).toNatClampNeg ((moved (if x1 < (x4 + 1) then x1 else (x4 + 1)).toNatClampNeg) + (x2.toInt64 * (shares x4.toNatClampNeg)))) (if (x4 - 1) < 0 then 0 else (x4 - 1)).toNatClampNeg) + (x3.toInt64 * (shares x4.toNatClampNeg)))) x4.toNatClampNeg (((vp_updL (vp_updL moved (if x1 < (x4 + 1) then x1 else (x4 + 1)).toNatClampNeg ((moved (if x1 < (x4 + 1) then x1 else (x4 + 1)).toNatClampNeg) + (x2.toInt64 * (shares x4.toNatClampNeg)))) (if (x4 - 1) < 0 then 0 else (x4 - 1)).toNatClampNeg (((vp_updL moved (if x1 < (x4 + 1) then x1 else (x4 + 1)).toNatClampNeg ((moved (if x1 < (x4 + 1) then x1 else (x4 + 1)).toNatClampNeg) + (x2.toInt64 * (shares x4.toNatClampNeg)))) (if (x4 - 1) < 0 then 0 else (x4 - 1)).toNatClampNeg) + (x3.toInt64 * (shares x4.toNatClampNeg)))) x4.toNatClampNeg) + (((10 - x2) - x3).toInt64 * (shares x4.toNatClampNeg)))) parts H locs ls hP hD hS (lv_sub hl [1, 2, 3, 4, 0] rfl) hf
  have l3 : ∀ (n3 : Nat) (x1 : Int32) (x2 : Int32) (x3 : Int32) (x4 : Int32) (shares : Nat → Int64) (moved : Nat → Int64) (parts : Int64) (H : Heap) (locs : List Loc) (ls : Array Slot), va_P D vwCl (wX2 cyI cyJ cyZ cyO h shares moved parts) H → va_D A (wX2 cyI cyJ cyZ cyO h shares moved parts) → va_S A s.heap H locs → lv_has ls 5 [(0, .ref (h 0)), (1, .int x1), (2, .int x2), (3, .int x3), (4, .int x4)] → g_X2_move_l3 nf n3 x1 x2 x3 x4 shares moved parts = some q → W p l e ({ frames := 1, cells := 0, slots := 0, locals := 40 } : Room) s m ([.ref (h 0), .int p1, .int p2, .int p3] : List Value).toArray below meth c H locs 0 0 (MQ below (qV D (wX2 cyI cyJ cyZ cyO h q.1 q.2.1 q.2.2) A) ([.ref (h 0), .int p1, .int p2, .int p3] : List Value).toArray s 0 0 A) (F0 m 3 ls []) := by
    intro n3
    induction n3 with
    | zero =>
      intro x1 x2 x3 x4 shares moved parts H locs ls hP hD hS hl hf
      rw [g_X2_move_l3] at hf
      cases hf
    | succ n3 ih3 =>
      intro x1 x2 x3 x4 shares moved parts H locs ls hP hD hS hl hf
      rw [g_X2_move_l3] at hf
      refine lv_iload hx hb dX2_move_3 (lv_at hl 4 rfl) ?_
      refine lv_bipush (v := 9) hx hb dX2_move_5 (by decide) ?_
      refine lv_icmp_gt (tgt := 24) hx hb dX2_move_7 (by decide) (fun cc => ?_) (fun cc => ?_)
      · replace hf := if_t cc hf
        refine lv_iconst (v := 0) hx hb dX2_move_24 (by decide) ?_
        refine lv_istore (lv' := [(4, .int 0), (0, .ref (h 0)), (1, .int x1), (2, .int x2), (3, .int x3)]) hx hb dX2_move_25 hl (by decide) rfl (fun ls hl => ?_)
        exact l27 nf x1 x2 x3 0 shares moved parts H locs ls hP hD hS (lv_sub hl [1, 2, 3, 4, 0] rfl) hf
      · replace hf := if_f cc hf
        refine lv_aload_n hx hb dX2_move_10 rfl (lv_at hl 0 rfl) ?_
        refine va_get (ci := 2) (v := .ref (h 2)) (C := RX2) (T := TX2) (N := 3) hx hb hT hin_X2 hown hK hP 0 rfl rfl 1 (by decide) (hT _ wf_X2_15) (fun _ h9 => h9) rfl dX2_move_11 ?_
        refine lv_iload hx hb dX2_move_14 (lv_at hl 4 rfl) ?_
        refine lv_lconst (v := 0) hx hb dX2_move_16 (by decide) ?_
        obtain ⟨hi, hf⟩ := ck_some hf
        refine va_last hx hb hK hP hD hS 2 1 rfl rfl hi dX2_move_17 (fun H locs hP hD hS => ?_)
        have hP : va_P D vwCl (wX2 cyI cyJ cyZ cyO h shares (vp_updL moved x4.toNatClampNeg 0) parts) H := hP
        have hD : va_D A (wX2 cyI cyJ cyZ cyO h shares (vp_updL moved x4.toNatClampNeg 0) parts) := hD
        refine lv_iinc (v := (x4 + 1)) (lv' := [(4, .int (x4 + 1)), (0, .ref (h 0)), (1, .int x1), (2, .int x2), (3, .int x3)]) hx hb dX2_move_18 hl (k := 4) rfl rfl (by decide) rfl (fun ls hl => ?_)
        refine lv_goto (tgt := 3) hx hb dX2_move_21 (by decide) ?_
        exact ih3 x1 x2 x3 (x4 + 1) shares (vp_updL moved x4.toNatClampNeg 0) parts H locs ls hP hD hS (lv_sub hl [1, 2, 3, 4, 0] rfl) hf
  have main : ∀ (H : Heap) (locs : List Loc) (ls : Array Slot), va_P D vwCl (wX2 cyI cyJ cyZ cyO h shares moved parts) H → va_D A (wX2 cyI cyJ cyZ cyO h shares moved parts) → va_S A s.heap H locs → lv_has ls 5 [(0, .ref (h 0)), (1, .int p1), (2, .int p2), (3, .int p3)] → W p l e ({ frames := 1, cells := 0, slots := 0, locals := 40 } : Room) s m ([.ref (h 0), .int p1, .int p2, .int p3] : List Value).toArray below meth c H locs 0 0 (MQ below (qV D (wX2 cyI cyJ cyZ cyO h q.1 q.2.1 q.2.2) A) ([.ref (h 0), .int p1, .int p2, .int p3] : List Value).toArray s 0 0 A) (F0 m 0 ls []) := by
    intro H locs ls hP hD hS hl
    unfold g_X2_move at hf
    refine lv_iconst (v := 0) hx hb dX2_move_0 (by decide) ?_
    refine lv_istore (lv' := [(4, .int 0), (0, .ref (h 0)), (1, .int p1), (2, .int p2), (3, .int p3)]) hx hb dX2_move_1 hl (by decide) rfl (fun ls hl => ?_)
    exact l3 nf p1 p2 p3 0 shares moved parts H locs ls hP hD hS (lv_sub hl [1, 2, 3, 4, 0] rfl) hf
  have hl := lv_entry ([.ref (h 0), .int p1, .int p2, .int p3]) (n := 5) (Nat.le_of_ble_eq_true rfl)
  rw [lg_entry_eq]
  exact main s.heap [] _ hP hD hS hl
theorem hd_X2_share : yX2_share.cls = RX2 ∧ yX2_share.cls ≠ "java/lang/invoke/MethodHandle" ∧ yX2_share.cls ≠ "java/lang/invoke/VarHandle" ∧ (parseMethodDescriptor yX2_share.desc).map (fun d => d.parameters.length) = some 1 := by decide +kernel
set_option maxHeartbeats 4000000 in
set_option maxRecDepth 100000 in
theorem c_X2_share (l : Launch) (D : va_G) (cyI cyJ cyZ cyO : ClassId) (h : Nat → Nat) (sz : Nat) (shares : Nat → Int64) (moved : Nat → Int64) (parts : Int64) (p1 : Int32) (nf : Nat) (q : Int64) (hf : g_X2_share nf p1 shares = some q) : Met l yX2_share (Cond.code yX2_share cX2_share 2 (some .long) :: tbG) ({ frames := 0, cells := 0, slots := 0, locals := 0 } : Room) (va_Pc [.ref (h 0), .int p1] (pcB D (ty4 cyI cyJ cyZ cyO) sz (wX2 cyI cyJ cyZ cyO h shares moved parts))) (qL D (wX2 cyI cyJ cyZ cyO h shares moved parts) q (va_A (wX2 cyI cyJ cyZ cyO h shares moved parts) sz)) 0 0 (va_A (wX2 cyI cyJ cyZ cyO h shares moved parts) sz) := by
  refine Met.ofW (cc := cX2_share) (maxL := 2) (ret := (some .long)) (by decide) rfl ?_
  intro p e s m args below meth c s₁ B hml hv
  obtain ⟨rfl, hsz, hP, hK, hD0, hN⟩ := hv
  have hx := B.exec
  have hb := B.bytes
  have hr := B.returns
  have hT : ∀ w ∈ tbG, w.before ([.ref (h 0), .int p1] : List Value).toArray s = true := fun w h => atoms_spec (ws := (Cond.code yX2_share cX2_share 2 (some .long) :: tbG)) B.pre w (List.mem_cons_of_mem _ h)
  have hown : s.vm.findClass RX2 = some m.cls := findClass_of_methodNamed B.named
  have hlocks := B.notSynchronized
  subst hsz
  have hD := hD0.self (sz := s.heap.size)
  generalize hAe : va_A (wX2 cyI cyJ cyZ cyO h shares moved parts) s.heap.size = A at hD ⊢
  have hA : ∀ q : Nat, s.heap.size ≤ q → A q := fun q h => by rw [← hAe]; exact Or.inr h
  have hS : va_S A s.heap s.heap [] := va_S.rf
  show W p l e ({ frames := 0, cells := 0, slots := 0, locals := 0 } : Room) s m ([.ref (h 0), .int p1] : List Value).toArray below meth c s.heap [] 0 0 (MQ below (qL D (wX2 cyI cyJ cyZ cyO h shares moved parts) q A) ([.ref (h 0), .int p1] : List Value).toArray s 0 0 A) _
  have main : ∀ (H : Heap) (locs : List Loc) (ls : Array Slot), va_P D vwCl (wX2 cyI cyJ cyZ cyO h shares moved parts) H → va_D A (wX2 cyI cyJ cyZ cyO h shares moved parts) → va_S A s.heap H locs → lv_has ls 2 [(0, .ref (h 0)), (1, .int p1)] → W p l e ({ frames := 0, cells := 0, slots := 0, locals := 0 } : Room) s m ([.ref (h 0), .int p1] : List Value).toArray below meth c H locs 0 0 (MQ below (qL D (wX2 cyI cyJ cyZ cyO h shares moved parts) q A) ([.ref (h 0), .int p1] : List Value).toArray s 0 0 A) (F0 m 0 ls []) := by
    intro H locs ls hP hD hS hl
    unfold g_X2_share at hf
    refine lv_iload_n hx hb dX2_share_0 rfl (lv_at hl 1 rfl) ?_
    refine lv_if_lt (tgt := 19) hx hb dX2_share_1 (by decide) (fun cc => ?_) (fun cc => ?_)
    · replace hf := if_t cc hf
      refine lv_lconst (v := 0) hx hb dX2_share_19 (by decide) ?_
      cases Option.some.inj hf
      exact W.lret hx hb hr (fun t ht hW => ⟨⟨_, (), rfl, rfl, by show va_P D vwCl _ t.heap; rw [ht]; exact hP⟩, hS.F ht⟩) hS.2.2 dX2_share_20
    · replace hf := if_f cc hf
      refine lv_iload_n hx hb dX2_share_4 rfl (lv_at hl 1 rfl) ?_
      refine lv_bipush (v := 9) hx hb dX2_share_5 (by decide) ?_
      refine lv_icmp_gt (tgt := 19) hx hb dX2_share_7 (by decide) (fun cc => ?_) (fun cc => ?_)
      · replace hf := if_t cc hf
        refine lv_lconst (v := 0) hx hb dX2_share_19 (by decide) ?_
        cases Option.some.inj hf
        exact W.lret hx hb hr (fun t ht hW => ⟨⟨_, (), rfl, rfl, by show va_P D vwCl _ t.heap; rw [ht]; exact hP⟩, hS.F ht⟩) hS.2.2 dX2_share_20
      · replace hf := if_f cc hf
        refine lv_aload_n hx hb dX2_share_10 rfl (lv_at hl 0 rfl) ?_
        refine va_get (ci := 2) (v := .ref (h 1)) (C := RX2) (T := TX2) (N := 3) hx hb hT hin_X2 hown hK hP 0 rfl rfl 0 (by decide) (hT _ wf_X2_9) (fun _ h9 => h9) rfl dX2_share_11 ?_
        refine lv_iload_n hx hb dX2_share_14 rfl (lv_at hl 1 rfl) ?_
        obtain ⟨hi, hf⟩ := ck_some hf
        refine va_lald hx hb hK hP 1 1 rfl rfl hi dX2_share_15 ?_
        refine lv_goto (tgt := 20) hx hb dX2_share_16 (by decide) ?_
        cases Option.some.inj hf
        exact W.lret hx hb hr (fun t ht hW => ⟨⟨_, (), rfl, rfl, by show va_P D vwCl _ t.heap; rw [ht]; exact hP⟩, hS.F ht⟩) hS.2.2 dX2_share_20
  have hl := lv_entry ([.ref (h 0), .int p1]) (n := 2) (Nat.le_of_ble_eq_true rfl)
  rw [lg_entry_eq]
  exact main s.heap [] _ hP hD hS hl
theorem hd_J6_lowestOneBit_0f7a4 : yJ6_lowestOneBit_0f7a4.cls ≠ "java/lang/invoke/MethodHandle" ∧ yJ6_lowestOneBit_0f7a4.cls ≠ "java/lang/invoke/VarHandle" ∧ (parseMethodDescriptor yJ6_lowestOneBit_0f7a4.desc).map (fun d => d.parameters.length) = some 1 := by decide +kernel
set_option maxHeartbeats 4000000 in
set_option maxRecDepth 100000 in
theorem c_J6_lowestOneBit_0f7a4 (l : Launch) (D : va_G) (cyI cyJ cyZ cyO : ClassId) (sz : Nat) (p0 : Int32) (nf : Nat) (q : Int32) (hf : g_J6_lowestOneBit_0f7a4 nf p0 = some q) : Met l yJ6_lowestOneBit_0f7a4 (Cond.code yJ6_lowestOneBit_0f7a4 cJ6_lowestOneBit_0f7a4 1 (some .int) :: tbG) ({ frames := 0, cells := 0, slots := 0, locals := 0 } : Room) (va_Pc [.int p0] (pcB D (ty4 cyI cyJ cyZ cyO) sz (([] : va_W)))) (qI D (([] : va_W)) q (va_A (([] : va_W)) sz)) 0 0 (va_A (([] : va_W)) sz) := by
  refine Met.ofW (cc := cJ6_lowestOneBit_0f7a4) (maxL := 1) (ret := (some .int)) (by decide) rfl ?_
  intro p e s m args below meth c s₁ B hml hv
  obtain ⟨rfl, hsz, hP, hK, hD0, hN⟩ := hv
  have hx := B.exec
  have hb := B.bytes
  have hr := B.returns
  have hT : ∀ w ∈ tbG, w.before ([.int p0] : List Value).toArray s = true := fun w h => atoms_spec (ws := (Cond.code yJ6_lowestOneBit_0f7a4 cJ6_lowestOneBit_0f7a4 1 (some .int) :: tbG)) B.pre w (List.mem_cons_of_mem _ h)
  have hown : s.vm.findClass RJ6 = some m.cls := findClass_of_methodNamed B.named
  have hlocks := B.notSynchronized
  subst hsz
  have hD := hD0.self (sz := s.heap.size)
  generalize hAe : va_A (([] : va_W)) s.heap.size = A at hD ⊢
  have hA : ∀ q : Nat, s.heap.size ≤ q → A q := fun q h => by rw [← hAe]; exact Or.inr h
  have hS : va_S A s.heap s.heap [] := va_S.rf
  show W p l e ({ frames := 0, cells := 0, slots := 0, locals := 0 } : Room) s m ([.int p0] : List Value).toArray below meth c s.heap [] 0 0 (MQ below (qI D (([] : va_W)) q A) ([.int p0] : List Value).toArray s 0 0 A) _
  have main : ∀ (H : Heap) (locs : List Loc) (ls : Array Slot), va_P D vwCl (([] : va_W)) H → va_D A (([] : va_W)) → va_S A s.heap H locs → lv_has ls 1 [(0, .int p0)] → W p l e ({ frames := 0, cells := 0, slots := 0, locals := 0 } : Room) s m ([.int p0] : List Value).toArray below meth c H locs 0 0 (MQ below (qI D (([] : va_W)) q A) ([.int p0] : List Value).toArray s 0 0 A) (F0 m 0 ls []) := by
    intro H locs ls hP hD hS hl
    unfold g_J6_lowestOneBit_0f7a4 at hf
    refine lv_iload_n hx hb dJ6_lowestOneBit_0f7a4_0 rfl (lv_at hl 0 rfl) ?_
    refine lv_iload_n hx hb dJ6_lowestOneBit_0f7a4_1 rfl (lv_at hl 0 rfl) ?_
    refine lv_ineg hx hb dJ6_lowestOneBit_0f7a4_2 ?_
    refine lv_iand hx hb dJ6_lowestOneBit_0f7a4_3 ?_
    cases Option.some.inj hf
    exact W.iret hx hb hr (fun t ht hW => ⟨⟨_, (), rfl, rfl, by show va_P D vwCl _ t.heap; rw [ht]; exact hP⟩, hS.F ht⟩) hS.2.2 dJ6_lowestOneBit_0f7a4_4
  have hl := lv_entry ([.int p0]) (n := 1) (Nat.le_of_ble_eq_true rfl)
  rw [lg_entry_eq]
  exact main s.heap [] _ hP hD hS hl
theorem hd_X3_wayBack : yX3_wayBack.cls = RX3 ∧ yX3_wayBack.cls ≠ "java/lang/invoke/MethodHandle" ∧ yX3_wayBack.cls ≠ "java/lang/invoke/VarHandle" ∧ (parseMethodDescriptor yX3_wayBack.desc).map (fun d => d.parameters.length) = some 1 := by decide +kernel
set_option maxHeartbeats 4000000 in
set_option maxRecDepth 100000 in
theorem c_X3_wayBack (l : Launch) (D : va_G) (cyI cyJ cyZ cyO : ClassId) (h : Nat → Nat) (sz : Nat) (rings : Nat → Int32) (moths : Int32) (harbour : Int32) (best : Int32) (p1 : Int32) (nf : Nat) (q : Int32) (hf : g_X3_wayBack nf p1 rings harbour = some q) : Met l yX3_wayBack (Cond.code yX3_wayBack cX3_wayBack 5 (some .int) :: tbG) ({ frames := 1, cells := 0, slots := 0, locals := 23 } : Room) (va_Pc [.ref (h 0), .int p1] (pcB D (ty4 cyI cyJ cyZ cyO) sz (wX3 cyI cyJ cyZ cyO h rings moths harbour best))) (qI D (wX3 cyI cyJ cyZ cyO h rings moths harbour best) q (va_A (wX3 cyI cyJ cyZ cyO h rings moths harbour best) sz)) 0 0 (va_A (wX3 cyI cyJ cyZ cyO h rings moths harbour best) sz) := by
  refine Met.ofW (cc := cX3_wayBack) (maxL := 5) (ret := (some .int)) (by decide) rfl ?_
  intro p e s m args below meth c s₁ B hml hv
  obtain ⟨rfl, hsz, hP, hK, hD0, hN⟩ := hv
  have hx := B.exec
  have hb := B.bytes
  have hr := B.returns
  have hT : ∀ w ∈ tbG, w.before ([.ref (h 0), .int p1] : List Value).toArray s = true := fun w h => atoms_spec (ws := (Cond.code yX3_wayBack cX3_wayBack 5 (some .int) :: tbG)) B.pre w (List.mem_cons_of_mem _ h)
  have hown : s.vm.findClass RX3 = some m.cls := findClass_of_methodNamed B.named
  have hlocks := B.notSynchronized
  subst hsz
  have hD := hD0.self (sz := s.heap.size)
  generalize hAe : va_A (wX3 cyI cyJ cyZ cyO h rings moths harbour best) s.heap.size = A at hD ⊢
  have hA : ∀ q : Nat, s.heap.size ≤ q → A q := fun q h => by rw [← hAe]; exact Or.inr h
  have hS : va_S A s.heap s.heap [] := va_S.rf
  show W p l e ({ frames := 1, cells := 0, slots := 0, locals := 23 } : Room) s m ([.ref (h 0), .int p1] : List Value).toArray below meth c s.heap [] 0 0 (MQ below (qI D (wX3 cyI cyJ cyZ cyO h rings moths harbour best) q A) ([.ref (h 0), .int p1] : List Value).toArray s 0 0 A) _
  have l12 : ∀ (n12 : Nat) (x2 : Int32) (x3 : Int32) (x4 : Int32) (rings : Nat → Int32) (harbour : Int32) (H : Heap) (locs : List Loc) (ls : Array Slot), va_P D vwCl (wX3 cyI cyJ cyZ cyO h rings moths harbour best) H → va_D A (wX3 cyI cyJ cyZ cyO h rings moths harbour best) → va_S A s.heap H locs → lv_has ls 5 [(0, .ref (h 0)), (2, .int x2), (3, .int x3), (4, .int x4)] → g_X3_wayBack_l12 nf n12 x2 x3 x4 rings harbour = some q → W p l e ({ frames := 1, cells := 0, slots := 0, locals := 23 } : Room) s m ([.ref (h 0), .int p1] : List Value).toArray below meth c H locs 0 0 (MQ below (qI D (wX3 cyI cyJ cyZ cyO h rings moths harbour best) q A) ([.ref (h 0), .int p1] : List Value).toArray s 0 0 A) (F0 m 12 ls []) := by
    intro n12
    induction n12 with
    | zero =>
      intro x2 x3 x4 rings harbour H locs ls hP hD hS hl hf
      rw [g_X3_wayBack_l12] at hf
      cases hf
    | succ n12 ih12 =>
      intro x2 x3 x4 rings harbour H locs ls hP hD hS hl hf
      rw [g_X3_wayBack_l12] at hf
      refine lv_iload hx hb dX3_wayBack_12 (lv_at hl 3 rfl) ?_
      refine lv_iconst (v := 1) hx hb dX3_wayBack_14 (by decide) ?_
      refine lv_icmp_lt (tgt := 51) hx hb dX3_wayBack_15 (by decide) (fun cc => ?_) (fun cc => ?_)
      · replace hf := if_t cc hf
        refine lv_iload_n hx hb dX3_wayBack_51 rfl (lv_at hl 1 rfl) ?_
        cases Option.some.inj hf
        exact W.iret hx hb hr (fun t ht hW => ⟨⟨_, (), rfl, rfl, by show va_P D vwCl _ t.heap; rw [ht]; exact hP⟩, hS.F ht⟩) hS.2.2 dX3_wayBack_52
      · replace hf := if_f cc hf
        refine lv_iload hx hb dX3_wayBack_18 (lv_at hl 3 rfl) ?_
        refine lv_bipush (v := 25) hx hb dX3_wayBack_20 (by decide) ?_
        refine lv_icmp_gt (tgt := 51) hx hb dX3_wayBack_22 (by decide) (fun cc => ?_) (fun cc => ?_)
        · replace hf := if_t cc hf
          refine lv_iload_n hx hb dX3_wayBack_51 rfl (lv_at hl 1 rfl) ?_
          cases Option.some.inj hf
          exact W.iret hx hb hr (fun t ht hW => ⟨⟨_, (), rfl, rfl, by show va_P D vwCl _ t.heap; rw [ht]; exact hP⟩, hS.F ht⟩) hS.2.2 dX3_wayBack_52
        · replace hf := if_f cc hf
          refine lv_iload_n hx hb dX3_wayBack_25 rfl (lv_at hl 2 rfl) ?_
          obtain ⟨q1, hq1, hf⟩ := bd_some hf
          have hC : ([] : List Nat).map (fun i => (wX3 cyI cyJ cyZ cyO h rings moths harbour best)[i]?) = ([] : va_W).map some := rfl
          refine cl_i (rn_SN (As := [.int x3]) (rest := []) (host := RX8) hx hb hml hown hT hK hN hP hD [] hC rfl (c_X8_allBeside l D cyI cyJ cyZ cyO H.size x3 nf q1 hq1) (by decide) wt_X8_allBeside wz_X8 wc_X8_allBeside hd_X8_allBeside ⟨rfl, rfl⟩ ⟨Nat.le_of_ble_eq_true rfl, Nat.le_of_ble_eq_true rfl⟩ rfl hl.1 rfl (Nat.le_of_ble_eq_true rfl) dX3_wayBack_26 ⟨Nat.zero_le _, Nat.zero_le _⟩) hP hD hS hA [] hC [(false, 0), (false, 1)] (ws' := wX3 cyI cyJ cyZ cyO h rings moths harbour best) rfl rfl rfl (fun H locs hP hD hS => ?_)
          refine lv_aload_n hx hb dX3_wayBack_29 rfl (lv_at hl 0 rfl) ?_
          refine va_get (ci := 3) (v := .ref (h 1)) (C := RX3) (T := TX3) (N := 4) hx hb hT hin_X3 hown hK hP 0 rfl rfl 0 (by decide) (hT _ wf_X3_9) (fun _ h9 => h9) rfl dX3_wayBack_30 ?_
          refine lv_iload hx hb dX3_wayBack_33 (lv_at hl 3 rfl) ?_
          obtain ⟨hi, hf⟩ := ck_some hf
          refine va_iald hx hb hK hP 1 0 rfl rfl hi dX3_wayBack_35 ?_
          refine lv_iand hx hb dX3_wayBack_36 ?_
          obtain ⟨q2, hq2, hf⟩ := bd_some hf
          have hC : ([] : List Nat).map (fun i => (wX3 cyI cyJ cyZ cyO h rings moths harbour best)[i]?) = ([] : va_W).map some := rfl
          refine cl_i (rn_S (As := [.int (q1 &&& (rings x4.toNatClampNeg))]) (rest := []) hx hb hml hown hT hK hN hP hD [] hC rfl (c_J6_lowestOneBit_0f7a4 l D cyI cyJ cyZ cyO H.size (q1 &&& (rings x4.toNatClampNeg)) nf q2 hq2) wm_X3_45 wt_J6_lowestOneBit_0f7a4 wz_J6 wc_J6_lowestOneBit_0f7a4 hd_J6_lowestOneBit_0f7a4 ⟨rfl, rfl⟩ ⟨Nat.le_of_ble_eq_true rfl, Nat.le_of_ble_eq_true rfl⟩ rfl hl.1 rfl (Nat.le_of_ble_eq_true rfl) dX3_wayBack_37 ⟨Nat.zero_le _, Nat.zero_le _⟩) hP hD hS hA [] hC [(false, 0), (false, 1)] (ws' := wX3 cyI cyJ cyZ cyO h rings moths harbour best) rfl rfl rfl (fun H locs hP hD hS => ?_)
          refine lv_istore_n (lv' := [(3, .int q2), (0, .ref (h 0)), (2, .int x2), (4, .int x4)]) hx hb dX3_wayBack_40 rfl hl (by decide) rfl (fun ls hl => ?_)
          refine lv_iload_n hx hb dX3_wayBack_41 rfl (lv_at hl 2 rfl) ?_
          refine lv_iload_n hx hb dX3_wayBack_42 rfl (lv_at hl 0 rfl) ?_
          refine lv_ior hx hb dX3_wayBack_43 ?_
          refine lv_istore_n (lv' := [(2, .int (x2 ||| q2)), (3, .int q2), (0, .ref (h 0)), (4, .int x4)]) hx hb dX3_wayBack_44 rfl hl (by decide) rfl (fun ls hl => ?_)
          refine lv_iinc (v := (x4 + (-1))) (lv' := [(4, .int (x4 + (-1))), (2, .int (x2 ||| q2)), (3, .int q2), (0, .ref (h 0))]) hx hb dX3_wayBack_45 hl (k := 3) rfl rfl (by decide) rfl (fun ls hl => ?_)
          refine lv_goto (tgt := 12) hx hb dX3_wayBack_48 (by decide) ?_
          exact ih12 (x2 ||| q2) q2 (x4 + (-1)) rings harbour H locs ls hP hD hS (lv_sub hl [3, 1, 2, 0] rfl) hf
  have main : ∀ (H : Heap) (locs : List Loc) (ls : Array Slot), va_P D vwCl (wX3 cyI cyJ cyZ cyO h rings moths harbour best) H → va_D A (wX3 cyI cyJ cyZ cyO h rings moths harbour best) → va_S A s.heap H locs → lv_has ls 5 [(0, .ref (h 0)), (1, .int p1)] → W p l e ({ frames := 1, cells := 0, slots := 0, locals := 23 } : Room) s m ([.ref (h 0), .int p1] : List Value).toArray below meth c H locs 0 0 (MQ below (qI D (wX3 cyI cyJ cyZ cyO h rings moths harbour best) q A) ([.ref (h 0), .int p1] : List Value).toArray s 0 0 A) (F0 m 0 ls []) := by
    intro H locs ls hP hD hS hl
    unfold g_X3_wayBack at hf
    refine lv_iconst (v := 0) hx hb dX3_wayBack_0 (by decide) ?_
    refine lv_istore_n (lv' := [(2, .int 0), (0, .ref (h 0)), (1, .int p1)]) hx hb dX3_wayBack_1 rfl hl (by decide) rfl (fun ls hl => ?_)
    refine lv_aload_n hx hb dX3_wayBack_2 rfl (lv_at hl 1 rfl) ?_
    refine va_get (ci := 3) (v := .int harbour) (C := RX3) (T := TX3) (N := 4) hx hb hT hin_X3 hown hK hP 0 rfl rfl 2 (by decide) (hT _ wf_X3_19) (fun _ h9 => h9) rfl dX3_wayBack_3 ?_
    refine lv_istore_n (lv' := [(3, .int harbour), (2, .int 0), (0, .ref (h 0)), (1, .int p1)]) hx hb dX3_wayBack_6 rfl hl (by decide) rfl (fun ls hl => ?_)
    refine lv_iload_n hx hb dX3_wayBack_7 rfl (lv_at hl 3 rfl) ?_
    refine lv_iconst (v := 1) hx hb dX3_wayBack_8 (by decide) ?_
    refine lv_isub hx hb dX3_wayBack_9 ?_
    refine lv_istore (lv' := [(4, .int (p1 - 1)), (3, .int harbour), (2, .int 0), (0, .ref (h 0)), (1, .int p1)]) hx hb dX3_wayBack_10 hl (by decide) rfl (fun ls hl => ?_)
    exact l12 nf 0 harbour (p1 - 1) rings harbour H locs ls hP hD hS (lv_sub hl [3, 2, 1, 0] rfl) hf
  have hl := lv_entry ([.ref (h 0), .int p1]) (n := 5) (Nat.le_of_ble_eq_true rfl)
  rw [lg_entry_eq]
  exact main s.heap [] _ hP hD hS hl
theorem hd_X3_openWay : yX3_openWay.cls = RX3 ∧ yX3_openWay.cls ≠ "java/lang/invoke/MethodHandle" ∧ yX3_openWay.cls ≠ "java/lang/invoke/VarHandle" ∧ (parseMethodDescriptor yX3_openWay.desc).map (fun d => d.parameters.length) = some 1 := by decide +kernel
set_option maxHeartbeats 4000000 in
set_option maxRecDepth 100000 in
theorem c_X3_openWay (l : Launch) (D : va_G) (cyI cyJ cyZ cyO : ClassId) (h : Nat → Nat) (sz : Nat) (rings : Nat → Int32) (moths : Int32) (harbour : Int32) (best : Int32) (p1 : Int32) (nf : Nat) (q : Int32 × (Nat → Int32)) (hf : g_X3_openWay nf p1 rings moths harbour = some q) : Met l yX3_openWay (Cond.code yX3_openWay cX3_openWay 5 (some .int) :: tbG) ({ frames := 2, cells := 0, slots := 0, locals := 47 } : Room) (va_Pc [.ref (h 0), .int p1] (pcB D (ty4 cyI cyJ cyZ cyO) sz (wX3 cyI cyJ cyZ cyO h rings moths harbour best))) (qI D (wX3 cyI cyJ cyZ cyO h q.2 moths harbour best) q.1 (va_A (wX3 cyI cyJ cyZ cyO h rings moths harbour best) sz)) 0 0 (va_A (wX3 cyI cyJ cyZ cyO h rings moths harbour best) sz) := by
  refine Met.ofW (cc := cX3_openWay) (maxL := 5) (ret := (some .int)) (by decide) rfl ?_
  intro p e s m args below meth c s₁ B hml hv
  obtain ⟨rfl, hsz, hP, hK, hD0, hN⟩ := hv
  have hx := B.exec
  have hb := B.bytes
  have hr := B.returns
  have hT : ∀ w ∈ tbG, w.before ([.ref (h 0), .int p1] : List Value).toArray s = true := fun w h => atoms_spec (ws := (Cond.code yX3_openWay cX3_openWay 5 (some .int) :: tbG)) B.pre w (List.mem_cons_of_mem _ h)
  have hown : s.vm.findClass RX3 = some m.cls := findClass_of_methodNamed B.named
  have hlocks := B.notSynchronized
  subst hsz
  have hD := hD0.self (sz := s.heap.size)
  generalize hAe : va_A (wX3 cyI cyJ cyZ cyO h rings moths harbour best) s.heap.size = A at hD ⊢
  have hA : ∀ q : Nat, s.heap.size ≤ q → A q := fun q h => by rw [← hAe]; exact Or.inr h
  have hS : va_S A s.heap s.heap [] := va_S.rf
  show W p l e ({ frames := 2, cells := 0, slots := 0, locals := 47 } : Room) s m ([.ref (h 0), .int p1] : List Value).toArray below meth c s.heap [] 0 0 (MQ below (qI D (wX3 cyI cyJ cyZ cyO h q.2 moths harbour best) q.1 A) ([.ref (h 0), .int p1] : List Value).toArray s 0 0 A) _
  have l17 : ∀ (n17 : Nat) (x1 : Int32) (x2 : Int32) (x3 : Int32) (rings : Nat → Int32) (moths : Int32) (harbour : Int32) (H : Heap) (locs : List Loc) (ls : Array Slot), va_P D vwCl (wX3 cyI cyJ cyZ cyO h rings moths harbour best) H → va_D A (wX3 cyI cyJ cyZ cyO h rings moths harbour best) → va_S A s.heap H locs → lv_has ls 5 [(0, .ref (h 0)), (1, .int x1), (2, .int x2), (3, .int x3)] → g_X3_openWay_l17 nf n17 x1 x2 x3 rings moths harbour = some q → W p l e ({ frames := 2, cells := 0, slots := 0, locals := 47 } : Room) s m ([.ref (h 0), .int p1] : List Value).toArray below meth c H locs 0 0 (MQ below (qI D (wX3 cyI cyJ cyZ cyO h q.2 moths harbour best) q.1 A) ([.ref (h 0), .int p1] : List Value).toArray s 0 0 A) (F0 m 17 ls []) := by
    intro n17
    induction n17 with
    | zero =>
      intro x1 x2 x3 rings moths harbour H locs ls hP hD hS hl hf
      rw [g_X3_openWay_l17] at hf
      cases hf
    | succ n17 ih17 =>
      intro x1 x2 x3 rings moths harbour H locs ls hP hD hS hl hf
      rw [g_X3_openWay_l17] at hf
      refine lv_iload_n hx hb dX3_openWay_17 rfl (lv_at hl 3 rfl) ?_
      refine lv_bipush (v := 25) hx hb dX3_openWay_18 (by decide) ?_
      refine lv_icmp_gt (tgt := 86) hx hb dX3_openWay_20 (by decide) (fun cc => ?_) (fun cc => ?_)
      · replace hf := if_t cc hf
        refine lv_iconst (v := 0) hx hb dX3_openWay_86 (by decide) ?_
        cases Option.some.inj hf
        exact W.iret hx hb hr (fun t ht hW => ⟨⟨_, (), rfl, rfl, by show va_P D vwCl _ t.heap; rw [ht]; exact hP⟩, hS.F ht⟩) hS.2.2 dX3_openWay_87
      · replace hf := if_f cc hf
        refine lv_aload_n hx hb dX3_openWay_23 rfl (lv_at hl 0 rfl) ?_
        refine va_get (ci := 3) (v := .ref (h 1)) (C := RX3) (T := TX3) (N := 4) hx hb hT hin_X3 hown hK hP 0 rfl rfl 0 (by decide) (hT _ wf_X3_9) (fun _ h9 => h9) rfl dX3_openWay_24 ?_
        refine lv_iload_n hx hb dX3_openWay_27 rfl (lv_at hl 3 rfl) ?_
        refine lv_iconst (v := 1) hx hb dX3_openWay_28 (by decide) ?_
        refine lv_isub hx hb dX3_openWay_29 ?_
        obtain ⟨hi, hf⟩ := ck_some hf
        refine va_iald hx hb hK hP 1 0 rfl rfl hi dX3_openWay_30 ?_
        obtain ⟨q1, hq1, hf⟩ := bd_some hf
        have hC : ([] : List Nat).map (fun i => (wX3 cyI cyJ cyZ cyO h rings moths harbour best)[i]?) = ([] : va_W).map some := rfl
        refine cl_i (rn_SN (As := [.int (rings (x3 - 1).toNatClampNeg)]) (rest := []) (host := RX8) hx hb hml hown hT hK hN hP hD [] hC rfl (c_X8_allBeside l D cyI cyJ cyZ cyO H.size (rings (x3 - 1).toNatClampNeg) nf q1 hq1) (by decide) wt_X8_allBeside wz_X8 wc_X8_allBeside hd_X8_allBeside ⟨rfl, rfl⟩ ⟨Nat.le_of_ble_eq_true rfl, Nat.le_of_ble_eq_true rfl⟩ rfl hl.1 rfl (Nat.le_of_ble_eq_true rfl) dX3_openWay_31 ⟨Nat.zero_le _, Nat.zero_le _⟩) hP hD hS hA [] hC [(false, 0), (false, 1)] (ws' := wX3 cyI cyJ cyZ cyO h rings moths harbour best) rfl rfl rfl (fun H locs hP hD hS => ?_)
        refine lv_iload_n hx hb dX3_openWay_34 rfl (lv_at hl 2 rfl) ?_
        refine lv_iconst (v := (-1)) hx hb dX3_openWay_35 (by decide) ?_
        refine lv_ixor hx hb dX3_openWay_36 ?_
        refine lv_iand hx hb dX3_openWay_37 ?_
        refine lv_iload_n hx hb dX3_openWay_38 rfl (lv_at hl 1 rfl) ?_
        refine lv_iconst (v := (-1)) hx hb dX3_openWay_39 (by decide) ?_
        refine lv_ixor hx hb dX3_openWay_40 ?_
        refine lv_iand hx hb dX3_openWay_41 ?_
        refine lv_istore (lv' := [(4, .int ((q1 &&& (x2 ^^^ ((-1) : Int32))) &&& (x1 ^^^ ((-1) : Int32)))), (0, .ref (h 0)), (1, .int x1), (2, .int x2), (3, .int x3)]) hx hb dX3_openWay_42 hl (by decide) rfl (fun ls hl => ?_)
        refine lv_iload hx hb dX3_openWay_44 (lv_at hl 0 rfl) ?_
        refine lv_if_ne (tgt := 51) hx hb dX3_openWay_46 (by decide) (fun cc => ?_) (fun cc => ?_)
        · replace hf := if_f cc hf
          refine lv_iload hx hb dX3_openWay_51 (lv_at hl 0 rfl) ?_
          refine lv_aload_n hx hb dX3_openWay_53 rfl (lv_at hl 1 rfl) ?_
          refine va_get (ci := 3) (v := .int harbour) (C := RX3) (T := TX3) (N := 4) hx hb hT hin_X3 hown hK hP 0 rfl rfl 2 (by decide) (hT _ wf_X3_19) (fun _ h9 => h9) rfl dX3_openWay_54 ?_
          refine lv_iand hx hb dX3_openWay_57 ?_
          refine lv_if_eq (tgt := 67) hx hb dX3_openWay_58 (by decide) (fun cc => ?_) (fun cc => ?_)
          · replace hf := if_t cc hf
            refine lv_aload_n hx hb dX3_openWay_67 rfl (lv_at hl 1 rfl) ?_
            refine va_get (ci := 3) (v := .ref (h 1)) (C := RX3) (T := TX3) (N := 4) hx hb hT hin_X3 hown hK hP 0 rfl rfl 0 (by decide) (hT _ wf_X3_9) (fun _ h9 => h9) rfl dX3_openWay_68 ?_
            refine lv_iload_n hx hb dX3_openWay_71 rfl (lv_at hl 4 rfl) ?_
            refine lv_iload hx hb dX3_openWay_72 (lv_at hl 0 rfl) ?_
            obtain ⟨hi, hf⟩ := ck_some hf
            refine va_iast hx hb hK hP hD hS 1 0 rfl rfl hi dX3_openWay_74 (fun H locs hP hD hS => ?_)
            have hP : va_P D vwCl (wX3 cyI cyJ cyZ cyO h (upd rings x3.toNatClampNeg ((q1 &&& (x2 ^^^ ((-1) : Int32))) &&& (x1 ^^^ ((-1) : Int32)))) moths harbour best) H := hP
            have hD : va_D A (wX3 cyI cyJ cyZ cyO h (upd rings x3.toNatClampNeg ((q1 &&& (x2 ^^^ ((-1) : Int32))) &&& (x1 ^^^ ((-1) : Int32)))) moths harbour best) := hD
            refine lv_iload_n hx hb dX3_openWay_75 rfl (lv_at hl 3 rfl) ?_
            refine lv_iload hx hb dX3_openWay_76 (lv_at hl 0 rfl) ?_
            refine lv_ior hx hb dX3_openWay_78 ?_
            refine lv_istore_n (lv' := [(2, .int (x2 ||| ((q1 &&& (x2 ^^^ ((-1) : Int32))) &&& (x1 ^^^ ((-1) : Int32))))), (4, .int ((q1 &&& (x2 ^^^ ((-1) : Int32))) &&& (x1 ^^^ ((-1) : Int32)))), (0, .ref (h 0)), (1, .int x1), (3, .int x3)]) hx hb dX3_openWay_79 rfl hl (by decide) rfl (fun ls hl => ?_)
            refine lv_iinc (v := (x3 + 1)) (lv' := [(3, .int (x3 + 1)), (2, .int (x2 ||| ((q1 &&& (x2 ^^^ ((-1) : Int32))) &&& (x1 ^^^ ((-1) : Int32))))), (4, .int ((q1 &&& (x2 ^^^ ((-1) : Int32))) &&& (x1 ^^^ ((-1) : Int32)))), (0, .ref (h 0)), (1, .int x1)]) hx hb dX3_openWay_80 hl (k := 4) rfl rfl (by decide) rfl (fun ls hl => ?_)
            refine lv_goto (tgt := 17) hx hb dX3_openWay_83 (by decide) ?_
            exact ih17 x1 (x2 ||| ((q1 &&& (x2 ^^^ ((-1) : Int32))) &&& (x1 ^^^ ((-1) : Int32)))) (x3 + 1) (upd rings x3.toNatClampNeg ((q1 &&& (x2 ^^^ ((-1) : Int32))) &&& (x1 ^^^ ((-1) : Int32)))) moths harbour H locs ls hP hD hS (lv_sub hl [3, 4, 1, 0] rfl) hf
          · replace hf := if_f cc hf
            refine lv_aload_n hx hb dX3_openWay_61 rfl (lv_at hl 1 rfl) ?_
            refine lv_iload_n hx hb dX3_openWay_62 rfl (lv_at hl 4 rfl) ?_
            obtain ⟨q2, hq2, hf⟩ := bd_some hf
            have hC : [0, 1].map (fun i => (wX3 cyI cyJ cyZ cyO h rings moths harbour best)[i]?) = (wX3 cyI cyJ cyZ cyO h rings moths harbour best).map some := rfl
            refine cl_i (rn_V (As := [.int x3]) (rest := []) (C := RX3) hx hb hml hown hT hK hN hP hD [0, 1] hC rfl (c_X3_wayBack l D cyI cyJ cyZ cyO h H.size rings moths harbour best x3 nf q2 hq2) wm_X3_42 wi_X3_wayBack wl_X3_wayBack wz_X3 wc_X3_wayBack hd_X3_wayBack ⟨rfl, rfl⟩ ⟨Nat.le_of_ble_eq_true rfl, Nat.le_of_ble_eq_true rfl⟩ (q0 := 0) (ci := 3) rfl rfl rfl rfl hl.1 rfl (Nat.le_of_ble_eq_true rfl) dX3_openWay_63 ⟨Nat.zero_le _, Nat.zero_le _⟩) hP hD hS hA [0, 1] hC [(true, 0), (true, 1)] (ws' := wX3 cyI cyJ cyZ cyO h rings moths harbour best) rfl rfl rfl (fun H locs hP hD hS => ?_)
            cases Option.some.inj hf
            exact W.iret hx hb hr (fun t ht hW => ⟨⟨_, (), rfl, rfl, by show va_P D vwCl _ t.heap; rw [ht]; exact hP⟩, hS.F ht⟩) hS.2.2 dX3_openWay_66
        · replace hf := if_t cc hf
          refine lv_iconst (v := 0) hx hb dX3_openWay_49 (by decide) ?_
          cases Option.some.inj hf
          exact W.iret hx hb hr (fun t ht hW => ⟨⟨_, (), rfl, rfl, by show va_P D vwCl _ t.heap; rw [ht]; exact hP⟩, hS.F ht⟩) hS.2.2 dX3_openWay_50
  have main : ∀ (H : Heap) (locs : List Loc) (ls : Array Slot), va_P D vwCl (wX3 cyI cyJ cyZ cyO h rings moths harbour best) H → va_D A (wX3 cyI cyJ cyZ cyO h rings moths harbour best) → va_S A s.heap H locs → lv_has ls 5 [(0, .ref (h 0)), (1, .int p1)] → W p l e ({ frames := 2, cells := 0, slots := 0, locals := 47 } : Room) s m ([.ref (h 0), .int p1] : List Value).toArray below meth c H locs 0 0 (MQ below (qI D (wX3 cyI cyJ cyZ cyO h q.2 moths harbour best) q.1 A) ([.ref (h 0), .int p1] : List Value).toArray s 0 0 A) (F0 m 0 ls []) := by
    intro H locs ls hP hD hS hl
    unfold g_X3_openWay at hf
    refine lv_aload_n hx hb dX3_openWay_0 rfl (lv_at hl 0 rfl) ?_
    refine va_get (ci := 3) (v := .int moths) (C := RX3) (T := TX3) (N := 4) hx hb hT hin_X3 hown hK hP 0 rfl rfl 1 (by decide) (hT _ wf_X3_15) (fun _ h9 => h9) rfl dX3_openWay_1 ?_
    refine lv_istore_n (lv' := [(2, .int moths), (0, .ref (h 0)), (1, .int p1)]) hx hb dX3_openWay_4 rfl hl (by decide) rfl (fun ls hl => ?_)
    refine lv_aload_n hx hb dX3_openWay_5 rfl (lv_at hl 1 rfl) ?_
    refine va_get (ci := 3) (v := .ref (h 1)) (C := RX3) (T := TX3) (N := 4) hx hb hT hin_X3 hown hK hP 0 rfl rfl 0 (by decide) (hT _ wf_X3_9) (fun _ h9 => h9) rfl dX3_openWay_6 ?_
    refine lv_iconst (v := 0) hx hb dX3_openWay_9 (by decide) ?_
    refine lv_aload_n hx hb dX3_openWay_10 rfl (lv_at hl 1 rfl) ?_
    refine va_get (ci := 3) (v := .int moths) (C := RX3) (T := TX3) (N := 4) hx hb hT hin_X3 hown hK hP 0 rfl rfl 1 (by decide) (hT _ wf_X3_15) (fun _ h9 => h9) rfl dX3_openWay_11 ?_
    obtain ⟨hi, hf⟩ := ck_some hf
    refine va_iast hx hb hK hP hD hS 1 0 rfl rfl hi dX3_openWay_14 (fun H locs hP hD hS => ?_)
    have hP : va_P D vwCl (wX3 cyI cyJ cyZ cyO h (upd rings (0 : Int32).toNatClampNeg moths) moths harbour best) H := hP
    have hD : va_D A (wX3 cyI cyJ cyZ cyO h (upd rings (0 : Int32).toNatClampNeg moths) moths harbour best) := hD
    refine lv_iconst (v := 1) hx hb dX3_openWay_15 (by decide) ?_
    refine lv_istore_n (lv' := [(3, .int 1), (2, .int moths), (0, .ref (h 0)), (1, .int p1)]) hx hb dX3_openWay_16 rfl hl (by decide) rfl (fun ls hl => ?_)
    exact l17 nf p1 moths 1 (upd rings (0 : Int32).toNatClampNeg moths) moths harbour H locs ls hP hD hS (lv_sub hl [2, 3, 1, 0] rfl) hf
  have hl := lv_entry ([.ref (h 0), .int p1]) (n := 5) (Nat.le_of_ble_eq_true rfl)
  rw [lg_entry_eq]
  exact main s.heap [] _ hP hD hS hl
theorem hd_X3_search : yX3_search.cls = RX3 ∧ yX3_search.cls ≠ "java/lang/invoke/MethodHandle" ∧ yX3_search.cls ≠ "java/lang/invoke/VarHandle" ∧ (parseMethodDescriptor yX3_search.desc).map (fun d => d.parameters.length) = some 3 := by decide +kernel
set_option maxHeartbeats 4000000 in
set_option maxRecDepth 100000 in
theorem c_X3_search (l : Launch) (D : va_G) (cyI cyJ cyZ cyO : ClassId) (h : Nat → Nat) (sz : Nat) (rings : Nat → Int32) (moths : Int32) (harbour : Int32) (best : Int32) (p1 : Int32) (p2 : Int32) (p3 : Int32) (nf d : Nat) (q : (Nat → Int32) × Int32) (hf : g_X3_search nf d p1 p2 p3 rings moths harbour best = some q) : Met l yX3_search (Cond.code yX3_search cX3_search 8 none :: tbG) ({ frames := 3 + d, cells := 0, slots := 0, locals := 71 + d * 27 } : Room) (va_Pc [.ref (h 0), .int p1, .int p2, .int p3] (pcB D (ty4 cyI cyJ cyZ cyO) sz (wX3 cyI cyJ cyZ cyO h rings moths harbour best))) (qV D (wX3 cyI cyJ cyZ cyO h q.1 moths harbour q.2) (va_A (wX3 cyI cyJ cyZ cyO h rings moths harbour best) sz)) 0 0 (va_A (wX3 cyI cyJ cyZ cyO h rings moths harbour best) sz) := by
  revert h sz rings moths harbour best p1 p2 p3 q
  induction d with
  | zero =>
    intro h sz rings moths harbour best p1 p2 p3 q hf
    rw [g_X3_search] at hf
    cases hf
  | succ d ihd =>
    intro h sz rings moths harbour best p1 p2 p3 q hf
    refine Met.ofW (cc := cX3_search) (maxL := 8) (ret := none) (by decide) rfl ?_
    intro p e s m args below meth c s₁ B hml hv
    obtain ⟨rfl, hsz, hP, hK, hD0, hN⟩ := hv
    have hx := B.exec
    have hb := B.bytes
    have hr := B.returns
    have hT : ∀ w ∈ tbG, w.before ([.ref (h 0), .int p1, .int p2, .int p3] : List Value).toArray s = true := fun w h => atoms_spec (ws := (Cond.code yX3_search cX3_search 8 none :: tbG)) B.pre w (List.mem_cons_of_mem _ h)
    have hown : s.vm.findClass RX3 = some m.cls := findClass_of_methodNamed B.named
    have hlocks := B.notSynchronized
    subst hsz
    have hD := hD0.self (sz := s.heap.size)
    generalize hAe : va_A (wX3 cyI cyJ cyZ cyO h rings moths harbour best) s.heap.size = A at hD ⊢
    have hA : ∀ q : Nat, s.heap.size ≤ q → A q := fun q h => by rw [← hAe]; exact Or.inr h
    have hS : va_S A s.heap s.heap [] := va_S.rf
    show W p l e ({ frames := 3 + (d + 1), cells := 0, slots := 0, locals := 71 + (d + 1) * 27 } : Room) s m ([.ref (h 0), .int p1, .int p2, .int p3] : List Value).toArray below meth c s.heap [] 0 0 (MQ below (qV D (wX3 cyI cyJ cyZ cyO h q.1 moths harbour q.2) A) ([.ref (h 0), .int p1, .int p2, .int p3] : List Value).toArray s 0 0 A) _
    have b34 : ∀ (s1 : Int32) (rings : Nat → Int32) (moths : Int32) (harbour : Int32) (best : Int32) (H : Heap) (locs : List Loc) (ls : Array Slot), va_P D vwCl (wX3 cyI cyJ cyZ cyO h rings moths harbour best) H → va_D A (wX3 cyI cyJ cyZ cyO h rings moths harbour best) → va_S A s.heap H locs → lv_has ls 8 [] → g_X3_search_b34 nf (g_X3_search nf d) s1 rings moths harbour best = some q → W p l e ({ frames := 3 + (d + 1), cells := 0, slots := 0, locals := 71 + (d + 1) * 27 } : Room) s m ([.ref (h 0), .int p1, .int p2, .int p3] : List Value).toArray below meth c H locs 0 0 (MQ below (qV D (wX3 cyI cyJ cyZ cyO h q.1 moths harbour q.2) A) ([.ref (h 0), .int p1, .int p2, .int p3] : List Value).toArray s 0 0 A) (F0 m 34 ls [.int s1, .ref (h 0)]) := by
      intro s1 rings moths harbour best H locs ls hP hD hS hl hf
      unfold g_X3_search_b34 at hf
      refine va_put (ci := 3) (v := .int s1) (ty := .int) (C := RX3) (T := TX3) (N := 4) hx hb hT hin_X3 tyX3 tyX3_ok nmX3 hown hK hP hD hS 0 rfl rfl 3 (by decide) (hT _ wf_X3_26) (fun _ h9 => h9) rfl (tyX3_ok 3 (by decide)) rfl rfl (Nat.le_of_ble_eq_true rfl) dX3_search_34 (fun H locs hP hD hS => ?_)
      have hP : va_P D vwCl (wX3 cyI cyJ cyZ cyO h rings moths harbour s1) H := hP
      have hD : va_D A (wX3 cyI cyJ cyZ cyO h rings moths harbour s1) := hD
      cases Option.some.inj hf
      exact W.vret hx hb hr (fun t ht hW => ⟨⟨(), rfl, trivial, by show va_P D vwCl _ t.heap; rw [ht]; exact hP⟩, hS.F ht⟩) hS.2.2 dX3_search_37
    have l49 : ∀ (n49 : Nat) (x1 : Int32) (x2 : Int32) (x3 : Int32) (x4 : Int32) (x5 : Int32) (x6 : Int32) (rings : Nat → Int32) (moths : Int32) (harbour : Int32) (best : Int32) (H : Heap) (locs : List Loc) (ls : Array Slot), va_P D vwCl (wX3 cyI cyJ cyZ cyO h rings moths harbour best) H → va_D A (wX3 cyI cyJ cyZ cyO h rings moths harbour best) → va_S A s.heap H locs → lv_has ls 8 [(0, .ref (h 0)), (1, .int x1), (2, .int x2), (3, .int x3), (4, .int x4), (5, .int x5), (6, .int x6)] → g_X3_search_l49 nf (g_X3_search nf d) n49 x1 x2 x3 x4 x5 x6 rings moths harbour best = some q → W p l e ({ frames := 3 + (d + 1), cells := 0, slots := 0, locals := 71 + (d + 1) * 27 } : Room) s m ([.ref (h 0), .int p1, .int p2, .int p3] : List Value).toArray below meth c H locs 0 0 (MQ below (qV D (wX3 cyI cyJ cyZ cyO h q.1 moths harbour q.2) A) ([.ref (h 0), .int p1, .int p2, .int p3] : List Value).toArray s 0 0 A) (F0 m 49 ls []) := by
      intro n49
      induction n49 with
      | zero =>
        intro x1 x2 x3 x4 x5 x6 rings moths harbour best H locs ls hP hD hS hl hf
        rw [g_X3_search_l49] at hf
        cases hf
      | succ n49 ih49 =>
        have b94 : ∀ (x1 : Int32) (x2 : Int32) (x3 : Int32) (x4 : Int32) (x5 : Int32) (x6 : Int32) (rings : Nat → Int32) (moths : Int32) (harbour : Int32) (best : Int32) (H : Heap) (locs : List Loc) (ls : Array Slot), va_P D vwCl (wX3 cyI cyJ cyZ cyO h rings moths harbour best) H → va_D A (wX3 cyI cyJ cyZ cyO h rings moths harbour best) → va_S A s.heap H locs → lv_has ls 8 [(0, .ref (h 0)), (1, .int x1), (2, .int x2), (3, .int x3), (4, .int x4), (5, .int x5), (6, .int x6)] → g_X3_search_b94 nf (g_X3_search nf d) (g_X3_search_l49 nf (g_X3_search nf d) n49) x1 x2 x3 x4 x5 x6 rings moths harbour best = some q → W p l e ({ frames := 3 + (d + 1), cells := 0, slots := 0, locals := 71 + (d + 1) * 27 } : Room) s m ([.ref (h 0), .int p1, .int p2, .int p3] : List Value).toArray below meth c H locs 0 0 (MQ below (qV D (wX3 cyI cyJ cyZ cyO h q.1 moths harbour q.2) A) ([.ref (h 0), .int p1, .int p2, .int p3] : List Value).toArray s 0 0 A) (F0 m 94 ls []) := by
          intro x1 x2 x3 x4 x5 x6 rings moths harbour best H locs ls hP hD hS hl hf
          unfold g_X3_search_b94 at hf
          refine lv_iinc (v := (x6 + 1)) (lv' := [(6, .int (x6 + 1)), (0, .ref (h 0)), (1, .int x1), (2, .int x2), (3, .int x3), (4, .int x4), (5, .int x5)]) hx hb dX3_search_94 hl (k := 6) rfl rfl (by decide) rfl (fun ls hl => ?_)
          refine lv_goto (tgt := 49) hx hb dX3_search_97 (by decide) ?_
          exact ih49 x1 x2 x3 x4 x5 (x6 + 1) rings moths harbour best H locs ls hP hD hS (lv_sub hl [1, 2, 3, 4, 5, 6, 0] rfl) hf
        intro x1 x2 x3 x4 x5 x6 rings moths harbour best H locs ls hP hD hS hl hf
        rw [g_X3_search_l49] at hf
        refine lv_iload hx hb dX3_search_49 (lv_at hl 6 rfl) ?_
        refine lv_bipush (v := 25) hx hb dX3_search_51 (by decide) ?_
        refine lv_icmp_ge (tgt := 100) hx hb dX3_search_53 (by decide) (fun cc => ?_) (fun cc => ?_)
        · replace hf := if_t cc hf
          cases Option.some.inj hf
          exact W.vret hx hb hr (fun t ht hW => ⟨⟨(), rfl, trivial, by show va_P D vwCl _ t.heap; rw [ht]; exact hP⟩, hS.F ht⟩) hS.2.2 dX3_search_100
        · replace hf := if_f cc hf
          refine lv_iconst (v := 1) hx hb dX3_search_56 (by decide) ?_
          refine lv_iload hx hb dX3_search_57 (lv_at hl 6 rfl) ?_
          refine lv_ishl hx hb dX3_search_59 ?_
          refine lv_istore (lv' := [(7, .int ((1 : Int32) <<< (x6 &&& 31))), (0, .ref (h 0)), (1, .int x1), (2, .int x2), (3, .int x3), (4, .int x4), (5, .int x5), (6, .int x6)]) hx hb dX3_search_60 hl (by decide) rfl (fun ls hl => ?_)
          refine lv_iload hx hb dX3_search_62 (lv_at hl 5 rfl) ?_
          refine lv_iload_n hx hb dX3_search_64 rfl (lv_at hl 3 rfl) ?_
          refine lv_iconst (v := (-1)) hx hb dX3_search_65 (by decide) ?_
          refine lv_ixor hx hb dX3_search_66 ?_
          refine lv_iand hx hb dX3_search_67 ?_
          refine lv_iload hx hb dX3_search_68 (lv_at hl 0 rfl) ?_
          refine lv_iand hx hb dX3_search_70 ?_
          refine lv_if_eq (tgt := 94) hx hb dX3_search_71 (by decide) (fun cc => ?_) (fun cc => ?_)
          · replace hf := if_t cc hf
            exact b94 x1 x2 x3 x4 x5 x6 rings moths harbour best H locs ls hP hD hS (lv_sub hl [1, 2, 3, 4, 5, 6, 7] rfl) hf
          · replace hf := if_f cc hf
            refine lv_aload_n hx hb dX3_search_74 rfl (lv_at hl 1 rfl) ?_
            refine lv_iload_n hx hb dX3_search_75 rfl (lv_at hl 2 rfl) ?_
            refine lv_iload hx hb dX3_search_76 (lv_at hl 0 rfl) ?_
            refine lv_ior hx hb dX3_search_78 ?_
            refine lv_iload hx hb dX3_search_79 (lv_at hl 6 rfl) ?_
            refine lv_iload_n hx hb dX3_search_81 rfl (lv_at hl 4 rfl) ?_
            refine lv_iconst (v := 1) hx hb dX3_search_82 (by decide) ?_
            refine lv_isub hx hb dX3_search_83 ?_
            obtain ⟨q1, hq1, hf⟩ := bd_some hf
            have hC : [0, 1].map (fun i => (wX3 cyI cyJ cyZ cyO h rings moths harbour best)[i]?) = (wX3 cyI cyJ cyZ cyO h rings moths harbour best).map some := rfl
            refine cl_v (rn_V (As := [.int (x1 ||| ((1 : Int32) <<< (x6 &&& 31))), .int x5, .int (x3 - 1)]) (rest := []) (C := RX3) hx hb hml hown hT hK hN hP hD [0, 1] hC rfl (ihd h H.size rings moths harbour best (x1 ||| ((1 : Int32) <<< (x6 &&& 31))) x5 (x3 - 1) q1 hq1) wm_X3_29 wi_X3_search wl_X3_search wz_X3 wc_X3_search hd_X3_search ⟨rfl, rfl⟩ ⟨by dsimp only; omega, by dsimp only; omega⟩ (q0 := 0) (ci := 3) rfl rfl rfl rfl hl.1 rfl (Nat.le_of_ble_eq_true rfl) dX3_search_84 ⟨Nat.zero_le _, Nat.zero_le _⟩) hP hD hS hA [0, 1] hC [(true, 0), (true, 1)] (ws' := wX3 cyI cyJ cyZ cyO h q1.1 moths harbour q1.2) rfl rfl rfl (fun H locs hP hD hS => ?_)
            refine lv_iload hx hb dX3_search_87 (lv_at hl 6 rfl) ?_
            refine lv_iload hx hb dX3_search_89 (lv_at hl 0 rfl) ?_
            refine lv_ior hx hb dX3_search_91 ?_
            refine lv_istore (lv' := [(5, .int (x5 ||| ((1 : Int32) <<< (x6 &&& 31)))), (7, .int ((1 : Int32) <<< (x6 &&& 31))), (0, .ref (h 0)), (1, .int x1), (2, .int x2), (3, .int x3), (4, .int x4), (6, .int x6)]) hx hb dX3_search_92 hl (by decide) rfl (fun ls hl => ?_)
            exact b94 x1 x2 x3 x4 (x5 ||| ((1 : Int32) <<< (x6 &&& 31))) x6 q1.1 moths harbour q1.2 H locs ls hP hD hS (lv_sub hl [2, 3, 4, 5, 6, 0, 7] rfl) hf
    have main : ∀ (H : Heap) (locs : List Loc) (ls : Array Slot), va_P D vwCl (wX3 cyI cyJ cyZ cyO h rings moths harbour best) H → va_D A (wX3 cyI cyJ cyZ cyO h rings moths harbour best) → va_S A s.heap H locs → lv_has ls 8 [(0, .ref (h 0)), (1, .int p1), (2, .int p2), (3, .int p3)] → W p l e ({ frames := 3 + (d + 1), cells := 0, slots := 0, locals := 71 + (d + 1) * 27 } : Room) s m ([.ref (h 0), .int p1, .int p2, .int p3] : List Value).toArray below meth c H locs 0 0 (MQ below (qV D (wX3 cyI cyJ cyZ cyO h q.1 moths harbour q.2) A) ([.ref (h 0), .int p1, .int p2, .int p3] : List Value).toArray s 0 0 A) (F0 m 0 ls []) := by
      intro H locs ls hP hD hS hl
      rw [g_X3_search] at hf
      refine lv_aload_n hx hb dX3_search_0 rfl (lv_at hl 0 rfl) ?_
      refine lv_iload_n hx hb dX3_search_1 rfl (lv_at hl 1 rfl) ?_
      obtain ⟨q2, hq2, hf⟩ := bd_some hf
      have hC : [0, 1].map (fun i => (wX3 cyI cyJ cyZ cyO h rings moths harbour best)[i]?) = (wX3 cyI cyJ cyZ cyO h rings moths harbour best).map some := rfl
      refine cl_i (rn_V (As := [.int p1]) (rest := []) (C := RX3) hx hb hml hown hT hK hN hP hD [0, 1] hC rfl (c_X3_openWay l D cyI cyJ cyZ cyO h H.size rings moths harbour best p1 nf q2 hq2) wm_X3_33 wi_X3_openWay wl_X3_openWay wz_X3 wc_X3_openWay hd_X3_openWay ⟨rfl, rfl⟩ ⟨by dsimp only; omega, by dsimp only; omega⟩ (q0 := 0) (ci := 3) rfl rfl rfl rfl hl.1 rfl (Nat.le_of_ble_eq_true rfl) dX3_search_2 ⟨Nat.zero_le _, Nat.zero_le _⟩) hP hD hS hA [0, 1] hC [(true, 0), (true, 1)] (ws' := wX3 cyI cyJ cyZ cyO h q2.2 moths harbour best) rfl rfl rfl (fun H locs hP hD hS => ?_)
      refine lv_istore (lv' := [(4, .int q2.1), (0, .ref (h 0)), (1, .int p1), (2, .int p2), (3, .int p3)]) hx hb dX3_search_5 hl (by decide) rfl (fun ls hl => ?_)
      refine lv_iload hx hb dX3_search_7 (lv_at hl 0 rfl) ?_
      refine lv_if_ne (tgt := 38) hx hb dX3_search_9 (by decide) (fun cc => ?_) (fun cc => ?_)
      · replace hf := if_f cc hf
        refine lv_iload_n hx hb dX3_search_38 rfl (lv_at hl 4 rfl) ?_
        refine lv_if_gt (tgt := 43) hx hb dX3_search_39 (by decide) (fun cc => ?_) (fun cc => ?_)
        · replace hf := if_t cc hf
          refine lv_iload_n hx hb dX3_search_43 rfl (lv_at hl 3 rfl) ?_
          refine lv_istore (lv' := [(5, .int p2), (4, .int q2.1), (0, .ref (h 0)), (1, .int p1), (2, .int p2), (3, .int p3)]) hx hb dX3_search_44 hl (by decide) rfl (fun ls hl => ?_)
          refine lv_iconst (v := 0) hx hb dX3_search_46 (by decide) ?_
          refine lv_istore (lv' := [(6, .int 0), (5, .int p2), (4, .int q2.1), (0, .ref (h 0)), (1, .int p1), (2, .int p2), (3, .int p3)]) hx hb dX3_search_47 hl (by decide) rfl (fun ls hl => ?_)
          exact l49 nf p1 p2 p3 q2.1 p2 0 q2.2 moths harbour best H locs ls hP hD hS (lv_sub hl [3, 4, 5, 6, 2, 1, 0] rfl) hf
        · replace hf := if_f cc hf
          cases Option.some.inj hf
          exact W.vret hx hb hr (fun t ht hW => ⟨⟨(), rfl, trivial, by show va_P D vwCl _ t.heap; rw [ht]; exact hP⟩, hS.F ht⟩) hS.2.2 dX3_search_42
      · replace hf := if_t cc hf
        refine lv_aload_n hx hb dX3_search_12 rfl (lv_at hl 1 rfl) ?_
        refine lv_aload_n hx hb dX3_search_13 rfl (lv_at hl 1 rfl) ?_
        refine va_get (ci := 3) (v := .int best) (C := RX3) (T := TX3) (N := 4) hx hb hT hin_X3 hown hK hP 0 rfl rfl 3 (by decide) (hT _ wf_X3_26) (fun _ h9 => h9) rfl dX3_search_14 ?_
        refine lv_bipush (v := (-6)) hx hb dX3_search_17 (by decide) ?_
        refine lv_icmp_ne (tgt := 26) hx hb dX3_search_19 (by decide) (fun cc => ?_) (fun cc => ?_)
        · replace hf := if_f cc hf
          refine lv_aload_n hx hb dX3_search_26 rfl (lv_at hl 1 rfl) ?_
          refine va_get (ci := 3) (v := .int best) (C := RX3) (T := TX3) (N := 4) hx hb hT hin_X3 hown hK hP 0 rfl rfl 3 (by decide) (hT _ wf_X3_26) (fun _ h9 => h9) rfl dX3_search_27 ?_
          refine lv_iload_n hx hb dX3_search_30 rfl (lv_at hl 2 rfl) ?_
          refine va_mmin (x := best) (y := p1) hx hb (by rw [hml]; exact hl.1.symm) hown (hT _ wm_X3_36) (hT _ wt_J9_min_7cf53) (hT _ wz_J9) (hT _ wc_J9_min_7cf53) (by dsimp only; omega) (Nat.le_trans (m := 40) (Nat.le_of_ble_eq_true rfl) (by dsimp only; omega)) (Nat.zero_le _) (Nat.zero_le _) dX3_search_31 ?_
          exact b34 (if p1 < best then p1 else best) q2.2 moths harbour best H locs ls hP hD hS (lv_sub hl [] rfl) hf
        · replace hf := if_t cc hf
          refine lv_iload_n hx hb dX3_search_22 rfl (lv_at hl 2 rfl) ?_
          refine lv_goto (tgt := 34) hx hb dX3_search_23 (by decide) ?_
          exact b34 p1 q2.2 moths harbour best H locs ls hP hD hS (lv_sub hl [] rfl) hf
    have hl := lv_entry ([.ref (h 0), .int p1, .int p2, .int p3]) (n := 8) (Nat.le_of_ble_eq_true rfl)
    rw [lg_entry_eq]
    exact main s.heap [] _ hP hD hS hl
theorem hd_X3_leastCells : yX3_leastCells.cls = RX3 ∧ yX3_leastCells.cls ≠ "java/lang/invoke/MethodHandle" ∧ yX3_leastCells.cls ≠ "java/lang/invoke/VarHandle" ∧ (parseMethodDescriptor yX3_leastCells.desc).map (fun d => d.parameters.length) = some 2 := by decide +kernel
set_option maxHeartbeats 4000000 in
set_option maxRecDepth 100000 in
theorem c_X3_leastCells (l : Launch) (D : va_G) (cyI cyJ cyZ cyO : ClassId) (h : Nat → Nat) (sz : Nat) (rings : Nat → Int32) (moths : Int32) (harbour : Int32) (best : Int32) (p1 : Int32) (p2 : Int32) (nf : Nat) (q : Int32 × (Nat → Int32) × Int32 × Int32 × Int32) (hf : g_X3_leastCells nf p1 p2 rings moths harbour best = some q) : Met l yX3_leastCells (Cond.code yX3_leastCells cX3_leastCells 4 (some .int) :: tbG) ({ frames := 10, cells := 0, slots := 0, locals := 260 } : Room) (va_Pc [.ref (h 0), .int p1, .int p2] (pcB D (ty4 cyI cyJ cyZ cyO) sz (wX3 cyI cyJ cyZ cyO h rings moths harbour best))) (qI D (wX3 cyI cyJ cyZ cyO h q.2.1 q.2.2.1 q.2.2.2.1 q.2.2.2.2) q.1 (va_A (wX3 cyI cyJ cyZ cyO h rings moths harbour best) sz)) 0 0 (va_A (wX3 cyI cyJ cyZ cyO h rings moths harbour best) sz) := by
  refine Met.ofW (cc := cX3_leastCells) (maxL := 4) (ret := (some .int)) (by decide) rfl ?_
  intro p e s m args below meth c s₁ B hml hv
  obtain ⟨rfl, hsz, hP, hK, hD0, hN⟩ := hv
  have hx := B.exec
  have hb := B.bytes
  have hr := B.returns
  have hT : ∀ w ∈ tbG, w.before ([.ref (h 0), .int p1, .int p2] : List Value).toArray s = true := fun w h => atoms_spec (ws := (Cond.code yX3_leastCells cX3_leastCells 4 (some .int) :: tbG)) B.pre w (List.mem_cons_of_mem _ h)
  have hown : s.vm.findClass RX3 = some m.cls := findClass_of_methodNamed B.named
  have hlocks := B.notSynchronized
  subst hsz
  have hD := hD0.self (sz := s.heap.size)
  generalize hAe : va_A (wX3 cyI cyJ cyZ cyO h rings moths harbour best) s.heap.size = A at hD ⊢
  have hA : ∀ q : Nat, s.heap.size ≤ q → A q := fun q h => by rw [← hAe]; exact Or.inr h
  have hS : va_S A s.heap s.heap [] := va_S.rf
  show W p l e ({ frames := 10, cells := 0, slots := 0, locals := 260 } : Room) s m ([.ref (h 0), .int p1, .int p2] : List Value).toArray below meth c s.heap [] 0 0 (MQ below (qI D (wX3 cyI cyJ cyZ cyO h q.2.1 q.2.2.1 q.2.2.2.1 q.2.2.2.2) q.1 A) ([.ref (h 0), .int p1, .int p2] : List Value).toArray s 0 0 A) _
  have l41 : ∀ (n41 : Nat) (x3 : Int32) (rings : Nat → Int32) (moths : Int32) (harbour : Int32) (best : Int32) (H : Heap) (locs : List Loc) (ls : Array Slot), va_P D vwCl (wX3 cyI cyJ cyZ cyO h rings moths harbour best) H → va_D A (wX3 cyI cyJ cyZ cyO h rings moths harbour best) → va_S A s.heap H locs → lv_has ls 4 [(0, .ref (h 0)), (3, .int x3)] → g_X3_leastCells_l41 nf n41 x3 rings moths harbour best = some q → W p l e ({ frames := 10, cells := 0, slots := 0, locals := 260 } : Room) s m ([.ref (h 0), .int p1, .int p2] : List Value).toArray below meth c H locs 0 0 (MQ below (qI D (wX3 cyI cyJ cyZ cyO h q.2.1 q.2.2.1 q.2.2.2.1 q.2.2.2.2) q.1 A) ([.ref (h 0), .int p1, .int p2] : List Value).toArray s 0 0 A) (F0 m 41 ls []) := by
    intro n41
    induction n41 with
    | zero =>
      intro x3 rings moths harbour best H locs ls hP hD hS hl hf
      rw [g_X3_leastCells_l41] at hf
      cases hf
    | succ n41 ih41 =>
      intro x3 rings moths harbour best H locs ls hP hD hS hl hf
      rw [g_X3_leastCells_l41] at hf
      refine lv_iload_n hx hb dX3_leastCells_41 rfl (lv_at hl 1 rfl) ?_
      refine lv_iconst (v := 4) hx hb dX3_leastCells_42 (by decide) ?_
      refine lv_icmp_gt (tgt := 68) hx hb dX3_leastCells_43 (by decide) (fun cc => ?_) (fun cc => ?_)
      · replace hf := if_t cc hf
        refine lv_aload_n hx hb dX3_leastCells_68 rfl (lv_at hl 0 rfl) ?_
        refine va_get (ci := 3) (v := .int best) (C := RX3) (T := TX3) (N := 4) hx hb hT hin_X3 hown hK hP 0 rfl rfl 3 (by decide) (hT _ wf_X3_26) (fun _ h9 => h9) rfl dX3_leastCells_69 ?_
        cases Option.some.inj hf
        exact W.iret hx hb hr (fun t ht hW => ⟨⟨_, (), rfl, rfl, by show va_P D vwCl _ t.heap; rw [ht]; exact hP⟩, hS.F ht⟩) hS.2.2 dX3_leastCells_72
      · replace hf := if_f cc hf
        refine lv_aload_n hx hb dX3_leastCells_46 rfl (lv_at hl 0 rfl) ?_
        refine va_get (ci := 3) (v := .int best) (C := RX3) (T := TX3) (N := 4) hx hb hT hin_X3 hown hK hP 0 rfl rfl 3 (by decide) (hT _ wf_X3_26) (fun _ h9 => h9) rfl dX3_leastCells_47 ?_
        refine lv_bipush (v := (-6)) hx hb dX3_leastCells_50 (by decide) ?_
        refine lv_icmp_ne (tgt := 68) hx hb dX3_leastCells_52 (by decide) (fun cc => ?_) (fun cc => ?_)
        · replace hf := if_f cc hf
          refine lv_aload_n hx hb dX3_leastCells_68 rfl (lv_at hl 0 rfl) ?_
          refine va_get (ci := 3) (v := .int best) (C := RX3) (T := TX3) (N := 4) hx hb hT hin_X3 hown hK hP 0 rfl rfl 3 (by decide) (hT _ wf_X3_26) (fun _ h9 => h9) rfl dX3_leastCells_69 ?_
          cases Option.some.inj hf
          exact W.iret hx hb hr (fun t ht hW => ⟨⟨_, (), rfl, rfl, by show va_P D vwCl _ t.heap; rw [ht]; exact hP⟩, hS.F ht⟩) hS.2.2 dX3_leastCells_72
        · replace hf := if_t cc hf
          refine lv_aload_n hx hb dX3_leastCells_55 rfl (lv_at hl 0 rfl) ?_
          refine lv_iconst (v := 0) hx hb dX3_leastCells_56 (by decide) ?_
          refine lv_iconst (v := 0) hx hb dX3_leastCells_57 (by decide) ?_
          refine lv_iload_n hx hb dX3_leastCells_58 rfl (lv_at hl 1 rfl) ?_
          obtain ⟨q1, hq1, hf⟩ := bd_some hf
          have hC : [0, 1].map (fun i => (wX3 cyI cyJ cyZ cyO h rings moths harbour best)[i]?) = (wX3 cyI cyJ cyZ cyO h rings moths harbour best).map some := rfl
          refine cl_v (rn_V (As := [.int 0, .int 0, .int x3]) (rest := []) (C := RX3) hx hb hml hown hT hK hN hP hD [0, 1] hC rfl (c_X3_search l D cyI cyJ cyZ cyO h H.size rings moths harbour best 0 0 x3 nf 6 q1 hq1) wm_X3_29 wi_X3_search wl_X3_search wz_X3 wc_X3_search hd_X3_search ⟨rfl, rfl⟩ ⟨Nat.le_of_ble_eq_true rfl, Nat.le_of_ble_eq_true rfl⟩ (q0 := 0) (ci := 3) rfl rfl rfl rfl hl.1 rfl (Nat.le_of_ble_eq_true rfl) dX3_leastCells_59 ⟨Nat.zero_le _, Nat.zero_le _⟩) hP hD hS hA [0, 1] hC [(true, 0), (true, 1)] (ws' := wX3 cyI cyJ cyZ cyO h q1.1 moths harbour q1.2) rfl rfl rfl (fun H locs hP hD hS => ?_)
          refine lv_iinc (v := (x3 + 1)) (lv' := [(3, .int (x3 + 1)), (0, .ref (h 0))]) hx hb dX3_leastCells_62 hl (k := 1) rfl rfl (by decide) rfl (fun ls hl => ?_)
          refine lv_goto (tgt := 41) hx hb dX3_leastCells_65 (by decide) ?_
          exact ih41 (x3 + 1) q1.1 moths harbour q1.2 H locs ls hP hD hS (lv_sub hl [1, 0] rfl) hf
  have main : ∀ (H : Heap) (locs : List Loc) (ls : Array Slot), va_P D vwCl (wX3 cyI cyJ cyZ cyO h rings moths harbour best) H → va_D A (wX3 cyI cyJ cyZ cyO h rings moths harbour best) → va_S A s.heap H locs → lv_has ls 4 [(0, .ref (h 0)), (1, .int p1), (2, .int p2)] → W p l e ({ frames := 10, cells := 0, slots := 0, locals := 260 } : Room) s m ([.ref (h 0), .int p1, .int p2] : List Value).toArray below meth c H locs 0 0 (MQ below (qI D (wX3 cyI cyJ cyZ cyO h q.2.1 q.2.2.1 q.2.2.2.1 q.2.2.2.2) q.1 A) ([.ref (h 0), .int p1, .int p2] : List Value).toArray s 0 0 A) (F0 m 0 ls []) := by
    intro H locs ls hP hD hS hl
    unfold g_X3_leastCells at hf
    refine lv_aload_n hx hb dX3_leastCells_0 rfl (lv_at hl 0 rfl) ?_
    refine lv_iload_n hx hb dX3_leastCells_1 rfl (lv_at hl 1 rfl) ?_
    refine va_put (ci := 3) (v := .int p1) (ty := .int) (C := RX3) (T := TX3) (N := 4) hx hb hT hin_X3 tyX3 tyX3_ok nmX3 hown hK hP hD hS 0 rfl rfl 1 (by decide) (hT _ wf_X3_15) (fun _ h9 => h9) rfl (tyX3_ok 1 (by decide)) rfl rfl (Nat.le_of_ble_eq_true rfl) dX3_leastCells_2 (fun H locs hP hD hS => ?_)
    have hP : va_P D vwCl (wX3 cyI cyJ cyZ cyO h rings p1 harbour best) H := hP
    have hD : va_D A (wX3 cyI cyJ cyZ cyO h rings p1 harbour best) := hD
    refine lv_aload_n hx hb dX3_leastCells_5 rfl (lv_at hl 0 rfl) ?_
    refine lv_iload_n hx hb dX3_leastCells_6 rfl (lv_at hl 2 rfl) ?_
    refine va_put (ci := 3) (v := .int p2) (ty := .int) (C := RX3) (T := TX3) (N := 4) hx hb hT hin_X3 tyX3 tyX3_ok nmX3 hown hK hP hD hS 0 rfl rfl 2 (by decide) (hT _ wf_X3_19) (fun _ h9 => h9) rfl (tyX3_ok 2 (by decide)) rfl rfl (Nat.le_of_ble_eq_true rfl) dX3_leastCells_7 (fun H locs hP hD hS => ?_)
    have hP : va_P D vwCl (wX3 cyI cyJ cyZ cyO h rings p1 p2 best) H := hP
    have hD : va_D A (wX3 cyI cyJ cyZ cyO h rings p1 p2 best) := hD
    refine lv_aload_n hx hb dX3_leastCells_10 rfl (lv_at hl 0 rfl) ?_
    refine va_get (ci := 3) (v := .int p1) (C := RX3) (T := TX3) (N := 4) hx hb hT hin_X3 hown hK hP 0 rfl rfl 1 (by decide) (hT _ wf_X3_15) (fun _ h9 => h9) rfl dX3_leastCells_11 ?_
    refine lv_aload_n hx hb dX3_leastCells_14 rfl (lv_at hl 0 rfl) ?_
    refine va_get (ci := 3) (v := .int p2) (C := RX3) (T := TX3) (N := 4) hx hb hT hin_X3 hown hK hP 0 rfl rfl 2 (by decide) (hT _ wf_X3_19) (fun _ h9 => h9) rfl dX3_leastCells_15 ?_
    refine lv_aload_n hx hb dX3_leastCells_18 rfl (lv_at hl 0 rfl) ?_
    refine va_get (ci := 3) (v := .int p2) (C := RX3) (T := TX3) (N := 4) hx hb hT hin_X3 hown hK hP 0 rfl rfl 2 (by decide) (hT _ wf_X3_19) (fun _ h9 => h9) rfl dX3_leastCells_19 ?_
    obtain ⟨q2, hq2, hf⟩ := bd_some hf
    have hC : ([] : List Nat).map (fun i => (wX3 cyI cyJ cyZ cyO h rings p1 p2 best)[i]?) = ([] : va_W).map some := rfl
    refine cl_i (rn_SN (As := [.int p2]) (rest := [.int p2, .int p1]) (host := RX8) hx hb hml hown hT hK hN hP hD [] hC rfl (c_X8_allBeside l D cyI cyJ cyZ cyO H.size p2 nf q2 hq2) (by decide) wt_X8_allBeside wz_X8 wc_X8_allBeside hd_X8_allBeside ⟨rfl, rfl⟩ ⟨Nat.le_of_ble_eq_true rfl, Nat.le_of_ble_eq_true rfl⟩ rfl hl.1 rfl (Nat.le_of_ble_eq_true rfl) dX3_leastCells_22 ⟨Nat.zero_le _, Nat.zero_le _⟩) hP hD hS hA [] hC [(false, 0), (false, 1)] (ws' := wX3 cyI cyJ cyZ cyO h rings p1 p2 best) rfl rfl rfl (fun H locs hP hD hS => ?_)
    refine lv_ior hx hb dX3_leastCells_25 ?_
    refine lv_iand hx hb dX3_leastCells_26 ?_
    refine lv_if_eq (tgt := 33) hx hb dX3_leastCells_27 (by decide) (fun cc => ?_) (fun cc => ?_)
    · replace hf := if_t cc hf
      refine lv_aload_n hx hb dX3_leastCells_33 rfl (lv_at hl 0 rfl) ?_
      refine lv_bipush (v := (-6)) hx hb dX3_leastCells_34 (by decide) ?_
      refine va_put (ci := 3) (v := .int (-6)) (ty := .int) (C := RX3) (T := TX3) (N := 4) hx hb hT hin_X3 tyX3 tyX3_ok nmX3 hown hK hP hD hS 0 rfl rfl 3 (by decide) (hT _ wf_X3_26) (fun _ h9 => h9) rfl (tyX3_ok 3 (by decide)) rfl rfl (Nat.le_of_ble_eq_true rfl) dX3_leastCells_36 (fun H locs hP hD hS => ?_)
      have hP : va_P D vwCl (wX3 cyI cyJ cyZ cyO h rings p1 p2 (-6)) H := hP
      have hD : va_D A (wX3 cyI cyJ cyZ cyO h rings p1 p2 (-6)) := hD
      refine lv_iconst (v := 0) hx hb dX3_leastCells_39 (by decide) ?_
      refine lv_istore_n (lv' := [(3, .int 0), (0, .ref (h 0)), (1, .int p1), (2, .int p2)]) hx hb dX3_leastCells_40 rfl hl (by decide) rfl (fun ls hl => ?_)
      exact l41 nf 0 rings p1 p2 (-6) H locs ls hP hD hS (lv_sub hl [1, 0] rfl) hf
    · replace hf := if_f cc hf
      refine lv_bipush (v := (-6)) hx hb dX3_leastCells_30 (by decide) ?_
      cases Option.some.inj hf
      exact W.iret hx hb hr (fun t ht hW => ⟨⟨_, (), rfl, rfl, by show va_P D vwCl _ t.heap; rw [ht]; exact hP⟩, hS.F ht⟩) hS.2.2 dX3_leastCells_32
  have hl := lv_entry ([.ref (h 0), .int p1, .int p2]) (n := 4) (Nat.le_of_ble_eq_true rfl)
  rw [lg_entry_eq]
  exact main s.heap [] _ hP hD hS hl
theorem hd_X5_signAt : yX5_signAt.cls = RX5 ∧ yX5_signAt.cls ≠ "java/lang/invoke/MethodHandle" ∧ yX5_signAt.cls ≠ "java/lang/invoke/VarHandle" ∧ (parseMethodDescriptor yX5_signAt.desc).map (fun d => d.parameters.length) = some 1 := by decide +kernel
set_option maxHeartbeats 4000000 in
set_option maxRecDepth 100000 in
theorem c_X5_signAt (l : Launch) (D : va_G) (cyI cyJ cyZ cyO : ClassId) (h : Nat → Nat) (sz : Nat) (signs : Nat → Int32) (size : Int32) (p1 : Int32) (nf : Nat) (q : Int32) (hf : g_X5_signAt nf p1 signs size = some q) : Met l yX5_signAt (Cond.code yX5_signAt cX5_signAt 2 (some .int) :: tbG) ({ frames := 0, cells := 0, slots := 0, locals := 0 } : Room) (va_Pc [.ref (h 0), .int p1] (pcB D (ty4 cyI cyJ cyZ cyO) sz (wX5 cyI cyJ cyZ cyO h signs size))) (qI D (wX5 cyI cyJ cyZ cyO h signs size) q (va_A (wX5 cyI cyJ cyZ cyO h signs size) sz)) 0 0 (va_A (wX5 cyI cyJ cyZ cyO h signs size) sz) := by
  refine Met.ofW (cc := cX5_signAt) (maxL := 2) (ret := (some .int)) (by decide) rfl ?_
  intro p e s m args below meth c s₁ B hml hv
  obtain ⟨rfl, hsz, hP, hK, hD0, hN⟩ := hv
  have hx := B.exec
  have hb := B.bytes
  have hr := B.returns
  have hT : ∀ w ∈ tbG, w.before ([.ref (h 0), .int p1] : List Value).toArray s = true := fun w h => atoms_spec (ws := (Cond.code yX5_signAt cX5_signAt 2 (some .int) :: tbG)) B.pre w (List.mem_cons_of_mem _ h)
  have hown : s.vm.findClass RX5 = some m.cls := findClass_of_methodNamed B.named
  have hlocks := B.notSynchronized
  subst hsz
  have hD := hD0.self (sz := s.heap.size)
  generalize hAe : va_A (wX5 cyI cyJ cyZ cyO h signs size) s.heap.size = A at hD ⊢
  have hA : ∀ q : Nat, s.heap.size ≤ q → A q := fun q h => by rw [← hAe]; exact Or.inr h
  have hS : va_S A s.heap s.heap [] := va_S.rf
  show W p l e ({ frames := 0, cells := 0, slots := 0, locals := 0 } : Room) s m ([.ref (h 0), .int p1] : List Value).toArray below meth c s.heap [] 0 0 (MQ below (qI D (wX5 cyI cyJ cyZ cyO h signs size) q A) ([.ref (h 0), .int p1] : List Value).toArray s 0 0 A) _
  have main : ∀ (H : Heap) (locs : List Loc) (ls : Array Slot), va_P D vwCl (wX5 cyI cyJ cyZ cyO h signs size) H → va_D A (wX5 cyI cyJ cyZ cyO h signs size) → va_S A s.heap H locs → lv_has ls 2 [(0, .ref (h 0)), (1, .int p1)] → W p l e ({ frames := 0, cells := 0, slots := 0, locals := 0 } : Room) s m ([.ref (h 0), .int p1] : List Value).toArray below meth c H locs 0 0 (MQ below (qI D (wX5 cyI cyJ cyZ cyO h signs size) q A) ([.ref (h 0), .int p1] : List Value).toArray s 0 0 A) (F0 m 0 ls []) := by
    intro H locs ls hP hD hS hl
    unfold g_X5_signAt at hf
    refine lv_iload_n hx hb dX5_signAt_0 rfl (lv_at hl 1 rfl) ?_
    refine lv_if_lt (tgt := 21) hx hb dX5_signAt_1 (by decide) (fun cc => ?_) (fun cc => ?_)
    · replace hf := if_t cc hf
      refine lv_iconst (v := 0) hx hb dX5_signAt_21 (by decide) ?_
      cases Option.some.inj hf
      exact W.iret hx hb hr (fun t ht hW => ⟨⟨_, (), rfl, rfl, by show va_P D vwCl _ t.heap; rw [ht]; exact hP⟩, hS.F ht⟩) hS.2.2 dX5_signAt_22
    · replace hf := if_f cc hf
      refine lv_iload_n hx hb dX5_signAt_4 rfl (lv_at hl 1 rfl) ?_
      refine lv_aload_n hx hb dX5_signAt_5 rfl (lv_at hl 0 rfl) ?_
      refine va_get (ci := 5) (v := .int size) (C := RX5) (T := TX5) (N := 2) hx hb hT hin_X5 hown hK hP 0 rfl rfl 1 (by decide) (hT _ wf_X5_15) (fun _ h9 => h9) rfl dX5_signAt_6 ?_
      refine lv_icmp_ge (tgt := 21) hx hb dX5_signAt_9 (by decide) (fun cc => ?_) (fun cc => ?_)
      · replace hf := if_t cc hf
        refine lv_iconst (v := 0) hx hb dX5_signAt_21 (by decide) ?_
        cases Option.some.inj hf
        exact W.iret hx hb hr (fun t ht hW => ⟨⟨_, (), rfl, rfl, by show va_P D vwCl _ t.heap; rw [ht]; exact hP⟩, hS.F ht⟩) hS.2.2 dX5_signAt_22
      · replace hf := if_f cc hf
        refine lv_aload_n hx hb dX5_signAt_12 rfl (lv_at hl 0 rfl) ?_
        refine va_get (ci := 5) (v := .ref (h 1)) (C := RX5) (T := TX5) (N := 2) hx hb hT hin_X5 hown hK hP 0 rfl rfl 0 (by decide) (hT _ wf_X5_9) (fun _ h9 => h9) rfl dX5_signAt_13 ?_
        refine lv_iload_n hx hb dX5_signAt_16 rfl (lv_at hl 1 rfl) ?_
        obtain ⟨hi, hf⟩ := ck_some hf
        refine va_iald hx hb hK hP 1 0 rfl rfl hi dX5_signAt_17 ?_
        refine lv_goto (tgt := 22) hx hb dX5_signAt_18 (by decide) ?_
        cases Option.some.inj hf
        exact W.iret hx hb hr (fun t ht hW => ⟨⟨_, (), rfl, rfl, by show va_P D vwCl _ t.heap; rw [ht]; exact hP⟩, hS.F ht⟩) hS.2.2 dX5_signAt_22
  have hl := lv_entry ([.ref (h 0), .int p1]) (n := 2) (Nat.le_of_ble_eq_true rfl)
  rw [lg_entry_eq]
  exact main s.heap [] _ hP hD hS hl
theorem hd_X5_headOf : yX5_headOf.cls ≠ "java/lang/invoke/MethodHandle" ∧ yX5_headOf.cls ≠ "java/lang/invoke/VarHandle" ∧ (parseMethodDescriptor yX5_headOf.desc).map (fun d => d.parameters.length) = some 1 := by decide +kernel
set_option maxHeartbeats 4000000 in
set_option maxRecDepth 100000 in
theorem c_X5_headOf (l : Launch) (D : va_G) (cyI cyJ cyZ cyO : ClassId) (sz : Nat) (p0 : Int32) (nf : Nat) (q : Int32) (hf : g_X5_headOf nf p0 = some q) : Met l yX5_headOf (Cond.code yX5_headOf cX5_headOf 1 (some .int) :: tbG) ({ frames := 0, cells := 0, slots := 0, locals := 0 } : Room) (va_Pc [.int p0] (pcB D (ty4 cyI cyJ cyZ cyO) sz (([] : va_W)))) (qI D (([] : va_W)) q (va_A (([] : va_W)) sz)) 0 0 (va_A (([] : va_W)) sz) := by
  refine Met.ofW (cc := cX5_headOf) (maxL := 1) (ret := (some .int)) (by decide) rfl ?_
  intro p e s m args below meth c s₁ B hml hv
  obtain ⟨rfl, hsz, hP, hK, hD0, hN⟩ := hv
  have hx := B.exec
  have hb := B.bytes
  have hr := B.returns
  have hT : ∀ w ∈ tbG, w.before ([.int p0] : List Value).toArray s = true := fun w h => atoms_spec (ws := (Cond.code yX5_headOf cX5_headOf 1 (some .int) :: tbG)) B.pre w (List.mem_cons_of_mem _ h)
  have hown : s.vm.findClass RX5 = some m.cls := findClass_of_methodNamed B.named
  have hlocks := B.notSynchronized
  subst hsz
  have hD := hD0.self (sz := s.heap.size)
  generalize hAe : va_A (([] : va_W)) s.heap.size = A at hD ⊢
  have hA : ∀ q : Nat, s.heap.size ≤ q → A q := fun q h => by rw [← hAe]; exact Or.inr h
  have hS : va_S A s.heap s.heap [] := va_S.rf
  show W p l e ({ frames := 0, cells := 0, slots := 0, locals := 0 } : Room) s m ([.int p0] : List Value).toArray below meth c s.heap [] 0 0 (MQ below (qI D (([] : va_W)) q A) ([.int p0] : List Value).toArray s 0 0 A) _
  have main : ∀ (H : Heap) (locs : List Loc) (ls : Array Slot), va_P D vwCl (([] : va_W)) H → va_D A (([] : va_W)) → va_S A s.heap H locs → lv_has ls 1 [(0, .int p0)] → W p l e ({ frames := 0, cells := 0, slots := 0, locals := 0 } : Room) s m ([.int p0] : List Value).toArray below meth c H locs 0 0 (MQ below (qI D (([] : va_W)) q A) ([.int p0] : List Value).toArray s 0 0 A) (F0 m 0 ls []) := by
    intro H locs ls hP hD hS hl
    unfold g_X5_headOf at hf
    refine lv_iload_n hx hb dX5_headOf_0 rfl (lv_at hl 0 rfl) ?_
    by_cases c0 : p0 = 101
    · replace hf := if_t c0 hf
      refine lv_lookup (off := 45) (tgt := 46) hx hb dX5_headOf_1 (by decide) (by rw [c0]; decide) (by decide) ?_
      refine lv_iconst (v := 1) hx hb dX5_headOf_46 (by decide) ?_
      cases Option.some.inj hf
      exact W.iret hx hb hr (fun t ht hW => ⟨⟨_, (), rfl, rfl, by show va_P D vwCl _ t.heap; rw [ht]; exact hP⟩, hS.F ht⟩) hS.2.2 dX5_headOf_47
    · replace hf := if_f c0 hf
      by_cases c1 : p0 = 110
      · replace hf := if_t c1 hf
        refine lv_lookup (off := 43) (tgt := 44) hx hb dX5_headOf_1 (by decide) (by rw [c1]; decide) (by decide) ?_
        refine lv_iconst (v := 0) hx hb dX5_headOf_44 (by decide) ?_
        cases Option.some.inj hf
        exact W.iret hx hb hr (fun t ht hW => ⟨⟨_, (), rfl, rfl, by show va_P D vwCl _ t.heap; rw [ht]; exact hP⟩, hS.F ht⟩) hS.2.2 dX5_headOf_45
      · replace hf := if_f c1 hf
        by_cases c2 : p0 = 115
        · replace hf := if_t c2 hf
          refine lv_lookup (off := 47) (tgt := 48) hx hb dX5_headOf_1 (by decide) (by rw [c2]; decide) (by decide) ?_
          refine lv_iconst (v := 2) hx hb dX5_headOf_48 (by decide) ?_
          cases Option.some.inj hf
          exact W.iret hx hb hr (fun t ht hW => ⟨⟨_, (), rfl, rfl, by show va_P D vwCl _ t.heap; rw [ht]; exact hP⟩, hS.F ht⟩) hS.2.2 dX5_headOf_49
        · replace hf := if_f c2 hf
          by_cases c3 : p0 = 119
          · replace hf := if_t c3 hf
            refine lv_lookup (off := 49) (tgt := 50) hx hb dX5_headOf_1 (by decide) (by rw [c3]; decide) (by decide) ?_
            refine lv_iconst (v := 3) hx hb dX5_headOf_50 (by decide) ?_
            cases Option.some.inj hf
            exact W.iret hx hb hr (fun t ht hW => ⟨⟨_, (), rfl, rfl, by show va_P D vwCl _ t.heap; rw [ht]; exact hP⟩, hS.F ht⟩) hS.2.2 dX5_headOf_51
          · replace hf := if_f c3 hf
            refine lv_lookup (off := 51) (tgt := 52) hx hb dX5_headOf_1 (by decide) (by show Op.lookupswitch.offset [(101, 45), (110, 43), (115, 47), (119, 49)] 51 _ = _; rw [lv_osw c0 (show (101 : Int32).toInt = 101 by decide), lv_osw c1 (show (110 : Int32).toInt = 110 by decide), lv_osw c2 (show (115 : Int32).toInt = 115 by decide), lv_osw c3 (show (119 : Int32).toInt = 119 by decide)]; rfl) (by decide) ?_
            refine lv_iconst (v := (-1)) hx hb dX5_headOf_52 (by decide) ?_
            cases Option.some.inj hf
            exact W.iret hx hb hr (fun t ht hW => ⟨⟨_, (), rfl, rfl, by show va_P D vwCl _ t.heap; rw [ht]; exact hP⟩, hS.F ht⟩) hS.2.2 dX5_headOf_53
  have hl := lv_entry ([.int p0]) (n := 1) (Nat.le_of_ble_eq_true rfl)
  rw [lg_entry_eq]
  exact main s.heap [] _ hP hD hS hl
theorem hd_X4_attemptDeed : yX4_attemptDeed.cls = RX4 ∧ yX4_attemptDeed.cls ≠ "java/lang/invoke/MethodHandle" ∧ yX4_attemptDeed.cls ≠ "java/lang/invoke/VarHandle" ∧ (parseMethodDescriptor yX4_attemptDeed.desc).map (fun d => d.parameters.length) = some 2 := by decide +kernel
set_option maxHeartbeats 4000000 in
set_option maxRecDepth 100000 in
theorem c_X4_attemptDeed (l : Launch) (D : va_G) (cyI cyJ cyZ cyO : ClassId) (h h2 : Nat → Nat) (sz : Nat) (acts : Int32) (why : Int32) (passed : Int32) (townNight : Int32) (town : Int32) (f_lands : Nat → Int32) (f_camphors : Nat → Int32) (f_there : Nat → Int32) (f_mothCells : Nat → Int32) (f_mothHeads : Nat → Int32) (f_threads : Nat → Int32) (f_sightNights : Nat → Int32) (f_sightCells : Nat → Int32) (f_sights : Int32) (f_night : Int32) (f_eaten : Int32) (p1 : Int32) (p2 : Int32) (nf : Nat) (q : Int32 × (Nat → Int32) × (Nat → Int32)) (hf : g_X4_attemptDeed nf p1 p2 f_there f_mothHeads = some q) : Met l yX4_attemptDeed (Cond.code yX4_attemptDeed cX4_attemptDeed 3 (some .int) :: tbG) ({ frames := 2, cells := 0, slots := 0, locals := 43 } : Room) (va_Pc [.ref (h 0), .int p1, .int p2] (pcB D (ty4 cyI cyJ cyZ cyO) sz (vw2 cyI cyJ cyZ cyO h h2 acts why passed townNight town f_lands f_camphors f_there f_mothCells f_mothHeads f_threads f_sightNights f_sightCells f_sights f_night f_eaten))) (qI D (vw2 cyI cyJ cyZ cyO h h2 acts why passed townNight town f_lands f_camphors q.2.1 f_mothCells q.2.2 f_threads f_sightNights f_sightCells f_sights f_night f_eaten) q.1 (va_A (vw2 cyI cyJ cyZ cyO h h2 acts why passed townNight town f_lands f_camphors f_there f_mothCells f_mothHeads f_threads f_sightNights f_sightCells f_sights f_night f_eaten) sz)) 0 0 (va_A (vw2 cyI cyJ cyZ cyO h h2 acts why passed townNight town f_lands f_camphors f_there f_mothCells f_mothHeads f_threads f_sightNights f_sightCells f_sights f_night f_eaten) sz) := by
  refine Met.ofW (cc := cX4_attemptDeed) (maxL := 3) (ret := (some .int)) (by decide) rfl ?_
  intro p e s m args below meth c s₁ B hml hv
  obtain ⟨rfl, hsz, hP, hK, hD0, hN⟩ := hv
  have hx := B.exec
  have hb := B.bytes
  have hr := B.returns
  have hT : ∀ w ∈ tbG, w.before ([.ref (h 0), .int p1, .int p2] : List Value).toArray s = true := fun w h => atoms_spec (ws := (Cond.code yX4_attemptDeed cX4_attemptDeed 3 (some .int) :: tbG)) B.pre w (List.mem_cons_of_mem _ h)
  have hown : s.vm.findClass RX4 = some m.cls := findClass_of_methodNamed B.named
  have hlocks := B.notSynchronized
  subst hsz
  have hD := hD0.self (sz := s.heap.size)
  generalize hAe : va_A (vw2 cyI cyJ cyZ cyO h h2 acts why passed townNight town f_lands f_camphors f_there f_mothCells f_mothHeads f_threads f_sightNights f_sightCells f_sights f_night f_eaten) s.heap.size = A at hD ⊢
  have hA : ∀ q : Nat, s.heap.size ≤ q → A q := fun q h => by rw [← hAe]; exact Or.inr h
  have hS : va_S A s.heap s.heap [] := va_S.rf
  show W p l e ({ frames := 2, cells := 0, slots := 0, locals := 43 } : Room) s m ([.ref (h 0), .int p1, .int p2] : List Value).toArray below meth c s.heap [] 0 0 (MQ below (qI D (vw2 cyI cyJ cyZ cyO h h2 acts why passed townNight town f_lands f_camphors q.2.1 f_mothCells q.2.2 f_threads f_sightNights f_sightCells f_sights f_night f_eaten) q.1 A) ([.ref (h 0), .int p1, .int p2] : List Value).toArray s 0 0 A) _
  have main : ∀ (H : Heap) (locs : List Loc) (ls : Array Slot), va_P D vwCl (vw2 cyI cyJ cyZ cyO h h2 acts why passed townNight town f_lands f_camphors f_there f_mothCells f_mothHeads f_threads f_sightNights f_sightCells f_sights f_night f_eaten) H → va_D A (vw2 cyI cyJ cyZ cyO h h2 acts why passed townNight town f_lands f_camphors f_there f_mothCells f_mothHeads f_threads f_sightNights f_sightCells f_sights f_night f_eaten) → va_S A s.heap H locs → lv_has ls 3 [(0, .ref (h 0)), (1, .int p1), (2, .int p2)] → W p l e ({ frames := 2, cells := 0, slots := 0, locals := 43 } : Room) s m ([.ref (h 0), .int p1, .int p2] : List Value).toArray below meth c H locs 0 0 (MQ below (qI D (vw2 cyI cyJ cyZ cyO h h2 acts why passed townNight town f_lands f_camphors q.2.1 f_mothCells q.2.2 f_threads f_sightNights f_sightCells f_sights f_night f_eaten) q.1 A) ([.ref (h 0), .int p1, .int p2] : List Value).toArray s 0 0 A) (F0 m 0 ls []) := by
    intro H locs ls hP hD hS hl
    unfold g_X4_attemptDeed at hf
    refine lv_iload_n hx hb dX4_attemptDeed_0 rfl (lv_at hl 2 rfl) ?_
    refine lv_bipush (v := 33) hx hb dX4_attemptDeed_1 (by decide) ?_
    refine lv_icmp_ne (tgt := 17) hx hb dX4_attemptDeed_3 (by decide) (fun cc => ?_) (fun cc => ?_)
    · replace hf := if_f cc hf
      refine lv_aload_n hx hb dX4_attemptDeed_17 rfl (lv_at hl 0 rfl) ?_
      refine va_get (ci := 4) (v := .ref (h2 0)) (C := RX4) (T := TX4) (N := 6) hx hb hT hin_X4 hown hK hP 0 rfl rfl 0 (by decide) (hT _ wf_X4_12) (fun _ h9 => h9) rfl dX4_attemptDeed_18 ?_
      refine lv_iload_n hx hb dX4_attemptDeed_21 rfl (lv_at hl 1 rfl) ?_
      refine lv_iload_n hx hb dX4_attemptDeed_22 rfl (lv_at hl 2 rfl) ?_
      obtain ⟨q1, hq1, hf⟩ := bd_some hf
      have hC : ([] : List Nat).map (fun i => (vw2 cyI cyJ cyZ cyO h h2 acts why passed townNight town f_lands f_camphors f_there f_mothCells f_mothHeads f_threads f_sightNights f_sightCells f_sights f_night f_eaten)[i]?) = ([] : va_W).map some := rfl
      refine cl_i (rn_S (As := [.int p2]) (rest := [.int p1, .ref (h2 0)]) hx hb hml hown hT hK hN hP hD [] hC rfl (c_X5_headOf l D cyI cyJ cyZ cyO H.size p2 nf q1 hq1) wm_X4_75 wt_X5_headOf wz_X5 wc_X5_headOf hd_X5_headOf ⟨rfl, rfl⟩ ⟨Nat.le_of_ble_eq_true rfl, Nat.le_of_ble_eq_true rfl⟩ rfl hl.1 rfl (Nat.le_of_ble_eq_true rfl) dX4_attemptDeed_23 ⟨Nat.zero_le _, Nat.zero_le _⟩) hP hD hS hA [] hC [(false, 0), (false, 1), (false, 2), (false, 3), (false, 4), (false, 5), (false, 6), (false, 7), (false, 8), (false, 9)] (ws' := vw2 cyI cyJ cyZ cyO h h2 acts why passed townNight town f_lands f_camphors f_there f_mothCells f_mothHeads f_threads f_sightNights f_sightCells f_sights f_night f_eaten) rfl rfl rfl (fun H locs hP hD hS => ?_)
      obtain ⟨q2, hq2, hf⟩ := bd_some hf
      have hC : [1, 2, 3, 4, 5, 6, 7, 8, 9].map (fun i => (vw2 cyI cyJ cyZ cyO h h2 acts why passed townNight town f_lands f_camphors f_there f_mothCells f_mothHeads f_threads f_sightNights f_sightCells f_sights f_night f_eaten)[i]?) = (wX1 cyI cyJ cyZ cyO h2 f_lands f_camphors f_there f_mothCells f_mothHeads f_threads f_sightNights f_sightCells f_sights f_night f_eaten).map some := rfl
      refine cl_i (rn_V (As := [.int p1, .int q1]) (rest := []) (C := RX1) hx hb hml hown hT hK hN hP hD [1, 2, 3, 4, 5, 6, 7, 8, 9] hC rfl (c_X1_turn l D cyI cyJ cyZ cyO h2 H.size f_lands f_camphors f_there f_mothCells f_mothHeads f_threads f_sightNights f_sightCells f_sights f_night f_eaten p1 q1 nf q2 hq2) wm_X4_78 wi_X1_turn wl_X1_turn wz_X1 wc_X1_turn hd_X1_turn ⟨rfl, rfl⟩ ⟨Nat.le_of_ble_eq_true rfl, Nat.le_of_ble_eq_true rfl⟩ (q0 := 0) (ci := 1) rfl rfl rfl rfl hl.1 rfl (Nat.le_of_ble_eq_true rfl) dX4_attemptDeed_26 ⟨Nat.zero_le _, Nat.zero_le _⟩) hP hD hS hA [1, 2, 3, 4, 5, 6, 7, 8, 9] hC [(false, 0), (true, 0), (true, 1), (true, 2), (true, 3), (true, 4), (true, 5), (true, 6), (true, 7), (true, 8)] (ws' := vw2 cyI cyJ cyZ cyO h h2 acts why passed townNight town f_lands f_camphors f_there f_mothCells q2.2 f_threads f_sightNights f_sightCells f_sights f_night f_eaten) rfl rfl rfl (fun H locs hP hD hS => ?_)
      cases Option.some.inj hf
      exact W.iret hx hb hr (fun t ht hW => ⟨⟨_, (), rfl, rfl, by show va_P D vwCl _ t.heap; rw [ht]; exact hP⟩, hS.F ht⟩) hS.2.2 dX4_attemptDeed_29
    · replace hf := if_t cc hf
      refine lv_aload_n hx hb dX4_attemptDeed_6 rfl (lv_at hl 0 rfl) ?_
      refine va_get (ci := 4) (v := .ref (h2 0)) (C := RX4) (T := TX4) (N := 6) hx hb hT hin_X4 hown hK hP 0 rfl rfl 0 (by decide) (hT _ wf_X4_12) (fun _ h9 => h9) rfl dX4_attemptDeed_7 ?_
      refine lv_iload_n hx hb dX4_attemptDeed_10 rfl (lv_at hl 1 rfl) ?_
      obtain ⟨q3, hq3, hf⟩ := bd_some hf
      have hC : [1, 2, 3, 4, 5, 6, 7, 8, 9].map (fun i => (vw2 cyI cyJ cyZ cyO h h2 acts why passed townNight town f_lands f_camphors f_there f_mothCells f_mothHeads f_threads f_sightNights f_sightCells f_sights f_night f_eaten)[i]?) = (wX1 cyI cyJ cyZ cyO h2 f_lands f_camphors f_there f_mothCells f_mothHeads f_threads f_sightNights f_sightCells f_sights f_night f_eaten).map some := rfl
      refine cl_i (rn_V (As := [.int p1]) (rest := []) (C := RX1) hx hb hml hown hT hK hN hP hD [1, 2, 3, 4, 5, 6, 7, 8, 9] hC rfl (c_X1_catchMoth l D cyI cyJ cyZ cyO h2 H.size f_lands f_camphors f_there f_mothCells f_mothHeads f_threads f_sightNights f_sightCells f_sights f_night f_eaten p1 nf q3 hq3) wm_X4_72 wi_X1_catchMoth wl_X1_catchMoth wz_X1 wc_X1_catchMoth hd_X1_catchMoth ⟨rfl, rfl⟩ ⟨Nat.le_of_ble_eq_true rfl, Nat.le_of_ble_eq_true rfl⟩ (q0 := 0) (ci := 1) rfl rfl rfl rfl hl.1 rfl (Nat.le_of_ble_eq_true rfl) dX4_attemptDeed_11 ⟨Nat.zero_le _, Nat.zero_le _⟩) hP hD hS hA [1, 2, 3, 4, 5, 6, 7, 8, 9] hC [(false, 0), (true, 0), (true, 1), (true, 2), (true, 3), (true, 4), (true, 5), (true, 6), (true, 7), (true, 8)] (ws' := vw2 cyI cyJ cyZ cyO h h2 acts why passed townNight town f_lands f_camphors q3.2 f_mothCells f_mothHeads f_threads f_sightNights f_sightCells f_sights f_night f_eaten) rfl rfl rfl (fun H locs hP hD hS => ?_)
      refine lv_goto (tgt := 29) hx hb dX4_attemptDeed_14 (by decide) ?_
      cases Option.some.inj hf
      exact W.iret hx hb hr (fun t ht hW => ⟨⟨_, (), rfl, rfl, by show va_P D vwCl _ t.heap; rw [ht]; exact hP⟩, hS.F ht⟩) hS.2.2 dX4_attemptDeed_29
  have hl := lv_entry ([.ref (h 0), .int p1, .int p2]) (n := 3) (Nat.le_of_ble_eq_true rfl)
  rw [lg_entry_eq]
  exact main s.heap [] _ hP hD hS hl
theorem hd_X4_attempt : yX4_attempt.cls = RX4 ∧ yX4_attempt.cls ≠ "java/lang/invoke/MethodHandle" ∧ yX4_attempt.cls ≠ "java/lang/invoke/VarHandle" ∧ (parseMethodDescriptor yX4_attempt.desc).map (fun d => d.parameters.length) = some 3 := by decide +kernel
set_option maxHeartbeats 4000000 in
set_option maxRecDepth 100000 in
theorem c_X4_attempt (l : Launch) (D : va_G) (cyI cyJ cyZ cyO : ClassId) (h h2 : Nat → Nat) (sz : Nat) (acts : Int32) (why : Int32) (passed : Int32) (townNight : Int32) (town : Int32) (f_lands : Nat → Int32) (f_camphors : Nat → Int32) (f_there : Nat → Int32) (f_mothCells : Nat → Int32) (f_mothHeads : Nat → Int32) (f_threads : Nat → Int32) (f_sightNights : Nat → Int32) (f_sightCells : Nat → Int32) (f_sights : Int32) (f_night : Int32) (f_eaten : Int32) (p1 : Int32) (p2 : Int32) (p3 : Int32) (nf : Nat) (q : Int32 × (Nat → Int32) × (Nat → Int32) × (Nat → Int32) × (Nat → Int32) × (Nat → Int32) × (Nat → Int32) × Int32 × Int32) (hf : g_X4_attempt nf p1 p2 p3 f_lands f_camphors f_there f_mothCells f_mothHeads f_threads f_night f_eaten = some q) : Met l yX4_attempt (Cond.code yX4_attempt cX4_attempt 4 (some .int) :: tbG) ({ frames := 3, cells := 0, slots := 0, locals := 66 } : Room) (va_Pc [.ref (h 0), .int p1, .int p2, .int p3] (pcB D (ty4 cyI cyJ cyZ cyO) sz (vw2 cyI cyJ cyZ cyO h h2 acts why passed townNight town f_lands f_camphors f_there f_mothCells f_mothHeads f_threads f_sightNights f_sightCells f_sights f_night f_eaten))) (qI D (vw2 cyI cyJ cyZ cyO h h2 acts why passed townNight town q.2.1 q.2.2.1 q.2.2.2.1 q.2.2.2.2.1 q.2.2.2.2.2.1 q.2.2.2.2.2.2.1 f_sightNights f_sightCells f_sights q.2.2.2.2.2.2.2.1 q.2.2.2.2.2.2.2.2) q.1 (va_A (vw2 cyI cyJ cyZ cyO h h2 acts why passed townNight town f_lands f_camphors f_there f_mothCells f_mothHeads f_threads f_sightNights f_sightCells f_sights f_night f_eaten) sz)) 0 0 (va_A (vw2 cyI cyJ cyZ cyO h h2 acts why passed townNight town f_lands f_camphors f_there f_mothCells f_mothHeads f_threads f_sightNights f_sightCells f_sights f_night f_eaten) sz) := by
  refine Met.ofW (cc := cX4_attempt) (maxL := 4) (ret := (some .int)) (by decide) rfl ?_
  intro p e s m args below meth c s₁ B hml hv
  obtain ⟨rfl, hsz, hP, hK, hD0, hN⟩ := hv
  have hx := B.exec
  have hb := B.bytes
  have hr := B.returns
  have hT : ∀ w ∈ tbG, w.before ([.ref (h 0), .int p1, .int p2, .int p3] : List Value).toArray s = true := fun w h => atoms_spec (ws := (Cond.code yX4_attempt cX4_attempt 4 (some .int) :: tbG)) B.pre w (List.mem_cons_of_mem _ h)
  have hown : s.vm.findClass RX4 = some m.cls := findClass_of_methodNamed B.named
  have hlocks := B.notSynchronized
  subst hsz
  have hD := hD0.self (sz := s.heap.size)
  generalize hAe : va_A (vw2 cyI cyJ cyZ cyO h h2 acts why passed townNight town f_lands f_camphors f_there f_mothCells f_mothHeads f_threads f_sightNights f_sightCells f_sights f_night f_eaten) s.heap.size = A at hD ⊢
  have hA : ∀ q : Nat, s.heap.size ≤ q → A q := fun q h => by rw [← hAe]; exact Or.inr h
  have hS : va_S A s.heap s.heap [] := va_S.rf
  show W p l e ({ frames := 3, cells := 0, slots := 0, locals := 66 } : Room) s m ([.ref (h 0), .int p1, .int p2, .int p3] : List Value).toArray below meth c s.heap [] 0 0 (MQ below (qI D (vw2 cyI cyJ cyZ cyO h h2 acts why passed townNight town q.2.1 q.2.2.1 q.2.2.2.1 q.2.2.2.2.1 q.2.2.2.2.2.1 q.2.2.2.2.2.2.1 f_sightNights f_sightCells f_sights q.2.2.2.2.2.2.2.1 q.2.2.2.2.2.2.2.2) q.1 A) ([.ref (h 0), .int p1, .int p2, .int p3] : List Value).toArray s 0 0 A) _
  have main : ∀ (H : Heap) (locs : List Loc) (ls : Array Slot), va_P D vwCl (vw2 cyI cyJ cyZ cyO h h2 acts why passed townNight town f_lands f_camphors f_there f_mothCells f_mothHeads f_threads f_sightNights f_sightCells f_sights f_night f_eaten) H → va_D A (vw2 cyI cyJ cyZ cyO h h2 acts why passed townNight town f_lands f_camphors f_there f_mothCells f_mothHeads f_threads f_sightNights f_sightCells f_sights f_night f_eaten) → va_S A s.heap H locs → lv_has ls 4 [(0, .ref (h 0)), (1, .int p1), (2, .int p2), (3, .int p3)] → W p l e ({ frames := 3, cells := 0, slots := 0, locals := 66 } : Room) s m ([.ref (h 0), .int p1, .int p2, .int p3] : List Value).toArray below meth c H locs 0 0 (MQ below (qI D (vw2 cyI cyJ cyZ cyO h h2 acts why passed townNight town q.2.1 q.2.2.1 q.2.2.2.1 q.2.2.2.2.1 q.2.2.2.2.2.1 q.2.2.2.2.2.2.1 f_sightNights f_sightCells f_sights q.2.2.2.2.2.2.2.1 q.2.2.2.2.2.2.2.2) q.1 A) ([.ref (h 0), .int p1, .int p2, .int p3] : List Value).toArray s 0 0 A) (F0 m 0 ls []) := by
    intro H locs ls hP hD hS hl
    unfold g_X4_attempt at hf
    refine lv_iload_n hx hb dX4_attempt_0 rfl (lv_at hl 1 rfl) ?_
    by_cases c0 : p1 = 37
    · replace hf := if_t c0 hf
      refine lv_lookup (off := 55) (tgt := 56) hx hb dX4_attempt_1 (by decide) (by rw [c0]; decide) (by decide) ?_
      refine lv_aload_n hx hb dX4_attempt_56 rfl (lv_at hl 0 rfl) ?_
      refine va_get (ci := 4) (v := .ref (h2 0)) (C := RX4) (T := TX4) (N := 6) hx hb hT hin_X4 hown hK hP 0 rfl rfl 0 (by decide) (hT _ wf_X4_12) (fun _ h9 => h9) rfl dX4_attempt_57 ?_
      refine lv_iload_n hx hb dX4_attempt_60 rfl (lv_at hl 2 rfl) ?_
      refine lv_bipush (v := 97) hx hb dX4_attempt_61 (by decide) ?_
      refine lv_isub hx hb dX4_attempt_63 ?_
      refine lv_iload_n hx hb dX4_attempt_64 rfl (lv_at hl 3 rfl) ?_
      refine lv_bipush (v := 48) hx hb dX4_attempt_65 (by decide) ?_
      refine lv_isub hx hb dX4_attempt_67 ?_
      obtain ⟨q1, hq1, hf⟩ := bd_some hf
      have hC : [1, 2, 3, 4, 5, 6, 7, 8, 9].map (fun i => (vw2 cyI cyJ cyZ cyO h h2 acts why passed townNight town f_lands f_camphors f_there f_mothCells f_mothHeads f_threads f_sightNights f_sightCells f_sights f_night f_eaten)[i]?) = (wX1 cyI cyJ cyZ cyO h2 f_lands f_camphors f_there f_mothCells f_mothHeads f_threads f_sightNights f_sightCells f_sights f_night f_eaten).map some := rfl
      refine cl_i (rn_V (As := [.int (p2 - 97), .int (p3 - 48)]) (rest := []) (C := RX1) hx hb hml hown hT hK hN hP hD [1, 2, 3, 4, 5, 6, 7, 8, 9] hC rfl (c_X1_darn l D cyI cyJ cyZ cyO h2 H.size f_lands f_camphors f_there f_mothCells f_mothHeads f_threads f_sightNights f_sightCells f_sights f_night f_eaten (p2 - 97) (p3 - 48) nf q1 hq1) wm_X4_65 wi_X1_darn wl_X1_darn wz_X1 wc_X1_darn hd_X1_darn ⟨rfl, rfl⟩ ⟨Nat.le_of_ble_eq_true rfl, Nat.le_of_ble_eq_true rfl⟩ (q0 := 0) (ci := 1) rfl rfl rfl rfl hl.1 rfl (Nat.le_of_ble_eq_true rfl) dX4_attempt_68 ⟨Nat.zero_le _, Nat.zero_le _⟩) hP hD hS hA [1, 2, 3, 4, 5, 6, 7, 8, 9] hC [(false, 0), (true, 0), (true, 1), (true, 2), (true, 3), (true, 4), (true, 5), (true, 6), (true, 7), (true, 8)] (ws' := vw2 cyI cyJ cyZ cyO h h2 acts why passed townNight town q1.2.1 f_camphors f_there f_mothCells f_mothHeads q1.2.2 f_sightNights f_sightCells f_sights f_night f_eaten) rfl rfl rfl (fun H locs hP hD hS => ?_)
      cases Option.some.inj hf
      exact W.iret hx hb hr (fun t ht hW => ⟨⟨_, (), rfl, rfl, by show va_P D vwCl _ t.heap; rw [ht]; exact hP⟩, hS.F ht⟩) hS.2.2 dX4_attempt_71
    · replace hf := if_f c0 hf
      by_cases c1 : p1 = 43
      · replace hf := if_t c1 hf
        refine lv_lookup (off := 43) (tgt := 44) hx hb dX4_attempt_1 (by decide) (by rw [c1]; decide) (by decide) ?_
        refine lv_aload_n hx hb dX4_attempt_44 rfl (lv_at hl 0 rfl) ?_
        refine va_get (ci := 4) (v := .ref (h2 0)) (C := RX4) (T := TX4) (N := 6) hx hb hT hin_X4 hown hK hP 0 rfl rfl 0 (by decide) (hT _ wf_X4_12) (fun _ h9 => h9) rfl dX4_attempt_45 ?_
        refine lv_iload_n hx hb dX4_attempt_48 rfl (lv_at hl 2 rfl) ?_
        refine lv_bipush (v := 97) hx hb dX4_attempt_49 (by decide) ?_
        refine lv_isub hx hb dX4_attempt_51 ?_
        obtain ⟨q2, hq2, hf⟩ := bd_some hf
        have hC : [1, 2, 3, 4, 5, 6, 7, 8, 9].map (fun i => (vw2 cyI cyJ cyZ cyO h h2 acts why passed townNight town f_lands f_camphors f_there f_mothCells f_mothHeads f_threads f_sightNights f_sightCells f_sights f_night f_eaten)[i]?) = (wX1 cyI cyJ cyZ cyO h2 f_lands f_camphors f_there f_mothCells f_mothHeads f_threads f_sightNights f_sightCells f_sights f_night f_eaten).map some := rfl
        refine cl_i (rn_V (As := [.int (p2 - 97)]) (rest := []) (C := RX1) hx hb hml hown hT hK hN hP hD [1, 2, 3, 4, 5, 6, 7, 8, 9] hC rfl (c_X1_layCamphor l D cyI cyJ cyZ cyO h2 H.size f_lands f_camphors f_there f_mothCells f_mothHeads f_threads f_sightNights f_sightCells f_sights f_night f_eaten (p2 - 97) nf q2 hq2) wm_X4_62 wi_X1_layCamphor wl_X1_layCamphor wz_X1 wc_X1_layCamphor hd_X1_layCamphor ⟨rfl, rfl⟩ ⟨Nat.le_of_ble_eq_true rfl, Nat.le_of_ble_eq_true rfl⟩ (q0 := 0) (ci := 1) rfl rfl rfl rfl hl.1 rfl (Nat.le_of_ble_eq_true rfl) dX4_attempt_52 ⟨Nat.zero_le _, Nat.zero_le _⟩) hP hD hS hA [1, 2, 3, 4, 5, 6, 7, 8, 9] hC [(false, 0), (true, 0), (true, 1), (true, 2), (true, 3), (true, 4), (true, 5), (true, 6), (true, 7), (true, 8)] (ws' := vw2 cyI cyJ cyZ cyO h h2 acts why passed townNight town f_lands q2.2 f_there f_mothCells f_mothHeads f_threads f_sightNights f_sightCells f_sights f_night f_eaten) rfl rfl rfl (fun H locs hP hD hS => ?_)
        cases Option.some.inj hf
        exact W.iret hx hb hr (fun t ht hW => ⟨⟨_, (), rfl, rfl, by show va_P D vwCl _ t.heap; rw [ht]; exact hP⟩, hS.F ht⟩) hS.2.2 dX4_attempt_55
      · replace hf := if_f c1 hf
        by_cases c2 : p1 = 46
        · replace hf := if_t c2 hf
          refine lv_lookup (off := 35) (tgt := 36) hx hb dX4_attempt_1 (by decide) (by rw [c2]; decide) (by decide) ?_
          refine lv_aload_n hx hb dX4_attempt_36 rfl (lv_at hl 0 rfl) ?_
          refine va_get (ci := 4) (v := .ref (h2 0)) (C := RX4) (T := TX4) (N := 6) hx hb hT hin_X4 hown hK hP 0 rfl rfl 0 (by decide) (hT _ wf_X4_12) (fun _ h9 => h9) rfl dX4_attempt_37 ?_
          obtain ⟨q3, hq3, hf⟩ := bd_some hf
          have hC : [1, 2, 3, 4, 5, 6, 7, 8, 9].map (fun i => (vw2 cyI cyJ cyZ cyO h h2 acts why passed townNight town f_lands f_camphors f_there f_mothCells f_mothHeads f_threads f_sightNights f_sightCells f_sights f_night f_eaten)[i]?) = (wX1 cyI cyJ cyZ cyO h2 f_lands f_camphors f_there f_mothCells f_mothHeads f_threads f_sightNights f_sightCells f_sights f_night f_eaten).map some := rfl
          refine cl_i (rn_V (As := []) (rest := []) (C := RX1) hx hb hml hown hT hK hN hP hD [1, 2, 3, 4, 5, 6, 7, 8, 9] hC rfl (c_X1_passNight l D cyI cyJ cyZ cyO h2 H.size f_lands f_camphors f_there f_mothCells f_mothHeads f_threads f_sightNights f_sightCells f_sights f_night f_eaten nf q3 hq3) wm_X4_58 wi_X1_passNight wl_X1_passNight wz_X1 wc_X1_passNight hd_X1_passNight ⟨rfl, rfl⟩ ⟨Nat.le_of_ble_eq_true rfl, Nat.le_of_ble_eq_true rfl⟩ (q0 := 0) (ci := 1) rfl rfl rfl rfl hl.1 rfl (Nat.le_of_ble_eq_true rfl) dX4_attempt_40 ⟨Nat.zero_le _, Nat.zero_le _⟩) hP hD hS hA [1, 2, 3, 4, 5, 6, 7, 8, 9] hC [(false, 0), (true, 0), (true, 1), (true, 2), (true, 3), (true, 4), (true, 5), (true, 6), (true, 7), (true, 8)] (ws' := vw2 cyI cyJ cyZ cyO h h2 acts why passed townNight town q3.2.1 q3.2.2.1 f_there q3.2.2.2.1 q3.2.2.2.2.1 f_threads f_sightNights f_sightCells f_sights q3.2.2.2.2.2.1 q3.2.2.2.2.2.2) rfl rfl rfl (fun H locs hP hD hS => ?_)
          cases Option.some.inj hf
          exact W.iret hx hb hr (fun t ht hW => ⟨⟨_, (), rfl, rfl, by show va_P D vwCl _ t.heap; rw [ht]; exact hP⟩, hS.F ht⟩) hS.2.2 dX4_attempt_43
        · replace hf := if_f c2 hf
          refine lv_lookup (off := 71) (tgt := 72) hx hb dX4_attempt_1 (by decide) (by show Op.lookupswitch.offset [(37, 55), (43, 43), (46, 35)] 71 _ = _; rw [lv_osw c0 (show (37 : Int32).toInt = 37 by decide), lv_osw c1 (show (43 : Int32).toInt = 43 by decide), lv_osw c2 (show (46 : Int32).toInt = 46 by decide)]; rfl) (by decide) ?_
          refine lv_aload_n hx hb dX4_attempt_72 rfl (lv_at hl 0 rfl) ?_
          refine lv_iload_n hx hb dX4_attempt_73 rfl (lv_at hl 1 rfl) ?_
          refine lv_bipush (v := 65) hx hb dX4_attempt_74 (by decide) ?_
          refine lv_isub hx hb dX4_attempt_76 ?_
          refine lv_iload_n hx hb dX4_attempt_77 rfl (lv_at hl 2 rfl) ?_
          obtain ⟨q4, hq4, hf⟩ := bd_some hf
          have hC : [0, 1, 2, 3, 4, 5, 6, 7, 8, 9].map (fun i => (vw2 cyI cyJ cyZ cyO h h2 acts why passed townNight town f_lands f_camphors f_there f_mothCells f_mothHeads f_threads f_sightNights f_sightCells f_sights f_night f_eaten)[i]?) = (vw2 cyI cyJ cyZ cyO h h2 acts why passed townNight town f_lands f_camphors f_there f_mothCells f_mothHeads f_threads f_sightNights f_sightCells f_sights f_night f_eaten).map some := rfl
          refine cl_i (rn_V (As := [.int (p1 - 65), .int p2]) (rest := []) (C := RX4) hx hb hml hown hT hK hN hP hD [0, 1, 2, 3, 4, 5, 6, 7, 8, 9] hC rfl (c_X4_attemptDeed l D cyI cyJ cyZ cyO h h2 H.size acts why passed townNight town f_lands f_camphors f_there f_mothCells f_mothHeads f_threads f_sightNights f_sightCells f_sights f_night f_eaten (p1 - 65) p2 nf q4 hq4) wm_X4_69 wi_X4_attemptDeed wl_X4_attemptDeed wz_X4 wc_X4_attemptDeed hd_X4_attemptDeed ⟨rfl, rfl⟩ ⟨Nat.le_of_ble_eq_true rfl, Nat.le_of_ble_eq_true rfl⟩ (q0 := 0) (ci := 4) rfl rfl rfl rfl hl.1 rfl (Nat.le_of_ble_eq_true rfl) dX4_attempt_78 ⟨Nat.zero_le _, Nat.zero_le _⟩) hP hD hS hA [0, 1, 2, 3, 4, 5, 6, 7, 8, 9] hC [(true, 0), (true, 1), (true, 2), (true, 3), (true, 4), (true, 5), (true, 6), (true, 7), (true, 8), (true, 9)] (ws' := vw2 cyI cyJ cyZ cyO h h2 acts why passed townNight town f_lands f_camphors q4.2.1 f_mothCells q4.2.2 f_threads f_sightNights f_sightCells f_sights f_night f_eaten) rfl rfl rfl (fun H locs hP hD hS => ?_)
          cases Option.some.inj hf
          exact W.iret hx hb hr (fun t ht hW => ⟨⟨_, (), rfl, rfl, by show va_P D vwCl _ t.heap; rw [ht]; exact hP⟩, hS.F ht⟩) hS.2.2 dX4_attempt_81
  have hl := lv_entry ([.ref (h 0), .int p1, .int p2, .int p3]) (n := 4) (Nat.le_of_ble_eq_true rfl)
  rw [lg_entry_eq]
  exact main s.heap [] _ hP hD hS hl
theorem hd_X5_actLength : yX5_actLength.cls ≠ "java/lang/invoke/MethodHandle" ∧ yX5_actLength.cls ≠ "java/lang/invoke/VarHandle" ∧ (parseMethodDescriptor yX5_actLength.desc).map (fun d => d.parameters.length) = some 1 := by decide +kernel
set_option maxHeartbeats 4000000 in
set_option maxRecDepth 100000 in
theorem c_X5_actLength (l : Launch) (D : va_G) (cyI cyJ cyZ cyO : ClassId) (sz : Nat) (p0 : Int32) (nf : Nat) (q : Int32) (hf : g_X5_actLength nf p0 = some q) : Met l yX5_actLength (Cond.code yX5_actLength cX5_actLength 1 (some .int) :: tbG) ({ frames := 0, cells := 0, slots := 0, locals := 0 } : Room) (va_Pc [.int p0] (pcB D (ty4 cyI cyJ cyZ cyO) sz (([] : va_W)))) (qI D (([] : va_W)) q (va_A (([] : va_W)) sz)) 0 0 (va_A (([] : va_W)) sz) := by
  refine Met.ofW (cc := cX5_actLength) (maxL := 1) (ret := (some .int)) (by decide) rfl ?_
  intro p e s m args below meth c s₁ B hml hv
  obtain ⟨rfl, hsz, hP, hK, hD0, hN⟩ := hv
  have hx := B.exec
  have hb := B.bytes
  have hr := B.returns
  have hT : ∀ w ∈ tbG, w.before ([.int p0] : List Value).toArray s = true := fun w h => atoms_spec (ws := (Cond.code yX5_actLength cX5_actLength 1 (some .int) :: tbG)) B.pre w (List.mem_cons_of_mem _ h)
  have hown : s.vm.findClass RX5 = some m.cls := findClass_of_methodNamed B.named
  have hlocks := B.notSynchronized
  subst hsz
  have hD := hD0.self (sz := s.heap.size)
  generalize hAe : va_A (([] : va_W)) s.heap.size = A at hD ⊢
  have hA : ∀ q : Nat, s.heap.size ≤ q → A q := fun q h => by rw [← hAe]; exact Or.inr h
  have hS : va_S A s.heap s.heap [] := va_S.rf
  show W p l e ({ frames := 0, cells := 0, slots := 0, locals := 0 } : Room) s m ([.int p0] : List Value).toArray below meth c s.heap [] 0 0 (MQ below (qI D (([] : va_W)) q A) ([.int p0] : List Value).toArray s 0 0 A) _
  have main : ∀ (H : Heap) (locs : List Loc) (ls : Array Slot), va_P D vwCl (([] : va_W)) H → va_D A (([] : va_W)) → va_S A s.heap H locs → lv_has ls 1 [(0, .int p0)] → W p l e ({ frames := 0, cells := 0, slots := 0, locals := 0 } : Room) s m ([.int p0] : List Value).toArray below meth c H locs 0 0 (MQ below (qI D (([] : va_W)) q A) ([.int p0] : List Value).toArray s 0 0 A) (F0 m 0 ls []) := by
    intro H locs ls hP hD hS hl
    unfold g_X5_actLength at hf
    refine lv_iload_n hx hb dX5_actLength_0 rfl (lv_at hl 0 rfl) ?_
    by_cases c0 : p0 = 37
    · replace hf := if_t c0 hf
      refine lv_lookup (off := 29) (tgt := 30) hx hb dX5_actLength_1 (by decide) (by rw [c0]; decide) (by decide) ?_
      refine lv_iconst (v := 3) hx hb dX5_actLength_30 (by decide) ?_
      cases Option.some.inj hf
      exact W.iret hx hb hr (fun t ht hW => ⟨⟨_, (), rfl, rfl, by show va_P D vwCl _ t.heap; rw [ht]; exact hP⟩, hS.F ht⟩) hS.2.2 dX5_actLength_31
    · replace hf := if_f c0 hf
      by_cases c1 : p0 = 46
      · replace hf := if_t c1 hf
        refine lv_lookup (off := 27) (tgt := 28) hx hb dX5_actLength_1 (by decide) (by rw [c1]; decide) (by decide) ?_
        refine lv_iconst (v := 1) hx hb dX5_actLength_28 (by decide) ?_
        cases Option.some.inj hf
        exact W.iret hx hb hr (fun t ht hW => ⟨⟨_, (), rfl, rfl, by show va_P D vwCl _ t.heap; rw [ht]; exact hP⟩, hS.F ht⟩) hS.2.2 dX5_actLength_29
      · replace hf := if_f c1 hf
        refine lv_lookup (off := 31) (tgt := 32) hx hb dX5_actLength_1 (by decide) (by show Op.lookupswitch.offset [(37, 29), (46, 27)] 31 _ = _; rw [lv_osw c0 (show (37 : Int32).toInt = 37 by decide), lv_osw c1 (show (46 : Int32).toInt = 46 by decide)]; rfl) (by decide) ?_
        refine lv_iconst (v := 2) hx hb dX5_actLength_32 (by decide) ?_
        cases Option.some.inj hf
        exact W.iret hx hb hr (fun t ht hW => ⟨⟨_, (), rfl, rfl, by show va_P D vwCl _ t.heap; rw [ht]; exact hP⟩, hS.F ht⟩) hS.2.2 dX5_actLength_33
  have hl := lv_entry ([.int p0]) (n := 1) (Nat.le_of_ble_eq_true rfl)
  rw [lg_entry_eq]
  exact main s.heap [] _ hP hD hS hl
theorem hd_X4_note : yX4_note.cls = RX4 ∧ yX4_note.cls ≠ "java/lang/invoke/MethodHandle" ∧ yX4_note.cls ≠ "java/lang/invoke/VarHandle" ∧ (parseMethodDescriptor yX4_note.desc).map (fun d => d.parameters.length) = some 1 := by decide +kernel
set_option maxHeartbeats 4000000 in
set_option maxRecDepth 100000 in
theorem c_X4_note (l : Launch) (D : va_G) (cyI cyJ cyZ cyO : ClassId) (h h2 : Nat → Nat) (sz : Nat) (acts : Int32) (why : Int32) (passed : Int32) (townNight : Int32) (town : Int32) (f_lands : Nat → Int32) (f_camphors : Nat → Int32) (f_there : Nat → Int32) (f_mothCells : Nat → Int32) (f_mothHeads : Nat → Int32) (f_threads : Nat → Int32) (f_sightNights : Nat → Int32) (f_sightCells : Nat → Int32) (f_sights : Int32) (f_night : Int32) (f_eaten : Int32) (p1 : Int32) (nf : Nat) (q : Int32 × Int32 × Int32 × Int32) (hf : g_X4_note nf p1 acts passed townNight town f_eaten = some q) : Met l yX4_note (Cond.code yX4_note cX4_note 2 none :: tbG) ({ frames := 0, cells := 0, slots := 0, locals := 0 } : Room) (va_Pc [.ref (h 0), .int p1] (pcB D (ty4 cyI cyJ cyZ cyO) sz (vw2 cyI cyJ cyZ cyO h h2 acts why passed townNight town f_lands f_camphors f_there f_mothCells f_mothHeads f_threads f_sightNights f_sightCells f_sights f_night f_eaten))) (qV D (vw2 cyI cyJ cyZ cyO h h2 q.1 why q.2.1 q.2.2.1 q.2.2.2 f_lands f_camphors f_there f_mothCells f_mothHeads f_threads f_sightNights f_sightCells f_sights f_night f_eaten) (va_A (vw2 cyI cyJ cyZ cyO h h2 acts why passed townNight town f_lands f_camphors f_there f_mothCells f_mothHeads f_threads f_sightNights f_sightCells f_sights f_night f_eaten) sz)) 0 0 (va_A (vw2 cyI cyJ cyZ cyO h h2 acts why passed townNight town f_lands f_camphors f_there f_mothCells f_mothHeads f_threads f_sightNights f_sightCells f_sights f_night f_eaten) sz) := by
  refine Met.ofW (cc := cX4_note) (maxL := 2) (ret := none) (by decide) rfl ?_
  intro p e s m args below meth c s₁ B hml hv
  obtain ⟨rfl, hsz, hP, hK, hD0, hN⟩ := hv
  have hx := B.exec
  have hb := B.bytes
  have hr := B.returns
  have hT : ∀ w ∈ tbG, w.before ([.ref (h 0), .int p1] : List Value).toArray s = true := fun w h => atoms_spec (ws := (Cond.code yX4_note cX4_note 2 none :: tbG)) B.pre w (List.mem_cons_of_mem _ h)
  have hown : s.vm.findClass RX4 = some m.cls := findClass_of_methodNamed B.named
  have hlocks := B.notSynchronized
  subst hsz
  have hD := hD0.self (sz := s.heap.size)
  generalize hAe : va_A (vw2 cyI cyJ cyZ cyO h h2 acts why passed townNight town f_lands f_camphors f_there f_mothCells f_mothHeads f_threads f_sightNights f_sightCells f_sights f_night f_eaten) s.heap.size = A at hD ⊢
  have hA : ∀ q : Nat, s.heap.size ≤ q → A q := fun q h => by rw [← hAe]; exact Or.inr h
  have hS : va_S A s.heap s.heap [] := va_S.rf
  show W p l e ({ frames := 0, cells := 0, slots := 0, locals := 0 } : Room) s m ([.ref (h 0), .int p1] : List Value).toArray below meth c s.heap [] 0 0 (MQ below (qV D (vw2 cyI cyJ cyZ cyO h h2 q.1 why q.2.1 q.2.2.1 q.2.2.2 f_lands f_camphors f_there f_mothCells f_mothHeads f_threads f_sightNights f_sightCells f_sights f_night f_eaten) A) ([.ref (h 0), .int p1] : List Value).toArray s 0 0 A) _
  have b57 : ∀ (acts : Int32) (passed : Int32) (townNight : Int32) (town : Int32) (f_eaten : Int32) (H : Heap) (locs : List Loc) (ls : Array Slot), va_P D vwCl (vw2 cyI cyJ cyZ cyO h h2 acts why passed townNight town f_lands f_camphors f_there f_mothCells f_mothHeads f_threads f_sightNights f_sightCells f_sights f_night f_eaten) H → va_D A (vw2 cyI cyJ cyZ cyO h h2 acts why passed townNight town f_lands f_camphors f_there f_mothCells f_mothHeads f_threads f_sightNights f_sightCells f_sights f_night f_eaten) → va_S A s.heap H locs → lv_has ls 2 [(0, .ref (h 0))] → g_X4_note_b57 nf acts passed townNight town f_eaten = some q → W p l e ({ frames := 0, cells := 0, slots := 0, locals := 0 } : Room) s m ([.ref (h 0), .int p1] : List Value).toArray below meth c H locs 0 0 (MQ below (qV D (vw2 cyI cyJ cyZ cyO h h2 q.1 why q.2.1 q.2.2.1 q.2.2.2 f_lands f_camphors f_there f_mothCells f_mothHeads f_threads f_sightNights f_sightCells f_sights f_night f_eaten) A) ([.ref (h 0), .int p1] : List Value).toArray s 0 0 A) (F0 m 57 ls []) := by
    intro acts passed townNight town f_eaten H locs ls hP hD hS hl hf
    unfold g_X4_note_b57 at hf
    refine lv_aload_n hx hb dX4_note_57 rfl (lv_at hl 0 rfl) ?_
    refine lv_dup hx hb dX4_note_58 rfl ?_
    refine va_get (ci := 4) (v := .int passed) (C := RX4) (T := TX4) (N := 6) hx hb hT hin_X4 hown hK hP 0 rfl rfl 3 (by decide) (hT _ wf_X4_29) (fun _ h9 => h9) rfl dX4_note_59 ?_
    refine lv_iconst (v := 1) hx hb dX4_note_62 (by decide) ?_
    refine lv_iadd hx hb dX4_note_63 ?_
    refine va_put (ci := 4) (v := .int (passed + 1)) (ty := .int) (C := RX4) (T := TX4) (N := 6) hx hb hT hin_X4 tyX4 tyX4_ok nmX4 hown hK hP hD hS 0 rfl rfl 3 (by decide) (hT _ wf_X4_29) (fun _ h9 => h9) rfl (tyX4_ok 3 (by decide)) rfl rfl (Nat.le_of_ble_eq_true rfl) dX4_note_64 (fun H locs hP hD hS => ?_)
    have hP : va_P D vwCl (vw2 cyI cyJ cyZ cyO h h2 acts why (passed + 1) townNight town f_lands f_camphors f_there f_mothCells f_mothHeads f_threads f_sightNights f_sightCells f_sights f_night f_eaten) H := hP
    have hD : va_D A (vw2 cyI cyJ cyZ cyO h h2 acts why (passed + 1) townNight town f_lands f_camphors f_there f_mothCells f_mothHeads f_threads f_sightNights f_sightCells f_sights f_night f_eaten) := hD
    cases Option.some.inj hf
    exact W.vret hx hb hr (fun t ht hW => ⟨⟨(), rfl, trivial, by show va_P D vwCl _ t.heap; rw [ht]; exact hP⟩, hS.F ht⟩) hS.2.2 dX4_note_67
  have main : ∀ (H : Heap) (locs : List Loc) (ls : Array Slot), va_P D vwCl (vw2 cyI cyJ cyZ cyO h h2 acts why passed townNight town f_lands f_camphors f_there f_mothCells f_mothHeads f_threads f_sightNights f_sightCells f_sights f_night f_eaten) H → va_D A (vw2 cyI cyJ cyZ cyO h h2 acts why passed townNight town f_lands f_camphors f_there f_mothCells f_mothHeads f_threads f_sightNights f_sightCells f_sights f_night f_eaten) → va_S A s.heap H locs → lv_has ls 2 [(0, .ref (h 0)), (1, .int p1)] → W p l e ({ frames := 0, cells := 0, slots := 0, locals := 0 } : Room) s m ([.ref (h 0), .int p1] : List Value).toArray below meth c H locs 0 0 (MQ below (qV D (vw2 cyI cyJ cyZ cyO h h2 q.1 why q.2.1 q.2.2.1 q.2.2.2 f_lands f_camphors f_there f_mothCells f_mothHeads f_threads f_sightNights f_sightCells f_sights f_night f_eaten) A) ([.ref (h 0), .int p1] : List Value).toArray s 0 0 A) (F0 m 0 ls []) := by
    intro H locs ls hP hD hS hl
    unfold g_X4_note at hf
    refine lv_aload_n hx hb dX4_note_0 rfl (lv_at hl 0 rfl) ?_
    refine lv_dup hx hb dX4_note_1 rfl ?_
    refine va_get (ci := 4) (v := .int acts) (C := RX4) (T := TX4) (N := 6) hx hb hT hin_X4 hown hK hP 0 rfl rfl 1 (by decide) (hT _ wf_X4_22) (fun _ h9 => h9) rfl dX4_note_2 ?_
    refine lv_iconst (v := 1) hx hb dX4_note_5 (by decide) ?_
    refine lv_iadd hx hb dX4_note_6 ?_
    refine va_put (ci := 4) (v := .int (acts + 1)) (ty := .int) (C := RX4) (T := TX4) (N := 6) hx hb hT hin_X4 tyX4 tyX4_ok nmX4 hown hK hP hD hS 0 rfl rfl 1 (by decide) (hT _ wf_X4_22) (fun _ h9 => h9) rfl (tyX4_ok 1 (by decide)) rfl rfl (Nat.le_of_ble_eq_true rfl) dX4_note_7 (fun H locs hP hD hS => ?_)
    have hP : va_P D vwCl (vw2 cyI cyJ cyZ cyO h h2 (acts + 1) why passed townNight town f_lands f_camphors f_there f_mothCells f_mothHeads f_threads f_sightNights f_sightCells f_sights f_night f_eaten) H := hP
    have hD : va_D A (vw2 cyI cyJ cyZ cyO h h2 (acts + 1) why passed townNight town f_lands f_camphors f_there f_mothCells f_mothHeads f_threads f_sightNights f_sightCells f_sights f_night f_eaten) := hD
    refine lv_iload_n hx hb dX4_note_10 rfl (lv_at hl 1 rfl) ?_
    refine lv_bipush (v := 46) hx hb dX4_note_11 (by decide) ?_
    refine lv_icmp_eq (tgt := 17) hx hb dX4_note_13 (by decide) (fun cc => ?_) (fun cc => ?_)
    · replace hf := if_t cc hf
      refine lv_aload_n hx hb dX4_note_17 rfl (lv_at hl 0 rfl) ?_
      refine va_get (ci := 4) (v := .int town) (C := RX4) (T := TX4) (N := 6) hx hb hT hin_X4 hown hK hP 0 rfl rfl 5 (by decide) (hT _ wf_X4_35) (fun _ h9 => h9) rfl dX4_note_18 ?_
      refine lv_bipush (v := (-6)) hx hb dX4_note_21 (by decide) ?_
      refine lv_icmp_ne (tgt := 57) hx hb dX4_note_23 (by decide) (fun cc => ?_) (fun cc => ?_)
      · replace hf := if_f cc hf
        exact b57 (acts + 1) passed townNight town f_eaten H locs ls hP hD hS (lv_sub hl [0] rfl) hf
      · replace hf := if_t cc hf
        refine lv_aload_n hx hb dX4_note_26 rfl (lv_at hl 0 rfl) ?_
        refine va_get (ci := 4) (v := .ref (h2 0)) (C := RX4) (T := TX4) (N := 6) hx hb hT hin_X4 hown hK hP 0 rfl rfl 0 (by decide) (hT _ wf_X4_12) (fun _ h9 => h9) rfl dX4_note_27 ?_
        refine va_get (ci := 1) (v := .int f_eaten) (C := RX1) (T := TX1) (N := 11) hx hb hT hin_X1 hown hK hP 1 rfl rfl 10 (by decide) (hT _ wf_X4_81) (fun _ h9 => h9) rfl dX4_note_30 ?_
        refine lv_bipush (v := (-6)) hx hb dX4_note_33 (by decide) ?_
        refine lv_icmp_eq (tgt := 57) hx hb dX4_note_35 (by decide) (fun cc => ?_) (fun cc => ?_)
        · replace hf := if_t cc hf
          exact b57 (acts + 1) passed townNight town f_eaten H locs ls hP hD hS (lv_sub hl [0] rfl) hf
        · replace hf := if_f cc hf
          refine lv_aload_n hx hb dX4_note_38 rfl (lv_at hl 0 rfl) ?_
          refine lv_aload_n hx hb dX4_note_39 rfl (lv_at hl 0 rfl) ?_
          refine va_get (ci := 4) (v := .ref (h2 0)) (C := RX4) (T := TX4) (N := 6) hx hb hT hin_X4 hown hK hP 0 rfl rfl 0 (by decide) (hT _ wf_X4_12) (fun _ h9 => h9) rfl dX4_note_40 ?_
          refine va_get (ci := 1) (v := .int f_eaten) (C := RX1) (T := TX1) (N := 11) hx hb hT hin_X1 hown hK hP 1 rfl rfl 10 (by decide) (hT _ wf_X4_81) (fun _ h9 => h9) rfl dX4_note_43 ?_
          refine va_put (ci := 4) (v := .int f_eaten) (ty := .int) (C := RX4) (T := TX4) (N := 6) hx hb hT hin_X4 tyX4 tyX4_ok nmX4 hown hK hP hD hS 0 rfl rfl 5 (by decide) (hT _ wf_X4_35) (fun _ h9 => h9) rfl (tyX4_ok 5 (by decide)) rfl rfl (Nat.le_of_ble_eq_true rfl) dX4_note_46 (fun H locs hP hD hS => ?_)
          have hP : va_P D vwCl (vw2 cyI cyJ cyZ cyO h h2 (acts + 1) why passed townNight f_eaten f_lands f_camphors f_there f_mothCells f_mothHeads f_threads f_sightNights f_sightCells f_sights f_night f_eaten) H := hP
          have hD : va_D A (vw2 cyI cyJ cyZ cyO h h2 (acts + 1) why passed townNight f_eaten f_lands f_camphors f_there f_mothCells f_mothHeads f_threads f_sightNights f_sightCells f_sights f_night f_eaten) := hD
          refine lv_aload_n hx hb dX4_note_49 rfl (lv_at hl 0 rfl) ?_
          refine lv_aload_n hx hb dX4_note_50 rfl (lv_at hl 0 rfl) ?_
          refine va_get (ci := 4) (v := .int passed) (C := RX4) (T := TX4) (N := 6) hx hb hT hin_X4 hown hK hP 0 rfl rfl 3 (by decide) (hT _ wf_X4_29) (fun _ h9 => h9) rfl dX4_note_51 ?_
          refine va_put (ci := 4) (v := .int passed) (ty := .int) (C := RX4) (T := TX4) (N := 6) hx hb hT hin_X4 tyX4 tyX4_ok nmX4 hown hK hP hD hS 0 rfl rfl 4 (by decide) (hT _ wf_X4_32) (fun _ h9 => h9) rfl (tyX4_ok 4 (by decide)) rfl rfl (Nat.le_of_ble_eq_true rfl) dX4_note_54 (fun H locs hP hD hS => ?_)
          have hP : va_P D vwCl (vw2 cyI cyJ cyZ cyO h h2 (acts + 1) why passed passed f_eaten f_lands f_camphors f_there f_mothCells f_mothHeads f_threads f_sightNights f_sightCells f_sights f_night f_eaten) H := hP
          have hD : va_D A (vw2 cyI cyJ cyZ cyO h h2 (acts + 1) why passed passed f_eaten f_lands f_camphors f_there f_mothCells f_mothHeads f_threads f_sightNights f_sightCells f_sights f_night f_eaten) := hD
          exact b57 (acts + 1) passed passed f_eaten f_eaten H locs ls hP hD hS (lv_sub hl [0] rfl) hf
    · replace hf := if_f cc hf
      cases Option.some.inj hf
      exact W.vret hx hb hr (fun t ht hW => ⟨⟨(), rfl, trivial, by show va_P D vwCl _ t.heap; rw [ht]; exact hP⟩, hS.F ht⟩) hS.2.2 dX4_note_16
  have hl := lv_entry ([.ref (h 0), .int p1]) (n := 2) (Nat.le_of_ble_eq_true rfl)
  rw [lg_entry_eq]
  exact main s.heap [] _ hP hD hS hl
theorem hd_X4_tell : yX4_tell.cls = RX4 ∧ yX4_tell.cls ≠ "java/lang/invoke/MethodHandle" ∧ yX4_tell.cls ≠ "java/lang/invoke/VarHandle" ∧ (parseMethodDescriptor yX4_tell.desc).map (fun d => d.parameters.length) = some 2 := by decide +kernel
set_option maxHeartbeats 4000000 in
set_option maxRecDepth 100000 in
theorem c_X4_tell (l : Launch) (D : va_G) (cyI cyJ cyZ cyO : ClassId) (h h2 h3 h4 : Nat → Nat) (sz : Nat) (acts : Int32) (why : Int32) (passed : Int32) (townNight : Int32) (town : Int32) (f_lands : Nat → Int32) (f_camphors : Nat → Int32) (f_there : Nat → Int32) (f_mothCells : Nat → Int32) (f_mothHeads : Nat → Int32) (f_threads : Nat → Int32) (f_sightNights : Nat → Int32) (f_sightCells : Nat → Int32) (f_sights : Int32) (f_night : Int32) (f_eaten : Int32) (p_signs : Nat → Int32) (p_size : Int32) (n_lands : Nat → Int32) (n_camphors : Nat → Int32) (n_there : Nat → Int32) (n_mothCells : Nat → Int32) (n_mothHeads : Nat → Int32) (n_threads : Nat → Int32) (n_sightNights : Nat → Int32) (n_sightCells : Nat → Int32) (n_sights : Int32) (n_night : Int32) (n_eaten : Int32) (nf : Nat) (q : Int32 × Int32 × Int32 × Int32 × Int32 × (Nat → Int32) × (Nat → Int32) × (Nat → Int32) × (Nat → Int32) × (Nat → Int32) × (Nat → Int32) × (Nat → Int32) × (Nat → Int32) × Int32 × Int32 × Int32) (hf : g_X4_tell nf acts why passed townNight town f_lands f_camphors f_there f_mothCells f_mothHeads f_threads f_sightNights f_sightCells f_sights f_night f_eaten p_signs p_size n_lands n_camphors n_there n_mothCells n_mothHeads n_threads n_sightNights n_sightCells n_sights n_night = some q) : Met l yX4_tell (Cond.code yX4_tell cX4_tell 6 none :: tbG) ({ frames := 4, cells := 0, slots := 0, locals := 89 } : Room) (va_Pc [.ref (h 0), .ref (h3 0), .ref (h4 0)] (pcB D (ty4 cyI cyJ cyZ cyO) sz (vw3 cyI cyJ cyZ cyO h h2 h3 h4 acts why passed townNight town f_lands f_camphors f_there f_mothCells f_mothHeads f_threads f_sightNights f_sightCells f_sights f_night f_eaten p_signs p_size n_lands n_camphors n_there n_mothCells n_mothHeads n_threads n_sightNights n_sightCells n_sights n_night n_eaten))) (qV D (vw3 cyI cyJ cyZ cyO h h2 h3 h4 q.1 q.2.1 q.2.2.1 q.2.2.2.1 q.2.2.2.2.1 q.2.2.2.2.2.1 q.2.2.2.2.2.2.1 q.2.2.2.2.2.2.2.1 q.2.2.2.2.2.2.2.2.1 q.2.2.2.2.2.2.2.2.2.1 q.2.2.2.2.2.2.2.2.2.2.1 q.2.2.2.2.2.2.2.2.2.2.2.1 q.2.2.2.2.2.2.2.2.2.2.2.2.1 q.2.2.2.2.2.2.2.2.2.2.2.2.2.1 q.2.2.2.2.2.2.2.2.2.2.2.2.2.2.1 q.2.2.2.2.2.2.2.2.2.2.2.2.2.2.2 p_signs p_size n_lands n_camphors n_there n_mothCells n_mothHeads n_threads n_sightNights n_sightCells n_sights n_night n_eaten) (va_A (vw3 cyI cyJ cyZ cyO h h2 h3 h4 acts why passed townNight town f_lands f_camphors f_there f_mothCells f_mothHeads f_threads f_sightNights f_sightCells f_sights f_night f_eaten p_signs p_size n_lands n_camphors n_there n_mothCells n_mothHeads n_threads n_sightNights n_sightCells n_sights n_night n_eaten) sz)) 0 0 (va_A (vw3 cyI cyJ cyZ cyO h h2 h3 h4 acts why passed townNight town f_lands f_camphors f_there f_mothCells f_mothHeads f_threads f_sightNights f_sightCells f_sights f_night f_eaten p_signs p_size n_lands n_camphors n_there n_mothCells n_mothHeads n_threads n_sightNights n_sightCells n_sights n_night n_eaten) sz) := by
  refine Met.ofW (cc := cX4_tell) (maxL := 6) (ret := none) (by decide) rfl ?_
  intro p e s m args below meth c s₁ B hml hv
  obtain ⟨rfl, hsz, hP, hK, hD0, hN⟩ := hv
  have hx := B.exec
  have hb := B.bytes
  have hr := B.returns
  have hT : ∀ w ∈ tbG, w.before ([.ref (h 0), .ref (h3 0), .ref (h4 0)] : List Value).toArray s = true := fun w h => atoms_spec (ws := (Cond.code yX4_tell cX4_tell 6 none :: tbG)) B.pre w (List.mem_cons_of_mem _ h)
  have hown : s.vm.findClass RX4 = some m.cls := findClass_of_methodNamed B.named
  have hlocks := B.notSynchronized
  subst hsz
  have hD := hD0.self (sz := s.heap.size)
  generalize hAe : va_A (vw3 cyI cyJ cyZ cyO h h2 h3 h4 acts why passed townNight town f_lands f_camphors f_there f_mothCells f_mothHeads f_threads f_sightNights f_sightCells f_sights f_night f_eaten p_signs p_size n_lands n_camphors n_there n_mothCells n_mothHeads n_threads n_sightNights n_sightCells n_sights n_night n_eaten) s.heap.size = A at hD ⊢
  have hA : ∀ q : Nat, s.heap.size ≤ q → A q := fun q h => by rw [← hAe]; exact Or.inr h
  have hS : va_S A s.heap s.heap [] := va_S.rf
  show W p l e ({ frames := 4, cells := 0, slots := 0, locals := 89 } : Room) s m ([.ref (h 0), .ref (h3 0), .ref (h4 0)] : List Value).toArray below meth c s.heap [] 0 0 (MQ below (qV D (vw3 cyI cyJ cyZ cyO h h2 h3 h4 q.1 q.2.1 q.2.2.1 q.2.2.2.1 q.2.2.2.2.1 q.2.2.2.2.2.1 q.2.2.2.2.2.2.1 q.2.2.2.2.2.2.2.1 q.2.2.2.2.2.2.2.2.1 q.2.2.2.2.2.2.2.2.2.1 q.2.2.2.2.2.2.2.2.2.2.1 q.2.2.2.2.2.2.2.2.2.2.2.1 q.2.2.2.2.2.2.2.2.2.2.2.2.1 q.2.2.2.2.2.2.2.2.2.2.2.2.2.1 q.2.2.2.2.2.2.2.2.2.2.2.2.2.2.1 q.2.2.2.2.2.2.2.2.2.2.2.2.2.2.2 p_signs p_size n_lands n_camphors n_there n_mothCells n_mothHeads n_threads n_sightNights n_sightCells n_sights n_night n_eaten) A) ([.ref (h 0), .ref (h3 0), .ref (h4 0)] : List Value).toArray s 0 0 A) _
  have l40 : ∀ (n40 : Nat) (x3 : Int32) (x4 : Int32) (acts : Int32) (why : Int32) (passed : Int32) (townNight : Int32) (town : Int32) (f_lands : Nat → Int32) (f_camphors : Nat → Int32) (f_there : Nat → Int32) (f_mothCells : Nat → Int32) (f_mothHeads : Nat → Int32) (f_threads : Nat → Int32) (f_sightNights : Nat → Int32) (f_sightCells : Nat → Int32) (f_sights : Int32) (f_night : Int32) (f_eaten : Int32) (p_signs : Nat → Int32) (p_size : Int32) (n_lands : Nat → Int32) (n_camphors : Nat → Int32) (n_there : Nat → Int32) (n_mothCells : Nat → Int32) (n_mothHeads : Nat → Int32) (n_threads : Nat → Int32) (n_sightNights : Nat → Int32) (n_sightCells : Nat → Int32) (n_sights : Int32) (n_night : Int32) (H : Heap) (locs : List Loc) (ls : Array Slot), va_P D vwCl (vw3 cyI cyJ cyZ cyO h h2 h3 h4 acts why passed townNight town f_lands f_camphors f_there f_mothCells f_mothHeads f_threads f_sightNights f_sightCells f_sights f_night f_eaten p_signs p_size n_lands n_camphors n_there n_mothCells n_mothHeads n_threads n_sightNights n_sightCells n_sights n_night n_eaten) H → va_D A (vw3 cyI cyJ cyZ cyO h h2 h3 h4 acts why passed townNight town f_lands f_camphors f_there f_mothCells f_mothHeads f_threads f_sightNights f_sightCells f_sights f_night f_eaten p_signs p_size n_lands n_camphors n_there n_mothCells n_mothHeads n_threads n_sightNights n_sightCells n_sights n_night n_eaten) → va_S A s.heap H locs → lv_has ls 6 [(0, .ref (h 0)), (1, .ref (h3 0)), (3, .int x3), (4, .int x4)] → g_X4_tell_l40 nf n40 x3 x4 acts why passed townNight town f_lands f_camphors f_there f_mothCells f_mothHeads f_threads f_sightNights f_sightCells f_sights f_night f_eaten p_signs p_size n_lands n_camphors n_there n_mothCells n_mothHeads n_threads n_sightNights n_sightCells n_sights n_night = some q → W p l e ({ frames := 4, cells := 0, slots := 0, locals := 89 } : Room) s m ([.ref (h 0), .ref (h3 0), .ref (h4 0)] : List Value).toArray below meth c H locs 0 0 (MQ below (qV D (vw3 cyI cyJ cyZ cyO h h2 h3 h4 q.1 q.2.1 q.2.2.1 q.2.2.2.1 q.2.2.2.2.1 q.2.2.2.2.2.1 q.2.2.2.2.2.2.1 q.2.2.2.2.2.2.2.1 q.2.2.2.2.2.2.2.2.1 q.2.2.2.2.2.2.2.2.2.1 q.2.2.2.2.2.2.2.2.2.2.1 q.2.2.2.2.2.2.2.2.2.2.2.1 q.2.2.2.2.2.2.2.2.2.2.2.2.1 q.2.2.2.2.2.2.2.2.2.2.2.2.2.1 q.2.2.2.2.2.2.2.2.2.2.2.2.2.2.1 q.2.2.2.2.2.2.2.2.2.2.2.2.2.2.2 p_signs p_size n_lands n_camphors n_there n_mothCells n_mothHeads n_threads n_sightNights n_sightCells n_sights n_night n_eaten) A) ([.ref (h 0), .ref (h3 0), .ref (h4 0)] : List Value).toArray s 0 0 A) (F0 m 40 ls []) := by
    intro n40
    induction n40 with
    | zero =>
      intro x3 x4 acts why passed townNight town f_lands f_camphors f_there f_mothCells f_mothHeads f_threads f_sightNights f_sightCells f_sights f_night f_eaten p_signs p_size n_lands n_camphors n_there n_mothCells n_mothHeads n_threads n_sightNights n_sightCells n_sights n_night H locs ls hP hD hS hl hf
      rw [g_X4_tell_l40] at hf
      cases hf
    | succ n40 ih40 =>
      have b106 : ∀ (x3 : Int32) (x4 : Int32) (x5 : Int32) (acts : Int32) (why : Int32) (passed : Int32) (townNight : Int32) (town : Int32) (f_lands : Nat → Int32) (f_camphors : Nat → Int32) (f_there : Nat → Int32) (f_mothCells : Nat → Int32) (f_mothHeads : Nat → Int32) (f_threads : Nat → Int32) (f_sightNights : Nat → Int32) (f_sightCells : Nat → Int32) (f_sights : Int32) (f_night : Int32) (f_eaten : Int32) (p_signs : Nat → Int32) (p_size : Int32) (n_lands : Nat → Int32) (n_camphors : Nat → Int32) (n_there : Nat → Int32) (n_mothCells : Nat → Int32) (n_mothHeads : Nat → Int32) (n_threads : Nat → Int32) (n_sightNights : Nat → Int32) (n_sightCells : Nat → Int32) (n_sights : Int32) (n_night : Int32) (H : Heap) (locs : List Loc) (ls : Array Slot), va_P D vwCl (vw3 cyI cyJ cyZ cyO h h2 h3 h4 acts why passed townNight town f_lands f_camphors f_there f_mothCells f_mothHeads f_threads f_sightNights f_sightCells f_sights f_night f_eaten p_signs p_size n_lands n_camphors n_there n_mothCells n_mothHeads n_threads n_sightNights n_sightCells n_sights n_night n_eaten) H → va_D A (vw3 cyI cyJ cyZ cyO h h2 h3 h4 acts why passed townNight town f_lands f_camphors f_there f_mothCells f_mothHeads f_threads f_sightNights f_sightCells f_sights f_night f_eaten p_signs p_size n_lands n_camphors n_there n_mothCells n_mothHeads n_threads n_sightNights n_sightCells n_sights n_night n_eaten) → va_S A s.heap H locs → lv_has ls 6 [(0, .ref (h 0)), (1, .ref (h3 0)), (3, .int x3), (4, .int x4), (5, .int x5)] → g_X4_tell_b106 nf (g_X4_tell_l40 nf n40) x3 x4 x5 acts why passed townNight town f_lands f_camphors f_there f_mothCells f_mothHeads f_threads f_sightNights f_sightCells f_sights f_night f_eaten p_signs p_size n_lands n_camphors n_there n_mothCells n_mothHeads n_threads n_sightNights n_sightCells n_sights n_night = some q → W p l e ({ frames := 4, cells := 0, slots := 0, locals := 89 } : Room) s m ([.ref (h 0), .ref (h3 0), .ref (h4 0)] : List Value).toArray below meth c H locs 0 0 (MQ below (qV D (vw3 cyI cyJ cyZ cyO h h2 h3 h4 q.1 q.2.1 q.2.2.1 q.2.2.2.1 q.2.2.2.2.1 q.2.2.2.2.2.1 q.2.2.2.2.2.2.1 q.2.2.2.2.2.2.2.1 q.2.2.2.2.2.2.2.2.1 q.2.2.2.2.2.2.2.2.2.1 q.2.2.2.2.2.2.2.2.2.2.1 q.2.2.2.2.2.2.2.2.2.2.2.1 q.2.2.2.2.2.2.2.2.2.2.2.2.1 q.2.2.2.2.2.2.2.2.2.2.2.2.2.1 q.2.2.2.2.2.2.2.2.2.2.2.2.2.2.1 q.2.2.2.2.2.2.2.2.2.2.2.2.2.2.2 p_signs p_size n_lands n_camphors n_there n_mothCells n_mothHeads n_threads n_sightNights n_sightCells n_sights n_night n_eaten) A) ([.ref (h 0), .ref (h3 0), .ref (h4 0)] : List Value).toArray s 0 0 A) (F0 m 106 ls []) := by
        intro x3 x4 x5 acts why passed townNight town f_lands f_camphors f_there f_mothCells f_mothHeads f_threads f_sightNights f_sightCells f_sights f_night f_eaten p_signs p_size n_lands n_camphors n_there n_mothCells n_mothHeads n_threads n_sightNights n_sightCells n_sights n_night H locs ls hP hD hS hl hf
        unfold g_X4_tell_b106 at hf
        refine lv_iload_n hx hb dX4_tell_106 rfl (lv_at hl 2 rfl) ?_
        refine lv_iload hx hb dX4_tell_107 (lv_at hl 4 rfl) ?_
        obtain ⟨q6, hq6, hf⟩ := bd_some hf
        have hC : ([] : List Nat).map (fun i => (vw3 cyI cyJ cyZ cyO h h2 h3 h4 acts why passed townNight town f_lands f_camphors f_there f_mothCells f_mothHeads f_threads f_sightNights f_sightCells f_sights f_night f_eaten p_signs p_size n_lands n_camphors n_there n_mothCells n_mothHeads n_threads n_sightNights n_sightCells n_sights n_night n_eaten)[i]?) = ([] : va_W).map some := rfl
        refine cl_i (rn_S (As := [.int x5]) (rest := [.int x3]) hx hb hml hown hT hK hN hP hD [] hC rfl (c_X5_actLength l D cyI cyJ cyZ cyO H.size x5 nf q6 hq6) wm_X4_55 wt_X5_actLength wz_X5 wc_X5_actLength hd_X5_actLength ⟨rfl, rfl⟩ ⟨Nat.le_of_ble_eq_true rfl, Nat.le_of_ble_eq_true rfl⟩ rfl hl.1 rfl (Nat.le_of_ble_eq_true rfl) dX4_tell_109 ⟨Nat.zero_le _, Nat.zero_le _⟩) hP hD hS hA [] hC [(false, 0), (false, 1), (false, 2), (false, 3), (false, 4), (false, 5), (false, 6), (false, 7), (false, 8), (false, 9), (false, 10), (false, 11), (false, 12), (false, 13), (false, 14), (false, 15), (false, 16), (false, 17), (false, 18), (false, 19), (false, 20)] (ws' := vw3 cyI cyJ cyZ cyO h h2 h3 h4 acts why passed townNight town f_lands f_camphors f_there f_mothCells f_mothHeads f_threads f_sightNights f_sightCells f_sights f_night f_eaten p_signs p_size n_lands n_camphors n_there n_mothCells n_mothHeads n_threads n_sightNights n_sightCells n_sights n_night n_eaten) rfl rfl rfl (fun H locs hP hD hS => ?_)
        refine lv_iadd hx hb dX4_tell_112 ?_
        refine lv_istore_n (lv' := [(3, .int (x3 + q6)), (0, .ref (h 0)), (1, .ref (h3 0)), (4, .int x4), (5, .int x5)]) hx hb dX4_tell_113 rfl hl (by decide) rfl (fun ls hl => ?_)
        refine lv_iinc (v := (x4 + 1)) (lv' := [(4, .int (x4 + 1)), (3, .int (x3 + q6)), (0, .ref (h 0)), (1, .ref (h3 0)), (5, .int x5)]) hx hb dX4_tell_114 hl (k := 3) rfl rfl (by decide) rfl (fun ls hl => ?_)
        refine lv_goto (tgt := 40) hx hb dX4_tell_117 (by decide) ?_
        exact ih40 (x3 + q6) (x4 + 1) acts why passed townNight town f_lands f_camphors f_there f_mothCells f_mothHeads f_threads f_sightNights f_sightCells f_sights f_night f_eaten p_signs p_size n_lands n_camphors n_there n_mothCells n_mothHeads n_threads n_sightNights n_sightCells n_sights n_night H locs ls hP hD hS (lv_sub hl [2, 3, 1, 0] rfl) hf
      intro x3 x4 acts why passed townNight town f_lands f_camphors f_there f_mothCells f_mothHeads f_threads f_sightNights f_sightCells f_sights f_night f_eaten p_signs p_size n_lands n_camphors n_there n_mothCells n_mothHeads n_threads n_sightNights n_sightCells n_sights n_night H locs ls hP hD hS hl hf
      rw [g_X4_tell_l40] at hf
      refine lv_iload hx hb dX4_tell_40 (lv_at hl 3 rfl) ?_
      refine lv_bipush (v := 60) hx hb dX4_tell_42 (by decide) ?_
      refine lv_icmp_ge (tgt := 120) hx hb dX4_tell_44 (by decide) (fun cc => ?_) (fun cc => ?_)
      · replace hf := if_t cc hf
        cases Option.some.inj hf
        exact W.vret hx hb hr (fun t ht hW => ⟨⟨(), rfl, trivial, by show va_P D vwCl _ t.heap; rw [ht]; exact hP⟩, hS.F ht⟩) hS.2.2 dX4_tell_120
      · replace hf := if_f cc hf
        refine lv_iload_n hx hb dX4_tell_47 rfl (lv_at hl 2 rfl) ?_
        refine lv_aload_n hx hb dX4_tell_48 rfl (lv_at hl 1 rfl) ?_
        refine va_get (ci := 5) (v := .int p_size) (C := RX5) (T := TX5) (N := 2) hx hb hT hin_X5 hown hK hP 10 rfl rfl 1 (by decide) (hT _ wf_X4_38) (fun _ h9 => h9) rfl dX4_tell_49 ?_
        refine lv_icmp_ge (tgt := 120) hx hb dX4_tell_52 (by decide) (fun cc => ?_) (fun cc => ?_)
        · replace hf := if_t cc hf
          cases Option.some.inj hf
          exact W.vret hx hb hr (fun t ht hW => ⟨⟨(), rfl, trivial, by show va_P D vwCl _ t.heap; rw [ht]; exact hP⟩, hS.F ht⟩) hS.2.2 dX4_tell_120
        · replace hf := if_f cc hf
          refine lv_aload_n hx hb dX4_tell_55 rfl (lv_at hl 0 rfl) ?_
          refine va_get (ci := 4) (v := .int why) (C := RX4) (T := TX4) (N := 6) hx hb hT hin_X4 hown hK hP 0 rfl rfl 2 (by decide) (hT _ wf_X4_26) (fun _ h9 => h9) rfl dX4_tell_56 ?_
          refine lv_if_ne (tgt := 120) hx hb dX4_tell_59 (by decide) (fun cc => ?_) (fun cc => ?_)
          · replace hf := if_f cc hf
            cases Option.some.inj hf
            exact W.vret hx hb hr (fun t ht hW => ⟨⟨(), rfl, trivial, by show va_P D vwCl _ t.heap; rw [ht]; exact hP⟩, hS.F ht⟩) hS.2.2 dX4_tell_120
          · replace hf := if_t cc hf
            refine lv_aload_n hx hb dX4_tell_62 rfl (lv_at hl 1 rfl) ?_
            refine lv_iload_n hx hb dX4_tell_63 rfl (lv_at hl 2 rfl) ?_
            obtain ⟨q1, hq1, hf⟩ := bd_some hf
            have hC : [10, 11].map (fun i => (vw3 cyI cyJ cyZ cyO h h2 h3 h4 acts why passed townNight town f_lands f_camphors f_there f_mothCells f_mothHeads f_threads f_sightNights f_sightCells f_sights f_night f_eaten p_signs p_size n_lands n_camphors n_there n_mothCells n_mothHeads n_threads n_sightNights n_sightCells n_sights n_night n_eaten)[i]?) = (wX5 cyI cyJ cyZ cyO h3 p_signs p_size).map some := rfl
            refine cl_i (rn_V (As := [.int x3]) (rest := []) (C := RX5) hx hb hml hown hT hK hN hP hD [10, 11] hC rfl (c_X5_signAt l D cyI cyJ cyZ cyO h3 H.size p_signs p_size x3 nf q1 hq1) wm_X4_43 wi_X5_signAt wl_X5_signAt wz_X5 wc_X5_signAt hd_X5_signAt ⟨rfl, rfl⟩ ⟨Nat.le_of_ble_eq_true rfl, Nat.le_of_ble_eq_true rfl⟩ (q0 := 0) (ci := 5) rfl rfl rfl rfl hl.1 rfl (Nat.le_of_ble_eq_true rfl) dX4_tell_64 ⟨Nat.zero_le _, Nat.zero_le _⟩) hP hD hS hA [10, 11] hC [(false, 0), (false, 1), (false, 2), (false, 3), (false, 4), (false, 5), (false, 6), (false, 7), (false, 8), (false, 9), (true, 0), (true, 1), (false, 12), (false, 13), (false, 14), (false, 15), (false, 16), (false, 17), (false, 18), (false, 19), (false, 20)] (ws' := vw3 cyI cyJ cyZ cyO h h2 h3 h4 acts why passed townNight town f_lands f_camphors f_there f_mothCells f_mothHeads f_threads f_sightNights f_sightCells f_sights f_night f_eaten p_signs p_size n_lands n_camphors n_there n_mothCells n_mothHeads n_threads n_sightNights n_sightCells n_sights n_night n_eaten) rfl rfl rfl (fun H locs hP hD hS => ?_)
            refine lv_istore (lv' := [(5, .int q1), (0, .ref (h 0)), (1, .ref (h3 0)), (3, .int x3), (4, .int x4)]) hx hb dX4_tell_67 hl (by decide) rfl (fun ls hl => ?_)
            refine lv_aload_n hx hb dX4_tell_69 rfl (lv_at hl 1 rfl) ?_
            refine lv_aload_n hx hb dX4_tell_70 rfl (lv_at hl 1 rfl) ?_
            refine lv_iload hx hb dX4_tell_71 (lv_at hl 0 rfl) ?_
            refine lv_aload_n hx hb dX4_tell_73 rfl (lv_at hl 2 rfl) ?_
            refine lv_iload_n hx hb dX4_tell_74 rfl (lv_at hl 3 rfl) ?_
            refine lv_iconst (v := 1) hx hb dX4_tell_75 (by decide) ?_
            refine lv_iadd hx hb dX4_tell_76 ?_
            obtain ⟨q2, hq2, hf⟩ := bd_some hf
            have hC : [10, 11].map (fun i => (vw3 cyI cyJ cyZ cyO h h2 h3 h4 acts why passed townNight town f_lands f_camphors f_there f_mothCells f_mothHeads f_threads f_sightNights f_sightCells f_sights f_night f_eaten p_signs p_size n_lands n_camphors n_there n_mothCells n_mothHeads n_threads n_sightNights n_sightCells n_sights n_night n_eaten)[i]?) = (wX5 cyI cyJ cyZ cyO h3 p_signs p_size).map some := rfl
            refine cl_i (rn_V (As := [.int (x3 + 1)]) (rest := [.int q1, .ref (h 0), .ref (h 0)]) (C := RX5) hx hb hml hown hT hK hN hP hD [10, 11] hC rfl (c_X5_signAt l D cyI cyJ cyZ cyO h3 H.size p_signs p_size (x3 + 1) nf q2 hq2) wm_X4_43 wi_X5_signAt wl_X5_signAt wz_X5 wc_X5_signAt hd_X5_signAt ⟨rfl, rfl⟩ ⟨Nat.le_of_ble_eq_true rfl, Nat.le_of_ble_eq_true rfl⟩ (q0 := 0) (ci := 5) rfl rfl rfl rfl hl.1 rfl (Nat.le_of_ble_eq_true rfl) dX4_tell_77 ⟨Nat.zero_le _, Nat.zero_le _⟩) hP hD hS hA [10, 11] hC [(false, 0), (false, 1), (false, 2), (false, 3), (false, 4), (false, 5), (false, 6), (false, 7), (false, 8), (false, 9), (true, 0), (true, 1), (false, 12), (false, 13), (false, 14), (false, 15), (false, 16), (false, 17), (false, 18), (false, 19), (false, 20)] (ws' := vw3 cyI cyJ cyZ cyO h h2 h3 h4 acts why passed townNight town f_lands f_camphors f_there f_mothCells f_mothHeads f_threads f_sightNights f_sightCells f_sights f_night f_eaten p_signs p_size n_lands n_camphors n_there n_mothCells n_mothHeads n_threads n_sightNights n_sightCells n_sights n_night n_eaten) rfl rfl rfl (fun H locs hP hD hS => ?_)
            refine lv_aload_n hx hb dX4_tell_80 rfl (lv_at hl 2 rfl) ?_
            refine lv_iload_n hx hb dX4_tell_81 rfl (lv_at hl 3 rfl) ?_
            refine lv_iconst (v := 2) hx hb dX4_tell_82 (by decide) ?_
            refine lv_iadd hx hb dX4_tell_83 ?_
            obtain ⟨q3, hq3, hf⟩ := bd_some hf
            have hC : [10, 11].map (fun i => (vw3 cyI cyJ cyZ cyO h h2 h3 h4 acts why passed townNight town f_lands f_camphors f_there f_mothCells f_mothHeads f_threads f_sightNights f_sightCells f_sights f_night f_eaten p_signs p_size n_lands n_camphors n_there n_mothCells n_mothHeads n_threads n_sightNights n_sightCells n_sights n_night n_eaten)[i]?) = (wX5 cyI cyJ cyZ cyO h3 p_signs p_size).map some := rfl
            refine cl_i (rn_V (As := [.int (x3 + 2)]) (rest := [.int q2, .int q1, .ref (h 0), .ref (h 0)]) (C := RX5) hx hb hml hown hT hK hN hP hD [10, 11] hC rfl (c_X5_signAt l D cyI cyJ cyZ cyO h3 H.size p_signs p_size (x3 + 2) nf q3 hq3) wm_X4_43 wi_X5_signAt wl_X5_signAt wz_X5 wc_X5_signAt hd_X5_signAt ⟨rfl, rfl⟩ ⟨Nat.le_of_ble_eq_true rfl, Nat.le_of_ble_eq_true rfl⟩ (q0 := 0) (ci := 5) rfl rfl rfl rfl hl.1 rfl (Nat.le_of_ble_eq_true rfl) dX4_tell_84 ⟨Nat.zero_le _, Nat.zero_le _⟩) hP hD hS hA [10, 11] hC [(false, 0), (false, 1), (false, 2), (false, 3), (false, 4), (false, 5), (false, 6), (false, 7), (false, 8), (false, 9), (true, 0), (true, 1), (false, 12), (false, 13), (false, 14), (false, 15), (false, 16), (false, 17), (false, 18), (false, 19), (false, 20)] (ws' := vw3 cyI cyJ cyZ cyO h h2 h3 h4 acts why passed townNight town f_lands f_camphors f_there f_mothCells f_mothHeads f_threads f_sightNights f_sightCells f_sights f_night f_eaten p_signs p_size n_lands n_camphors n_there n_mothCells n_mothHeads n_threads n_sightNights n_sightCells n_sights n_night n_eaten) rfl rfl rfl (fun H locs hP hD hS => ?_)
            obtain ⟨q4, hq4, hf⟩ := bd_some hf
            have hC : [0, 1, 2, 3, 4, 5, 6, 7, 8, 9].map (fun i => (vw3 cyI cyJ cyZ cyO h h2 h3 h4 acts why passed townNight town f_lands f_camphors f_there f_mothCells f_mothHeads f_threads f_sightNights f_sightCells f_sights f_night f_eaten p_signs p_size n_lands n_camphors n_there n_mothCells n_mothHeads n_threads n_sightNights n_sightCells n_sights n_night n_eaten)[i]?) = (vw2 cyI cyJ cyZ cyO h h2 acts why passed townNight town f_lands f_camphors f_there f_mothCells f_mothHeads f_threads f_sightNights f_sightCells f_sights f_night f_eaten).map some := rfl
            refine cl_i (rn_V (As := [.int q1, .int q2, .int q3]) (rest := [.ref (h 0)]) (C := RX4) hx hb hml hown hT hK hN hP hD [0, 1, 2, 3, 4, 5, 6, 7, 8, 9] hC rfl (c_X4_attempt l D cyI cyJ cyZ cyO h h2 H.size acts why passed townNight town f_lands f_camphors f_there f_mothCells f_mothHeads f_threads f_sightNights f_sightCells f_sights f_night f_eaten q1 q2 q3 nf q4 hq4) wm_X4_47 wi_X4_attempt wl_X4_attempt wz_X4 wc_X4_attempt hd_X4_attempt ⟨rfl, rfl⟩ ⟨Nat.le_of_ble_eq_true rfl, Nat.le_of_ble_eq_true rfl⟩ (q0 := 0) (ci := 4) rfl rfl rfl rfl hl.1 rfl (Nat.le_of_ble_eq_true rfl) dX4_tell_87 ⟨Nat.zero_le _, Nat.zero_le _⟩) hP hD hS hA [0, 1, 2, 3, 4, 5, 6, 7, 8, 9] hC [(true, 0), (true, 1), (true, 2), (true, 3), (true, 4), (true, 5), (true, 6), (true, 7), (true, 8), (true, 9), (false, 10), (false, 11), (false, 12), (false, 13), (false, 14), (false, 15), (false, 16), (false, 17), (false, 18), (false, 19), (false, 20)] (ws' := vw3 cyI cyJ cyZ cyO h h2 h3 h4 acts why passed townNight town q4.2.1 q4.2.2.1 q4.2.2.2.1 q4.2.2.2.2.1 q4.2.2.2.2.2.1 q4.2.2.2.2.2.2.1 f_sightNights f_sightCells f_sights q4.2.2.2.2.2.2.2.1 q4.2.2.2.2.2.2.2.2 p_signs p_size n_lands n_camphors n_there n_mothCells n_mothHeads n_threads n_sightNights n_sightCells n_sights n_night n_eaten) rfl rfl rfl (fun H locs hP hD hS => ?_)
            refine va_put (ci := 4) (v := .int q4.1) (ty := .int) (C := RX4) (T := TX4) (N := 6) hx hb hT hin_X4 tyX4 tyX4_ok nmX4 hown hK hP hD hS 0 rfl rfl 2 (by decide) (hT _ wf_X4_26) (fun _ h9 => h9) rfl (tyX4_ok 2 (by decide)) rfl rfl (Nat.le_of_ble_eq_true rfl) dX4_tell_90 (fun H locs hP hD hS => ?_)
            have hP : va_P D vwCl (vw3 cyI cyJ cyZ cyO h h2 h3 h4 acts q4.1 passed townNight town q4.2.1 q4.2.2.1 q4.2.2.2.1 q4.2.2.2.2.1 q4.2.2.2.2.2.1 q4.2.2.2.2.2.2.1 f_sightNights f_sightCells f_sights q4.2.2.2.2.2.2.2.1 q4.2.2.2.2.2.2.2.2 p_signs p_size n_lands n_camphors n_there n_mothCells n_mothHeads n_threads n_sightNights n_sightCells n_sights n_night n_eaten) H := hP
            have hD : va_D A (vw3 cyI cyJ cyZ cyO h h2 h3 h4 acts q4.1 passed townNight town q4.2.1 q4.2.2.1 q4.2.2.2.1 q4.2.2.2.2.1 q4.2.2.2.2.2.1 q4.2.2.2.2.2.2.1 f_sightNights f_sightCells f_sights q4.2.2.2.2.2.2.2.1 q4.2.2.2.2.2.2.2.2 p_signs p_size n_lands n_camphors n_there n_mothCells n_mothHeads n_threads n_sightNights n_sightCells n_sights n_night n_eaten) := hD
            refine lv_aload_n hx hb dX4_tell_93 rfl (lv_at hl 1 rfl) ?_
            refine va_get (ci := 4) (v := .int q4.1) (C := RX4) (T := TX4) (N := 6) hx hb hT hin_X4 hown hK hP 0 rfl rfl 2 (by decide) (hT _ wf_X4_26) (fun _ h9 => h9) rfl dX4_tell_94 ?_
            refine lv_if_ne (tgt := 106) hx hb dX4_tell_97 (by decide) (fun cc => ?_) (fun cc => ?_)
            · replace hf := if_f cc hf
              exact b106 x3 x4 q1 acts q4.1 passed townNight town q4.2.1 q4.2.2.1 q4.2.2.2.1 q4.2.2.2.2.1 q4.2.2.2.2.2.1 q4.2.2.2.2.2.2.1 f_sightNights f_sightCells f_sights q4.2.2.2.2.2.2.2.1 q4.2.2.2.2.2.2.2.2 p_signs p_size n_lands n_camphors n_there n_mothCells n_mothHeads n_threads n_sightNights n_sightCells n_sights n_night H locs ls hP hD hS (lv_sub hl [1, 2, 3, 4, 0] rfl) hf
            · replace hf := if_t cc hf
              refine lv_aload_n hx hb dX4_tell_100 rfl (lv_at hl 1 rfl) ?_
              refine lv_iload hx hb dX4_tell_101 (lv_at hl 0 rfl) ?_
              obtain ⟨q5, hq5, hf⟩ := bd_some hf
              have hC : [0, 1, 2, 3, 4, 5, 6, 7, 8, 9].map (fun i => (vw3 cyI cyJ cyZ cyO h h2 h3 h4 acts q4.1 passed townNight town q4.2.1 q4.2.2.1 q4.2.2.2.1 q4.2.2.2.2.1 q4.2.2.2.2.2.1 q4.2.2.2.2.2.2.1 f_sightNights f_sightCells f_sights q4.2.2.2.2.2.2.2.1 q4.2.2.2.2.2.2.2.2 p_signs p_size n_lands n_camphors n_there n_mothCells n_mothHeads n_threads n_sightNights n_sightCells n_sights n_night n_eaten)[i]?) = (vw2 cyI cyJ cyZ cyO h h2 acts q4.1 passed townNight town q4.2.1 q4.2.2.1 q4.2.2.2.1 q4.2.2.2.2.1 q4.2.2.2.2.2.1 q4.2.2.2.2.2.2.1 f_sightNights f_sightCells f_sights q4.2.2.2.2.2.2.2.1 q4.2.2.2.2.2.2.2.2).map some := rfl
              refine cl_v (rn_V (As := [.int q1]) (rest := []) (C := RX4) hx hb hml hown hT hK hN hP hD [0, 1, 2, 3, 4, 5, 6, 7, 8, 9] hC rfl (c_X4_note l D cyI cyJ cyZ cyO h h2 H.size acts q4.1 passed townNight town q4.2.1 q4.2.2.1 q4.2.2.2.1 q4.2.2.2.2.1 q4.2.2.2.2.2.1 q4.2.2.2.2.2.2.1 f_sightNights f_sightCells f_sights q4.2.2.2.2.2.2.2.1 q4.2.2.2.2.2.2.2.2 q1 nf q5 hq5) wm_X4_51 wi_X4_note wl_X4_note wz_X4 wc_X4_note hd_X4_note ⟨rfl, rfl⟩ ⟨Nat.le_of_ble_eq_true rfl, Nat.le_of_ble_eq_true rfl⟩ (q0 := 0) (ci := 4) rfl rfl rfl rfl hl.1 rfl (Nat.le_of_ble_eq_true rfl) dX4_tell_103 ⟨Nat.zero_le _, Nat.zero_le _⟩) hP hD hS hA [0, 1, 2, 3, 4, 5, 6, 7, 8, 9] hC [(true, 0), (true, 1), (true, 2), (true, 3), (true, 4), (true, 5), (true, 6), (true, 7), (true, 8), (true, 9), (false, 10), (false, 11), (false, 12), (false, 13), (false, 14), (false, 15), (false, 16), (false, 17), (false, 18), (false, 19), (false, 20)] (ws' := vw3 cyI cyJ cyZ cyO h h2 h3 h4 q5.1 q4.1 q5.2.1 q5.2.2.1 q5.2.2.2 q4.2.1 q4.2.2.1 q4.2.2.2.1 q4.2.2.2.2.1 q4.2.2.2.2.2.1 q4.2.2.2.2.2.2.1 f_sightNights f_sightCells f_sights q4.2.2.2.2.2.2.2.1 q4.2.2.2.2.2.2.2.2 p_signs p_size n_lands n_camphors n_there n_mothCells n_mothHeads n_threads n_sightNights n_sightCells n_sights n_night n_eaten) rfl rfl rfl (fun H locs hP hD hS => ?_)
              exact b106 x3 x4 q1 q5.1 q4.1 q5.2.1 q5.2.2.1 q5.2.2.2 q4.2.1 q4.2.2.1 q4.2.2.2.1 q4.2.2.2.2.1 q4.2.2.2.2.2.1 q4.2.2.2.2.2.2.1 f_sightNights f_sightCells f_sights q4.2.2.2.2.2.2.2.1 q4.2.2.2.2.2.2.2.2 p_signs p_size n_lands n_camphors n_there n_mothCells n_mothHeads n_threads n_sightNights n_sightCells n_sights n_night H locs ls hP hD hS (lv_sub hl [1, 2, 3, 4, 0] rfl) hf
  have main : ∀ (H : Heap) (locs : List Loc) (ls : Array Slot), va_P D vwCl (vw3 cyI cyJ cyZ cyO h h2 h3 h4 acts why passed townNight town f_lands f_camphors f_there f_mothCells f_mothHeads f_threads f_sightNights f_sightCells f_sights f_night f_eaten p_signs p_size n_lands n_camphors n_there n_mothCells n_mothHeads n_threads n_sightNights n_sightCells n_sights n_night n_eaten) H → va_D A (vw3 cyI cyJ cyZ cyO h h2 h3 h4 acts why passed townNight town f_lands f_camphors f_there f_mothCells f_mothHeads f_threads f_sightNights f_sightCells f_sights f_night f_eaten p_signs p_size n_lands n_camphors n_there n_mothCells n_mothHeads n_threads n_sightNights n_sightCells n_sights n_night n_eaten) → va_S A s.heap H locs → lv_has ls 6 [(0, .ref (h 0)), (1, .ref (h3 0)), (2, .ref (h4 0))] → W p l e ({ frames := 4, cells := 0, slots := 0, locals := 89 } : Room) s m ([.ref (h 0), .ref (h3 0), .ref (h4 0)] : List Value).toArray below meth c H locs 0 0 (MQ below (qV D (vw3 cyI cyJ cyZ cyO h h2 h3 h4 q.1 q.2.1 q.2.2.1 q.2.2.2.1 q.2.2.2.2.1 q.2.2.2.2.2.1 q.2.2.2.2.2.2.1 q.2.2.2.2.2.2.2.1 q.2.2.2.2.2.2.2.2.1 q.2.2.2.2.2.2.2.2.2.1 q.2.2.2.2.2.2.2.2.2.2.1 q.2.2.2.2.2.2.2.2.2.2.2.1 q.2.2.2.2.2.2.2.2.2.2.2.2.1 q.2.2.2.2.2.2.2.2.2.2.2.2.2.1 q.2.2.2.2.2.2.2.2.2.2.2.2.2.2.1 q.2.2.2.2.2.2.2.2.2.2.2.2.2.2.2 p_signs p_size n_lands n_camphors n_there n_mothCells n_mothHeads n_threads n_sightNights n_sightCells n_sights n_night n_eaten) A) ([.ref (h 0), .ref (h3 0), .ref (h4 0)] : List Value).toArray s 0 0 A) (F0 m 0 ls []) := by
    intro H locs ls hP hD hS hl
    unfold g_X4_tell at hf
    refine lv_aload_n hx hb dX4_tell_0 rfl (lv_at hl 0 rfl) ?_
    refine va_get (ci := 4) (v := .ref (h2 0)) (C := RX4) (T := TX4) (N := 6) hx hb hT hin_X4 hown hK hP 0 rfl rfl 0 (by decide) (hT _ wf_X4_12) (fun _ h9 => h9) rfl dX4_tell_1 ?_
    refine lv_aload_n hx hb dX4_tell_4 rfl (lv_at hl 2 rfl) ?_
    obtain ⟨q7, hq7, hf⟩ := bd_some hf
    have hC : [1, 2, 3, 4, 5, 6, 7, 8, 9, 12, 13, 14, 15, 16, 17, 18, 19, 20].map (fun i => (vw3 cyI cyJ cyZ cyO h h2 h3 h4 acts why passed townNight town f_lands f_camphors f_there f_mothCells f_mothHeads f_threads f_sightNights f_sightCells f_sights f_night f_eaten p_signs p_size n_lands n_camphors n_there n_mothCells n_mothHeads n_threads n_sightNights n_sightCells n_sights n_night n_eaten)[i]?) = (vw1 cyI cyJ cyZ cyO h2 h4 f_lands f_camphors f_there f_mothCells f_mothHeads f_threads f_sightNights f_sightCells f_sights f_night f_eaten n_lands n_camphors n_there n_mothCells n_mothHeads n_threads n_sightNights n_sightCells n_sights n_night n_eaten).map some := rfl
    refine cl_v (rn_V (As := [.ref (h4 0)]) (rest := []) (C := RX1) hx hb hml hown hT hK hN hP hD [1, 2, 3, 4, 5, 6, 7, 8, 9, 12, 13, 14, 15, 16, 17, 18, 19, 20] hC rfl (c_X1_become l D cyI cyJ cyZ cyO h2 h4 H.size f_lands f_camphors f_there f_mothCells f_mothHeads f_threads f_sightNights f_sightCells f_sights f_night f_eaten n_lands n_camphors n_there n_mothCells n_mothHeads n_threads n_sightNights n_sightCells n_sights n_night n_eaten nf q7 hq7) wm_X4_18 wi_X1_become wl_X1_become wz_X1 wc_X1_become hd_X1_become ⟨rfl, rfl⟩ ⟨Nat.le_of_ble_eq_true rfl, Nat.le_of_ble_eq_true rfl⟩ (q0 := 0) (ci := 1) rfl rfl rfl rfl hl.1 rfl (Nat.le_of_ble_eq_true rfl) dX4_tell_5 ⟨Nat.zero_le _, Nat.zero_le _⟩) hP hD hS hA [1, 2, 3, 4, 5, 6, 7, 8, 9, 12, 13, 14, 15, 16, 17, 18, 19, 20] hC [(false, 0), (true, 0), (true, 1), (true, 2), (true, 3), (true, 4), (true, 5), (true, 6), (true, 7), (true, 8), (false, 10), (false, 11), (true, 9), (true, 10), (true, 11), (true, 12), (true, 13), (true, 14), (true, 15), (true, 16), (true, 17)] (ws' := vw3 cyI cyJ cyZ cyO h h2 h3 h4 acts why passed townNight town q7.1 q7.2.1 q7.2.2.1 q7.2.2.2.1 q7.2.2.2.2.1 q7.2.2.2.2.2.1 q7.2.2.2.2.2.2.1 q7.2.2.2.2.2.2.2.1 q7.2.2.2.2.2.2.2.2.1 q7.2.2.2.2.2.2.2.2.2 f_eaten p_signs p_size n_lands n_camphors n_there n_mothCells n_mothHeads n_threads n_sightNights n_sightCells n_sights n_night n_eaten) rfl rfl rfl (fun H locs hP hD hS => ?_)
    refine lv_aload_n hx hb dX4_tell_8 rfl (lv_at hl 0 rfl) ?_
    refine lv_iconst (v := 0) hx hb dX4_tell_9 (by decide) ?_
    refine va_put (ci := 4) (v := .int 0) (ty := .int) (C := RX4) (T := TX4) (N := 6) hx hb hT hin_X4 tyX4 tyX4_ok nmX4 hown hK hP hD hS 0 rfl rfl 1 (by decide) (hT _ wf_X4_22) (fun _ h9 => h9) rfl (tyX4_ok 1 (by decide)) rfl rfl (Nat.le_of_ble_eq_true rfl) dX4_tell_10 (fun H locs hP hD hS => ?_)
    have hP : va_P D vwCl (vw3 cyI cyJ cyZ cyO h h2 h3 h4 0 why passed townNight town q7.1 q7.2.1 q7.2.2.1 q7.2.2.2.1 q7.2.2.2.2.1 q7.2.2.2.2.2.1 q7.2.2.2.2.2.2.1 q7.2.2.2.2.2.2.2.1 q7.2.2.2.2.2.2.2.2.1 q7.2.2.2.2.2.2.2.2.2 f_eaten p_signs p_size n_lands n_camphors n_there n_mothCells n_mothHeads n_threads n_sightNights n_sightCells n_sights n_night n_eaten) H := hP
    have hD : va_D A (vw3 cyI cyJ cyZ cyO h h2 h3 h4 0 why passed townNight town q7.1 q7.2.1 q7.2.2.1 q7.2.2.2.1 q7.2.2.2.2.1 q7.2.2.2.2.2.1 q7.2.2.2.2.2.2.1 q7.2.2.2.2.2.2.2.1 q7.2.2.2.2.2.2.2.2.1 q7.2.2.2.2.2.2.2.2.2 f_eaten p_signs p_size n_lands n_camphors n_there n_mothCells n_mothHeads n_threads n_sightNights n_sightCells n_sights n_night n_eaten) := hD
    refine lv_aload_n hx hb dX4_tell_13 rfl (lv_at hl 0 rfl) ?_
    refine lv_iconst (v := 0) hx hb dX4_tell_14 (by decide) ?_
    refine va_put (ci := 4) (v := .int 0) (ty := .int) (C := RX4) (T := TX4) (N := 6) hx hb hT hin_X4 tyX4 tyX4_ok nmX4 hown hK hP hD hS 0 rfl rfl 2 (by decide) (hT _ wf_X4_26) (fun _ h9 => h9) rfl (tyX4_ok 2 (by decide)) rfl rfl (Nat.le_of_ble_eq_true rfl) dX4_tell_15 (fun H locs hP hD hS => ?_)
    have hP : va_P D vwCl (vw3 cyI cyJ cyZ cyO h h2 h3 h4 0 0 passed townNight town q7.1 q7.2.1 q7.2.2.1 q7.2.2.2.1 q7.2.2.2.2.1 q7.2.2.2.2.2.1 q7.2.2.2.2.2.2.1 q7.2.2.2.2.2.2.2.1 q7.2.2.2.2.2.2.2.2.1 q7.2.2.2.2.2.2.2.2.2 f_eaten p_signs p_size n_lands n_camphors n_there n_mothCells n_mothHeads n_threads n_sightNights n_sightCells n_sights n_night n_eaten) H := hP
    have hD : va_D A (vw3 cyI cyJ cyZ cyO h h2 h3 h4 0 0 passed townNight town q7.1 q7.2.1 q7.2.2.1 q7.2.2.2.1 q7.2.2.2.2.1 q7.2.2.2.2.2.1 q7.2.2.2.2.2.2.1 q7.2.2.2.2.2.2.2.1 q7.2.2.2.2.2.2.2.2.1 q7.2.2.2.2.2.2.2.2.2 f_eaten p_signs p_size n_lands n_camphors n_there n_mothCells n_mothHeads n_threads n_sightNights n_sightCells n_sights n_night n_eaten) := hD
    refine lv_aload_n hx hb dX4_tell_18 rfl (lv_at hl 0 rfl) ?_
    refine lv_iconst (v := 0) hx hb dX4_tell_19 (by decide) ?_
    refine va_put (ci := 4) (v := .int 0) (ty := .int) (C := RX4) (T := TX4) (N := 6) hx hb hT hin_X4 tyX4 tyX4_ok nmX4 hown hK hP hD hS 0 rfl rfl 3 (by decide) (hT _ wf_X4_29) (fun _ h9 => h9) rfl (tyX4_ok 3 (by decide)) rfl rfl (Nat.le_of_ble_eq_true rfl) dX4_tell_20 (fun H locs hP hD hS => ?_)
    have hP : va_P D vwCl (vw3 cyI cyJ cyZ cyO h h2 h3 h4 0 0 0 townNight town q7.1 q7.2.1 q7.2.2.1 q7.2.2.2.1 q7.2.2.2.2.1 q7.2.2.2.2.2.1 q7.2.2.2.2.2.2.1 q7.2.2.2.2.2.2.2.1 q7.2.2.2.2.2.2.2.2.1 q7.2.2.2.2.2.2.2.2.2 f_eaten p_signs p_size n_lands n_camphors n_there n_mothCells n_mothHeads n_threads n_sightNights n_sightCells n_sights n_night n_eaten) H := hP
    have hD : va_D A (vw3 cyI cyJ cyZ cyO h h2 h3 h4 0 0 0 townNight town q7.1 q7.2.1 q7.2.2.1 q7.2.2.2.1 q7.2.2.2.2.1 q7.2.2.2.2.2.1 q7.2.2.2.2.2.2.1 q7.2.2.2.2.2.2.2.1 q7.2.2.2.2.2.2.2.2.1 q7.2.2.2.2.2.2.2.2.2 f_eaten p_signs p_size n_lands n_camphors n_there n_mothCells n_mothHeads n_threads n_sightNights n_sightCells n_sights n_night n_eaten) := hD
    refine lv_aload_n hx hb dX4_tell_23 rfl (lv_at hl 0 rfl) ?_
    refine lv_bipush (v := (-6)) hx hb dX4_tell_24 (by decide) ?_
    refine va_put (ci := 4) (v := .int (-6)) (ty := .int) (C := RX4) (T := TX4) (N := 6) hx hb hT hin_X4 tyX4 tyX4_ok nmX4 hown hK hP hD hS 0 rfl rfl 4 (by decide) (hT _ wf_X4_32) (fun _ h9 => h9) rfl (tyX4_ok 4 (by decide)) rfl rfl (Nat.le_of_ble_eq_true rfl) dX4_tell_26 (fun H locs hP hD hS => ?_)
    have hP : va_P D vwCl (vw3 cyI cyJ cyZ cyO h h2 h3 h4 0 0 0 (-6) town q7.1 q7.2.1 q7.2.2.1 q7.2.2.2.1 q7.2.2.2.2.1 q7.2.2.2.2.2.1 q7.2.2.2.2.2.2.1 q7.2.2.2.2.2.2.2.1 q7.2.2.2.2.2.2.2.2.1 q7.2.2.2.2.2.2.2.2.2 f_eaten p_signs p_size n_lands n_camphors n_there n_mothCells n_mothHeads n_threads n_sightNights n_sightCells n_sights n_night n_eaten) H := hP
    have hD : va_D A (vw3 cyI cyJ cyZ cyO h h2 h3 h4 0 0 0 (-6) town q7.1 q7.2.1 q7.2.2.1 q7.2.2.2.1 q7.2.2.2.2.1 q7.2.2.2.2.2.1 q7.2.2.2.2.2.2.1 q7.2.2.2.2.2.2.2.1 q7.2.2.2.2.2.2.2.2.1 q7.2.2.2.2.2.2.2.2.2 f_eaten p_signs p_size n_lands n_camphors n_there n_mothCells n_mothHeads n_threads n_sightNights n_sightCells n_sights n_night n_eaten) := hD
    refine lv_aload_n hx hb dX4_tell_29 rfl (lv_at hl 0 rfl) ?_
    refine lv_bipush (v := (-6)) hx hb dX4_tell_30 (by decide) ?_
    refine va_put (ci := 4) (v := .int (-6)) (ty := .int) (C := RX4) (T := TX4) (N := 6) hx hb hT hin_X4 tyX4 tyX4_ok nmX4 hown hK hP hD hS 0 rfl rfl 5 (by decide) (hT _ wf_X4_35) (fun _ h9 => h9) rfl (tyX4_ok 5 (by decide)) rfl rfl (Nat.le_of_ble_eq_true rfl) dX4_tell_32 (fun H locs hP hD hS => ?_)
    have hP : va_P D vwCl (vw3 cyI cyJ cyZ cyO h h2 h3 h4 0 0 0 (-6) (-6) q7.1 q7.2.1 q7.2.2.1 q7.2.2.2.1 q7.2.2.2.2.1 q7.2.2.2.2.2.1 q7.2.2.2.2.2.2.1 q7.2.2.2.2.2.2.2.1 q7.2.2.2.2.2.2.2.2.1 q7.2.2.2.2.2.2.2.2.2 f_eaten p_signs p_size n_lands n_camphors n_there n_mothCells n_mothHeads n_threads n_sightNights n_sightCells n_sights n_night n_eaten) H := hP
    have hD : va_D A (vw3 cyI cyJ cyZ cyO h h2 h3 h4 0 0 0 (-6) (-6) q7.1 q7.2.1 q7.2.2.1 q7.2.2.2.1 q7.2.2.2.2.1 q7.2.2.2.2.2.1 q7.2.2.2.2.2.2.1 q7.2.2.2.2.2.2.2.1 q7.2.2.2.2.2.2.2.2.1 q7.2.2.2.2.2.2.2.2.2 f_eaten p_signs p_size n_lands n_camphors n_there n_mothCells n_mothHeads n_threads n_sightNights n_sightCells n_sights n_night n_eaten) := hD
    refine lv_iconst (v := 0) hx hb dX4_tell_35 (by decide) ?_
    refine lv_istore_n (lv' := [(3, .int 0), (0, .ref (h 0)), (1, .ref (h3 0)), (2, .ref (h4 0))]) hx hb dX4_tell_36 rfl hl (by decide) rfl (fun ls hl => ?_)
    refine lv_iconst (v := 0) hx hb dX4_tell_37 (by decide) ?_
    refine lv_istore (lv' := [(4, .int 0), (3, .int 0), (0, .ref (h 0)), (1, .ref (h3 0)), (2, .ref (h4 0))]) hx hb dX4_tell_38 hl (by decide) rfl (fun ls hl => ?_)
    exact l40 nf 0 0 0 0 0 (-6) (-6) q7.1 q7.2.1 q7.2.2.1 q7.2.2.2.1 q7.2.2.2.2.1 q7.2.2.2.2.2.1 q7.2.2.2.2.2.2.1 q7.2.2.2.2.2.2.2.1 q7.2.2.2.2.2.2.2.2.1 q7.2.2.2.2.2.2.2.2.2 f_eaten p_signs p_size n_lands n_camphors n_there n_mothCells n_mothHeads n_threads n_sightNights n_sightCells n_sights n_night H locs ls hP hD hS (lv_sub hl [2, 3, 1, 0] rfl) hf
  have hl := lv_entry ([.ref (h 0), .ref (h3 0), .ref (h4 0)]) (n := 6) (Nat.le_of_ble_eq_true rfl)
  rw [lg_entry_eq]
  exact main s.heap [] _ hP hD hS hl
theorem hd_X5_append : yX5_append.cls = RX5 ∧ yX5_append.cls ≠ "java/lang/invoke/MethodHandle" ∧ yX5_append.cls ≠ "java/lang/invoke/VarHandle" ∧ (parseMethodDescriptor yX5_append.desc).map (fun d => d.parameters.length) = some 1 := by decide +kernel
set_option maxHeartbeats 4000000 in
set_option maxRecDepth 100000 in
theorem c_X5_append (l : Launch) (D : va_G) (cyI cyJ cyZ cyO : ClassId) (h : Nat → Nat) (sz : Nat) (signs : Nat → Int32) (size : Int32) (p1 : Int32) (nf : Nat) (q : Int32 × (Nat → Int32) × Int32) (hf : g_X5_append nf p1 signs size = some q) : Met l yX5_append (Cond.code yX5_append cX5_append 2 (some .boolean) :: tbG) ({ frames := 0, cells := 0, slots := 0, locals := 0 } : Room) (va_Pc [.ref (h 0), .int p1] (pcB D (ty4 cyI cyJ cyZ cyO) sz (wX5 cyI cyJ cyZ cyO h signs size))) (qI D (wX5 cyI cyJ cyZ cyO h q.2.1 q.2.2) q.1 (va_A (wX5 cyI cyJ cyZ cyO h signs size) sz)) 0 0 (va_A (wX5 cyI cyJ cyZ cyO h signs size) sz) := by
  refine Met.ofW (cc := cX5_append) (maxL := 2) (ret := (some .boolean)) (by decide) rfl ?_
  intro p e s m args below meth c s₁ B hml hv
  obtain ⟨rfl, hsz, hP, hK, hD0, hN⟩ := hv
  have hx := B.exec
  have hb := B.bytes
  have hr := B.returns
  have hT : ∀ w ∈ tbG, w.before ([.ref (h 0), .int p1] : List Value).toArray s = true := fun w h => atoms_spec (ws := (Cond.code yX5_append cX5_append 2 (some .boolean) :: tbG)) B.pre w (List.mem_cons_of_mem _ h)
  have hown : s.vm.findClass RX5 = some m.cls := findClass_of_methodNamed B.named
  have hlocks := B.notSynchronized
  subst hsz
  have hD := hD0.self (sz := s.heap.size)
  generalize hAe : va_A (wX5 cyI cyJ cyZ cyO h signs size) s.heap.size = A at hD ⊢
  have hA : ∀ q : Nat, s.heap.size ≤ q → A q := fun q h => by rw [← hAe]; exact Or.inr h
  have hS : va_S A s.heap s.heap [] := va_S.rf
  show W p l e ({ frames := 0, cells := 0, slots := 0, locals := 0 } : Room) s m ([.ref (h 0), .int p1] : List Value).toArray below meth c s.heap [] 0 0 (MQ below (qI D (wX5 cyI cyJ cyZ cyO h q.2.1 q.2.2) q.1 A) ([.ref (h 0), .int p1] : List Value).toArray s 0 0 A) _
  have main : ∀ (H : Heap) (locs : List Loc) (ls : Array Slot), va_P D vwCl (wX5 cyI cyJ cyZ cyO h signs size) H → va_D A (wX5 cyI cyJ cyZ cyO h signs size) → va_S A s.heap H locs → lv_has ls 2 [(0, .ref (h 0)), (1, .int p1)] → W p l e ({ frames := 0, cells := 0, slots := 0, locals := 0 } : Room) s m ([.ref (h 0), .int p1] : List Value).toArray below meth c H locs 0 0 (MQ below (qI D (wX5 cyI cyJ cyZ cyO h q.2.1 q.2.2) q.1 A) ([.ref (h 0), .int p1] : List Value).toArray s 0 0 A) (F0 m 0 ls []) := by
    intro H locs ls hP hD hS hl
    unfold g_X5_append at hf
    refine lv_aload_n hx hb dX5_append_0 rfl (lv_at hl 0 rfl) ?_
    refine va_get (ci := 5) (v := .int size) (C := RX5) (T := TX5) (N := 2) hx hb hT hin_X5 hown hK hP 0 rfl rfl 1 (by decide) (hT _ wf_X5_15) (fun _ h9 => h9) rfl dX5_append_1 ?_
    refine lv_bipush (v := 60) hx hb dX5_append_4 (by decide) ?_
    refine lv_icmp_lt (tgt := 11) hx hb dX5_append_6 (by decide) (fun cc => ?_) (fun cc => ?_)
    · replace hf := if_t cc hf
      refine lv_aload_n hx hb dX5_append_11 rfl (lv_at hl 0 rfl) ?_
      refine va_get (ci := 5) (v := .ref (h 1)) (C := RX5) (T := TX5) (N := 2) hx hb hT hin_X5 hown hK hP 0 rfl rfl 0 (by decide) (hT _ wf_X5_9) (fun _ h9 => h9) rfl dX5_append_12 ?_
      refine lv_aload_n hx hb dX5_append_15 rfl (lv_at hl 0 rfl) ?_
      refine va_get (ci := 5) (v := .int size) (C := RX5) (T := TX5) (N := 2) hx hb hT hin_X5 hown hK hP 0 rfl rfl 1 (by decide) (hT _ wf_X5_15) (fun _ h9 => h9) rfl dX5_append_16 ?_
      refine lv_iload_n hx hb dX5_append_19 rfl (lv_at hl 1 rfl) ?_
      obtain ⟨hi, hf⟩ := ck_some hf
      refine va_iast hx hb hK hP hD hS 1 0 rfl rfl hi dX5_append_20 (fun H locs hP hD hS => ?_)
      have hP : va_P D vwCl (wX5 cyI cyJ cyZ cyO h (upd signs size.toNatClampNeg p1) size) H := hP
      have hD : va_D A (wX5 cyI cyJ cyZ cyO h (upd signs size.toNatClampNeg p1) size) := hD
      refine lv_aload_n hx hb dX5_append_21 rfl (lv_at hl 0 rfl) ?_
      refine lv_dup hx hb dX5_append_22 rfl ?_
      refine va_get (ci := 5) (v := .int size) (C := RX5) (T := TX5) (N := 2) hx hb hT hin_X5 hown hK hP 0 rfl rfl 1 (by decide) (hT _ wf_X5_15) (fun _ h9 => h9) rfl dX5_append_23 ?_
      refine lv_iconst (v := 1) hx hb dX5_append_26 (by decide) ?_
      refine lv_iadd hx hb dX5_append_27 ?_
      refine va_put (ci := 5) (v := .int (size + 1)) (ty := .int) (C := RX5) (T := TX5) (N := 2) hx hb hT hin_X5 tyX5 tyX5_ok nmX5 hown hK hP hD hS 0 rfl rfl 1 (by decide) (hT _ wf_X5_15) (fun _ h9 => h9) rfl (tyX5_ok 1 (by decide)) rfl rfl (Nat.le_of_ble_eq_true rfl) dX5_append_28 (fun H locs hP hD hS => ?_)
      have hP : va_P D vwCl (wX5 cyI cyJ cyZ cyO h (upd signs size.toNatClampNeg p1) (size + 1)) H := hP
      have hD : va_D A (wX5 cyI cyJ cyZ cyO h (upd signs size.toNatClampNeg p1) (size + 1)) := hD
      refine lv_iconst (v := 1) hx hb dX5_append_31 (by decide) ?_
      obtain ⟨hz, hf⟩ := bz_some hf
      cases Option.some.inj hf
      exact W.zret hx hb hr (bz_nar hz).2 (fun t ht hW => ⟨⟨_, (), rfl, rfl, by show va_P D vwCl _ t.heap; rw [ht]; exact hP⟩, hS.F ht⟩) hS.2.2 dX5_append_32
    · replace hf := if_f cc hf
      refine lv_iconst (v := 0) hx hb dX5_append_9 (by decide) ?_
      obtain ⟨hz, hf⟩ := bz_some hf
      cases Option.some.inj hf
      exact W.zret hx hb hr (bz_nar hz).2 (fun t ht hW => ⟨⟨_, (), rfl, rfl, by show va_P D vwCl _ t.heap; rw [ht]; exact hP⟩, hS.F ht⟩) hS.2.2 dX5_append_10
  have hl := lv_entry ([.ref (h 0), .int p1]) (n := 2) (Nat.le_of_ble_eq_true rfl)
  rw [lg_entry_eq]
  exact main s.heap [] _ hP hD hS hl
theorem hd_X5_clear : yX5_clear.cls = RX5 ∧ yX5_clear.cls ≠ "java/lang/invoke/MethodHandle" ∧ yX5_clear.cls ≠ "java/lang/invoke/VarHandle" ∧ (parseMethodDescriptor yX5_clear.desc).map (fun d => d.parameters.length) = some 0 := by decide +kernel
set_option maxHeartbeats 4000000 in
set_option maxRecDepth 100000 in
theorem c_X5_clear (l : Launch) (D : va_G) (cyI cyJ cyZ cyO : ClassId) (h : Nat → Nat) (sz : Nat) (signs : Nat → Int32) (size : Int32) (nf : Nat) (q : Int32 × Int32) (hf : g_X5_clear nf size = some q) : Met l yX5_clear (Cond.code yX5_clear cX5_clear 2 (some .int) :: tbG) ({ frames := 0, cells := 0, slots := 0, locals := 0 } : Room) (va_Pc [.ref (h 0)] (pcB D (ty4 cyI cyJ cyZ cyO) sz (wX5 cyI cyJ cyZ cyO h signs size))) (qI D (wX5 cyI cyJ cyZ cyO h signs q.2) q.1 (va_A (wX5 cyI cyJ cyZ cyO h signs size) sz)) 0 0 (va_A (wX5 cyI cyJ cyZ cyO h signs size) sz) := by
  refine Met.ofW (cc := cX5_clear) (maxL := 2) (ret := (some .int)) (by decide) rfl ?_
  intro p e s m args below meth c s₁ B hml hv
  obtain ⟨rfl, hsz, hP, hK, hD0, hN⟩ := hv
  have hx := B.exec
  have hb := B.bytes
  have hr := B.returns
  have hT : ∀ w ∈ tbG, w.before ([.ref (h 0)] : List Value).toArray s = true := fun w h => atoms_spec (ws := (Cond.code yX5_clear cX5_clear 2 (some .int) :: tbG)) B.pre w (List.mem_cons_of_mem _ h)
  have hown : s.vm.findClass RX5 = some m.cls := findClass_of_methodNamed B.named
  have hlocks := B.notSynchronized
  subst hsz
  have hD := hD0.self (sz := s.heap.size)
  generalize hAe : va_A (wX5 cyI cyJ cyZ cyO h signs size) s.heap.size = A at hD ⊢
  have hA : ∀ q : Nat, s.heap.size ≤ q → A q := fun q h => by rw [← hAe]; exact Or.inr h
  have hS : va_S A s.heap s.heap [] := va_S.rf
  show W p l e ({ frames := 0, cells := 0, slots := 0, locals := 0 } : Room) s m ([.ref (h 0)] : List Value).toArray below meth c s.heap [] 0 0 (MQ below (qI D (wX5 cyI cyJ cyZ cyO h signs q.2) q.1 A) ([.ref (h 0)] : List Value).toArray s 0 0 A) _
  have main : ∀ (H : Heap) (locs : List Loc) (ls : Array Slot), va_P D vwCl (wX5 cyI cyJ cyZ cyO h signs size) H → va_D A (wX5 cyI cyJ cyZ cyO h signs size) → va_S A s.heap H locs → lv_has ls 2 [(0, .ref (h 0))] → W p l e ({ frames := 0, cells := 0, slots := 0, locals := 0 } : Room) s m ([.ref (h 0)] : List Value).toArray below meth c H locs 0 0 (MQ below (qI D (wX5 cyI cyJ cyZ cyO h signs q.2) q.1 A) ([.ref (h 0)] : List Value).toArray s 0 0 A) (F0 m 0 ls []) := by
    intro H locs ls hP hD hS hl
    unfold g_X5_clear at hf
    refine lv_aload_n hx hb dX5_clear_0 rfl (lv_at hl 0 rfl) ?_
    refine va_get (ci := 5) (v := .int size) (C := RX5) (T := TX5) (N := 2) hx hb hT hin_X5 hown hK hP 0 rfl rfl 1 (by decide) (hT _ wf_X5_15) (fun _ h9 => h9) rfl dX5_clear_1 ?_
    refine lv_istore_n (lv' := [(1, .int size), (0, .ref (h 0))]) hx hb dX5_clear_4 rfl hl (by decide) rfl (fun ls hl => ?_)
    refine lv_aload_n hx hb dX5_clear_5 rfl (lv_at hl 1 rfl) ?_
    refine lv_iconst (v := 0) hx hb dX5_clear_6 (by decide) ?_
    refine va_put (ci := 5) (v := .int 0) (ty := .int) (C := RX5) (T := TX5) (N := 2) hx hb hT hin_X5 tyX5 tyX5_ok nmX5 hown hK hP hD hS 0 rfl rfl 1 (by decide) (hT _ wf_X5_15) (fun _ h9 => h9) rfl (tyX5_ok 1 (by decide)) rfl rfl (Nat.le_of_ble_eq_true rfl) dX5_clear_7 (fun H locs hP hD hS => ?_)
    have hP : va_P D vwCl (wX5 cyI cyJ cyZ cyO h signs 0) H := hP
    have hD : va_D A (wX5 cyI cyJ cyZ cyO h signs 0) := hD
    refine lv_iload_n hx hb dX5_clear_10 rfl (lv_at hl 0 rfl) ?_
    cases Option.some.inj hf
    exact W.iret hx hb hr (fun t ht hW => ⟨⟨_, (), rfl, rfl, by show va_P D vwCl _ t.heap; rw [ht]; exact hP⟩, hS.F ht⟩) hS.2.2 dX5_clear_11
  have hl := lv_entry ([.ref (h 0)]) (n := 2) (Nat.le_of_ble_eq_true rfl)
  rw [lg_entry_eq]
  exact main s.heap [] _ hP hD hS hl
theorem hd_X8_isMoth : yX8_isMoth.cls ≠ "java/lang/invoke/MethodHandle" ∧ yX8_isMoth.cls ≠ "java/lang/invoke/VarHandle" ∧ (parseMethodDescriptor yX8_isMoth.desc).map (fun d => d.parameters.length) = some 1 := by decide +kernel
set_option maxHeartbeats 4000000 in
set_option maxRecDepth 100000 in
theorem c_X8_isMoth (l : Launch) (D : va_G) (cyI cyJ cyZ cyO : ClassId) (sz : Nat) (p0 : Int32) (nf : Nat) (q : Int32) (hf : g_X8_isMoth nf p0 = some q) : Met l yX8_isMoth (Cond.code yX8_isMoth cX8_isMoth 1 (some .boolean) :: tbG) ({ frames := 0, cells := 0, slots := 0, locals := 0 } : Room) (va_Pc [.int p0] (pcB D (ty4 cyI cyJ cyZ cyO) sz (([] : va_W)))) (qI D (([] : va_W)) q (va_A (([] : va_W)) sz)) 0 0 (va_A (([] : va_W)) sz) := by
  refine Met.ofW (cc := cX8_isMoth) (maxL := 1) (ret := (some .boolean)) (by decide) rfl ?_
  intro p e s m args below meth c s₁ B hml hv
  obtain ⟨rfl, hsz, hP, hK, hD0, hN⟩ := hv
  have hx := B.exec
  have hb := B.bytes
  have hr := B.returns
  have hT : ∀ w ∈ tbG, w.before ([.int p0] : List Value).toArray s = true := fun w h => atoms_spec (ws := (Cond.code yX8_isMoth cX8_isMoth 1 (some .boolean) :: tbG)) B.pre w (List.mem_cons_of_mem _ h)
  have hown : s.vm.findClass RX8 = some m.cls := findClass_of_methodNamed B.named
  have hlocks := B.notSynchronized
  subst hsz
  have hD := hD0.self (sz := s.heap.size)
  generalize hAe : va_A (([] : va_W)) s.heap.size = A at hD ⊢
  have hA : ∀ q : Nat, s.heap.size ≤ q → A q := fun q h => by rw [← hAe]; exact Or.inr h
  have hS : va_S A s.heap s.heap [] := va_S.rf
  show W p l e ({ frames := 0, cells := 0, slots := 0, locals := 0 } : Room) s m ([.int p0] : List Value).toArray below meth c s.heap [] 0 0 (MQ below (qI D (([] : va_W)) q A) ([.int p0] : List Value).toArray s 0 0 A) _
  have main : ∀ (H : Heap) (locs : List Loc) (ls : Array Slot), va_P D vwCl (([] : va_W)) H → va_D A (([] : va_W)) → va_S A s.heap H locs → lv_has ls 1 [(0, .int p0)] → W p l e ({ frames := 0, cells := 0, slots := 0, locals := 0 } : Room) s m ([.int p0] : List Value).toArray below meth c H locs 0 0 (MQ below (qI D (([] : va_W)) q A) ([.int p0] : List Value).toArray s 0 0 A) (F0 m 0 ls []) := by
    intro H locs ls hP hD hS hl
    unfold g_X8_isMoth at hf
    refine lv_iload_n hx hb dX8_isMoth_0 rfl (lv_at hl 0 rfl) ?_
    refine lv_if_lt (tgt := 13) hx hb dX8_isMoth_1 (by decide) (fun cc => ?_) (fun cc => ?_)
    · replace hf := if_t cc hf
      refine lv_iconst (v := 0) hx hb dX8_isMoth_13 (by decide) ?_
      obtain ⟨hz, hf⟩ := bz_some hf
      cases Option.some.inj hf
      exact W.zret hx hb hr (bz_nar hz).2 (fun t ht hW => ⟨⟨_, (), rfl, rfl, by show va_P D vwCl _ t.heap; rw [ht]; exact hP⟩, hS.F ht⟩) hS.2.2 dX8_isMoth_14
    · replace hf := if_f cc hf
      refine lv_iload_n hx hb dX8_isMoth_4 rfl (lv_at hl 0 rfl) ?_
      refine lv_iconst (v := 4) hx hb dX8_isMoth_5 (by decide) ?_
      refine lv_icmp_ge (tgt := 13) hx hb dX8_isMoth_6 (by decide) (fun cc => ?_) (fun cc => ?_)
      · replace hf := if_t cc hf
        refine lv_iconst (v := 0) hx hb dX8_isMoth_13 (by decide) ?_
        obtain ⟨hz, hf⟩ := bz_some hf
        cases Option.some.inj hf
        exact W.zret hx hb hr (bz_nar hz).2 (fun t ht hW => ⟨⟨_, (), rfl, rfl, by show va_P D vwCl _ t.heap; rw [ht]; exact hP⟩, hS.F ht⟩) hS.2.2 dX8_isMoth_14
      · replace hf := if_f cc hf
        refine lv_iconst (v := 1) hx hb dX8_isMoth_9 (by decide) ?_
        refine lv_goto (tgt := 14) hx hb dX8_isMoth_10 (by decide) ?_
        obtain ⟨hz, hf⟩ := bz_some hf
        cases Option.some.inj hf
        exact W.zret hx hb hr (bz_nar hz).2 (fun t ht hW => ⟨⟨_, (), rfl, rfl, by show va_P D vwCl _ t.heap; rw [ht]; exact hP⟩, hS.F ht⟩) hS.2.2 dX8_isMoth_14
  have hl := lv_entry ([.int p0]) (n := 1) (Nat.le_of_ble_eq_true rfl)
  rw [lg_entry_eq]
  exact main s.heap [] _ hP hD hS hl
theorem hd_X5_dueBehindFirst : yX5_dueBehindFirst.cls ≠ "java/lang/invoke/MethodHandle" ∧ yX5_dueBehindFirst.cls ≠ "java/lang/invoke/VarHandle" ∧ (parseMethodDescriptor yX5_dueBehindFirst.desc).map (fun d => d.parameters.length) = some 1 := by decide +kernel
set_option maxHeartbeats 4000000 in
set_option maxRecDepth 100000 in
theorem c_X5_dueBehindFirst (l : Launch) (D : va_G) (cyI cyJ cyZ cyO : ClassId) (sz : Nat) (p0 : Int32) (nf : Nat) (q : Int32) (hf : g_X5_dueBehindFirst nf p0 = some q) : Met l yX5_dueBehindFirst (Cond.code yX5_dueBehindFirst cX5_dueBehindFirst 1 (some .int) :: tbG) ({ frames := 1, cells := 0, slots := 0, locals := 20 } : Room) (va_Pc [.int p0] (pcB D (ty4 cyI cyJ cyZ cyO) sz (([] : va_W)))) (qI D (([] : va_W)) q (va_A (([] : va_W)) sz)) 0 0 (va_A (([] : va_W)) sz) := by
  refine Met.ofW (cc := cX5_dueBehindFirst) (maxL := 1) (ret := (some .int)) (by decide) rfl ?_
  intro p e s m args below meth c s₁ B hml hv
  obtain ⟨rfl, hsz, hP, hK, hD0, hN⟩ := hv
  have hx := B.exec
  have hb := B.bytes
  have hr := B.returns
  have hT : ∀ w ∈ tbG, w.before ([.int p0] : List Value).toArray s = true := fun w h => atoms_spec (ws := (Cond.code yX5_dueBehindFirst cX5_dueBehindFirst 1 (some .int) :: tbG)) B.pre w (List.mem_cons_of_mem _ h)
  have hown : s.vm.findClass RX5 = some m.cls := findClass_of_methodNamed B.named
  have hlocks := B.notSynchronized
  subst hsz
  have hD := hD0.self (sz := s.heap.size)
  generalize hAe : va_A (([] : va_W)) s.heap.size = A at hD ⊢
  have hA : ∀ q : Nat, s.heap.size ≤ q → A q := fun q h => by rw [← hAe]; exact Or.inr h
  have hS : va_S A s.heap s.heap [] := va_S.rf
  show W p l e ({ frames := 1, cells := 0, slots := 0, locals := 20 } : Room) s m ([.int p0] : List Value).toArray below meth c s.heap [] 0 0 (MQ below (qI D (([] : va_W)) q A) ([.int p0] : List Value).toArray s 0 0 A) _
  have main : ∀ (H : Heap) (locs : List Loc) (ls : Array Slot), va_P D vwCl (([] : va_W)) H → va_D A (([] : va_W)) → va_S A s.heap H locs → lv_has ls 1 [(0, .int p0)] → W p l e ({ frames := 1, cells := 0, slots := 0, locals := 20 } : Room) s m ([.int p0] : List Value).toArray below meth c H locs 0 0 (MQ below (qI D (([] : va_W)) q A) ([.int p0] : List Value).toArray s 0 0 A) (F0 m 0 ls []) := by
    intro H locs ls hP hD hS hl
    unfold g_X5_dueBehindFirst at hf
    refine lv_iload_n hx hb dX5_dueBehindFirst_0 rfl (lv_at hl 0 rfl) ?_
    by_cases c0 : p0 = 37
    · replace hf := if_t c0 hf
      refine lv_lookup (off := 39) (tgt := 40) hx hb dX5_dueBehindFirst_1 (by decide) (by rw [c0]; decide) (by decide) ?_
      refine lv_iconst (v := 4) hx hb dX5_dueBehindFirst_40 (by decide) ?_
      cases Option.some.inj hf
      exact W.iret hx hb hr (fun t ht hW => ⟨⟨_, (), rfl, rfl, by show va_P D vwCl _ t.heap; rw [ht]; exact hP⟩, hS.F ht⟩) hS.2.2 dX5_dueBehindFirst_41
    · replace hf := if_f c0 hf
      by_cases c1 : p0 = 43
      · replace hf := if_t c1 hf
        refine lv_lookup (off := 37) (tgt := 38) hx hb dX5_dueBehindFirst_1 (by decide) (by rw [c1]; decide) (by decide) ?_
        refine lv_iconst (v := 3) hx hb dX5_dueBehindFirst_38 (by decide) ?_
        cases Option.some.inj hf
        exact W.iret hx hb hr (fun t ht hW => ⟨⟨_, (), rfl, rfl, by show va_P D vwCl _ t.heap; rw [ht]; exact hP⟩, hS.F ht⟩) hS.2.2 dX5_dueBehindFirst_39
      · replace hf := if_f c1 hf
        by_cases c2 : p0 = 46
        · replace hf := if_t c2 hf
          refine lv_lookup (off := 35) (tgt := 36) hx hb dX5_dueBehindFirst_1 (by decide) (by rw [c2]; decide) (by decide) ?_
          refine lv_iconst (v := 1) hx hb dX5_dueBehindFirst_36 (by decide) ?_
          cases Option.some.inj hf
          exact W.iret hx hb hr (fun t ht hW => ⟨⟨_, (), rfl, rfl, by show va_P D vwCl _ t.heap; rw [ht]; exact hP⟩, hS.F ht⟩) hS.2.2 dX5_dueBehindFirst_37
        · replace hf := if_f c2 hf
          refine lv_lookup (off := 41) (tgt := 42) hx hb dX5_dueBehindFirst_1 (by decide) (by show Op.lookupswitch.offset [(37, 39), (43, 37), (46, 35)] 41 _ = _; rw [lv_osw c0 (show (37 : Int32).toInt = 37 by decide), lv_osw c1 (show (43 : Int32).toInt = 43 by decide), lv_osw c2 (show (46 : Int32).toInt = 46 by decide)]; rfl) (by decide) ?_
          refine lv_iload_n hx hb dX5_dueBehindFirst_42 rfl (lv_at hl 0 rfl) ?_
          refine lv_bipush (v := 65) hx hb dX5_dueBehindFirst_43 (by decide) ?_
          refine lv_isub hx hb dX5_dueBehindFirst_45 ?_
          obtain ⟨q1, hq1, hf⟩ := bd_some hf
          have hC : ([] : List Nat).map (fun i => (([] : va_W))[i]?) = ([] : va_W).map some := rfl
          refine cl_i (rn_SN (As := [.int (p0 - 65)]) (rest := []) (host := RX8) hx hb hml hown hT hK hN hP hD [] hC rfl (c_X8_isMoth l D cyI cyJ cyZ cyO H.size (p0 - 65) nf q1 hq1) (by decide) wt_X8_isMoth wz_X8 wc_X8_isMoth hd_X8_isMoth ⟨rfl, rfl⟩ ⟨Nat.le_of_ble_eq_true rfl, Nat.le_of_ble_eq_true rfl⟩ rfl hl.1 rfl (Nat.le_of_ble_eq_true rfl) dX5_dueBehindFirst_46 ⟨Nat.zero_le _, Nat.zero_le _⟩) hP hD hS hA [] hC [] (ws' := ([] : va_W)) rfl rfl rfl (fun H locs hP hD hS => ?_)
          refine lv_if_eq (tgt := 56) hx hb dX5_dueBehindFirst_49 (by decide) (fun cc => ?_) (fun cc => ?_)
          · replace hf := if_t cc hf
            refine lv_iconst (v := 0) hx hb dX5_dueBehindFirst_56 (by decide) ?_
            cases Option.some.inj hf
            exact W.iret hx hb hr (fun t ht hW => ⟨⟨_, (), rfl, rfl, by show va_P D vwCl _ t.heap; rw [ht]; exact hP⟩, hS.F ht⟩) hS.2.2 dX5_dueBehindFirst_57
          · replace hf := if_f cc hf
            refine lv_iconst (v := 2) hx hb dX5_dueBehindFirst_52 (by decide) ?_
            refine lv_goto (tgt := 57) hx hb dX5_dueBehindFirst_53 (by decide) ?_
            cases Option.some.inj hf
            exact W.iret hx hb hr (fun t ht hW => ⟨⟨_, (), rfl, rfl, by show va_P D vwCl _ t.heap; rw [ht]; exact hP⟩, hS.F ht⟩) hS.2.2 dX5_dueBehindFirst_57
  have hl := lv_entry ([.int p0]) (n := 1) (Nat.le_of_ble_eq_true rfl)
  rw [lg_entry_eq]
  exact main s.heap [] _ hP hD hS hl
theorem hd_X5_dueBehind : yX5_dueBehind.cls ≠ "java/lang/invoke/MethodHandle" ∧ yX5_dueBehind.cls ≠ "java/lang/invoke/VarHandle" ∧ (parseMethodDescriptor yX5_dueBehind.desc).map (fun d => d.parameters.length) = some 2 := by decide +kernel
set_option maxHeartbeats 4000000 in
set_option maxRecDepth 100000 in
theorem c_X5_dueBehind (l : Launch) (D : va_G) (cyI cyJ cyZ cyO : ClassId) (sz : Nat) (p0 : Int32) (p1 : Int32) (nf : Nat) (q : Int32) (hf : g_X5_dueBehind nf p0 p1 = some q) : Met l yX5_dueBehind (Cond.code yX5_dueBehind cX5_dueBehind 2 (some .int) :: tbG) ({ frames := 2, cells := 0, slots := 0, locals := 42 } : Room) (va_Pc [.int p0, .int p1] (pcB D (ty4 cyI cyJ cyZ cyO) sz (([] : va_W)))) (qI D (([] : va_W)) q (va_A (([] : va_W)) sz)) 0 0 (va_A (([] : va_W)) sz) := by
  refine Met.ofW (cc := cX5_dueBehind) (maxL := 2) (ret := (some .int)) (by decide) rfl ?_
  intro p e s m args below meth c s₁ B hml hv
  obtain ⟨rfl, hsz, hP, hK, hD0, hN⟩ := hv
  have hx := B.exec
  have hb := B.bytes
  have hr := B.returns
  have hT : ∀ w ∈ tbG, w.before ([.int p0, .int p1] : List Value).toArray s = true := fun w h => atoms_spec (ws := (Cond.code yX5_dueBehind cX5_dueBehind 2 (some .int) :: tbG)) B.pre w (List.mem_cons_of_mem _ h)
  have hown : s.vm.findClass RX5 = some m.cls := findClass_of_methodNamed B.named
  have hlocks := B.notSynchronized
  subst hsz
  have hD := hD0.self (sz := s.heap.size)
  generalize hAe : va_A (([] : va_W)) s.heap.size = A at hD ⊢
  have hA : ∀ q : Nat, s.heap.size ≤ q → A q := fun q h => by rw [← hAe]; exact Or.inr h
  have hS : va_S A s.heap s.heap [] := va_S.rf
  show W p l e ({ frames := 2, cells := 0, slots := 0, locals := 42 } : Room) s m ([.int p0, .int p1] : List Value).toArray below meth c s.heap [] 0 0 (MQ below (qI D (([] : va_W)) q A) ([.int p0, .int p1] : List Value).toArray s 0 0 A) _
  have b50 : ∀ (H : Heap) (locs : List Loc) (ls : Array Slot), va_P D vwCl (([] : va_W)) H → va_D A (([] : va_W)) → va_S A s.heap H locs → lv_has ls 2 [] → g_X5_dueBehind_b50 nf = some q → W p l e ({ frames := 2, cells := 0, slots := 0, locals := 42 } : Room) s m ([.int p0, .int p1] : List Value).toArray below meth c H locs 0 0 (MQ below (qI D (([] : va_W)) q A) ([.int p0, .int p1] : List Value).toArray s 0 0 A) (F0 m 50 ls []) := by
    intro  H locs ls hP hD hS hl hf
    unfold g_X5_dueBehind_b50 at hf
    refine lv_iconst (v := 1) hx hb dX5_dueBehind_50 (by decide) ?_
    refine lv_goto (tgt := 55) hx hb dX5_dueBehind_51 (by decide) ?_
    cases Option.some.inj hf
    exact W.iret hx hb hr (fun t ht hW => ⟨⟨_, (), rfl, rfl, by show va_P D vwCl _ t.heap; rw [ht]; exact hP⟩, hS.F ht⟩) hS.2.2 dX5_dueBehind_55
  have main : ∀ (H : Heap) (locs : List Loc) (ls : Array Slot), va_P D vwCl (([] : va_W)) H → va_D A (([] : va_W)) → va_S A s.heap H locs → lv_has ls 2 [(0, .int p0), (1, .int p1)] → W p l e ({ frames := 2, cells := 0, slots := 0, locals := 42 } : Room) s m ([.int p0, .int p1] : List Value).toArray below meth c H locs 0 0 (MQ below (qI D (([] : va_W)) q A) ([.int p0, .int p1] : List Value).toArray s 0 0 A) (F0 m 0 ls []) := by
    intro H locs ls hP hD hS hl
    unfold g_X5_dueBehind at hf
    refine lv_iload_n hx hb dX5_dueBehind_0 rfl (lv_at hl 0 rfl) ?_
    by_cases c0 : p0 = 1
    · replace hf := if_t c0 hf
      refine lv_tableIn (off := 31) (tgt := 32) hx hb dX5_dueBehind_1 (by rw [c0]; decide) (by rw [c0]; decide) (by rw [c0]; decide) (by decide) ?_
      refine lv_iload_n hx hb dX5_dueBehind_32 rfl (lv_at hl 1 rfl) ?_
      obtain ⟨q1, hq1, hf⟩ := bd_some hf
      have hC : ([] : List Nat).map (fun i => (([] : va_W))[i]?) = ([] : va_W).map some := rfl
      refine cl_i (rn_S (As := [.int p1]) (rest := []) hx hb hml hown hT hK hN hP hD [] hC rfl (c_X5_dueBehindFirst l D cyI cyJ cyZ cyO H.size p1 nf q1 hq1) wm_X5_27 wt_X5_dueBehindFirst wz_X5 wc_X5_dueBehindFirst hd_X5_dueBehindFirst ⟨rfl, rfl⟩ ⟨Nat.le_of_ble_eq_true rfl, Nat.le_of_ble_eq_true rfl⟩ rfl hl.1 rfl (Nat.le_of_ble_eq_true rfl) dX5_dueBehind_33 ⟨Nat.zero_le _, Nat.zero_le _⟩) hP hD hS hA [] hC [] (ws' := ([] : va_W)) rfl rfl rfl (fun H locs hP hD hS => ?_)
      cases Option.some.inj hf
      exact W.iret hx hb hr (fun t ht hW => ⟨⟨_, (), rfl, rfl, by show va_P D vwCl _ t.heap; rw [ht]; exact hP⟩, hS.F ht⟩) hS.2.2 dX5_dueBehind_36
    · replace hf := if_f c0 hf
      by_cases c1 : p0 = 2
      · replace hf := if_t c1 hf
        refine lv_tableIn (off := 36) (tgt := 37) hx hb dX5_dueBehind_1 (by rw [c1]; decide) (by rw [c1]; decide) (by rw [c1]; decide) (by decide) ?_
        refine lv_iload_n hx hb dX5_dueBehind_37 rfl (lv_at hl 1 rfl) ?_
        refine lv_bipush (v := 33) hx hb dX5_dueBehind_38 (by decide) ?_
        refine lv_icmp_eq (tgt := 50) hx hb dX5_dueBehind_40 (by decide) (fun cc => ?_) (fun cc => ?_)
        · replace hf := if_t cc hf
          exact b50 H locs ls hP hD hS (lv_sub hl [] rfl) hf
        · replace hf := if_f cc hf
          refine lv_iload_n hx hb dX5_dueBehind_43 rfl (lv_at hl 1 rfl) ?_
          obtain ⟨q2, hq2, hf⟩ := bd_some hf
          have hC : ([] : List Nat).map (fun i => (([] : va_W))[i]?) = ([] : va_W).map some := rfl
          refine cl_i (rn_S (As := [.int p1]) (rest := []) hx hb hml hown hT hK hN hP hD [] hC rfl (c_X5_headOf l D cyI cyJ cyZ cyO H.size p1 nf q2 hq2) wm_X5_30 wt_X5_headOf wz_X5 wc_X5_headOf hd_X5_headOf ⟨rfl, rfl⟩ ⟨Nat.le_of_ble_eq_true rfl, Nat.le_of_ble_eq_true rfl⟩ rfl hl.1 rfl (Nat.le_of_ble_eq_true rfl) dX5_dueBehind_44 ⟨Nat.zero_le _, Nat.zero_le _⟩) hP hD hS hA [] hC [] (ws' := ([] : va_W)) rfl rfl rfl (fun H locs hP hD hS => ?_)
          refine lv_if_lt (tgt := 54) hx hb dX5_dueBehind_47 (by decide) (fun cc => ?_) (fun cc => ?_)
          · replace hf := if_t cc hf
            refine lv_iconst (v := 0) hx hb dX5_dueBehind_54 (by decide) ?_
            cases Option.some.inj hf
            exact W.iret hx hb hr (fun t ht hW => ⟨⟨_, (), rfl, rfl, by show va_P D vwCl _ t.heap; rw [ht]; exact hP⟩, hS.F ht⟩) hS.2.2 dX5_dueBehind_55
          · replace hf := if_f cc hf
            exact b50 H locs ls hP hD hS (lv_sub hl [] rfl) hf
      · replace hf := if_f c1 hf
        by_cases c2 : p0 = 3
        · replace hf := if_t c2 hf
          refine lv_tableIn (off := 55) (tgt := 56) hx hb dX5_dueBehind_1 (by rw [c2]; decide) (by rw [c2]; decide) (by rw [c2]; decide) (by decide) ?_
          refine lv_iload_n hx hb dX5_dueBehind_56 rfl (lv_at hl 1 rfl) ?_
          refine lv_bipush (v := 97) hx hb dX5_dueBehind_57 (by decide) ?_
          refine lv_isub hx hb dX5_dueBehind_59 ?_
          obtain ⟨q3, hq3, hf⟩ := bd_some hf
          have hC : ([] : List Nat).map (fun i => (([] : va_W))[i]?) = ([] : va_W).map some := rfl
          refine cl_i (rn_SN (As := [.int (p1 - 97)]) (rest := []) (host := RX8) hx hb hml hown hT hK hN hP hD [] hC rfl (c_X8_isCell l D cyI cyJ cyZ cyO H.size (p1 - 97) nf q3 hq3) (by decide) wt_X8_isCell wz_X8 wc_X8_isCell hd_X8_isCell ⟨rfl, rfl⟩ ⟨Nat.le_of_ble_eq_true rfl, Nat.le_of_ble_eq_true rfl⟩ rfl hl.1 rfl (Nat.le_of_ble_eq_true rfl) dX5_dueBehind_60 ⟨Nat.zero_le _, Nat.zero_le _⟩) hP hD hS hA [] hC [] (ws' := ([] : va_W)) rfl rfl rfl (fun H locs hP hD hS => ?_)
          refine lv_if_eq (tgt := 70) hx hb dX5_dueBehind_63 (by decide) (fun cc => ?_) (fun cc => ?_)
          · replace hf := if_t cc hf
            refine lv_iconst (v := 0) hx hb dX5_dueBehind_70 (by decide) ?_
            cases Option.some.inj hf
            exact W.iret hx hb hr (fun t ht hW => ⟨⟨_, (), rfl, rfl, by show va_P D vwCl _ t.heap; rw [ht]; exact hP⟩, hS.F ht⟩) hS.2.2 dX5_dueBehind_71
          · replace hf := if_f cc hf
            refine lv_iconst (v := 1) hx hb dX5_dueBehind_66 (by decide) ?_
            refine lv_goto (tgt := 71) hx hb dX5_dueBehind_67 (by decide) ?_
            cases Option.some.inj hf
            exact W.iret hx hb hr (fun t ht hW => ⟨⟨_, (), rfl, rfl, by show va_P D vwCl _ t.heap; rw [ht]; exact hP⟩, hS.F ht⟩) hS.2.2 dX5_dueBehind_71
        · replace hf := if_f c2 hf
          by_cases c3 : p0 = 4
          · replace hf := if_t c3 hf
            refine lv_tableIn (off := 71) (tgt := 72) hx hb dX5_dueBehind_1 (by rw [c3]; decide) (by rw [c3]; decide) (by rw [c3]; decide) (by decide) ?_
            refine lv_iload_n hx hb dX5_dueBehind_72 rfl (lv_at hl 1 rfl) ?_
            refine lv_bipush (v := 97) hx hb dX5_dueBehind_73 (by decide) ?_
            refine lv_isub hx hb dX5_dueBehind_75 ?_
            obtain ⟨q4, hq4, hf⟩ := bd_some hf
            have hC : ([] : List Nat).map (fun i => (([] : va_W))[i]?) = ([] : va_W).map some := rfl
            refine cl_i (rn_SN (As := [.int (p1 - 97)]) (rest := []) (host := RX8) hx hb hml hown hT hK hN hP hD [] hC rfl (c_X8_isCell l D cyI cyJ cyZ cyO H.size (p1 - 97) nf q4 hq4) (by decide) wt_X8_isCell wz_X8 wc_X8_isCell hd_X8_isCell ⟨rfl, rfl⟩ ⟨Nat.le_of_ble_eq_true rfl, Nat.le_of_ble_eq_true rfl⟩ rfl hl.1 rfl (Nat.le_of_ble_eq_true rfl) dX5_dueBehind_76 ⟨Nat.zero_le _, Nat.zero_le _⟩) hP hD hS hA [] hC [] (ws' := ([] : va_W)) rfl rfl rfl (fun H locs hP hD hS => ?_)
            refine lv_if_eq (tgt := 86) hx hb dX5_dueBehind_79 (by decide) (fun cc => ?_) (fun cc => ?_)
            · replace hf := if_t cc hf
              refine lv_iconst (v := 0) hx hb dX5_dueBehind_86 (by decide) ?_
              cases Option.some.inj hf
              exact W.iret hx hb hr (fun t ht hW => ⟨⟨_, (), rfl, rfl, by show va_P D vwCl _ t.heap; rw [ht]; exact hP⟩, hS.F ht⟩) hS.2.2 dX5_dueBehind_87
            · replace hf := if_f cc hf
              refine lv_iconst (v := 5) hx hb dX5_dueBehind_82 (by decide) ?_
              refine lv_goto (tgt := 87) hx hb dX5_dueBehind_83 (by decide) ?_
              cases Option.some.inj hf
              exact W.iret hx hb hr (fun t ht hW => ⟨⟨_, (), rfl, rfl, by show va_P D vwCl _ t.heap; rw [ht]; exact hP⟩, hS.F ht⟩) hS.2.2 dX5_dueBehind_87
          · replace hf := if_f c3 hf
            refine lv_tableOut (tgt := 88) hx hb dX5_dueBehind_1 (by have z0 := lv_neT c0 (show (1 : Int32).toInt = 1 by decide); have z1 := lv_neT c1 (show (2 : Int32).toInt = 2 by decide); have z2 := lv_neT c2 (show (3 : Int32).toInt = 3 by decide); have z3 := lv_neT c3 (show (4 : Int32).toInt = 4 by decide); omega) (by decide) ?_
            refine lv_iload_n hx hb dX5_dueBehind_88 rfl (lv_at hl 1 rfl) ?_
            refine lv_bipush (v := 48) hx hb dX5_dueBehind_89 (by decide) ?_
            refine lv_isub hx hb dX5_dueBehind_91 ?_
            obtain ⟨q5, hq5, hf⟩ := bd_some hf
            have hC : ([] : List Nat).map (fun i => (([] : va_W))[i]?) = ([] : va_W).map some := rfl
            refine cl_i (rn_SN (As := [.int (p1 - 48)]) (rest := []) (host := RX8) hx hb hml hown hT hK hN hP hD [] hC rfl (c_X8_isThread l D cyI cyJ cyZ cyO H.size (p1 - 48) nf q5 hq5) (by decide) wt_X8_isThread wz_X8 wc_X8_isThread hd_X8_isThread ⟨rfl, rfl⟩ ⟨Nat.le_of_ble_eq_true rfl, Nat.le_of_ble_eq_true rfl⟩ rfl hl.1 rfl (Nat.le_of_ble_eq_true rfl) dX5_dueBehind_92 ⟨Nat.zero_le _, Nat.zero_le _⟩) hP hD hS hA [] hC [] (ws' := ([] : va_W)) rfl rfl rfl (fun H locs hP hD hS => ?_)
            refine lv_if_eq (tgt := 102) hx hb dX5_dueBehind_95 (by decide) (fun cc => ?_) (fun cc => ?_)
            · replace hf := if_t cc hf
              refine lv_iconst (v := 0) hx hb dX5_dueBehind_102 (by decide) ?_
              cases Option.some.inj hf
              exact W.iret hx hb hr (fun t ht hW => ⟨⟨_, (), rfl, rfl, by show va_P D vwCl _ t.heap; rw [ht]; exact hP⟩, hS.F ht⟩) hS.2.2 dX5_dueBehind_103
            · replace hf := if_f cc hf
              refine lv_iconst (v := 1) hx hb dX5_dueBehind_98 (by decide) ?_
              refine lv_goto (tgt := 103) hx hb dX5_dueBehind_99 (by decide) ?_
              cases Option.some.inj hf
              exact W.iret hx hb hr (fun t ht hW => ⟨⟨_, (), rfl, rfl, by show va_P D vwCl _ t.heap; rw [ht]; exact hP⟩, hS.F ht⟩) hS.2.2 dX5_dueBehind_103
  have hl := lv_entry ([.int p0, .int p1]) (n := 2) (Nat.le_of_ble_eq_true rfl)
  rw [lg_entry_eq]
  exact main s.heap [] _ hP hD hS hl
theorem hd_X5_firstWrong : yX5_firstWrong.cls = RX5 ∧ yX5_firstWrong.cls ≠ "java/lang/invoke/MethodHandle" ∧ yX5_firstWrong.cls ≠ "java/lang/invoke/VarHandle" ∧ (parseMethodDescriptor yX5_firstWrong.desc).map (fun d => d.parameters.length) = some 0 := by decide +kernel
set_option maxHeartbeats 4000000 in
set_option maxRecDepth 100000 in
theorem c_X5_firstWrong (l : Launch) (D : va_G) (cyI cyJ cyZ cyO : ClassId) (h : Nat → Nat) (sz : Nat) (signs : Nat → Int32) (size : Int32) (nf : Nat) (q : Int32) (hf : g_X5_firstWrong nf signs size = some q) : Met l yX5_firstWrong (Cond.code yX5_firstWrong cX5_firstWrong 3 (some .int) :: tbG) ({ frames := 3, cells := 0, slots := 0, locals := 63 } : Room) (va_Pc [.ref (h 0)] (pcB D (ty4 cyI cyJ cyZ cyO) sz (wX5 cyI cyJ cyZ cyO h signs size))) (qI D (wX5 cyI cyJ cyZ cyO h signs size) q (va_A (wX5 cyI cyJ cyZ cyO h signs size) sz)) 0 0 (va_A (wX5 cyI cyJ cyZ cyO h signs size) sz) := by
  refine Met.ofW (cc := cX5_firstWrong) (maxL := 3) (ret := (some .int)) (by decide) rfl ?_
  intro p e s m args below meth c s₁ B hml hv
  obtain ⟨rfl, hsz, hP, hK, hD0, hN⟩ := hv
  have hx := B.exec
  have hb := B.bytes
  have hr := B.returns
  have hT : ∀ w ∈ tbG, w.before ([.ref (h 0)] : List Value).toArray s = true := fun w h => atoms_spec (ws := (Cond.code yX5_firstWrong cX5_firstWrong 3 (some .int) :: tbG)) B.pre w (List.mem_cons_of_mem _ h)
  have hown : s.vm.findClass RX5 = some m.cls := findClass_of_methodNamed B.named
  have hlocks := B.notSynchronized
  subst hsz
  have hD := hD0.self (sz := s.heap.size)
  generalize hAe : va_A (wX5 cyI cyJ cyZ cyO h signs size) s.heap.size = A at hD ⊢
  have hA : ∀ q : Nat, s.heap.size ≤ q → A q := fun q h => by rw [← hAe]; exact Or.inr h
  have hS : va_S A s.heap s.heap [] := va_S.rf
  show W p l e ({ frames := 3, cells := 0, slots := 0, locals := 63 } : Room) s m ([.ref (h 0)] : List Value).toArray below meth c s.heap [] 0 0 (MQ below (qI D (wX5 cyI cyJ cyZ cyO h signs size) q A) ([.ref (h 0)] : List Value).toArray s 0 0 A) _
  have l4 : ∀ (n4 : Nat) (x1 : Int32) (x2 : Int32) (signs : Nat → Int32) (size : Int32) (H : Heap) (locs : List Loc) (ls : Array Slot), va_P D vwCl (wX5 cyI cyJ cyZ cyO h signs size) H → va_D A (wX5 cyI cyJ cyZ cyO h signs size) → va_S A s.heap H locs → lv_has ls 3 [(0, .ref (h 0)), (1, .int x1), (2, .int x2)] → g_X5_firstWrong_l4 nf n4 x1 x2 signs size = some q → W p l e ({ frames := 3, cells := 0, slots := 0, locals := 63 } : Room) s m ([.ref (h 0)] : List Value).toArray below meth c H locs 0 0 (MQ below (qI D (wX5 cyI cyJ cyZ cyO h signs size) q A) ([.ref (h 0)] : List Value).toArray s 0 0 A) (F0 m 4 ls []) := by
    intro n4
    induction n4 with
    | zero =>
      intro x1 x2 signs size H locs ls hP hD hS hl hf
      rw [g_X5_firstWrong_l4] at hf
      cases hf
    | succ n4 ih4 =>
      intro x1 x2 signs size H locs ls hP hD hS hl hf
      rw [g_X5_firstWrong_l4] at hf
      refine lv_iload_n hx hb dX5_firstWrong_4 rfl (lv_at hl 2 rfl) ?_
      refine lv_aload_n hx hb dX5_firstWrong_5 rfl (lv_at hl 0 rfl) ?_
      refine va_get (ci := 5) (v := .int size) (C := RX5) (T := TX5) (N := 2) hx hb hT hin_X5 hown hK hP 0 rfl rfl 1 (by decide) (hT _ wf_X5_15) (fun _ h9 => h9) rfl dX5_firstWrong_6 ?_
      refine lv_icmp_ge (tgt := 34) hx hb dX5_firstWrong_9 (by decide) (fun cc => ?_) (fun cc => ?_)
      · replace hf := if_t cc hf
        refine lv_iload_n hx hb dX5_firstWrong_34 rfl (lv_at hl 1 rfl) ?_
        refine lv_iconst (v := 1) hx hb dX5_firstWrong_35 (by decide) ?_
        refine lv_icmp_ne (tgt := 44) hx hb dX5_firstWrong_36 (by decide) (fun cc => ?_) (fun cc => ?_)
        · replace hf := if_f cc hf
          refine lv_aload_n hx hb dX5_firstWrong_44 rfl (lv_at hl 0 rfl) ?_
          refine va_get (ci := 5) (v := .int size) (C := RX5) (T := TX5) (N := 2) hx hb hT hin_X5 hown hK hP 0 rfl rfl 1 (by decide) (hT _ wf_X5_15) (fun _ h9 => h9) rfl dX5_firstWrong_45 ?_
          cases Option.some.inj hf
          exact W.iret hx hb hr (fun t ht hW => ⟨⟨_, (), rfl, rfl, by show va_P D vwCl _ t.heap; rw [ht]; exact hP⟩, hS.F ht⟩) hS.2.2 dX5_firstWrong_48
        · replace hf := if_t cc hf
          refine lv_bipush (v := (-6)) hx hb dX5_firstWrong_39 (by decide) ?_
          refine lv_goto (tgt := 48) hx hb dX5_firstWrong_41 (by decide) ?_
          cases Option.some.inj hf
          exact W.iret hx hb hr (fun t ht hW => ⟨⟨_, (), rfl, rfl, by show va_P D vwCl _ t.heap; rw [ht]; exact hP⟩, hS.F ht⟩) hS.2.2 dX5_firstWrong_48
      · replace hf := if_f cc hf
        refine lv_iload_n hx hb dX5_firstWrong_12 rfl (lv_at hl 1 rfl) ?_
        refine lv_aload_n hx hb dX5_firstWrong_13 rfl (lv_at hl 0 rfl) ?_
        refine lv_iload_n hx hb dX5_firstWrong_14 rfl (lv_at hl 2 rfl) ?_
        obtain ⟨q1, hq1, hf⟩ := bd_some hf
        have hC : [0, 1].map (fun i => (wX5 cyI cyJ cyZ cyO h signs size)[i]?) = (wX5 cyI cyJ cyZ cyO h signs size).map some := rfl
        refine cl_i (rn_V (As := [.int x2]) (rest := [.int x1]) (C := RX5) hx hb hml hown hT hK hN hP hD [0, 1] hC rfl (c_X5_signAt l D cyI cyJ cyZ cyO h H.size signs size x2 nf q1 hq1) wm_X5_19 wi_X5_signAt wl_X5_signAt wz_X5 wc_X5_signAt hd_X5_signAt ⟨rfl, rfl⟩ ⟨Nat.le_of_ble_eq_true rfl, Nat.le_of_ble_eq_true rfl⟩ (q0 := 0) (ci := 5) rfl rfl rfl rfl hl.1 rfl (Nat.le_of_ble_eq_true rfl) dX5_firstWrong_15 ⟨Nat.zero_le _, Nat.zero_le _⟩) hP hD hS hA [0, 1] hC [(true, 0), (true, 1)] (ws' := wX5 cyI cyJ cyZ cyO h signs size) rfl rfl rfl (fun H locs hP hD hS => ?_)
        obtain ⟨q2, hq2, hf⟩ := bd_some hf
        have hC : ([] : List Nat).map (fun i => (wX5 cyI cyJ cyZ cyO h signs size)[i]?) = ([] : va_W).map some := rfl
        refine cl_i (rn_S (As := [.int x1, .int q1]) (rest := []) hx hb hml hown hT hK hN hP hD [] hC rfl (c_X5_dueBehind l D cyI cyJ cyZ cyO H.size x1 q1 nf q2 hq2) wm_X5_23 wt_X5_dueBehind wz_X5 wc_X5_dueBehind hd_X5_dueBehind ⟨rfl, rfl⟩ ⟨Nat.le_of_ble_eq_true rfl, Nat.le_of_ble_eq_true rfl⟩ rfl hl.1 rfl (Nat.le_of_ble_eq_true rfl) dX5_firstWrong_18 ⟨Nat.zero_le _, Nat.zero_le _⟩) hP hD hS hA [] hC [(false, 0), (false, 1)] (ws' := wX5 cyI cyJ cyZ cyO h signs size) rfl rfl rfl (fun H locs hP hD hS => ?_)
        refine lv_istore_n (lv' := [(1, .int q2), (0, .ref (h 0)), (2, .int x2)]) hx hb dX5_firstWrong_21 rfl hl (by decide) rfl (fun ls hl => ?_)
        refine lv_iload_n hx hb dX5_firstWrong_22 rfl (lv_at hl 0 rfl) ?_
        refine lv_if_ne (tgt := 28) hx hb dX5_firstWrong_23 (by decide) (fun cc => ?_) (fun cc => ?_)
        · replace hf := if_f cc hf
          refine lv_iinc (v := (x2 + 1)) (lv' := [(2, .int (x2 + 1)), (1, .int q2), (0, .ref (h 0))]) hx hb dX5_firstWrong_28 hl (k := 2) rfl rfl (by decide) rfl (fun ls hl => ?_)
          refine lv_goto (tgt := 4) hx hb dX5_firstWrong_31 (by decide) ?_
          exact ih4 q2 (x2 + 1) signs size H locs ls hP hD hS (lv_sub hl [2, 1, 0] rfl) hf
        · replace hf := if_t cc hf
          refine lv_iload_n hx hb dX5_firstWrong_26 rfl (lv_at hl 2 rfl) ?_
          cases Option.some.inj hf
          exact W.iret hx hb hr (fun t ht hW => ⟨⟨_, (), rfl, rfl, by show va_P D vwCl _ t.heap; rw [ht]; exact hP⟩, hS.F ht⟩) hS.2.2 dX5_firstWrong_27
  have main : ∀ (H : Heap) (locs : List Loc) (ls : Array Slot), va_P D vwCl (wX5 cyI cyJ cyZ cyO h signs size) H → va_D A (wX5 cyI cyJ cyZ cyO h signs size) → va_S A s.heap H locs → lv_has ls 3 [(0, .ref (h 0))] → W p l e ({ frames := 3, cells := 0, slots := 0, locals := 63 } : Room) s m ([.ref (h 0)] : List Value).toArray below meth c H locs 0 0 (MQ below (qI D (wX5 cyI cyJ cyZ cyO h signs size) q A) ([.ref (h 0)] : List Value).toArray s 0 0 A) (F0 m 0 ls []) := by
    intro H locs ls hP hD hS hl
    unfold g_X5_firstWrong at hf
    refine lv_iconst (v := 1) hx hb dX5_firstWrong_0 (by decide) ?_
    refine lv_istore_n (lv' := [(1, .int 1), (0, .ref (h 0))]) hx hb dX5_firstWrong_1 rfl hl (by decide) rfl (fun ls hl => ?_)
    refine lv_iconst (v := 0) hx hb dX5_firstWrong_2 (by decide) ?_
    refine lv_istore_n (lv' := [(2, .int 0), (1, .int 1), (0, .ref (h 0))]) hx hb dX5_firstWrong_3 rfl hl (by decide) rfl (fun ls hl => ?_)
    exact l4 nf 1 0 signs size H locs ls hP hD hS (lv_sub hl [2, 1, 0] rfl) hf
  have hl := lv_entry ([.ref (h 0)]) (n := 3) (Nat.le_of_ble_eq_true rfl)
  rw [lg_entry_eq]
  exact main s.heap [] _ hP hD hS hl
theorem hd_X6_costOfLand : yX6_costOfLand.cls ≠ "java/lang/invoke/MethodHandle" ∧ yX6_costOfLand.cls ≠ "java/lang/invoke/VarHandle" ∧ (parseMethodDescriptor yX6_costOfLand.desc).map (fun d => d.parameters.length) = some 1 := by decide +kernel
set_option maxHeartbeats 4000000 in
set_option maxRecDepth 100000 in
theorem c_X6_costOfLand (l : Launch) (D : va_G) (cyI cyJ cyZ cyO : ClassId) (sz : Nat) (p0 : Int32) (nf : Nat) (q : Int32) (hf : g_X6_costOfLand nf p0 = some q) : Met l yX6_costOfLand (Cond.code yX6_costOfLand cX6_costOfLand 1 (some .int) :: tbG) ({ frames := 0, cells := 0, slots := 0, locals := 0 } : Room) (va_Pc [.int p0] (pcB D (ty4 cyI cyJ cyZ cyO) sz (([] : va_W)))) (qI D (([] : va_W)) q (va_A (([] : va_W)) sz)) 0 0 (va_A (([] : va_W)) sz) := by
  refine Met.ofW (cc := cX6_costOfLand) (maxL := 1) (ret := (some .int)) (by decide) rfl ?_
  intro p e s m args below meth c s₁ B hml hv
  obtain ⟨rfl, hsz, hP, hK, hD0, hN⟩ := hv
  have hx := B.exec
  have hb := B.bytes
  have hr := B.returns
  have hT : ∀ w ∈ tbG, w.before ([.int p0] : List Value).toArray s = true := fun w h => atoms_spec (ws := (Cond.code yX6_costOfLand cX6_costOfLand 1 (some .int) :: tbG)) B.pre w (List.mem_cons_of_mem _ h)
  have hown : s.vm.findClass RX6 = some m.cls := findClass_of_methodNamed B.named
  have hlocks := B.notSynchronized
  subst hsz
  have hD := hD0.self (sz := s.heap.size)
  generalize hAe : va_A (([] : va_W)) s.heap.size = A at hD ⊢
  have hA : ∀ q : Nat, s.heap.size ≤ q → A q := fun q h => by rw [← hAe]; exact Or.inr h
  have hS : va_S A s.heap s.heap [] := va_S.rf
  show W p l e ({ frames := 0, cells := 0, slots := 0, locals := 0 } : Room) s m ([.int p0] : List Value).toArray below meth c s.heap [] 0 0 (MQ below (qI D (([] : va_W)) q A) ([.int p0] : List Value).toArray s 0 0 A) _
  have main : ∀ (H : Heap) (locs : List Loc) (ls : Array Slot), va_P D vwCl (([] : va_W)) H → va_D A (([] : va_W)) → va_S A s.heap H locs → lv_has ls 1 [(0, .int p0)] → W p l e ({ frames := 0, cells := 0, slots := 0, locals := 0 } : Room) s m ([.int p0] : List Value).toArray below meth c H locs 0 0 (MQ below (qI D (([] : va_W)) q A) ([.int p0] : List Value).toArray s 0 0 A) (F0 m 0 ls []) := by
    intro H locs ls hP hD hS hl
    unfold g_X6_costOfLand at hf
    refine lv_iload_n hx hb dX6_costOfLand_0 rfl (lv_at hl 0 rfl) ?_
    refine lv_iconst (v := 3) hx hb dX6_costOfLand_1 (by decide) ?_
    refine lv_icmp_ne (tgt := 8) hx hb dX6_costOfLand_2 (by decide) (fun cc => ?_) (fun cc => ?_)
    · replace hf := if_f cc hf
      refine lv_iload_n hx hb dX6_costOfLand_8 rfl (lv_at hl 0 rfl) ?_
      refine lv_if_ne (tgt := 17) hx hb dX6_costOfLand_9 (by decide) (fun cc => ?_) (fun cc => ?_)
      · replace hf := if_f cc hf
        refine lv_iconst (v := 0) hx hb dX6_costOfLand_17 (by decide) ?_
        cases Option.some.inj hf
        exact W.iret hx hb hr (fun t ht hW => ⟨⟨_, (), rfl, rfl, by show va_P D vwCl _ t.heap; rw [ht]; exact hP⟩, hS.F ht⟩) hS.2.2 dX6_costOfLand_18
      · replace hf := if_t cc hf
        refine lv_bipush (v := 100) hx hb dX6_costOfLand_12 (by decide) ?_
        refine lv_goto (tgt := 18) hx hb dX6_costOfLand_14 (by decide) ?_
        cases Option.some.inj hf
        exact W.iret hx hb hr (fun t ht hW => ⟨⟨_, (), rfl, rfl, by show va_P D vwCl _ t.heap; rw [ht]; exact hP⟩, hS.F ht⟩) hS.2.2 dX6_costOfLand_18
    · replace hf := if_t cc hf
      refine lv_ldc (v := 1000000) hx hb hown (hT _ wk_X6_19) dX6_costOfLand_5 ?_
      cases Option.some.inj hf
      exact W.iret hx hb hr (fun t ht hW => ⟨⟨_, (), rfl, rfl, by show va_P D vwCl _ t.heap; rw [ht]; exact hP⟩, hS.F ht⟩) hS.2.2 dX6_costOfLand_7
  have hl := lv_entry ([.int p0]) (n := 1) (Nat.le_of_ble_eq_true rfl)
  rw [lg_entry_eq]
  exact main s.heap [] _ hP hD hS hl
theorem hd_X6_nearest : yX6_nearest.cls = RX6 ∧ yX6_nearest.cls ≠ "java/lang/invoke/MethodHandle" ∧ yX6_nearest.cls ≠ "java/lang/invoke/VarHandle" ∧ (parseMethodDescriptor yX6_nearest.desc).map (fun d => d.parameters.length) = some 0 := by decide +kernel
set_option maxHeartbeats 4000000 in
set_option maxRecDepth 100000 in
theorem c_X6_nearest (l : Launch) (D : va_G) (cyI cyJ cyZ cyO : ClassId) (h : Nat → Nat) (sz : Nat) (costs : Nat → Int32) (settled : Nat → Int32) (nf : Nat) (q : Int32) (hf : g_X6_nearest nf costs settled = some q) : Met l yX6_nearest (Cond.code yX6_nearest cX6_nearest 4 (some .int) :: tbG) ({ frames := 0, cells := 0, slots := 0, locals := 0 } : Room) (va_Pc [.ref (h 0)] (pcB D (ty4 cyI cyJ cyZ cyO) sz (wX6 cyI cyJ cyZ cyO h costs settled))) (qI D (wX6 cyI cyJ cyZ cyO h costs settled) q (va_A (wX6 cyI cyJ cyZ cyO h costs settled) sz)) 0 0 (va_A (wX6 cyI cyJ cyZ cyO h costs settled) sz) := by
  refine Met.ofW (cc := cX6_nearest) (maxL := 4) (ret := (some .int)) (by decide) rfl ?_
  intro p e s m args below meth c s₁ B hml hv
  obtain ⟨rfl, hsz, hP, hK, hD0, hN⟩ := hv
  have hx := B.exec
  have hb := B.bytes
  have hr := B.returns
  have hT : ∀ w ∈ tbG, w.before ([.ref (h 0)] : List Value).toArray s = true := fun w h => atoms_spec (ws := (Cond.code yX6_nearest cX6_nearest 4 (some .int) :: tbG)) B.pre w (List.mem_cons_of_mem _ h)
  have hown : s.vm.findClass RX6 = some m.cls := findClass_of_methodNamed B.named
  have hlocks := B.notSynchronized
  subst hsz
  have hD := hD0.self (sz := s.heap.size)
  generalize hAe : va_A (wX6 cyI cyJ cyZ cyO h costs settled) s.heap.size = A at hD ⊢
  have hA : ∀ q : Nat, s.heap.size ≤ q → A q := fun q h => by rw [← hAe]; exact Or.inr h
  have hS : va_S A s.heap s.heap [] := va_S.rf
  show W p l e ({ frames := 0, cells := 0, slots := 0, locals := 0 } : Room) s m ([.ref (h 0)] : List Value).toArray below meth c s.heap [] 0 0 (MQ below (qI D (wX6 cyI cyJ cyZ cyO h costs settled) q A) ([.ref (h 0)] : List Value).toArray s 0 0 A) _
  have l7 : ∀ (n7 : Nat) (x1 : Int32) (x2 : Int32) (x3 : Int32) (costs : Nat → Int32) (settled : Nat → Int32) (H : Heap) (locs : List Loc) (ls : Array Slot), va_P D vwCl (wX6 cyI cyJ cyZ cyO h costs settled) H → va_D A (wX6 cyI cyJ cyZ cyO h costs settled) → va_S A s.heap H locs → lv_has ls 4 [(0, .ref (h 0)), (1, .int x1), (2, .int x2), (3, .int x3)] → g_X6_nearest_l7 nf n7 x1 x2 x3 costs settled = some q → W p l e ({ frames := 0, cells := 0, slots := 0, locals := 0 } : Room) s m ([.ref (h 0)] : List Value).toArray below meth c H locs 0 0 (MQ below (qI D (wX6 cyI cyJ cyZ cyO h costs settled) q A) ([.ref (h 0)] : List Value).toArray s 0 0 A) (F0 m 7 ls []) := by
    intro n7
    induction n7 with
    | zero =>
      intro x1 x2 x3 costs settled H locs ls hP hD hS hl hf
      rw [g_X6_nearest_l7] at hf
      cases hf
    | succ n7 ih7 =>
      have b41 : ∀ (x1 : Int32) (x2 : Int32) (x3 : Int32) (costs : Nat → Int32) (settled : Nat → Int32) (H : Heap) (locs : List Loc) (ls : Array Slot), va_P D vwCl (wX6 cyI cyJ cyZ cyO h costs settled) H → va_D A (wX6 cyI cyJ cyZ cyO h costs settled) → va_S A s.heap H locs → lv_has ls 4 [(0, .ref (h 0)), (1, .int x1), (2, .int x2), (3, .int x3)] → g_X6_nearest_b41 nf (g_X6_nearest_l7 nf n7) x1 x2 x3 costs settled = some q → W p l e ({ frames := 0, cells := 0, slots := 0, locals := 0 } : Room) s m ([.ref (h 0)] : List Value).toArray below meth c H locs 0 0 (MQ below (qI D (wX6 cyI cyJ cyZ cyO h costs settled) q A) ([.ref (h 0)] : List Value).toArray s 0 0 A) (F0 m 41 ls []) := by
        intro x1 x2 x3 costs settled H locs ls hP hD hS hl hf
        unfold g_X6_nearest_b41 at hf
        refine lv_iinc (v := (x3 + 1)) (lv' := [(3, .int (x3 + 1)), (0, .ref (h 0)), (1, .int x1), (2, .int x2)]) hx hb dX6_nearest_41 hl (k := 3) rfl rfl (by decide) rfl (fun ls hl => ?_)
        refine lv_goto (tgt := 7) hx hb dX6_nearest_44 (by decide) ?_
        exact ih7 x1 x2 (x3 + 1) costs settled H locs ls hP hD hS (lv_sub hl [1, 2, 3, 0] rfl) hf
      intro x1 x2 x3 costs settled H locs ls hP hD hS hl hf
      rw [g_X6_nearest_l7] at hf
      refine lv_iload_n hx hb dX6_nearest_7 rfl (lv_at hl 3 rfl) ?_
      refine lv_bipush (v := 25) hx hb dX6_nearest_8 (by decide) ?_
      refine lv_icmp_ge (tgt := 47) hx hb dX6_nearest_10 (by decide) (fun cc => ?_) (fun cc => ?_)
      · replace hf := if_t cc hf
        refine lv_iload_n hx hb dX6_nearest_47 rfl (lv_at hl 1 rfl) ?_
        cases Option.some.inj hf
        exact W.iret hx hb hr (fun t ht hW => ⟨⟨_, (), rfl, rfl, by show va_P D vwCl _ t.heap; rw [ht]; exact hP⟩, hS.F ht⟩) hS.2.2 dX6_nearest_48
      · replace hf := if_f cc hf
        refine lv_aload_n hx hb dX6_nearest_13 rfl (lv_at hl 0 rfl) ?_
        refine va_get (ci := 6) (v := .ref (h 2)) (C := RX6) (T := TX6) (N := 2) hx hb hT hin_X6 hown hK hP 0 rfl rfl 1 (by decide) (hT _ wf_X6_15) (fun _ h9 => h9) rfl dX6_nearest_14 ?_
        refine lv_iload_n hx hb dX6_nearest_17 rfl (lv_at hl 3 rfl) ?_
        obtain ⟨hi, hf⟩ := ck_some hf
        refine va_zald hx hb hK hP 2 2 rfl rfl hi dX6_nearest_18 ?_
        refine lv_if_ne (tgt := 41) hx hb dX6_nearest_19 (by decide) (fun cc => ?_) (fun cc => ?_)
        · replace hf := if_f cc hf
          exact b41 x1 x2 x3 costs settled H locs ls hP hD hS (lv_sub hl [0, 1, 2, 3] rfl) hf
        · replace hf := if_t cc hf
          refine lv_aload_n hx hb dX6_nearest_22 rfl (lv_at hl 0 rfl) ?_
          refine va_get (ci := 6) (v := .ref (h 1)) (C := RX6) (T := TX6) (N := 2) hx hb hT hin_X6 hown hK hP 0 rfl rfl 0 (by decide) (hT _ wf_X6_9) (fun _ h9 => h9) rfl dX6_nearest_23 ?_
          refine lv_iload_n hx hb dX6_nearest_26 rfl (lv_at hl 3 rfl) ?_
          obtain ⟨hi, hf⟩ := ck_some hf
          refine va_iald hx hb hK hP 1 0 rfl rfl hi dX6_nearest_27 ?_
          refine lv_iload_n hx hb dX6_nearest_28 rfl (lv_at hl 2 rfl) ?_
          refine lv_icmp_ge (tgt := 41) hx hb dX6_nearest_29 (by decide) (fun cc => ?_) (fun cc => ?_)
          · replace hf := if_t cc hf
            exact b41 x1 x2 x3 costs settled H locs ls hP hD hS (lv_sub hl [0, 1, 2, 3] rfl) hf
          · replace hf := if_f cc hf
            refine lv_iload_n hx hb dX6_nearest_32 rfl (lv_at hl 3 rfl) ?_
            refine lv_istore_n (lv' := [(1, .int x3), (0, .ref (h 0)), (2, .int x2), (3, .int x3)]) hx hb dX6_nearest_33 rfl hl (by decide) rfl (fun ls hl => ?_)
            refine lv_aload_n hx hb dX6_nearest_34 rfl (lv_at hl 1 rfl) ?_
            refine va_get (ci := 6) (v := .ref (h 1)) (C := RX6) (T := TX6) (N := 2) hx hb hT hin_X6 hown hK hP 0 rfl rfl 0 (by decide) (hT _ wf_X6_9) (fun _ h9 => h9) rfl dX6_nearest_35 ?_
            refine lv_iload_n hx hb dX6_nearest_38 rfl (lv_at hl 3 rfl) ?_
            obtain ⟨hi, hf⟩ := ck_some hf
            refine va_iald hx hb hK hP 1 0 rfl rfl hi dX6_nearest_39 ?_
            refine lv_istore_n (lv' := [(2, .int (costs x3.toNatClampNeg)), (1, .int x3), (0, .ref (h 0)), (3, .int x3)]) hx hb dX6_nearest_40 rfl hl (by decide) rfl (fun ls hl => ?_)
            exact b41 x3 (costs x3.toNatClampNeg) x3 costs settled H locs ls hP hD hS (lv_sub hl [2, 1, 0, 3] rfl) hf
  have main : ∀ (H : Heap) (locs : List Loc) (ls : Array Slot), va_P D vwCl (wX6 cyI cyJ cyZ cyO h costs settled) H → va_D A (wX6 cyI cyJ cyZ cyO h costs settled) → va_S A s.heap H locs → lv_has ls 4 [(0, .ref (h 0))] → W p l e ({ frames := 0, cells := 0, slots := 0, locals := 0 } : Room) s m ([.ref (h 0)] : List Value).toArray below meth c H locs 0 0 (MQ below (qI D (wX6 cyI cyJ cyZ cyO h costs settled) q A) ([.ref (h 0)] : List Value).toArray s 0 0 A) (F0 m 0 ls []) := by
    intro H locs ls hP hD hS hl
    unfold g_X6_nearest at hf
    refine lv_iconst (v := (-1)) hx hb dX6_nearest_0 (by decide) ?_
    refine lv_istore_n (lv' := [(1, .int (-1)), (0, .ref (h 0))]) hx hb dX6_nearest_1 rfl hl (by decide) rfl (fun ls hl => ?_)
    refine lv_ldc (v := 1000000) hx hb hown (hT _ wk_X6_19) dX6_nearest_2 ?_
    refine lv_istore_n (lv' := [(2, .int 1000000), (1, .int (-1)), (0, .ref (h 0))]) hx hb dX6_nearest_4 rfl hl (by decide) rfl (fun ls hl => ?_)
    refine lv_iconst (v := 0) hx hb dX6_nearest_5 (by decide) ?_
    refine lv_istore_n (lv' := [(3, .int 0), (2, .int 1000000), (1, .int (-1)), (0, .ref (h 0))]) hx hb dX6_nearest_6 rfl hl (by decide) rfl (fun ls hl => ?_)
    exact l7 nf (-1) 1000000 0 costs settled H locs ls hP hD hS (lv_sub hl [3, 2, 1, 0] rfl) hf
  have hl := lv_entry ([.ref (h 0)]) (n := 4) (Nat.le_of_ble_eq_true rfl)
  rw [lg_entry_eq]
  exact main s.heap [] _ hP hD hS hl
theorem hd_X6_spreadFrom : yX6_spreadFrom.cls = RX6 ∧ yX6_spreadFrom.cls ≠ "java/lang/invoke/MethodHandle" ∧ yX6_spreadFrom.cls ≠ "java/lang/invoke/VarHandle" ∧ (parseMethodDescriptor yX6_spreadFrom.desc).map (fun d => d.parameters.length) = some 2 := by decide +kernel
set_option maxHeartbeats 4000000 in
set_option maxRecDepth 100000 in
theorem c_X6_spreadFrom (l : Launch) (D : va_G) (cyI cyJ cyZ cyO : ClassId) (h : Nat → Nat) (la : Nat) (sz : Nat) (costs : Nat → Int32) (settled : Nat → Int32) (lands : Nat → Int32) (p1 : Int32) (nf : Nat) (q : (Nat → Int32)) (hf : g_X6_spreadFrom nf p1 costs lands = some q) : Met l yX6_spreadFrom (Cond.code yX6_spreadFrom cX6_spreadFrom 5 none :: tbG) ({ frames := 1, cells := 0, slots := 0, locals := 40 } : Room) (va_Pc [.ref (h 0), .int p1, .ref la] (pcB D (ty4 cyI cyJ cyZ cyO) sz (vw4 cyI cyJ cyZ cyO h la costs settled lands))) (qV D (vw4 cyI cyJ cyZ cyO h la q settled lands) (va_A (vw4 cyI cyJ cyZ cyO h la costs settled lands) sz)) 0 0 (va_A (vw4 cyI cyJ cyZ cyO h la costs settled lands) sz) := by
  refine Met.ofW (cc := cX6_spreadFrom) (maxL := 5) (ret := none) (by decide) rfl ?_
  intro p e s m args below meth c s₁ B hml hv
  obtain ⟨rfl, hsz, hP, hK, hD0, hN⟩ := hv
  have hx := B.exec
  have hb := B.bytes
  have hr := B.returns
  have hT : ∀ w ∈ tbG, w.before ([.ref (h 0), .int p1, .ref la] : List Value).toArray s = true := fun w h => atoms_spec (ws := (Cond.code yX6_spreadFrom cX6_spreadFrom 5 none :: tbG)) B.pre w (List.mem_cons_of_mem _ h)
  have hown : s.vm.findClass RX6 = some m.cls := findClass_of_methodNamed B.named
  have hlocks := B.notSynchronized
  subst hsz
  have hD := hD0.self (sz := s.heap.size)
  generalize hAe : va_A (vw4 cyI cyJ cyZ cyO h la costs settled lands) s.heap.size = A at hD ⊢
  have hA : ∀ q : Nat, s.heap.size ≤ q → A q := fun q h => by rw [← hAe]; exact Or.inr h
  have hS : va_S A s.heap s.heap [] := va_S.rf
  show W p l e ({ frames := 1, cells := 0, slots := 0, locals := 40 } : Room) s m ([.ref (h 0), .int p1, .ref la] : List Value).toArray below meth c s.heap [] 0 0 (MQ below (qV D (vw4 cyI cyJ cyZ cyO h la q settled lands) A) ([.ref (h 0), .int p1, .ref la] : List Value).toArray s 0 0 A) _
  have l2 : ∀ (n2 : Nat) (x1 : Int32) (x3 : Int32) (costs : Nat → Int32) (lands : Nat → Int32) (H : Heap) (locs : List Loc) (ls : Array Slot), va_P D vwCl (vw4 cyI cyJ cyZ cyO h la costs settled lands) H → va_D A (vw4 cyI cyJ cyZ cyO h la costs settled lands) → va_S A s.heap H locs → lv_has ls 5 [(0, .ref (h 0)), (1, .int x1), (2, .ref la), (3, .int x3)] → g_X6_spreadFrom_l2 nf n2 x1 x3 costs lands = some q → W p l e ({ frames := 1, cells := 0, slots := 0, locals := 40 } : Room) s m ([.ref (h 0), .int p1, .ref la] : List Value).toArray below meth c H locs 0 0 (MQ below (qV D (vw4 cyI cyJ cyZ cyO h la q settled lands) A) ([.ref (h 0), .int p1, .ref la] : List Value).toArray s 0 0 A) (F0 m 2 ls []) := by
    intro n2
    induction n2 with
    | zero =>
      intro x1 x3 costs lands H locs ls hP hD hS hl hf
      rw [g_X6_spreadFrom_l2] at hf
      cases hf
    | succ n2 ih2 =>
      have b55 : ∀ (x1 : Int32) (x3 : Int32) (costs : Nat → Int32) (lands : Nat → Int32) (H : Heap) (locs : List Loc) (ls : Array Slot), va_P D vwCl (vw4 cyI cyJ cyZ cyO h la costs settled lands) H → va_D A (vw4 cyI cyJ cyZ cyO h la costs settled lands) → va_S A s.heap H locs → lv_has ls 5 [(0, .ref (h 0)), (1, .int x1), (2, .ref la), (3, .int x3)] → g_X6_spreadFrom_b55 nf (g_X6_spreadFrom_l2 nf n2) x1 x3 costs lands = some q → W p l e ({ frames := 1, cells := 0, slots := 0, locals := 40 } : Room) s m ([.ref (h 0), .int p1, .ref la] : List Value).toArray below meth c H locs 0 0 (MQ below (qV D (vw4 cyI cyJ cyZ cyO h la q settled lands) A) ([.ref (h 0), .int p1, .ref la] : List Value).toArray s 0 0 A) (F0 m 55 ls []) := by
        intro x1 x3 costs lands H locs ls hP hD hS hl hf
        unfold g_X6_spreadFrom_b55 at hf
        refine lv_iinc (v := (x3 + 1)) (lv' := [(3, .int (x3 + 1)), (0, .ref (h 0)), (1, .int x1), (2, .ref la)]) hx hb dX6_spreadFrom_55 hl (k := 3) rfl rfl (by decide) rfl (fun ls hl => ?_)
        refine lv_goto (tgt := 2) hx hb dX6_spreadFrom_58 (by decide) ?_
        exact ih2 x1 (x3 + 1) costs lands H locs ls hP hD hS (lv_sub hl [1, 2, 3, 0] rfl) hf
      intro x1 x3 costs lands H locs ls hP hD hS hl hf
      rw [g_X6_spreadFrom_l2] at hf
      refine lv_iload_n hx hb dX6_spreadFrom_2 rfl (lv_at hl 3 rfl) ?_
      refine lv_iconst (v := 4) hx hb dX6_spreadFrom_3 (by decide) ?_
      refine lv_icmp_ge (tgt := 61) hx hb dX6_spreadFrom_4 (by decide) (fun cc => ?_) (fun cc => ?_)
      · replace hf := if_t cc hf
        cases Option.some.inj hf
        exact W.vret hx hb hr (fun t ht hW => ⟨⟨(), rfl, trivial, by show va_P D vwCl _ t.heap; rw [ht]; exact hP⟩, hS.F ht⟩) hS.2.2 dX6_spreadFrom_61
      · replace hf := if_f cc hf
        refine lv_iload_n hx hb dX6_spreadFrom_7 rfl (lv_at hl 1 rfl) ?_
        refine lv_iload_n hx hb dX6_spreadFrom_8 rfl (lv_at hl 3 rfl) ?_
        obtain ⟨q1, hq1, hf⟩ := bd_some hf
        have hC : ([] : List Nat).map (fun i => (vw4 cyI cyJ cyZ cyO h la costs settled lands)[i]?) = ([] : va_W).map some := rfl
        refine cl_i (rn_SN (As := [.int x1, .int x3]) (rest := []) (host := RX8) hx hb hml hown hT hK hN hP hD [] hC rfl (c_X8_beside l D cyI cyJ cyZ cyO H.size x1 x3 nf q1 hq1) (by decide) wt_X8_beside wz_X8 wc_X8_beside hd_X8_beside ⟨rfl, rfl⟩ ⟨Nat.le_of_ble_eq_true rfl, Nat.le_of_ble_eq_true rfl⟩ rfl hl.1 rfl (Nat.le_of_ble_eq_true rfl) dX6_spreadFrom_9 ⟨Nat.zero_le _, Nat.zero_le _⟩) hP hD hS hA [] hC [(false, 0), (false, 1), (false, 2), (false, 3)] (ws' := vw4 cyI cyJ cyZ cyO h la costs settled lands) rfl rfl rfl (fun H locs hP hD hS => ?_)
        refine lv_istore (lv' := [(4, .int q1), (0, .ref (h 0)), (1, .int x1), (2, .ref la), (3, .int x3)]) hx hb dX6_spreadFrom_12 hl (by decide) rfl (fun ls hl => ?_)
        refine lv_iload hx hb dX6_spreadFrom_14 (lv_at hl 0 rfl) ?_
        obtain ⟨q2, hq2, hf⟩ := bd_some hf
        have hC : ([] : List Nat).map (fun i => (vw4 cyI cyJ cyZ cyO h la costs settled lands)[i]?) = ([] : va_W).map some := rfl
        refine cl_i (rn_SN (As := [.int q1]) (rest := []) (host := RX8) hx hb hml hown hT hK hN hP hD [] hC rfl (c_X8_isCell l D cyI cyJ cyZ cyO H.size q1 nf q2 hq2) (by decide) wt_X8_isCell wz_X8 wc_X8_isCell hd_X8_isCell ⟨rfl, rfl⟩ ⟨Nat.le_of_ble_eq_true rfl, Nat.le_of_ble_eq_true rfl⟩ rfl hl.1 rfl (Nat.le_of_ble_eq_true rfl) dX6_spreadFrom_16 ⟨Nat.zero_le _, Nat.zero_le _⟩) hP hD hS hA [] hC [(false, 0), (false, 1), (false, 2), (false, 3)] (ws' := vw4 cyI cyJ cyZ cyO h la costs settled lands) rfl rfl rfl (fun H locs hP hD hS => ?_)
        refine lv_if_eq (tgt := 55) hx hb dX6_spreadFrom_19 (by decide) (fun cc => ?_) (fun cc => ?_)
        · replace hf := if_t cc hf
          exact b55 x1 x3 costs lands H locs ls hP hD hS (lv_sub hl [1, 2, 3, 4] rfl) hf
        · replace hf := if_f cc hf
          refine lv_aload_n hx hb dX6_spreadFrom_22 rfl (lv_at hl 1 rfl) ?_
          refine va_get (ci := 6) (v := .ref (h 1)) (C := RX6) (T := TX6) (N := 2) hx hb hT hin_X6 hown hK hP 0 rfl rfl 0 (by decide) (hT _ wf_X6_9) (fun _ h9 => h9) rfl dX6_spreadFrom_23 ?_
          refine lv_iload hx hb dX6_spreadFrom_26 (lv_at hl 0 rfl) ?_
          refine lv_aload_n hx hb dX6_spreadFrom_28 rfl (lv_at hl 1 rfl) ?_
          refine va_get (ci := 6) (v := .ref (h 1)) (C := RX6) (T := TX6) (N := 2) hx hb hT hin_X6 hown hK hP 0 rfl rfl 0 (by decide) (hT _ wf_X6_9) (fun _ h9 => h9) rfl dX6_spreadFrom_29 ?_
          refine lv_iload hx hb dX6_spreadFrom_32 (lv_at hl 0 rfl) ?_
          obtain ⟨hi, hf⟩ := ck_some hf
          refine va_iald hx hb hK hP 1 0 rfl rfl hi dX6_spreadFrom_34 ?_
          refine lv_aload_n hx hb dX6_spreadFrom_35 rfl (lv_at hl 1 rfl) ?_
          refine va_get (ci := 6) (v := .ref (h 1)) (C := RX6) (T := TX6) (N := 2) hx hb hT hin_X6 hown hK hP 0 rfl rfl 0 (by decide) (hT _ wf_X6_9) (fun _ h9 => h9) rfl dX6_spreadFrom_36 ?_
          refine lv_iload_n hx hb dX6_spreadFrom_39 rfl (lv_at hl 2 rfl) ?_
          obtain ⟨hi, hf⟩ := ck_some hf
          refine va_iald hx hb hK hP 1 0 rfl rfl hi dX6_spreadFrom_40 ?_
          refine lv_iconst (v := 1) hx hb dX6_spreadFrom_41 (by decide) ?_
          refine lv_iadd hx hb dX6_spreadFrom_42 ?_
          refine lv_aload_n hx hb dX6_spreadFrom_43 rfl (lv_at hl 3 rfl) ?_
          refine lv_iload hx hb dX6_spreadFrom_44 (lv_at hl 0 rfl) ?_
          obtain ⟨hi, hf⟩ := ck_some hf
          refine va_iald hx hb hK hP 3 0 rfl rfl hi dX6_spreadFrom_46 ?_
          obtain ⟨q3, hq3, hf⟩ := bd_some hf
          have hC : ([] : List Nat).map (fun i => (vw4 cyI cyJ cyZ cyO h la costs settled lands)[i]?) = ([] : va_W).map some := rfl
          refine cl_i (rn_S (As := [.int (lands q1.toNatClampNeg)]) (rest := [.int ((costs x1.toNatClampNeg) + 1), .int (costs q1.toNatClampNeg), .int q1, .ref (h 1)]) hx hb hml hown hT hK hN hP hD [] hC rfl (c_X6_costOfLand l D cyI cyJ cyZ cyO H.size (lands q1.toNatClampNeg) nf q3 hq3) wm_X6_20 wt_X6_costOfLand wz_X6 wc_X6_costOfLand hd_X6_costOfLand ⟨rfl, rfl⟩ ⟨Nat.le_of_ble_eq_true rfl, Nat.le_of_ble_eq_true rfl⟩ rfl hl.1 rfl (Nat.le_of_ble_eq_true rfl) dX6_spreadFrom_47 ⟨Nat.zero_le _, Nat.zero_le _⟩) hP hD hS hA [] hC [(false, 0), (false, 1), (false, 2), (false, 3)] (ws' := vw4 cyI cyJ cyZ cyO h la costs settled lands) rfl rfl rfl (fun H locs hP hD hS => ?_)
          refine lv_iadd hx hb dX6_spreadFrom_50 ?_
          refine va_mmin (x := (costs q1.toNatClampNeg)) (y := (((costs x1.toNatClampNeg) + 1) + q3)) hx hb (by rw [hml]; exact hl.1.symm) hown (hT _ wm_X6_40) (hT _ wt_J9_min_7cf53) (hT _ wz_J9) (hT _ wc_J9_min_7cf53) (Nat.le_of_ble_eq_true rfl) (Nat.le_of_ble_eq_true rfl) (Nat.zero_le _) (Nat.zero_le _) dX6_spreadFrom_51 ?_
          obtain ⟨hi, hf⟩ := ck_some hf
          refine va_iast hx hb hK hP hD hS 1 0 rfl rfl hi dX6_spreadFrom_54 (fun H locs hP hD hS => ?_)
          have hP : va_P D vwCl (vw4 cyI cyJ cyZ cyO h la (upd costs q1.toNatClampNeg (if (((costs x1.toNatClampNeg) + 1) + q3) < (costs q1.toNatClampNeg) then (((costs x1.toNatClampNeg) + 1) + q3) else (costs q1.toNatClampNeg))) settled lands) H := hP
          have hD : va_D A (vw4 cyI cyJ cyZ cyO h la (upd costs q1.toNatClampNeg (if (((costs x1.toNatClampNeg) + 1) + q3) < (costs q1.toNatClampNeg) then (((costs x1.toNatClampNeg) + 1) + q3) else (costs q1.toNatClampNeg))) settled lands) := hD
          exact b55 x1 x3 (upd costs q1.toNatClampNeg (if (((costs x1.toNatClampNeg) + 1) + q3) < (costs q1.toNatClampNeg) then (((costs x1.toNatClampNeg) + 1) + q3) else (costs q1.toNatClampNeg))) lands H locs ls hP hD hS (lv_sub hl [1, 2, 3, 4] rfl) hf
  have main : ∀ (H : Heap) (locs : List Loc) (ls : Array Slot), va_P D vwCl (vw4 cyI cyJ cyZ cyO h la costs settled lands) H → va_D A (vw4 cyI cyJ cyZ cyO h la costs settled lands) → va_S A s.heap H locs → lv_has ls 5 [(0, .ref (h 0)), (1, .int p1), (2, .ref la)] → W p l e ({ frames := 1, cells := 0, slots := 0, locals := 40 } : Room) s m ([.ref (h 0), .int p1, .ref la] : List Value).toArray below meth c H locs 0 0 (MQ below (qV D (vw4 cyI cyJ cyZ cyO h la q settled lands) A) ([.ref (h 0), .int p1, .ref la] : List Value).toArray s 0 0 A) (F0 m 0 ls []) := by
    intro H locs ls hP hD hS hl
    unfold g_X6_spreadFrom at hf
    refine lv_iconst (v := 0) hx hb dX6_spreadFrom_0 (by decide) ?_
    refine lv_istore_n (lv' := [(3, .int 0), (0, .ref (h 0)), (1, .int p1), (2, .ref la)]) hx hb dX6_spreadFrom_1 rfl hl (by decide) rfl (fun ls hl => ?_)
    exact l2 nf p1 0 costs lands H locs ls hP hD hS (lv_sub hl [1, 2, 3, 0] rfl) hf
  have hl := lv_entry ([.ref (h 0), .int p1, .ref la]) (n := 5) (Nat.le_of_ble_eq_true rfl)
  rw [lg_entry_eq]
  exact main s.heap [] _ hP hD hS hl
theorem hd_X6_leastCost : yX6_leastCost.cls = RX6 ∧ yX6_leastCost.cls ≠ "java/lang/invoke/MethodHandle" ∧ yX6_leastCost.cls ≠ "java/lang/invoke/VarHandle" ∧ (parseMethodDescriptor yX6_leastCost.desc).map (fun d => d.parameters.length) = some 3 := by decide +kernel
set_option maxHeartbeats 4000000 in
set_option maxRecDepth 100000 in
theorem c_X6_leastCost (l : Launch) (D : va_G) (cyI cyJ cyZ cyO : ClassId) (h : Nat → Nat) (la : Nat) (sz : Nat) (costs : Nat → Int32) (settled : Nat → Int32) (lands : Nat → Int32) (p2 : Int32) (p3 : Int32) (nf : Nat) (q : Int32 × (Nat → Int32) × (Nat → Int32)) (hf : g_X6_leastCost nf p2 p3 costs settled lands = some q) : Met l yX6_leastCost (Cond.code yX6_leastCost cX6_leastCost 6 (some .int) :: tbG) ({ frames := 2, cells := 0, slots := 0, locals := 64 } : Room) (va_Pc [.ref (h 0), .ref la, .int p2, .int p3] (pcB D (ty4 cyI cyJ cyZ cyO) sz (vw4 cyI cyJ cyZ cyO h la costs settled lands))) (qI D (vw4 cyI cyJ cyZ cyO h la q.2.1 q.2.2 lands) q.1 (va_A (vw4 cyI cyJ cyZ cyO h la costs settled lands) sz)) 0 0 (va_A (vw4 cyI cyJ cyZ cyO h la costs settled lands) sz) := by
  refine Met.ofW (cc := cX6_leastCost) (maxL := 6) (ret := (some .int)) (by decide) rfl ?_
  intro p e s m args below meth c s₁ B hml hv
  obtain ⟨rfl, hsz, hP, hK, hD0, hN⟩ := hv
  have hx := B.exec
  have hb := B.bytes
  have hr := B.returns
  have hT : ∀ w ∈ tbG, w.before ([.ref (h 0), .ref la, .int p2, .int p3] : List Value).toArray s = true := fun w h => atoms_spec (ws := (Cond.code yX6_leastCost cX6_leastCost 6 (some .int) :: tbG)) B.pre w (List.mem_cons_of_mem _ h)
  have hown : s.vm.findClass RX6 = some m.cls := findClass_of_methodNamed B.named
  have hlocks := B.notSynchronized
  subst hsz
  have hD := hD0.self (sz := s.heap.size)
  generalize hAe : va_A (vw4 cyI cyJ cyZ cyO h la costs settled lands) s.heap.size = A at hD ⊢
  have hA : ∀ q : Nat, s.heap.size ≤ q → A q := fun q h => by rw [← hAe]; exact Or.inr h
  have hS : va_S A s.heap s.heap [] := va_S.rf
  show W p l e ({ frames := 2, cells := 0, slots := 0, locals := 64 } : Room) s m ([.ref (h 0), .ref la, .int p2, .int p3] : List Value).toArray below meth c s.heap [] 0 0 (MQ below (qI D (vw4 cyI cyJ cyZ cyO h la q.2.1 q.2.2 lands) q.1 A) ([.ref (h 0), .ref la, .int p2, .int p3] : List Value).toArray s 0 0 A) _
  have b99 : ∀ (x3 : Int32) (costs : Nat → Int32) (settled : Nat → Int32) (lands : Nat → Int32) (H : Heap) (locs : List Loc) (ls : Array Slot), va_P D vwCl (vw4 cyI cyJ cyZ cyO h la costs settled lands) H → va_D A (vw4 cyI cyJ cyZ cyO h la costs settled lands) → va_S A s.heap H locs → lv_has ls 6 [(0, .ref (h 0)), (3, .int x3)] → g_X6_leastCost_b99 nf x3 costs settled lands = some q → W p l e ({ frames := 2, cells := 0, slots := 0, locals := 64 } : Room) s m ([.ref (h 0), .ref la, .int p2, .int p3] : List Value).toArray below meth c H locs 0 0 (MQ below (qI D (vw4 cyI cyJ cyZ cyO h la q.2.1 q.2.2 lands) q.1 A) ([.ref (h 0), .ref la, .int p2, .int p3] : List Value).toArray s 0 0 A) (F0 m 99 ls []) := by
    intro x3 costs settled lands H locs ls hP hD hS hl hf
    unfold g_X6_leastCost_b99 at hf
    refine lv_aload_n hx hb dX6_leastCost_99 rfl (lv_at hl 0 rfl) ?_
    refine va_get (ci := 6) (v := .ref (h 1)) (C := RX6) (T := TX6) (N := 2) hx hb hT hin_X6 hown hK hP 0 rfl rfl 0 (by decide) (hT _ wf_X6_9) (fun _ h9 => h9) rfl dX6_leastCost_100 ?_
    refine lv_iload_n hx hb dX6_leastCost_103 rfl (lv_at hl 1 rfl) ?_
    obtain ⟨hi, hf⟩ := ck_some hf
    refine va_iald hx hb hK hP 1 0 rfl rfl hi dX6_leastCost_104 ?_
    cases Option.some.inj hf
    exact W.iret hx hb hr (fun t ht hW => ⟨⟨_, (), rfl, rfl, by show va_P D vwCl _ t.heap; rw [ht]; exact hP⟩, hS.F ht⟩) hS.2.2 dX6_leastCost_105
  have l48 : ∀ (n48 : Nat) (x3 : Int32) (x4 : Int32) (costs : Nat → Int32) (settled : Nat → Int32) (lands : Nat → Int32) (H : Heap) (locs : List Loc) (ls : Array Slot), va_P D vwCl (vw4 cyI cyJ cyZ cyO h la costs settled lands) H → va_D A (vw4 cyI cyJ cyZ cyO h la costs settled lands) → va_S A s.heap H locs → lv_has ls 6 [(0, .ref (h 0)), (1, .ref la), (3, .int x3), (4, .int x4)] → g_X6_leastCost_l48 nf n48 x3 x4 costs settled lands = some q → W p l e ({ frames := 2, cells := 0, slots := 0, locals := 64 } : Room) s m ([.ref (h 0), .ref la, .int p2, .int p3] : List Value).toArray below meth c H locs 0 0 (MQ below (qI D (vw4 cyI cyJ cyZ cyO h la q.2.1 q.2.2 lands) q.1 A) ([.ref (h 0), .ref la, .int p2, .int p3] : List Value).toArray s 0 0 A) (F0 m 48 ls []) := by
    intro n48
    induction n48 with
    | zero =>
      intro x3 x4 costs settled lands H locs ls hP hD hS hl hf
      rw [g_X6_leastCost_l48] at hf
      cases hf
    | succ n48 ih48 =>
      intro x3 x4 costs settled lands H locs ls hP hD hS hl hf
      rw [g_X6_leastCost_l48] at hf
      refine lv_iload hx hb dX6_leastCost_48 (lv_at hl 3 rfl) ?_
      refine lv_bipush (v := 25) hx hb dX6_leastCost_50 (by decide) ?_
      refine lv_icmp_ge (tgt := 99) hx hb dX6_leastCost_52 (by decide) (fun cc => ?_) (fun cc => ?_)
      · replace hf := if_t cc hf
        exact b99 x3 costs settled lands H locs ls hP hD hS (lv_sub hl [0, 2] rfl) hf
      · replace hf := if_f cc hf
        refine lv_aload_n hx hb dX6_leastCost_55 rfl (lv_at hl 0 rfl) ?_
        obtain ⟨q2, hq2, hf⟩ := bd_some hf
        have hC : [0, 1, 2].map (fun i => (vw4 cyI cyJ cyZ cyO h la costs settled lands)[i]?) = (wX6 cyI cyJ cyZ cyO h costs settled).map some := rfl
        refine cl_i (rn_V (As := []) (rest := []) (C := RX6) hx hb hml hown hT hK hN hP hD [0, 1, 2] hC rfl (c_X6_nearest l D cyI cyJ cyZ cyO h H.size costs settled nf q2 hq2) wm_X6_24 wi_X6_nearest wl_X6_nearest wz_X6 wc_X6_nearest hd_X6_nearest ⟨rfl, rfl⟩ ⟨Nat.le_of_ble_eq_true rfl, Nat.le_of_ble_eq_true rfl⟩ (q0 := 0) (ci := 6) rfl rfl rfl rfl hl.1 rfl (Nat.le_of_ble_eq_true rfl) dX6_leastCost_56 ⟨Nat.zero_le _, Nat.zero_le _⟩) hP hD hS hA [0, 1, 2] hC [(true, 0), (true, 1), (true, 2), (false, 3)] (ws' := vw4 cyI cyJ cyZ cyO h la costs settled lands) rfl rfl rfl (fun H locs hP hD hS => ?_)
        refine lv_istore (lv' := [(5, .int q2), (0, .ref (h 0)), (1, .ref la), (3, .int x3), (4, .int x4)]) hx hb dX6_leastCost_59 hl (by decide) rfl (fun ls hl => ?_)
        refine lv_iload hx hb dX6_leastCost_61 (lv_at hl 0 rfl) ?_
        obtain ⟨q3, hq3, hf⟩ := bd_some hf
        have hC : ([] : List Nat).map (fun i => (vw4 cyI cyJ cyZ cyO h la costs settled lands)[i]?) = ([] : va_W).map some := rfl
        refine cl_i (rn_SN (As := [.int q2]) (rest := []) (host := RX8) hx hb hml hown hT hK hN hP hD [] hC rfl (c_X8_isCell l D cyI cyJ cyZ cyO H.size q2 nf q3 hq3) (by decide) wt_X8_isCell wz_X8 wc_X8_isCell hd_X8_isCell ⟨rfl, rfl⟩ ⟨Nat.le_of_ble_eq_true rfl, Nat.le_of_ble_eq_true rfl⟩ rfl hl.1 rfl (Nat.le_of_ble_eq_true rfl) dX6_leastCost_63 ⟨Nat.zero_le _, Nat.zero_le _⟩) hP hD hS hA [] hC [(false, 0), (false, 1), (false, 2), (false, 3)] (ws' := vw4 cyI cyJ cyZ cyO h la costs settled lands) rfl rfl rfl (fun H locs hP hD hS => ?_)
        refine lv_if_eq (tgt := 99) hx hb dX6_leastCost_66 (by decide) (fun cc => ?_) (fun cc => ?_)
        · replace hf := if_t cc hf
          exact b99 x3 costs settled lands H locs ls hP hD hS (lv_sub hl [1, 3] rfl) hf
        · replace hf := if_f cc hf
          refine lv_iload hx hb dX6_leastCost_69 (lv_at hl 0 rfl) ?_
          refine lv_iload_n hx hb dX6_leastCost_71 rfl (lv_at hl 3 rfl) ?_
          refine lv_icmp_ne (tgt := 78) hx hb dX6_leastCost_72 (by decide) (fun cc => ?_) (fun cc => ?_)
          · replace hf := if_f cc hf
            refine lv_aload_n hx hb dX6_leastCost_78 rfl (lv_at hl 1 rfl) ?_
            refine va_get (ci := 6) (v := .ref (h 2)) (C := RX6) (T := TX6) (N := 2) hx hb hT hin_X6 hown hK hP 0 rfl rfl 1 (by decide) (hT _ wf_X6_15) (fun _ h9 => h9) rfl dX6_leastCost_79 ?_
            refine lv_iload hx hb dX6_leastCost_82 (lv_at hl 0 rfl) ?_
            refine lv_iconst (v := 1) hx hb dX6_leastCost_84 (by decide) ?_
            obtain ⟨hi, hf⟩ := ck_some hf
            obtain ⟨hz, hf⟩ := bz_some hf
            refine va_zast hx hb hK hP hD hS 2 2 rfl rfl hi dX6_leastCost_85 (fun H locs hP hD hS => ?_)
            rw [(bz_nar hz).1] at hP hD
            have hP : va_P D vwCl (vw4 cyI cyJ cyZ cyO h la costs (upd settled q2.toNatClampNeg 1) lands) H := hP
            have hD : va_D A (vw4 cyI cyJ cyZ cyO h la costs (upd settled q2.toNatClampNeg 1) lands) := hD
            refine lv_aload_n hx hb dX6_leastCost_86 rfl (lv_at hl 1 rfl) ?_
            refine lv_iload hx hb dX6_leastCost_87 (lv_at hl 0 rfl) ?_
            refine lv_aload_n hx hb dX6_leastCost_89 rfl (lv_at hl 2 rfl) ?_
            obtain ⟨q4, hq4, hf⟩ := bd_some hf
            have hC : [0, 1, 2, 3].map (fun i => (vw4 cyI cyJ cyZ cyO h la costs (upd settled q2.toNatClampNeg 1) lands)[i]?) = (vw4 cyI cyJ cyZ cyO h la costs (upd settled q2.toNatClampNeg 1) lands).map some := rfl
            refine cl_v (rn_V (As := [.int q2, .ref la]) (rest := []) (C := RX6) hx hb hml hown hT hK hN hP hD [0, 1, 2, 3] hC rfl (c_X6_spreadFrom l D cyI cyJ cyZ cyO h la H.size costs (upd settled q2.toNatClampNeg 1) lands q2 nf q4 hq4) wm_X6_32 wi_X6_spreadFrom wl_X6_spreadFrom wz_X6 wc_X6_spreadFrom hd_X6_spreadFrom ⟨rfl, rfl⟩ ⟨Nat.le_of_ble_eq_true rfl, Nat.le_of_ble_eq_true rfl⟩ (q0 := 0) (ci := 6) rfl rfl rfl rfl hl.1 rfl (Nat.le_of_ble_eq_true rfl) dX6_leastCost_90 ⟨Nat.zero_le _, Nat.zero_le _⟩) hP hD hS hA [0, 1, 2, 3] hC [(true, 0), (true, 1), (true, 2), (true, 3)] (ws' := vw4 cyI cyJ cyZ cyO h la q4 (upd settled q2.toNatClampNeg 1) lands) rfl rfl rfl (fun H locs hP hD hS => ?_)
            refine lv_iinc (v := (x4 + 1)) (lv' := [(4, .int (x4 + 1)), (5, .int q2), (0, .ref (h 0)), (1, .ref la), (3, .int x3)]) hx hb dX6_leastCost_93 hl (k := 4) rfl rfl (by decide) rfl (fun ls hl => ?_)
            refine lv_goto (tgt := 48) hx hb dX6_leastCost_96 (by decide) ?_
            exact ih48 x3 (x4 + 1) q4 (upd settled q2.toNatClampNeg 1) lands H locs ls hP hD hS (lv_sub hl [2, 3, 4, 0] rfl) hf
          · replace hf := if_t cc hf
            refine lv_goto (tgt := 99) hx hb dX6_leastCost_75 (by decide) ?_
            exact b99 x3 costs settled lands H locs ls hP hD hS (lv_sub hl [1, 3] rfl) hf
  have l3 : ∀ (n3 : Nat) (x2 : Int32) (x3 : Int32) (x4 : Int32) (costs : Nat → Int32) (settled : Nat → Int32) (lands : Nat → Int32) (H : Heap) (locs : List Loc) (ls : Array Slot), va_P D vwCl (vw4 cyI cyJ cyZ cyO h la costs settled lands) H → va_D A (vw4 cyI cyJ cyZ cyO h la costs settled lands) → va_S A s.heap H locs → lv_has ls 6 [(0, .ref (h 0)), (1, .ref la), (2, .int x2), (3, .int x3), (4, .int x4)] → g_X6_leastCost_l3 nf n3 x2 x3 x4 costs settled lands = some q → W p l e ({ frames := 2, cells := 0, slots := 0, locals := 64 } : Room) s m ([.ref (h 0), .ref la, .int p2, .int p3] : List Value).toArray below meth c H locs 0 0 (MQ below (qI D (vw4 cyI cyJ cyZ cyO h la q.2.1 q.2.2 lands) q.1 A) ([.ref (h 0), .ref la, .int p2, .int p3] : List Value).toArray s 0 0 A) (F0 m 3 ls []) := by
    intro n3
    induction n3 with
    | zero =>
      intro x2 x3 x4 costs settled lands H locs ls hP hD hS hl hf
      rw [g_X6_leastCost_l3] at hf
      cases hf
    | succ n3 ih3 =>
      intro x2 x3 x4 costs settled lands H locs ls hP hD hS hl hf
      rw [g_X6_leastCost_l3] at hf
      refine lv_iload hx hb dX6_leastCost_3 (lv_at hl 4 rfl) ?_
      refine lv_bipush (v := 25) hx hb dX6_leastCost_5 (by decide) ?_
      refine lv_icmp_ge (tgt := 33) hx hb dX6_leastCost_7 (by decide) (fun cc => ?_) (fun cc => ?_)
      · replace hf := if_t cc hf
        refine lv_aload_n hx hb dX6_leastCost_33 rfl (lv_at hl 0 rfl) ?_
        refine va_get (ci := 6) (v := .ref (h 1)) (C := RX6) (T := TX6) (N := 2) hx hb hT hin_X6 hown hK hP 0 rfl rfl 0 (by decide) (hT _ wf_X6_9) (fun _ h9 => h9) rfl dX6_leastCost_34 ?_
        refine lv_iload_n hx hb dX6_leastCost_37 rfl (lv_at hl 2 rfl) ?_
        refine lv_aload_n hx hb dX6_leastCost_38 rfl (lv_at hl 1 rfl) ?_
        refine lv_iload_n hx hb dX6_leastCost_39 rfl (lv_at hl 2 rfl) ?_
        obtain ⟨hi, hf⟩ := ck_some hf
        refine va_iald hx hb hK hP 3 0 rfl rfl hi dX6_leastCost_40 ?_
        obtain ⟨q1, hq1, hf⟩ := bd_some hf
        have hC : ([] : List Nat).map (fun i => (vw4 cyI cyJ cyZ cyO h la costs settled lands)[i]?) = ([] : va_W).map some := rfl
        refine cl_i (rn_S (As := [.int (lands x2.toNatClampNeg)]) (rest := [.int x2, .ref (h 1)]) hx hb hml hown hT hK hN hP hD [] hC rfl (c_X6_costOfLand l D cyI cyJ cyZ cyO H.size (lands x2.toNatClampNeg) nf q1 hq1) wm_X6_20 wt_X6_costOfLand wz_X6 wc_X6_costOfLand hd_X6_costOfLand ⟨rfl, rfl⟩ ⟨Nat.le_of_ble_eq_true rfl, Nat.le_of_ble_eq_true rfl⟩ rfl hl.1 rfl (Nat.le_of_ble_eq_true rfl) dX6_leastCost_41 ⟨Nat.zero_le _, Nat.zero_le _⟩) hP hD hS hA [] hC [(false, 0), (false, 1), (false, 2), (false, 3)] (ws' := vw4 cyI cyJ cyZ cyO h la costs settled lands) rfl rfl rfl (fun H locs hP hD hS => ?_)
        obtain ⟨hi, hf⟩ := ck_some hf
        refine va_iast hx hb hK hP hD hS 1 0 rfl rfl hi dX6_leastCost_44 (fun H locs hP hD hS => ?_)
        have hP : va_P D vwCl (vw4 cyI cyJ cyZ cyO h la (upd costs x2.toNatClampNeg q1) settled lands) H := hP
        have hD : va_D A (vw4 cyI cyJ cyZ cyO h la (upd costs x2.toNatClampNeg q1) settled lands) := hD
        refine lv_iconst (v := 0) hx hb dX6_leastCost_45 (by decide) ?_
        refine lv_istore (lv' := [(4, .int 0), (0, .ref (h 0)), (1, .ref la), (2, .int x2), (3, .int x3)]) hx hb dX6_leastCost_46 hl (by decide) rfl (fun ls hl => ?_)
        exact l48 nf x3 0 (upd costs x2.toNatClampNeg q1) settled lands H locs ls hP hD hS (lv_sub hl [1, 2, 4, 0] rfl) hf
      · replace hf := if_f cc hf
        refine lv_aload_n hx hb dX6_leastCost_10 rfl (lv_at hl 0 rfl) ?_
        refine va_get (ci := 6) (v := .ref (h 1)) (C := RX6) (T := TX6) (N := 2) hx hb hT hin_X6 hown hK hP 0 rfl rfl 0 (by decide) (hT _ wf_X6_9) (fun _ h9 => h9) rfl dX6_leastCost_11 ?_
        refine lv_iload hx hb dX6_leastCost_14 (lv_at hl 4 rfl) ?_
        refine lv_ldc (v := 1000000) hx hb hown (hT _ wk_X6_19) dX6_leastCost_16 ?_
        obtain ⟨hi, hf⟩ := ck_some hf
        refine va_iast hx hb hK hP hD hS 1 0 rfl rfl hi dX6_leastCost_18 (fun H locs hP hD hS => ?_)
        have hP : va_P D vwCl (vw4 cyI cyJ cyZ cyO h la (upd costs x4.toNatClampNeg 1000000) settled lands) H := hP
        have hD : va_D A (vw4 cyI cyJ cyZ cyO h la (upd costs x4.toNatClampNeg 1000000) settled lands) := hD
        refine lv_aload_n hx hb dX6_leastCost_19 rfl (lv_at hl 0 rfl) ?_
        refine va_get (ci := 6) (v := .ref (h 2)) (C := RX6) (T := TX6) (N := 2) hx hb hT hin_X6 hown hK hP 0 rfl rfl 1 (by decide) (hT _ wf_X6_15) (fun _ h9 => h9) rfl dX6_leastCost_20 ?_
        refine lv_iload hx hb dX6_leastCost_23 (lv_at hl 4 rfl) ?_
        refine lv_iconst (v := 0) hx hb dX6_leastCost_25 (by decide) ?_
        obtain ⟨hi, hf⟩ := ck_some hf
        obtain ⟨hz, hf⟩ := bz_some hf
        refine va_zast hx hb hK hP hD hS 2 2 rfl rfl hi dX6_leastCost_26 (fun H locs hP hD hS => ?_)
        rw [(bz_nar hz).1] at hP hD
        have hP : va_P D vwCl (vw4 cyI cyJ cyZ cyO h la (upd costs x4.toNatClampNeg 1000000) (upd settled x4.toNatClampNeg 0) lands) H := hP
        have hD : va_D A (vw4 cyI cyJ cyZ cyO h la (upd costs x4.toNatClampNeg 1000000) (upd settled x4.toNatClampNeg 0) lands) := hD
        refine lv_iinc (v := (x4 + 1)) (lv' := [(4, .int (x4 + 1)), (0, .ref (h 0)), (1, .ref la), (2, .int x2), (3, .int x3)]) hx hb dX6_leastCost_27 hl (k := 4) rfl rfl (by decide) rfl (fun ls hl => ?_)
        refine lv_goto (tgt := 3) hx hb dX6_leastCost_30 (by decide) ?_
        exact ih3 x2 x3 (x4 + 1) (upd costs x4.toNatClampNeg 1000000) (upd settled x4.toNatClampNeg 0) lands H locs ls hP hD hS (lv_sub hl [1, 2, 3, 4, 0] rfl) hf
  have main : ∀ (H : Heap) (locs : List Loc) (ls : Array Slot), va_P D vwCl (vw4 cyI cyJ cyZ cyO h la costs settled lands) H → va_D A (vw4 cyI cyJ cyZ cyO h la costs settled lands) → va_S A s.heap H locs → lv_has ls 6 [(0, .ref (h 0)), (1, .ref la), (2, .int p2), (3, .int p3)] → W p l e ({ frames := 2, cells := 0, slots := 0, locals := 64 } : Room) s m ([.ref (h 0), .ref la, .int p2, .int p3] : List Value).toArray below meth c H locs 0 0 (MQ below (qI D (vw4 cyI cyJ cyZ cyO h la q.2.1 q.2.2 lands) q.1 A) ([.ref (h 0), .ref la, .int p2, .int p3] : List Value).toArray s 0 0 A) (F0 m 0 ls []) := by
    intro H locs ls hP hD hS hl
    unfold g_X6_leastCost at hf
    refine lv_iconst (v := 0) hx hb dX6_leastCost_0 (by decide) ?_
    refine lv_istore (lv' := [(4, .int 0), (0, .ref (h 0)), (1, .ref la), (2, .int p2), (3, .int p3)]) hx hb dX6_leastCost_1 hl (by decide) rfl (fun ls hl => ?_)
    exact l3 nf p2 p3 0 costs settled lands H locs ls hP hD hS (lv_sub hl [1, 2, 3, 4, 0] rfl) hf
  have hl := lv_entry ([.ref (h 0), .ref la, .int p2, .int p3]) (n := 6) (Nat.le_of_ble_eq_true rfl)
  rw [lg_entry_eq]
  exact main s.heap [] _ hP hD hS hl
theorem hd_X7_standBehind : yX7_standBehind.cls ≠ "java/lang/invoke/MethodHandle" ∧ yX7_standBehind.cls ≠ "java/lang/invoke/VarHandle" ∧ (parseMethodDescriptor yX7_standBehind.desc).map (fun d => d.parameters.length) = some 1 := by decide +kernel
set_option maxHeartbeats 4000000 in
set_option maxRecDepth 100000 in
theorem c_X7_standBehind (l : Launch) (D : va_G) (cyI cyJ cyZ cyO : ClassId) (sz : Nat) (p0 : Int32) (nf : Nat) (q : Int32) (hf : g_X7_standBehind nf p0 = some q) : Met l yX7_standBehind (Cond.code yX7_standBehind cX7_standBehind 4 (some .int) :: tbG) ({ frames := 1, cells := 0, slots := 0, locals := 21 } : Room) (va_Pc [.int p0] (pcB D (ty4 cyI cyJ cyZ cyO) sz (([] : va_W)))) (qI D (([] : va_W)) q (va_A (([] : va_W)) sz)) 0 0 (va_A (([] : va_W)) sz) := by
  refine Met.ofW (cc := cX7_standBehind) (maxL := 4) (ret := (some .int)) (by decide) rfl ?_
  intro p e s m args below meth c s₁ B hml hv
  obtain ⟨rfl, hsz, hP, hK, hD0, hN⟩ := hv
  have hx := B.exec
  have hb := B.bytes
  have hr := B.returns
  have hT : ∀ w ∈ tbG, w.before ([.int p0] : List Value).toArray s = true := fun w h => atoms_spec (ws := (Cond.code yX7_standBehind cX7_standBehind 4 (some .int) :: tbG)) B.pre w (List.mem_cons_of_mem _ h)
  have hown : s.vm.findClass RX7 = some m.cls := findClass_of_methodNamed B.named
  have hlocks := B.notSynchronized
  subst hsz
  have hD := hD0.self (sz := s.heap.size)
  generalize hAe : va_A (([] : va_W)) s.heap.size = A at hD ⊢
  have hA : ∀ q : Nat, s.heap.size ≤ q → A q := fun q h => by rw [← hAe]; exact Or.inr h
  have hS : va_S A s.heap s.heap [] := va_S.rf
  show W p l e ({ frames := 1, cells := 0, slots := 0, locals := 21 } : Room) s m ([.int p0] : List Value).toArray below meth c s.heap [] 0 0 (MQ below (qI D (([] : va_W)) q A) ([.int p0] : List Value).toArray s 0 0 A) _
  have l2 : ∀ (n2 : Nat) (x0 : Int32) (x1 : Int32) (H : Heap) (locs : List Loc) (ls : Array Slot), va_P D vwCl (([] : va_W)) H → va_D A (([] : va_W)) → va_S A s.heap H locs → lv_has ls 4 [(0, .int x0), (1, .int x1)] → g_X7_standBehind_l2 nf n2 x0 x1 = some q → W p l e ({ frames := 1, cells := 0, slots := 0, locals := 21 } : Room) s m ([.int p0] : List Value).toArray below meth c H locs 0 0 (MQ below (qI D (([] : va_W)) q A) ([.int p0] : List Value).toArray s 0 0 A) (F0 m 2 ls []) := by
    intro n2
    induction n2 with
    | zero =>
      intro x0 x1 H locs ls hP hD hS hl hf
      rw [g_X7_standBehind_l2] at hf
      cases hf
    | succ n2 ih2 =>
      intro x0 x1 H locs ls hP hD hS hl hf
      rw [g_X7_standBehind_l2] at hf
      refine lv_iload_n hx hb dX7_standBehind_2 rfl (lv_at hl 1 rfl) ?_
      refine lv_iconst (v := 4) hx hb dX7_standBehind_3 (by decide) ?_
      refine lv_icmp_ge (tgt := 40) hx hb dX7_standBehind_4 (by decide) (fun cc => ?_) (fun cc => ?_)
      · replace hf := if_t cc hf
        refine lv_iload_n hx hb dX7_standBehind_40 rfl (lv_at hl 0 rfl) ?_
        cases Option.some.inj hf
        exact W.iret hx hb hr (fun t ht hW => ⟨⟨_, (), rfl, rfl, by show va_P D vwCl _ t.heap; rw [ht]; exact hP⟩, hS.F ht⟩) hS.2.2 dX7_standBehind_41
      · replace hf := if_f cc hf
        refine lv_iload_n hx hb dX7_standBehind_7 rfl (lv_at hl 0 rfl) ?_
        refine lv_iload_n hx hb dX7_standBehind_8 rfl (lv_at hl 1 rfl) ?_
        refine lv_iadd hx hb dX7_standBehind_9 ?_
        refine lv_iconst (v := 4) hx hb dX7_standBehind_10 (by decide) ?_
        refine lv_irem hx hb dX7_standBehind_11 (by decide) ?_
        refine lv_istore_n (lv' := [(2, .int ((x0 + x1) - (x0 + x1) / 4 * 4)), (0, .int x0), (1, .int x1)]) hx hb dX7_standBehind_12 rfl hl (by decide) rfl (fun ls hl => ?_)
        refine lv_iload_n hx hb dX7_standBehind_13 rfl (lv_at hl 1 rfl) ?_
        refine lv_iconst (v := 4) hx hb dX7_standBehind_14 (by decide) ?_
        refine lv_idiv hx hb dX7_standBehind_15 (by decide) ?_
        refine lv_iload_n hx hb dX7_standBehind_16 rfl (lv_at hl 0 rfl) ?_
        obtain ⟨q1, hq1, hf⟩ := bd_some hf
        have hC : ([] : List Nat).map (fun i => (([] : va_W))[i]?) = ([] : va_W).map some := rfl
        refine cl_i (rn_SN (As := [.int (x0 / 4), .int ((x0 + x1) - (x0 + x1) / 4 * 4)]) (rest := []) (host := RX8) hx hb hml hown hT hK hN hP hD [] hC rfl (c_X8_beside l D cyI cyJ cyZ cyO H.size (x0 / 4) ((x0 + x1) - (x0 + x1) / 4 * 4) nf q1 hq1) (by decide) wt_X8_beside wz_X8 wc_X8_beside hd_X8_beside ⟨rfl, rfl⟩ ⟨Nat.le_of_ble_eq_true rfl, Nat.le_of_ble_eq_true rfl⟩ rfl hl.1 rfl (Nat.le_of_ble_eq_true rfl) dX7_standBehind_17 ⟨Nat.zero_le _, Nat.zero_le _⟩) hP hD hS hA [] hC [] (ws' := ([] : va_W)) rfl rfl rfl (fun H locs hP hD hS => ?_)
        refine lv_istore_n (lv' := [(3, .int q1), (2, .int ((x0 + x1) - (x0 + x1) / 4 * 4)), (0, .int x0), (1, .int x1)]) hx hb dX7_standBehind_20 rfl hl (by decide) rfl (fun ls hl => ?_)
        refine lv_iload_n hx hb dX7_standBehind_21 rfl (lv_at hl 0 rfl) ?_
        obtain ⟨q2, hq2, hf⟩ := bd_some hf
        have hC : ([] : List Nat).map (fun i => (([] : va_W))[i]?) = ([] : va_W).map some := rfl
        refine cl_i (rn_SN (As := [.int q1]) (rest := []) (host := RX8) hx hb hml hown hT hK hN hP hD [] hC rfl (c_X8_isCell l D cyI cyJ cyZ cyO H.size q1 nf q2 hq2) (by decide) wt_X8_isCell wz_X8 wc_X8_isCell hd_X8_isCell ⟨rfl, rfl⟩ ⟨Nat.le_of_ble_eq_true rfl, Nat.le_of_ble_eq_true rfl⟩ rfl hl.1 rfl (Nat.le_of_ble_eq_true rfl) dX7_standBehind_22 ⟨Nat.zero_le _, Nat.zero_le _⟩) hP hD hS hA [] hC [] (ws' := ([] : va_W)) rfl rfl rfl (fun H locs hP hD hS => ?_)
        refine lv_if_eq (tgt := 34) hx hb dX7_standBehind_25 (by decide) (fun cc => ?_) (fun cc => ?_)
        · replace hf := if_t cc hf
          refine lv_iinc (v := (x1 + 1)) (lv' := [(1, .int (x1 + 1)), (3, .int q1), (2, .int ((x0 + x1) - (x0 + x1) / 4 * 4)), (0, .int x0)]) hx hb dX7_standBehind_34 hl (k := 3) rfl rfl (by decide) rfl (fun ls hl => ?_)
          refine lv_goto (tgt := 2) hx hb dX7_standBehind_37 (by decide) ?_
          exact ih2 x0 (x1 + 1) H locs ls hP hD hS (lv_sub hl [3, 0] rfl) hf
        · replace hf := if_f cc hf
          refine lv_iconst (v := 4) hx hb dX7_standBehind_28 (by decide) ?_
          refine lv_iload_n hx hb dX7_standBehind_29 rfl (lv_at hl 0 rfl) ?_
          refine lv_imul hx hb dX7_standBehind_30 ?_
          refine lv_iload_n hx hb dX7_standBehind_31 rfl (lv_at hl 1 rfl) ?_
          refine lv_iadd hx hb dX7_standBehind_32 ?_
          cases Option.some.inj hf
          exact W.iret hx hb hr (fun t ht hW => ⟨⟨_, (), rfl, rfl, by show va_P D vwCl _ t.heap; rw [ht]; exact hP⟩, hS.F ht⟩) hS.2.2 dX7_standBehind_33
  have main : ∀ (H : Heap) (locs : List Loc) (ls : Array Slot), va_P D vwCl (([] : va_W)) H → va_D A (([] : va_W)) → va_S A s.heap H locs → lv_has ls 4 [(0, .int p0)] → W p l e ({ frames := 1, cells := 0, slots := 0, locals := 21 } : Room) s m ([.int p0] : List Value).toArray below meth c H locs 0 0 (MQ below (qI D (([] : va_W)) q A) ([.int p0] : List Value).toArray s 0 0 A) (F0 m 0 ls []) := by
    intro H locs ls hP hD hS hl
    unfold g_X7_standBehind at hf
    refine lv_iconst (v := 0) hx hb dX7_standBehind_0 (by decide) ?_
    refine lv_istore_n (lv' := [(1, .int 0), (0, .int p0)]) hx hb dX7_standBehind_1 rfl hl (by decide) rfl (fun ls hl => ?_)
    exact l2 nf p0 0 H locs ls hP hD hS (lv_sub hl [1, 0] rfl) hf
  have hl := lv_entry ([.int p0]) (n := 4) (Nat.le_of_ble_eq_true rfl)
  rw [lg_entry_eq]
  exact main s.heap [] _ hP hD hS hl
theorem hd_X7_readSights : yX7_readSights.cls = RX7 ∧ yX7_readSights.cls ≠ "java/lang/invoke/MethodHandle" ∧ yX7_readSights.cls ≠ "java/lang/invoke/VarHandle" ∧ (parseMethodDescriptor yX7_readSights.desc).map (fun d => d.parameters.length) = some 1 := by decide +kernel
set_option maxHeartbeats 4000000 in
set_option maxRecDepth 100000 in
theorem c_X7_readSights (l : Launch) (D : va_G) (cyI cyJ cyZ cyO : ClassId) (h h2 : Nat → Nat) (sz : Nat) (next_ : Nat → Int32) (starts : Nat → Int32) (stands : Nat → Int32) (cellsSeen : Nat → Int32) (inCell : Nat → Int32) (fitting : Int32) (bestNight : Int32) (mostLeft : Int32) (n_lands : Nat → Int32) (n_camphors : Nat → Int32) (n_there : Nat → Int32) (n_mothCells : Nat → Int32) (n_mothHeads : Nat → Int32) (n_threads : Nat → Int32) (n_sightNights : Nat → Int32) (n_sightCells : Nat → Int32) (n_sights : Int32) (n_night : Int32) (n_eaten : Int32) (nf : Nat) (q : (Nat → Int32)) (hf : g_X7_readSights nf cellsSeen n_sightNights n_sightCells n_sights = some q) : Met l yX7_readSights (Cond.code yX7_readSights cX7_readSights 6 none :: tbG) ({ frames := 1, cells := 0, slots := 0, locals := 22 } : Room) (va_Pc [.ref (h 0), .ref (h2 0)] (pcB D (ty4 cyI cyJ cyZ cyO) sz (vw5 cyI cyJ cyZ cyO h h2 next_ starts stands cellsSeen inCell fitting bestNight mostLeft n_lands n_camphors n_there n_mothCells n_mothHeads n_threads n_sightNights n_sightCells n_sights n_night n_eaten))) (qV D (vw5 cyI cyJ cyZ cyO h h2 next_ starts stands q inCell fitting bestNight mostLeft n_lands n_camphors n_there n_mothCells n_mothHeads n_threads n_sightNights n_sightCells n_sights n_night n_eaten) (va_A (vw5 cyI cyJ cyZ cyO h h2 next_ starts stands cellsSeen inCell fitting bestNight mostLeft n_lands n_camphors n_there n_mothCells n_mothHeads n_threads n_sightNights n_sightCells n_sights n_night n_eaten) sz)) 0 0 (va_A (vw5 cyI cyJ cyZ cyO h h2 next_ starts stands cellsSeen inCell fitting bestNight mostLeft n_lands n_camphors n_there n_mothCells n_mothHeads n_threads n_sightNights n_sightCells n_sights n_night n_eaten) sz) := by
  refine Met.ofW (cc := cX7_readSights) (maxL := 6) (ret := none) (by decide) rfl ?_
  intro p e s m args below meth c s₁ B hml hv
  obtain ⟨rfl, hsz, hP, hK, hD0, hN⟩ := hv
  have hx := B.exec
  have hb := B.bytes
  have hr := B.returns
  have hT : ∀ w ∈ tbG, w.before ([.ref (h 0), .ref (h2 0)] : List Value).toArray s = true := fun w h => atoms_spec (ws := (Cond.code yX7_readSights cX7_readSights 6 none :: tbG)) B.pre w (List.mem_cons_of_mem _ h)
  have hown : s.vm.findClass RX7 = some m.cls := findClass_of_methodNamed B.named
  have hlocks := B.notSynchronized
  subst hsz
  have hD := hD0.self (sz := s.heap.size)
  generalize hAe : va_A (vw5 cyI cyJ cyZ cyO h h2 next_ starts stands cellsSeen inCell fitting bestNight mostLeft n_lands n_camphors n_there n_mothCells n_mothHeads n_threads n_sightNights n_sightCells n_sights n_night n_eaten) s.heap.size = A at hD ⊢
  have hA : ∀ q : Nat, s.heap.size ≤ q → A q := fun q h => by rw [← hAe]; exact Or.inr h
  have hS : va_S A s.heap s.heap [] := va_S.rf
  show W p l e ({ frames := 1, cells := 0, slots := 0, locals := 22 } : Room) s m ([.ref (h 0), .ref (h2 0)] : List Value).toArray below meth c s.heap [] 0 0 (MQ below (qV D (vw5 cyI cyJ cyZ cyO h h2 next_ starts stands q inCell fitting bestNight mostLeft n_lands n_camphors n_there n_mothCells n_mothHeads n_threads n_sightNights n_sightCells n_sights n_night n_eaten) A) ([.ref (h 0), .ref (h2 0)] : List Value).toArray s 0 0 A) _
  have l23 : ∀ (n23 : Nat) (x2 : Int32) (cellsSeen : Nat → Int32) (n_sightNights : Nat → Int32) (n_sightCells : Nat → Int32) (n_sights : Int32) (H : Heap) (locs : List Loc) (ls : Array Slot), va_P D vwCl (vw5 cyI cyJ cyZ cyO h h2 next_ starts stands cellsSeen inCell fitting bestNight mostLeft n_lands n_camphors n_there n_mothCells n_mothHeads n_threads n_sightNights n_sightCells n_sights n_night n_eaten) H → va_D A (vw5 cyI cyJ cyZ cyO h h2 next_ starts stands cellsSeen inCell fitting bestNight mostLeft n_lands n_camphors n_there n_mothCells n_mothHeads n_threads n_sightNights n_sightCells n_sights n_night n_eaten) → va_S A s.heap H locs → lv_has ls 6 [(0, .ref (h 0)), (1, .ref (h2 0)), (2, .int x2)] → g_X7_readSights_l23 nf n23 x2 cellsSeen n_sightNights n_sightCells n_sights = some q → W p l e ({ frames := 1, cells := 0, slots := 0, locals := 22 } : Room) s m ([.ref (h 0), .ref (h2 0)] : List Value).toArray below meth c H locs 0 0 (MQ below (qV D (vw5 cyI cyJ cyZ cyO h h2 next_ starts stands q inCell fitting bestNight mostLeft n_lands n_camphors n_there n_mothCells n_mothHeads n_threads n_sightNights n_sightCells n_sights n_night n_eaten) A) ([.ref (h 0), .ref (h2 0)] : List Value).toArray s 0 0 A) (F0 m 23 ls []) := by
    intro n23
    induction n23 with
    | zero =>
      intro x2 cellsSeen n_sightNights n_sightCells n_sights H locs ls hP hD hS hl hf
      rw [g_X7_readSights_l23] at hf
      cases hf
    | succ n23 ih23 =>
      have b111 : ∀ (x2 : Int32) (cellsSeen : Nat → Int32) (n_sightNights : Nat → Int32) (n_sightCells : Nat → Int32) (n_sights : Int32) (H : Heap) (locs : List Loc) (ls : Array Slot), va_P D vwCl (vw5 cyI cyJ cyZ cyO h h2 next_ starts stands cellsSeen inCell fitting bestNight mostLeft n_lands n_camphors n_there n_mothCells n_mothHeads n_threads n_sightNights n_sightCells n_sights n_night n_eaten) H → va_D A (vw5 cyI cyJ cyZ cyO h h2 next_ starts stands cellsSeen inCell fitting bestNight mostLeft n_lands n_camphors n_there n_mothCells n_mothHeads n_threads n_sightNights n_sightCells n_sights n_night n_eaten) → va_S A s.heap H locs → lv_has ls 6 [(0, .ref (h 0)), (1, .ref (h2 0)), (2, .int x2)] → g_X7_readSights_b111 nf (g_X7_readSights_l23 nf n23) x2 cellsSeen n_sightNights n_sightCells n_sights = some q → W p l e ({ frames := 1, cells := 0, slots := 0, locals := 22 } : Room) s m ([.ref (h 0), .ref (h2 0)] : List Value).toArray below meth c H locs 0 0 (MQ below (qV D (vw5 cyI cyJ cyZ cyO h h2 next_ starts stands q inCell fitting bestNight mostLeft n_lands n_camphors n_there n_mothCells n_mothHeads n_threads n_sightNights n_sightCells n_sights n_night n_eaten) A) ([.ref (h 0), .ref (h2 0)] : List Value).toArray s 0 0 A) (F0 m 111 ls []) := by
        intro x2 cellsSeen n_sightNights n_sightCells n_sights H locs ls hP hD hS hl hf
        unfold g_X7_readSights_b111 at hf
        refine lv_iinc (v := (x2 + 1)) (lv' := [(2, .int (x2 + 1)), (0, .ref (h 0)), (1, .ref (h2 0))]) hx hb dX7_readSights_111 hl (k := 2) rfl rfl (by decide) rfl (fun ls hl => ?_)
        refine lv_goto (tgt := 23) hx hb dX7_readSights_114 (by decide) ?_
        exact ih23 (x2 + 1) cellsSeen n_sightNights n_sightCells n_sights H locs ls hP hD hS (lv_sub hl [1, 2, 0] rfl) hf
      have b110 : ∀ (x2 : Int32) (s1 : Int32) (s2 : Int32) (cellsSeen : Nat → Int32) (n_sightNights : Nat → Int32) (n_sightCells : Nat → Int32) (n_sights : Int32) (H : Heap) (locs : List Loc) (ls : Array Slot), va_P D vwCl (vw5 cyI cyJ cyZ cyO h h2 next_ starts stands cellsSeen inCell fitting bestNight mostLeft n_lands n_camphors n_there n_mothCells n_mothHeads n_threads n_sightNights n_sightCells n_sights n_night n_eaten) H → va_D A (vw5 cyI cyJ cyZ cyO h h2 next_ starts stands cellsSeen inCell fitting bestNight mostLeft n_lands n_camphors n_there n_mothCells n_mothHeads n_threads n_sightNights n_sightCells n_sights n_night n_eaten) → va_S A s.heap H locs → lv_has ls 6 [(0, .ref (h 0)), (1, .ref (h2 0)), (2, .int x2)] → g_X7_readSights_b110 nf (g_X7_readSights_l23 nf n23) x2 s1 s2 cellsSeen n_sightNights n_sightCells n_sights = some q → W p l e ({ frames := 1, cells := 0, slots := 0, locals := 22 } : Room) s m ([.ref (h 0), .ref (h2 0)] : List Value).toArray below meth c H locs 0 0 (MQ below (qV D (vw5 cyI cyJ cyZ cyO h h2 next_ starts stands q inCell fitting bestNight mostLeft n_lands n_camphors n_there n_mothCells n_mothHeads n_threads n_sightNights n_sightCells n_sights n_night n_eaten) A) ([.ref (h 0), .ref (h2 0)] : List Value).toArray s 0 0 A) (F0 m 110 ls [.int s2, .int s1, .ref (h 4)]) := by
        intro x2 s1 s2 cellsSeen n_sightNights n_sightCells n_sights H locs ls hP hD hS hl hf
        unfold g_X7_readSights_b110 at hf
        obtain ⟨hi, hf⟩ := ck_some hf
        refine va_iast hx hb hK hP hD hS 4 0 rfl rfl hi dX7_readSights_110 (fun H locs hP hD hS => ?_)
        have hP : va_P D vwCl (vw5 cyI cyJ cyZ cyO h h2 next_ starts stands (upd cellsSeen s1.toNatClampNeg s2) inCell fitting bestNight mostLeft n_lands n_camphors n_there n_mothCells n_mothHeads n_threads n_sightNights n_sightCells n_sights n_night n_eaten) H := hP
        have hD : va_D A (vw5 cyI cyJ cyZ cyO h h2 next_ starts stands (upd cellsSeen s1.toNatClampNeg s2) inCell fitting bestNight mostLeft n_lands n_camphors n_there n_mothCells n_mothHeads n_threads n_sightNights n_sightCells n_sights n_night n_eaten) := hD
        exact b111 x2 (upd cellsSeen s1.toNatClampNeg s2) n_sightNights n_sightCells n_sights H locs ls hP hD hS (lv_sub hl [0, 1, 2] rfl) hf
      have b91 : ∀ (x2 : Int32) (x3 : Int32) (x4 : Int32) (s0 : Int32) (cellsSeen : Nat → Int32) (n_sightNights : Nat → Int32) (n_sightCells : Nat → Int32) (n_sights : Int32) (H : Heap) (locs : List Loc) (ls : Array Slot), va_P D vwCl (vw5 cyI cyJ cyZ cyO h h2 next_ starts stands cellsSeen inCell fitting bestNight mostLeft n_lands n_camphors n_there n_mothCells n_mothHeads n_threads n_sightNights n_sightCells n_sights n_night n_eaten) H → va_D A (vw5 cyI cyJ cyZ cyO h h2 next_ starts stands cellsSeen inCell fitting bestNight mostLeft n_lands n_camphors n_there n_mothCells n_mothHeads n_threads n_sightNights n_sightCells n_sights n_night n_eaten) → va_S A s.heap H locs → lv_has ls 6 [(0, .ref (h 0)), (1, .ref (h2 0)), (2, .int x2), (3, .int x3), (4, .int x4)] → g_X7_readSights_b91 nf (g_X7_readSights_l23 nf n23) x2 x3 x4 s0 cellsSeen n_sightNights n_sightCells n_sights = some q → W p l e ({ frames := 1, cells := 0, slots := 0, locals := 22 } : Room) s m ([.ref (h 0), .ref (h2 0)] : List Value).toArray below meth c H locs 0 0 (MQ below (qV D (vw5 cyI cyJ cyZ cyO h h2 next_ starts stands q inCell fitting bestNight mostLeft n_lands n_camphors n_there n_mothCells n_mothHeads n_threads n_sightNights n_sightCells n_sights n_night n_eaten) A) ([.ref (h 0), .ref (h2 0)] : List Value).toArray s 0 0 A) (F0 m 91 ls [.int s0]) := by
        intro x2 x3 x4 s0 cellsSeen n_sightNights n_sightCells n_sights H locs ls hP hD hS hl hf
        unfold g_X7_readSights_b91 at hf
        refine lv_istore (lv' := [(5, .int s0), (0, .ref (h 0)), (1, .ref (h2 0)), (2, .int x2), (3, .int x3), (4, .int x4)]) hx hb dX7_readSights_91 hl (by decide) rfl (fun ls hl => ?_)
        refine lv_aload_n hx hb dX7_readSights_93 rfl (lv_at hl 1 rfl) ?_
        refine va_get (ci := 7) (v := .ref (h 4)) (C := RX7) (T := TX7) (N := 8) hx hb hT hin_X7 hown hK hP 0 rfl rfl 3 (by decide) (hT _ wf_X7_21) (fun _ h9 => h9) rfl dX7_readSights_94 ?_
        refine lv_iload_n hx hb dX7_readSights_97 rfl (lv_at hl 4 rfl) ?_
        refine lv_iload hx hb dX7_readSights_98 (lv_at hl 0 rfl) ?_
        refine lv_if_eq (tgt := 108) hx hb dX7_readSights_100 (by decide) (fun cc => ?_) (fun cc => ?_)
        · replace hf := if_t cc hf
          refine lv_bipush (v := (-2)) hx hb dX7_readSights_108 (by decide) ?_
          exact b110 x2 x3 (-2) cellsSeen n_sightNights n_sightCells n_sights H locs ls hP hD hS (lv_sub hl [1, 2, 3] rfl) hf
        · replace hf := if_f cc hf
          refine lv_iload hx hb dX7_readSights_103 (lv_at hl 5 rfl) ?_
          refine lv_goto (tgt := 110) hx hb dX7_readSights_105 (by decide) ?_
          exact b110 x2 x3 x4 cellsSeen n_sightNights n_sightCells n_sights H locs ls hP hD hS (lv_sub hl [1, 2, 3] rfl) hf
      have b86 : ∀ (x2 : Int32) (x3 : Int32) (x4 : Int32) (cellsSeen : Nat → Int32) (n_sightNights : Nat → Int32) (n_sightCells : Nat → Int32) (n_sights : Int32) (H : Heap) (locs : List Loc) (ls : Array Slot), va_P D vwCl (vw5 cyI cyJ cyZ cyO h h2 next_ starts stands cellsSeen inCell fitting bestNight mostLeft n_lands n_camphors n_there n_mothCells n_mothHeads n_threads n_sightNights n_sightCells n_sights n_night n_eaten) H → va_D A (vw5 cyI cyJ cyZ cyO h h2 next_ starts stands cellsSeen inCell fitting bestNight mostLeft n_lands n_camphors n_there n_mothCells n_mothHeads n_threads n_sightNights n_sightCells n_sights n_night n_eaten) → va_S A s.heap H locs → lv_has ls 6 [(0, .ref (h 0)), (1, .ref (h2 0)), (2, .int x2), (3, .int x3), (4, .int x4)] → g_X7_readSights_b86 nf (g_X7_readSights_l23 nf n23) x2 x3 x4 cellsSeen n_sightNights n_sightCells n_sights = some q → W p l e ({ frames := 1, cells := 0, slots := 0, locals := 22 } : Room) s m ([.ref (h 0), .ref (h2 0)] : List Value).toArray below meth c H locs 0 0 (MQ below (qV D (vw5 cyI cyJ cyZ cyO h h2 next_ starts stands q inCell fitting bestNight mostLeft n_lands n_camphors n_there n_mothCells n_mothHeads n_threads n_sightNights n_sightCells n_sights n_night n_eaten) A) ([.ref (h 0), .ref (h2 0)] : List Value).toArray s 0 0 A) (F0 m 86 ls []) := by
        intro x2 x3 x4 cellsSeen n_sightNights n_sightCells n_sights H locs ls hP hD hS hl hf
        unfold g_X7_readSights_b86 at hf
        refine lv_iconst (v := 1) hx hb dX7_readSights_86 (by decide) ?_
        refine lv_goto (tgt := 91) hx hb dX7_readSights_87 (by decide) ?_
        exact b91 x2 x3 x4 1 cellsSeen n_sightNights n_sightCells n_sights H locs ls hP hD hS (lv_sub hl [0, 1, 2, 3, 4] rfl) hf
      intro x2 cellsSeen n_sightNights n_sightCells n_sights H locs ls hP hD hS hl hf
      rw [g_X7_readSights_l23] at hf
      refine lv_iload_n hx hb dX7_readSights_23 rfl (lv_at hl 2 rfl) ?_
      refine lv_bipush (v := 8) hx hb dX7_readSights_24 (by decide) ?_
      refine lv_icmp_ge (tgt := 117) hx hb dX7_readSights_26 (by decide) (fun cc => ?_) (fun cc => ?_)
      · replace hf := if_t cc hf
        cases Option.some.inj hf
        exact W.vret hx hb hr (fun t ht hW => ⟨⟨(), rfl, trivial, by show va_P D vwCl _ t.heap; rw [ht]; exact hP⟩, hS.F ht⟩) hS.2.2 dX7_readSights_117
      · replace hf := if_f cc hf
        refine lv_iload_n hx hb dX7_readSights_29 rfl (lv_at hl 2 rfl) ?_
        refine lv_aload_n hx hb dX7_readSights_30 rfl (lv_at hl 1 rfl) ?_
        refine va_get (ci := 1) (v := .int n_sights) (C := RX1) (T := TX1) (N := 11) hx hb hT hin_X1 hown hK hP 6 rfl rfl 8 (by decide) (hT _ wf_X7_50) (fun _ h9 => h9) rfl dX7_readSights_31 ?_
        refine lv_icmp_ge (tgt := 117) hx hb dX7_readSights_34 (by decide) (fun cc => ?_) (fun cc => ?_)
        · replace hf := if_t cc hf
          cases Option.some.inj hf
          exact W.vret hx hb hr (fun t ht hW => ⟨⟨(), rfl, trivial, by show va_P D vwCl _ t.heap; rw [ht]; exact hP⟩, hS.F ht⟩) hS.2.2 dX7_readSights_117
        · replace hf := if_f cc hf
          refine lv_aload_n hx hb dX7_readSights_37 rfl (lv_at hl 1 rfl) ?_
          refine va_get (ci := 1) (v := .ref (h2 7)) (C := RX1) (T := TX1) (N := 11) hx hb hT hin_X1 hown hK hP 6 rfl rfl 6 (by decide) (hT _ wf_X7_55) (fun _ h9 => h9) rfl dX7_readSights_38 ?_
          refine lv_iload_n hx hb dX7_readSights_41 rfl (lv_at hl 2 rfl) ?_
          obtain ⟨hi, hf⟩ := ck_some hf
          refine va_iald hx hb hK hP 13 0 rfl rfl hi dX7_readSights_42 ?_
          refine lv_istore_n (lv' := [(3, .int (n_sightNights x2.toNatClampNeg)), (0, .ref (h 0)), (1, .ref (h2 0)), (2, .int x2)]) hx hb dX7_readSights_43 rfl hl (by decide) rfl (fun ls hl => ?_)
          refine lv_aload_n hx hb dX7_readSights_44 rfl (lv_at hl 2 rfl) ?_
          refine va_get (ci := 1) (v := .ref (h2 8)) (C := RX1) (T := TX1) (N := 11) hx hb hT hin_X1 hown hK hP 6 rfl rfl 7 (by decide) (hT _ wf_X7_58) (fun _ h9 => h9) rfl dX7_readSights_45 ?_
          refine lv_iload_n hx hb dX7_readSights_48 rfl (lv_at hl 3 rfl) ?_
          obtain ⟨hi, hf⟩ := ck_some hf
          refine va_iald hx hb hK hP 14 0 rfl rfl hi dX7_readSights_49 ?_
          refine lv_istore (lv' := [(4, .int (n_sightCells x2.toNatClampNeg)), (3, .int (n_sightNights x2.toNatClampNeg)), (0, .ref (h 0)), (1, .ref (h2 0)), (2, .int x2)]) hx hb dX7_readSights_50 hl (by decide) rfl (fun ls hl => ?_)
          refine lv_iload_n hx hb dX7_readSights_52 rfl (lv_at hl 1 rfl) ?_
          refine lv_iconst (v := 0) hx hb dX7_readSights_53 (by decide) ?_
          refine lv_bipush (v := 40) hx hb dX7_readSights_54 (by decide) ?_
          obtain ⟨q1, hq1, hf⟩ := bd_some hf
          have hC : ([] : List Nat).map (fun i => (vw5 cyI cyJ cyZ cyO h h2 next_ starts stands cellsSeen inCell fitting bestNight mostLeft n_lands n_camphors n_there n_mothCells n_mothHeads n_threads n_sightNights n_sightCells n_sights n_night n_eaten)[i]?) = ([] : va_W).map some := rfl
          refine cl_i (rn_SN (As := [.int (n_sightNights x2.toNatClampNeg), .int 0, .int 40]) (rest := []) (host := RX8) hx hb hml hown hT hK hN hP hD [] hC rfl (c_X8_within l D cyI cyJ cyZ cyO H.size (n_sightNights x2.toNatClampNeg) 0 40 nf q1 hq1) (by decide) wt_X8_within wz_X8 wc_X8_within hd_X8_within ⟨rfl, rfl⟩ ⟨Nat.le_of_ble_eq_true rfl, Nat.le_of_ble_eq_true rfl⟩ rfl hl.1 rfl (Nat.le_of_ble_eq_true rfl) dX7_readSights_56 ⟨Nat.zero_le _, Nat.zero_le _⟩) hP hD hS hA [] hC [(false, 0), (false, 1), (false, 2), (false, 3), (false, 4), (false, 5), (false, 6), (false, 7), (false, 8), (false, 9), (false, 10), (false, 11), (false, 12), (false, 13), (false, 14)] (ws' := vw5 cyI cyJ cyZ cyO h h2 next_ starts stands cellsSeen inCell fitting bestNight mostLeft n_lands n_camphors n_there n_mothCells n_mothHeads n_threads n_sightNights n_sightCells n_sights n_night n_eaten) rfl rfl rfl (fun H locs hP hD hS => ?_)
          refine lv_if_ne (tgt := 65) hx hb dX7_readSights_59 (by decide) (fun cc => ?_) (fun cc => ?_)
          · replace hf := if_f cc hf
            refine lv_aload_n hx hb dX7_readSights_65 rfl (lv_at hl 2 rfl) ?_
            refine va_get (ci := 7) (v := .ref (h 4)) (C := RX7) (T := TX7) (N := 8) hx hb hT hin_X7 hown hK hP 0 rfl rfl 3 (by decide) (hT _ wf_X7_21) (fun _ h9 => h9) rfl dX7_readSights_66 ?_
            refine lv_iload_n hx hb dX7_readSights_69 rfl (lv_at hl 1 rfl) ?_
            obtain ⟨hi, hf⟩ := ck_some hf
            refine va_iald hx hb hK hP 4 0 rfl rfl hi dX7_readSights_70 ?_
            refine lv_iconst (v := (-1)) hx hb dX7_readSights_71 (by decide) ?_
            refine lv_icmp_eq (tgt := 86) hx hb dX7_readSights_72 (by decide) (fun cc => ?_) (fun cc => ?_)
            · replace hf := if_t cc hf
              exact b86 x2 (n_sightNights x2.toNatClampNeg) (n_sightCells x2.toNatClampNeg) cellsSeen n_sightNights n_sightCells n_sights H locs ls hP hD hS (lv_sub hl [2, 3, 4, 1, 0] rfl) hf
            · replace hf := if_f cc hf
              refine lv_aload_n hx hb dX7_readSights_75 rfl (lv_at hl 2 rfl) ?_
              refine va_get (ci := 7) (v := .ref (h 4)) (C := RX7) (T := TX7) (N := 8) hx hb hT hin_X7 hown hK hP 0 rfl rfl 3 (by decide) (hT _ wf_X7_21) (fun _ h9 => h9) rfl dX7_readSights_76 ?_
              refine lv_iload_n hx hb dX7_readSights_79 rfl (lv_at hl 1 rfl) ?_
              obtain ⟨hi, hf⟩ := ck_some hf
              refine va_iald hx hb hK hP 4 0 rfl rfl hi dX7_readSights_80 ?_
              refine lv_iload hx hb dX7_readSights_81 (lv_at hl 0 rfl) ?_
              refine lv_icmp_ne (tgt := 90) hx hb dX7_readSights_83 (by decide) (fun cc => ?_) (fun cc => ?_)
              · replace hf := if_f cc hf
                refine lv_iconst (v := 0) hx hb dX7_readSights_90 (by decide) ?_
                exact b91 x2 (n_sightNights x2.toNatClampNeg) (n_sightCells x2.toNatClampNeg) 0 cellsSeen n_sightNights n_sightCells n_sights H locs ls hP hD hS (lv_sub hl [2, 3, 4, 1, 0] rfl) hf
              · replace hf := if_t cc hf
                exact b86 x2 (n_sightNights x2.toNatClampNeg) (n_sightCells x2.toNatClampNeg) cellsSeen n_sightNights n_sightCells n_sights H locs ls hP hD hS (lv_sub hl [2, 3, 4, 1, 0] rfl) hf
          · replace hf := if_t cc hf
            refine lv_goto (tgt := 111) hx hb dX7_readSights_62 (by decide) ?_
            exact b111 x2 cellsSeen n_sightNights n_sightCells n_sights H locs ls hP hD hS (lv_sub hl [2, 3, 4] rfl) hf
  have l2 : ∀ (n2 : Nat) (x2 : Int32) (cellsSeen : Nat → Int32) (n_sightNights : Nat → Int32) (n_sightCells : Nat → Int32) (n_sights : Int32) (H : Heap) (locs : List Loc) (ls : Array Slot), va_P D vwCl (vw5 cyI cyJ cyZ cyO h h2 next_ starts stands cellsSeen inCell fitting bestNight mostLeft n_lands n_camphors n_there n_mothCells n_mothHeads n_threads n_sightNights n_sightCells n_sights n_night n_eaten) H → va_D A (vw5 cyI cyJ cyZ cyO h h2 next_ starts stands cellsSeen inCell fitting bestNight mostLeft n_lands n_camphors n_there n_mothCells n_mothHeads n_threads n_sightNights n_sightCells n_sights n_night n_eaten) → va_S A s.heap H locs → lv_has ls 6 [(0, .ref (h 0)), (1, .ref (h2 0)), (2, .int x2)] → g_X7_readSights_l2 nf n2 x2 cellsSeen n_sightNights n_sightCells n_sights = some q → W p l e ({ frames := 1, cells := 0, slots := 0, locals := 22 } : Room) s m ([.ref (h 0), .ref (h2 0)] : List Value).toArray below meth c H locs 0 0 (MQ below (qV D (vw5 cyI cyJ cyZ cyO h h2 next_ starts stands q inCell fitting bestNight mostLeft n_lands n_camphors n_there n_mothCells n_mothHeads n_threads n_sightNights n_sightCells n_sights n_night n_eaten) A) ([.ref (h 0), .ref (h2 0)] : List Value).toArray s 0 0 A) (F0 m 2 ls []) := by
    intro n2
    induction n2 with
    | zero =>
      intro x2 cellsSeen n_sightNights n_sightCells n_sights H locs ls hP hD hS hl hf
      rw [g_X7_readSights_l2] at hf
      cases hf
    | succ n2 ih2 =>
      intro x2 cellsSeen n_sightNights n_sightCells n_sights H locs ls hP hD hS hl hf
      rw [g_X7_readSights_l2] at hf
      refine lv_iload_n hx hb dX7_readSights_2 rfl (lv_at hl 2 rfl) ?_
      refine lv_bipush (v := 41) hx hb dX7_readSights_3 (by decide) ?_
      refine lv_icmp_ge (tgt := 21) hx hb dX7_readSights_5 (by decide) (fun cc => ?_) (fun cc => ?_)
      · replace hf := if_t cc hf
        refine lv_iconst (v := 0) hx hb dX7_readSights_21 (by decide) ?_
        refine lv_istore_n (lv' := [(2, .int 0), (0, .ref (h 0)), (1, .ref (h2 0))]) hx hb dX7_readSights_22 rfl hl (by decide) rfl (fun ls hl => ?_)
        exact l23 nf 0 cellsSeen n_sightNights n_sightCells n_sights H locs ls hP hD hS (lv_sub hl [1, 2, 0] rfl) hf
      · replace hf := if_f cc hf
        refine lv_aload_n hx hb dX7_readSights_8 rfl (lv_at hl 0 rfl) ?_
        refine va_get (ci := 7) (v := .ref (h 4)) (C := RX7) (T := TX7) (N := 8) hx hb hT hin_X7 hown hK hP 0 rfl rfl 3 (by decide) (hT _ wf_X7_21) (fun _ h9 => h9) rfl dX7_readSights_9 ?_
        refine lv_iload_n hx hb dX7_readSights_12 rfl (lv_at hl 2 rfl) ?_
        refine lv_iconst (v := (-1)) hx hb dX7_readSights_13 (by decide) ?_
        obtain ⟨hi, hf⟩ := ck_some hf
        refine va_iast hx hb hK hP hD hS 4 0 rfl rfl hi dX7_readSights_14 (fun H locs hP hD hS => ?_)
        have hP : va_P D vwCl (vw5 cyI cyJ cyZ cyO h h2 next_ starts stands (upd cellsSeen x2.toNatClampNeg (-1)) inCell fitting bestNight mostLeft n_lands n_camphors n_there n_mothCells n_mothHeads n_threads n_sightNights n_sightCells n_sights n_night n_eaten) H := hP
        have hD : va_D A (vw5 cyI cyJ cyZ cyO h h2 next_ starts stands (upd cellsSeen x2.toNatClampNeg (-1)) inCell fitting bestNight mostLeft n_lands n_camphors n_there n_mothCells n_mothHeads n_threads n_sightNights n_sightCells n_sights n_night n_eaten) := hD
        refine lv_iinc (v := (x2 + 1)) (lv' := [(2, .int (x2 + 1)), (0, .ref (h 0)), (1, .ref (h2 0))]) hx hb dX7_readSights_15 hl (k := 2) rfl rfl (by decide) rfl (fun ls hl => ?_)
        refine lv_goto (tgt := 2) hx hb dX7_readSights_18 (by decide) ?_
        exact ih2 (x2 + 1) (upd cellsSeen x2.toNatClampNeg (-1)) n_sightNights n_sightCells n_sights H locs ls hP hD hS (lv_sub hl [1, 2, 0] rfl) hf
  have main : ∀ (H : Heap) (locs : List Loc) (ls : Array Slot), va_P D vwCl (vw5 cyI cyJ cyZ cyO h h2 next_ starts stands cellsSeen inCell fitting bestNight mostLeft n_lands n_camphors n_there n_mothCells n_mothHeads n_threads n_sightNights n_sightCells n_sights n_night n_eaten) H → va_D A (vw5 cyI cyJ cyZ cyO h h2 next_ starts stands cellsSeen inCell fitting bestNight mostLeft n_lands n_camphors n_there n_mothCells n_mothHeads n_threads n_sightNights n_sightCells n_sights n_night n_eaten) → va_S A s.heap H locs → lv_has ls 6 [(0, .ref (h 0)), (1, .ref (h2 0))] → W p l e ({ frames := 1, cells := 0, slots := 0, locals := 22 } : Room) s m ([.ref (h 0), .ref (h2 0)] : List Value).toArray below meth c H locs 0 0 (MQ below (qV D (vw5 cyI cyJ cyZ cyO h h2 next_ starts stands q inCell fitting bestNight mostLeft n_lands n_camphors n_there n_mothCells n_mothHeads n_threads n_sightNights n_sightCells n_sights n_night n_eaten) A) ([.ref (h 0), .ref (h2 0)] : List Value).toArray s 0 0 A) (F0 m 0 ls []) := by
    intro H locs ls hP hD hS hl
    unfold g_X7_readSights at hf
    refine lv_iconst (v := 0) hx hb dX7_readSights_0 (by decide) ?_
    refine lv_istore_n (lv' := [(2, .int 0), (0, .ref (h 0)), (1, .ref (h2 0))]) hx hb dX7_readSights_1 rfl hl (by decide) rfl (fun ls hl => ?_)
    exact l2 nf 0 cellsSeen n_sightNights n_sightCells n_sights H locs ls hP hD hS (lv_sub hl [1, 2, 0] rfl) hf
  have hl := lv_entry ([.ref (h 0), .ref (h2 0)]) (n := 6) (Nat.le_of_ble_eq_true rfl)
  rw [lg_entry_eq]
  exact main s.heap [] _ hP hD hS hl
theorem hd_X7_fits : yX7_fits.cls = RX7 ∧ yX7_fits.cls ≠ "java/lang/invoke/MethodHandle" ∧ yX7_fits.cls ≠ "java/lang/invoke/VarHandle" ∧ (parseMethodDescriptor yX7_fits.desc).map (fun d => d.parameters.length) = some 1 := by decide +kernel
set_option maxHeartbeats 4000000 in
set_option maxRecDepth 100000 in
theorem c_X7_fits (l : Launch) (D : va_G) (cyI cyJ cyZ cyO : ClassId) (h : Nat → Nat) (sz : Nat) (next_ : Nat → Int32) (starts : Nat → Int32) (stands : Nat → Int32) (cellsSeen : Nat → Int32) (inCell : Nat → Int32) (fitting : Int32) (bestNight : Int32) (mostLeft : Int32) (p1 : Int32) (nf : Nat) (q : Int32) (hf : g_X7_fits nf p1 next_ cellsSeen = some q) : Met l yX7_fits (Cond.code yX7_fits cX7_fits 4 (some .boolean) :: tbG) ({ frames := 0, cells := 0, slots := 0, locals := 0 } : Room) (va_Pc [.ref (h 0), .int p1] (pcB D (ty4 cyI cyJ cyZ cyO) sz (wX7 cyI cyJ cyZ cyO h next_ starts stands cellsSeen inCell fitting bestNight mostLeft))) (qI D (wX7 cyI cyJ cyZ cyO h next_ starts stands cellsSeen inCell fitting bestNight mostLeft) q (va_A (wX7 cyI cyJ cyZ cyO h next_ starts stands cellsSeen inCell fitting bestNight mostLeft) sz)) 0 0 (va_A (wX7 cyI cyJ cyZ cyO h next_ starts stands cellsSeen inCell fitting bestNight mostLeft) sz) := by
  refine Met.ofW (cc := cX7_fits) (maxL := 4) (ret := (some .boolean)) (by decide) rfl ?_
  intro p e s m args below meth c s₁ B hml hv
  obtain ⟨rfl, hsz, hP, hK, hD0, hN⟩ := hv
  have hx := B.exec
  have hb := B.bytes
  have hr := B.returns
  have hT : ∀ w ∈ tbG, w.before ([.ref (h 0), .int p1] : List Value).toArray s = true := fun w h => atoms_spec (ws := (Cond.code yX7_fits cX7_fits 4 (some .boolean) :: tbG)) B.pre w (List.mem_cons_of_mem _ h)
  have hown : s.vm.findClass RX7 = some m.cls := findClass_of_methodNamed B.named
  have hlocks := B.notSynchronized
  subst hsz
  have hD := hD0.self (sz := s.heap.size)
  generalize hAe : va_A (wX7 cyI cyJ cyZ cyO h next_ starts stands cellsSeen inCell fitting bestNight mostLeft) s.heap.size = A at hD ⊢
  have hA : ∀ q : Nat, s.heap.size ≤ q → A q := fun q h => by rw [← hAe]; exact Or.inr h
  have hS : va_S A s.heap s.heap [] := va_S.rf
  show W p l e ({ frames := 0, cells := 0, slots := 0, locals := 0 } : Room) s m ([.ref (h 0), .int p1] : List Value).toArray below meth c s.heap [] 0 0 (MQ below (qI D (wX7 cyI cyJ cyZ cyO h next_ starts stands cellsSeen inCell fitting bestNight mostLeft) q A) ([.ref (h 0), .int p1] : List Value).toArray s 0 0 A) _
  have l4 : ∀ (n4 : Nat) (x2 : Int32) (x3 : Int32) (next_ : Nat → Int32) (cellsSeen : Nat → Int32) (H : Heap) (locs : List Loc) (ls : Array Slot), va_P D vwCl (wX7 cyI cyJ cyZ cyO h next_ starts stands cellsSeen inCell fitting bestNight mostLeft) H → va_D A (wX7 cyI cyJ cyZ cyO h next_ starts stands cellsSeen inCell fitting bestNight mostLeft) → va_S A s.heap H locs → lv_has ls 4 [(0, .ref (h 0)), (2, .int x2), (3, .int x3)] → g_X7_fits_l4 nf n4 x2 x3 next_ cellsSeen = some q → W p l e ({ frames := 0, cells := 0, slots := 0, locals := 0 } : Room) s m ([.ref (h 0), .int p1] : List Value).toArray below meth c H locs 0 0 (MQ below (qI D (wX7 cyI cyJ cyZ cyO h next_ starts stands cellsSeen inCell fitting bestNight mostLeft) q A) ([.ref (h 0), .int p1] : List Value).toArray s 0 0 A) (F0 m 4 ls []) := by
    intro n4
    induction n4 with
    | zero =>
      intro x2 x3 next_ cellsSeen H locs ls hP hD hS hl hf
      rw [g_X7_fits_l4] at hf
      cases hf
    | succ n4 ih4 =>
      have b34 : ∀ (x2 : Int32) (x3 : Int32) (next_ : Nat → Int32) (cellsSeen : Nat → Int32) (H : Heap) (locs : List Loc) (ls : Array Slot), va_P D vwCl (wX7 cyI cyJ cyZ cyO h next_ starts stands cellsSeen inCell fitting bestNight mostLeft) H → va_D A (wX7 cyI cyJ cyZ cyO h next_ starts stands cellsSeen inCell fitting bestNight mostLeft) → va_S A s.heap H locs → lv_has ls 4 [(0, .ref (h 0)), (2, .int x2), (3, .int x3)] → g_X7_fits_b34 nf (g_X7_fits_l4 nf n4) x2 x3 next_ cellsSeen = some q → W p l e ({ frames := 0, cells := 0, slots := 0, locals := 0 } : Room) s m ([.ref (h 0), .int p1] : List Value).toArray below meth c H locs 0 0 (MQ below (qI D (wX7 cyI cyJ cyZ cyO h next_ starts stands cellsSeen inCell fitting bestNight mostLeft) q A) ([.ref (h 0), .int p1] : List Value).toArray s 0 0 A) (F0 m 34 ls []) := by
        intro x2 x3 next_ cellsSeen H locs ls hP hD hS hl hf
        unfold g_X7_fits_b34 at hf
        refine lv_aload_n hx hb dX7_fits_34 rfl (lv_at hl 0 rfl) ?_
        refine va_get (ci := 7) (v := .ref (h 1)) (C := RX7) (T := TX7) (N := 8) hx hb hT hin_X7 hown hK hP 0 rfl rfl 0 (by decide) (hT _ wf_X7_11) (fun _ h9 => h9) rfl dX7_fits_35 ?_
        refine lv_iload_n hx hb dX7_fits_38 rfl (lv_at hl 1 rfl) ?_
        obtain ⟨hi, hf⟩ := ck_some hf
        refine va_iald hx hb hK hP 1 0 rfl rfl hi dX7_fits_39 ?_
        refine lv_istore_n (lv' := [(2, .int (next_ x2.toNatClampNeg)), (0, .ref (h 0)), (3, .int x3)]) hx hb dX7_fits_40 rfl hl (by decide) rfl (fun ls hl => ?_)
        refine lv_iinc (v := (x3 + 1)) (lv' := [(3, .int (x3 + 1)), (2, .int (next_ x2.toNatClampNeg)), (0, .ref (h 0))]) hx hb dX7_fits_41 hl (k := 2) rfl rfl (by decide) rfl (fun ls hl => ?_)
        refine lv_goto (tgt := 4) hx hb dX7_fits_44 (by decide) ?_
        exact ih4 (next_ x2.toNatClampNeg) (x3 + 1) next_ cellsSeen H locs ls hP hD hS (lv_sub hl [2, 1, 0] rfl) hf
      intro x2 x3 next_ cellsSeen H locs ls hP hD hS hl hf
      rw [g_X7_fits_l4] at hf
      refine lv_iload_n hx hb dX7_fits_4 rfl (lv_at hl 2 rfl) ?_
      refine lv_bipush (v := 41) hx hb dX7_fits_5 (by decide) ?_
      refine lv_icmp_ge (tgt := 47) hx hb dX7_fits_7 (by decide) (fun cc => ?_) (fun cc => ?_)
      · replace hf := if_t cc hf
        refine lv_iconst (v := 1) hx hb dX7_fits_47 (by decide) ?_
        obtain ⟨hz, hf⟩ := bz_some hf
        cases Option.some.inj hf
        exact W.zret hx hb hr (bz_nar hz).2 (fun t ht hW => ⟨⟨_, (), rfl, rfl, by show va_P D vwCl _ t.heap; rw [ht]; exact hP⟩, hS.F ht⟩) hS.2.2 dX7_fits_48
      · replace hf := if_f cc hf
        refine lv_aload_n hx hb dX7_fits_10 rfl (lv_at hl 0 rfl) ?_
        refine va_get (ci := 7) (v := .ref (h 4)) (C := RX7) (T := TX7) (N := 8) hx hb hT hin_X7 hown hK hP 0 rfl rfl 3 (by decide) (hT _ wf_X7_21) (fun _ h9 => h9) rfl dX7_fits_11 ?_
        refine lv_iload_n hx hb dX7_fits_14 rfl (lv_at hl 2 rfl) ?_
        obtain ⟨hi, hf⟩ := ck_some hf
        refine va_iald hx hb hK hP 4 0 rfl rfl hi dX7_fits_15 ?_
        refine lv_iconst (v := (-1)) hx hb dX7_fits_16 (by decide) ?_
        refine lv_icmp_eq (tgt := 34) hx hb dX7_fits_17 (by decide) (fun cc => ?_) (fun cc => ?_)
        · replace hf := if_t cc hf
          exact b34 x2 x3 next_ cellsSeen H locs ls hP hD hS (lv_sub hl [0, 1, 2] rfl) hf
        · replace hf := if_f cc hf
          refine lv_aload_n hx hb dX7_fits_20 rfl (lv_at hl 0 rfl) ?_
          refine va_get (ci := 7) (v := .ref (h 4)) (C := RX7) (T := TX7) (N := 8) hx hb hT hin_X7 hown hK hP 0 rfl rfl 3 (by decide) (hT _ wf_X7_21) (fun _ h9 => h9) rfl dX7_fits_21 ?_
          refine lv_iload_n hx hb dX7_fits_24 rfl (lv_at hl 2 rfl) ?_
          obtain ⟨hi, hf⟩ := ck_some hf
          refine va_iald hx hb hK hP 4 0 rfl rfl hi dX7_fits_25 ?_
          refine lv_iload_n hx hb dX7_fits_26 rfl (lv_at hl 1 rfl) ?_
          refine lv_iconst (v := 4) hx hb dX7_fits_27 (by decide) ?_
          refine lv_idiv hx hb dX7_fits_28 (by decide) ?_
          refine lv_icmp_eq (tgt := 34) hx hb dX7_fits_29 (by decide) (fun cc => ?_) (fun cc => ?_)
          · replace hf := if_t cc hf
            exact b34 x2 x3 next_ cellsSeen H locs ls hP hD hS (lv_sub hl [0, 1, 2] rfl) hf
          · replace hf := if_f cc hf
            refine lv_iconst (v := 0) hx hb dX7_fits_32 (by decide) ?_
            obtain ⟨hz, hf⟩ := bz_some hf
            cases Option.some.inj hf
            exact W.zret hx hb hr (bz_nar hz).2 (fun t ht hW => ⟨⟨_, (), rfl, rfl, by show va_P D vwCl _ t.heap; rw [ht]; exact hP⟩, hS.F ht⟩) hS.2.2 dX7_fits_33
  have main : ∀ (H : Heap) (locs : List Loc) (ls : Array Slot), va_P D vwCl (wX7 cyI cyJ cyZ cyO h next_ starts stands cellsSeen inCell fitting bestNight mostLeft) H → va_D A (wX7 cyI cyJ cyZ cyO h next_ starts stands cellsSeen inCell fitting bestNight mostLeft) → va_S A s.heap H locs → lv_has ls 4 [(0, .ref (h 0)), (1, .int p1)] → W p l e ({ frames := 0, cells := 0, slots := 0, locals := 0 } : Room) s m ([.ref (h 0), .int p1] : List Value).toArray below meth c H locs 0 0 (MQ below (qI D (wX7 cyI cyJ cyZ cyO h next_ starts stands cellsSeen inCell fitting bestNight mostLeft) q A) ([.ref (h 0), .int p1] : List Value).toArray s 0 0 A) (F0 m 0 ls []) := by
    intro H locs ls hP hD hS hl
    unfold g_X7_fits at hf
    refine lv_iload_n hx hb dX7_fits_0 rfl (lv_at hl 1 rfl) ?_
    refine lv_istore_n (lv' := [(2, .int p1), (0, .ref (h 0)), (1, .int p1)]) hx hb dX7_fits_1 rfl hl (by decide) rfl (fun ls hl => ?_)
    refine lv_iconst (v := 0) hx hb dX7_fits_2 (by decide) ?_
    refine lv_istore_n (lv' := [(3, .int 0), (2, .int p1), (0, .ref (h 0)), (1, .int p1)]) hx hb dX7_fits_3 rfl hl (by decide) rfl (fun ls hl => ?_)
    exact l4 nf p1 0 next_ cellsSeen H locs ls hP hD hS (lv_sub hl [2, 1, 0] rfl) hf
  have hl := lv_entry ([.ref (h 0), .int p1]) (n := 4) (Nat.le_of_ble_eq_true rfl)
  rw [lg_entry_eq]
  exact main s.heap [] _ hP hD hS hl
theorem hd_X7_gather : yX7_gather.cls = RX7 ∧ yX7_gather.cls ≠ "java/lang/invoke/MethodHandle" ∧ yX7_gather.cls ≠ "java/lang/invoke/VarHandle" ∧ (parseMethodDescriptor yX7_gather.desc).map (fun d => d.parameters.length) = some 1 := by decide +kernel
set_option maxHeartbeats 4000000 in
set_option maxRecDepth 100000 in
theorem c_X7_gather (l : Launch) (D : va_G) (cyI cyJ cyZ cyO : ClassId) (h h2 : Nat → Nat) (sz : Nat) (next_ : Nat → Int32) (starts : Nat → Int32) (stands : Nat → Int32) (cellsSeen : Nat → Int32) (inCell : Nat → Int32) (fitting : Int32) (bestNight : Int32) (mostLeft : Int32) (n_lands : Nat → Int32) (n_camphors : Nat → Int32) (n_there : Nat → Int32) (n_mothCells : Nat → Int32) (n_mothHeads : Nat → Int32) (n_threads : Nat → Int32) (n_sightNights : Nat → Int32) (n_sightCells : Nat → Int32) (n_sights : Int32) (n_night : Int32) (n_eaten : Int32) (nf : Nat) (q : (Nat → Int32) × (Nat → Int32) × Int32) (hf : g_X7_gather nf next_ starts cellsSeen fitting n_sightNights n_sightCells n_sights = some q) : Met l yX7_gather (Cond.code yX7_gather cX7_gather 3 none :: tbG) ({ frames := 2, cells := 0, slots := 0, locals := 47 } : Room) (va_Pc [.ref (h 0), .ref (h2 0)] (pcB D (ty4 cyI cyJ cyZ cyO) sz (vw5 cyI cyJ cyZ cyO h h2 next_ starts stands cellsSeen inCell fitting bestNight mostLeft n_lands n_camphors n_there n_mothCells n_mothHeads n_threads n_sightNights n_sightCells n_sights n_night n_eaten))) (qV D (vw5 cyI cyJ cyZ cyO h h2 next_ q.1 stands q.2.1 inCell q.2.2 bestNight mostLeft n_lands n_camphors n_there n_mothCells n_mothHeads n_threads n_sightNights n_sightCells n_sights n_night n_eaten) (va_A (vw5 cyI cyJ cyZ cyO h h2 next_ starts stands cellsSeen inCell fitting bestNight mostLeft n_lands n_camphors n_there n_mothCells n_mothHeads n_threads n_sightNights n_sightCells n_sights n_night n_eaten) sz)) 0 0 (va_A (vw5 cyI cyJ cyZ cyO h h2 next_ starts stands cellsSeen inCell fitting bestNight mostLeft n_lands n_camphors n_there n_mothCells n_mothHeads n_threads n_sightNights n_sightCells n_sights n_night n_eaten) sz) := by
  refine Met.ofW (cc := cX7_gather) (maxL := 3) (ret := none) (by decide) rfl ?_
  intro p e s m args below meth c s₁ B hml hv
  obtain ⟨rfl, hsz, hP, hK, hD0, hN⟩ := hv
  have hx := B.exec
  have hb := B.bytes
  have hr := B.returns
  have hT : ∀ w ∈ tbG, w.before ([.ref (h 0), .ref (h2 0)] : List Value).toArray s = true := fun w h => atoms_spec (ws := (Cond.code yX7_gather cX7_gather 3 none :: tbG)) B.pre w (List.mem_cons_of_mem _ h)
  have hown : s.vm.findClass RX7 = some m.cls := findClass_of_methodNamed B.named
  have hlocks := B.notSynchronized
  subst hsz
  have hD := hD0.self (sz := s.heap.size)
  generalize hAe : va_A (vw5 cyI cyJ cyZ cyO h h2 next_ starts stands cellsSeen inCell fitting bestNight mostLeft n_lands n_camphors n_there n_mothCells n_mothHeads n_threads n_sightNights n_sightCells n_sights n_night n_eaten) s.heap.size = A at hD ⊢
  have hA : ∀ q : Nat, s.heap.size ≤ q → A q := fun q h => by rw [← hAe]; exact Or.inr h
  have hS : va_S A s.heap s.heap [] := va_S.rf
  show W p l e ({ frames := 2, cells := 0, slots := 0, locals := 47 } : Room) s m ([.ref (h 0), .ref (h2 0)] : List Value).toArray below meth c s.heap [] 0 0 (MQ below (qV D (vw5 cyI cyJ cyZ cyO h h2 next_ q.1 stands q.2.1 inCell q.2.2 bestNight mostLeft n_lands n_camphors n_there n_mothCells n_mothHeads n_threads n_sightNights n_sightCells n_sights n_night n_eaten) A) ([.ref (h 0), .ref (h2 0)] : List Value).toArray s 0 0 A) _
  have l12 : ∀ (n12 : Nat) (x2 : Int32) (next_ : Nat → Int32) (starts : Nat → Int32) (cellsSeen : Nat → Int32) (fitting : Int32) (n_sightNights : Nat → Int32) (n_sightCells : Nat → Int32) (n_sights : Int32) (H : Heap) (locs : List Loc) (ls : Array Slot), va_P D vwCl (vw5 cyI cyJ cyZ cyO h h2 next_ starts stands cellsSeen inCell fitting bestNight mostLeft n_lands n_camphors n_there n_mothCells n_mothHeads n_threads n_sightNights n_sightCells n_sights n_night n_eaten) H → va_D A (vw5 cyI cyJ cyZ cyO h h2 next_ starts stands cellsSeen inCell fitting bestNight mostLeft n_lands n_camphors n_there n_mothCells n_mothHeads n_threads n_sightNights n_sightCells n_sights n_night n_eaten) → va_S A s.heap H locs → lv_has ls 3 [(0, .ref (h 0)), (2, .int x2)] → g_X7_gather_l12 nf n12 x2 next_ starts cellsSeen fitting n_sightNights n_sightCells n_sights = some q → W p l e ({ frames := 2, cells := 0, slots := 0, locals := 47 } : Room) s m ([.ref (h 0), .ref (h2 0)] : List Value).toArray below meth c H locs 0 0 (MQ below (qV D (vw5 cyI cyJ cyZ cyO h h2 next_ q.1 stands q.2.1 inCell q.2.2 bestNight mostLeft n_lands n_camphors n_there n_mothCells n_mothHeads n_threads n_sightNights n_sightCells n_sights n_night n_eaten) A) ([.ref (h 0), .ref (h2 0)] : List Value).toArray s 0 0 A) (F0 m 12 ls []) := by
    intro n12
    induction n12 with
    | zero =>
      intro x2 next_ starts cellsSeen fitting n_sightNights n_sightCells n_sights H locs ls hP hD hS hl hf
      rw [g_X7_gather_l12] at hf
      cases hf
    | succ n12 ih12 =>
      have b46 : ∀ (x2 : Int32) (next_ : Nat → Int32) (starts : Nat → Int32) (cellsSeen : Nat → Int32) (fitting : Int32) (n_sightNights : Nat → Int32) (n_sightCells : Nat → Int32) (n_sights : Int32) (H : Heap) (locs : List Loc) (ls : Array Slot), va_P D vwCl (vw5 cyI cyJ cyZ cyO h h2 next_ starts stands cellsSeen inCell fitting bestNight mostLeft n_lands n_camphors n_there n_mothCells n_mothHeads n_threads n_sightNights n_sightCells n_sights n_night n_eaten) H → va_D A (vw5 cyI cyJ cyZ cyO h h2 next_ starts stands cellsSeen inCell fitting bestNight mostLeft n_lands n_camphors n_there n_mothCells n_mothHeads n_threads n_sightNights n_sightCells n_sights n_night n_eaten) → va_S A s.heap H locs → lv_has ls 3 [(0, .ref (h 0)), (2, .int x2)] → g_X7_gather_b46 nf (g_X7_gather_l12 nf n12) x2 next_ starts cellsSeen fitting n_sightNights n_sightCells n_sights = some q → W p l e ({ frames := 2, cells := 0, slots := 0, locals := 47 } : Room) s m ([.ref (h 0), .ref (h2 0)] : List Value).toArray below meth c H locs 0 0 (MQ below (qV D (vw5 cyI cyJ cyZ cyO h h2 next_ q.1 stands q.2.1 inCell q.2.2 bestNight mostLeft n_lands n_camphors n_there n_mothCells n_mothHeads n_threads n_sightNights n_sightCells n_sights n_night n_eaten) A) ([.ref (h 0), .ref (h2 0)] : List Value).toArray s 0 0 A) (F0 m 46 ls []) := by
        intro x2 next_ starts cellsSeen fitting n_sightNights n_sightCells n_sights H locs ls hP hD hS hl hf
        unfold g_X7_gather_b46 at hf
        refine lv_iinc (v := (x2 + 1)) (lv' := [(2, .int (x2 + 1)), (0, .ref (h 0))]) hx hb dX7_gather_46 hl (k := 1) rfl rfl (by decide) rfl (fun ls hl => ?_)
        refine lv_goto (tgt := 12) hx hb dX7_gather_49 (by decide) ?_
        exact ih12 (x2 + 1) next_ starts cellsSeen fitting n_sightNights n_sightCells n_sights H locs ls hP hD hS (lv_sub hl [1, 0] rfl) hf
      intro x2 next_ starts cellsSeen fitting n_sightNights n_sightCells n_sights H locs ls hP hD hS hl hf
      rw [g_X7_gather_l12] at hf
      refine lv_iload_n hx hb dX7_gather_12 rfl (lv_at hl 1 rfl) ?_
      refine lv_bipush (v := 100) hx hb dX7_gather_13 (by decide) ?_
      refine lv_icmp_ge (tgt := 52) hx hb dX7_gather_15 (by decide) (fun cc => ?_) (fun cc => ?_)
      · replace hf := if_t cc hf
        cases Option.some.inj hf
        exact W.vret hx hb hr (fun t ht hW => ⟨⟨(), rfl, trivial, by show va_P D vwCl _ t.heap; rw [ht]; exact hP⟩, hS.F ht⟩) hS.2.2 dX7_gather_52
      · replace hf := if_f cc hf
        refine lv_aload_n hx hb dX7_gather_18 rfl (lv_at hl 0 rfl) ?_
        refine lv_iload_n hx hb dX7_gather_19 rfl (lv_at hl 1 rfl) ?_
        obtain ⟨q1, hq1, hf⟩ := bd_some hf
        have hC : [0, 1, 2, 3, 4, 5].map (fun i => (vw5 cyI cyJ cyZ cyO h h2 next_ starts stands cellsSeen inCell fitting bestNight mostLeft n_lands n_camphors n_there n_mothCells n_mothHeads n_threads n_sightNights n_sightCells n_sights n_night n_eaten)[i]?) = (wX7 cyI cyJ cyZ cyO h next_ starts stands cellsSeen inCell fitting bestNight mostLeft).map some := rfl
        refine cl_i (rn_V (As := [.int x2]) (rest := []) (C := RX7) hx hb hml hown hT hK hN hP hD [0, 1, 2, 3, 4, 5] hC rfl (c_X7_fits l D cyI cyJ cyZ cyO h H.size next_ starts stands cellsSeen inCell fitting bestNight mostLeft x2 nf q1 hq1) wm_X7_47 wi_X7_fits wl_X7_fits wz_X7 wc_X7_fits hd_X7_fits ⟨rfl, rfl⟩ ⟨Nat.le_of_ble_eq_true rfl, Nat.le_of_ble_eq_true rfl⟩ (q0 := 0) (ci := 7) rfl rfl rfl rfl hl.1 rfl (Nat.le_of_ble_eq_true rfl) dX7_gather_20 ⟨Nat.zero_le _, Nat.zero_le _⟩) hP hD hS hA [0, 1, 2, 3, 4, 5] hC [(true, 0), (true, 1), (true, 2), (true, 3), (true, 4), (true, 5), (false, 6), (false, 7), (false, 8), (false, 9), (false, 10), (false, 11), (false, 12), (false, 13), (false, 14)] (ws' := vw5 cyI cyJ cyZ cyO h h2 next_ starts stands cellsSeen inCell fitting bestNight mostLeft n_lands n_camphors n_there n_mothCells n_mothHeads n_threads n_sightNights n_sightCells n_sights n_night n_eaten) rfl rfl rfl (fun H locs hP hD hS => ?_)
        refine lv_if_eq (tgt := 46) hx hb dX7_gather_23 (by decide) (fun cc => ?_) (fun cc => ?_)
        · replace hf := if_t cc hf
          exact b46 x2 next_ starts cellsSeen fitting n_sightNights n_sightCells n_sights H locs ls hP hD hS (lv_sub hl [0, 1] rfl) hf
        · replace hf := if_f cc hf
          refine lv_aload_n hx hb dX7_gather_26 rfl (lv_at hl 0 rfl) ?_
          refine va_get (ci := 7) (v := .ref (h 2)) (C := RX7) (T := TX7) (N := 8) hx hb hT hin_X7 hown hK hP 0 rfl rfl 1 (by decide) (hT _ wf_X7_15) (fun _ h9 => h9) rfl dX7_gather_27 ?_
          refine lv_aload_n hx hb dX7_gather_30 rfl (lv_at hl 0 rfl) ?_
          refine va_get (ci := 7) (v := .int fitting) (C := RX7) (T := TX7) (N := 8) hx hb hT hin_X7 hown hK hP 0 rfl rfl 5 (by decide) (hT _ wf_X7_43) (fun _ h9 => h9) rfl dX7_gather_31 ?_
          refine lv_iload_n hx hb dX7_gather_34 rfl (lv_at hl 1 rfl) ?_
          obtain ⟨hi, hf⟩ := ck_some hf
          refine va_iast hx hb hK hP hD hS 2 0 rfl rfl hi dX7_gather_35 (fun H locs hP hD hS => ?_)
          have hP : va_P D vwCl (vw5 cyI cyJ cyZ cyO h h2 next_ (upd starts fitting.toNatClampNeg x2) stands cellsSeen inCell fitting bestNight mostLeft n_lands n_camphors n_there n_mothCells n_mothHeads n_threads n_sightNights n_sightCells n_sights n_night n_eaten) H := hP
          have hD : va_D A (vw5 cyI cyJ cyZ cyO h h2 next_ (upd starts fitting.toNatClampNeg x2) stands cellsSeen inCell fitting bestNight mostLeft n_lands n_camphors n_there n_mothCells n_mothHeads n_threads n_sightNights n_sightCells n_sights n_night n_eaten) := hD
          refine lv_aload_n hx hb dX7_gather_36 rfl (lv_at hl 0 rfl) ?_
          refine lv_dup hx hb dX7_gather_37 rfl ?_
          refine va_get (ci := 7) (v := .int fitting) (C := RX7) (T := TX7) (N := 8) hx hb hT hin_X7 hown hK hP 0 rfl rfl 5 (by decide) (hT _ wf_X7_43) (fun _ h9 => h9) rfl dX7_gather_38 ?_
          refine lv_iconst (v := 1) hx hb dX7_gather_41 (by decide) ?_
          refine lv_iadd hx hb dX7_gather_42 ?_
          refine va_put (ci := 7) (v := .int (fitting + 1)) (ty := .int) (C := RX7) (T := TX7) (N := 8) hx hb hT hin_X7 tyX7 tyX7_ok nmX7 hown hK hP hD hS 0 rfl rfl 5 (by decide) (hT _ wf_X7_43) (fun _ h9 => h9) rfl (tyX7_ok 5 (by decide)) rfl rfl (Nat.le_of_ble_eq_true rfl) dX7_gather_43 (fun H locs hP hD hS => ?_)
          have hP : va_P D vwCl (vw5 cyI cyJ cyZ cyO h h2 next_ (upd starts fitting.toNatClampNeg x2) stands cellsSeen inCell (fitting + 1) bestNight mostLeft n_lands n_camphors n_there n_mothCells n_mothHeads n_threads n_sightNights n_sightCells n_sights n_night n_eaten) H := hP
          have hD : va_D A (vw5 cyI cyJ cyZ cyO h h2 next_ (upd starts fitting.toNatClampNeg x2) stands cellsSeen inCell (fitting + 1) bestNight mostLeft n_lands n_camphors n_there n_mothCells n_mothHeads n_threads n_sightNights n_sightCells n_sights n_night n_eaten) := hD
          exact b46 x2 next_ (upd starts fitting.toNatClampNeg x2) cellsSeen (fitting + 1) n_sightNights n_sightCells n_sights H locs ls hP hD hS (lv_sub hl [0, 1] rfl) hf
  have main : ∀ (H : Heap) (locs : List Loc) (ls : Array Slot), va_P D vwCl (vw5 cyI cyJ cyZ cyO h h2 next_ starts stands cellsSeen inCell fitting bestNight mostLeft n_lands n_camphors n_there n_mothCells n_mothHeads n_threads n_sightNights n_sightCells n_sights n_night n_eaten) H → va_D A (vw5 cyI cyJ cyZ cyO h h2 next_ starts stands cellsSeen inCell fitting bestNight mostLeft n_lands n_camphors n_there n_mothCells n_mothHeads n_threads n_sightNights n_sightCells n_sights n_night n_eaten) → va_S A s.heap H locs → lv_has ls 3 [(0, .ref (h 0)), (1, .ref (h2 0))] → W p l e ({ frames := 2, cells := 0, slots := 0, locals := 47 } : Room) s m ([.ref (h 0), .ref (h2 0)] : List Value).toArray below meth c H locs 0 0 (MQ below (qV D (vw5 cyI cyJ cyZ cyO h h2 next_ q.1 stands q.2.1 inCell q.2.2 bestNight mostLeft n_lands n_camphors n_there n_mothCells n_mothHeads n_threads n_sightNights n_sightCells n_sights n_night n_eaten) A) ([.ref (h 0), .ref (h2 0)] : List Value).toArray s 0 0 A) (F0 m 0 ls []) := by
    intro H locs ls hP hD hS hl
    unfold g_X7_gather at hf
    refine lv_aload_n hx hb dX7_gather_0 rfl (lv_at hl 0 rfl) ?_
    refine lv_aload_n hx hb dX7_gather_1 rfl (lv_at hl 1 rfl) ?_
    obtain ⟨q2, hq2, hf⟩ := bd_some hf
    have hC : [0, 1, 2, 3, 4, 5, 6, 7, 8, 9, 10, 11, 12, 13, 14].map (fun i => (vw5 cyI cyJ cyZ cyO h h2 next_ starts stands cellsSeen inCell fitting bestNight mostLeft n_lands n_camphors n_there n_mothCells n_mothHeads n_threads n_sightNights n_sightCells n_sights n_night n_eaten)[i]?) = (vw5 cyI cyJ cyZ cyO h h2 next_ starts stands cellsSeen inCell fitting bestNight mostLeft n_lands n_camphors n_there n_mothCells n_mothHeads n_threads n_sightNights n_sightCells n_sights n_night n_eaten).map some := rfl
    refine cl_v (rn_V (As := [.ref (h2 0)]) (rest := []) (C := RX7) hx hb hml hown hT hK hN hP hD [0, 1, 2, 3, 4, 5, 6, 7, 8, 9, 10, 11, 12, 13, 14] hC rfl (c_X7_readSights l D cyI cyJ cyZ cyO h h2 H.size next_ starts stands cellsSeen inCell fitting bestNight mostLeft n_lands n_camphors n_there n_mothCells n_mothHeads n_threads n_sightNights n_sightCells n_sights n_night n_eaten nf q2 hq2) wm_X7_39 wi_X7_readSights wl_X7_readSights wz_X7 wc_X7_readSights hd_X7_readSights ⟨rfl, rfl⟩ ⟨Nat.le_of_ble_eq_true rfl, Nat.le_of_ble_eq_true rfl⟩ (q0 := 0) (ci := 7) rfl rfl rfl rfl hl.1 rfl (Nat.le_of_ble_eq_true rfl) dX7_gather_2 ⟨Nat.zero_le _, Nat.zero_le _⟩) hP hD hS hA [0, 1, 2, 3, 4, 5, 6, 7, 8, 9, 10, 11, 12, 13, 14] hC [(true, 0), (true, 1), (true, 2), (true, 3), (true, 4), (true, 5), (true, 6), (true, 7), (true, 8), (true, 9), (true, 10), (true, 11), (true, 12), (true, 13), (true, 14)] (ws' := vw5 cyI cyJ cyZ cyO h h2 next_ starts stands q2 inCell fitting bestNight mostLeft n_lands n_camphors n_there n_mothCells n_mothHeads n_threads n_sightNights n_sightCells n_sights n_night n_eaten) rfl rfl rfl (fun H locs hP hD hS => ?_)
    refine lv_aload_n hx hb dX7_gather_5 rfl (lv_at hl 0 rfl) ?_
    refine lv_iconst (v := 0) hx hb dX7_gather_6 (by decide) ?_
    refine va_put (ci := 7) (v := .int 0) (ty := .int) (C := RX7) (T := TX7) (N := 8) hx hb hT hin_X7 tyX7 tyX7_ok nmX7 hown hK hP hD hS 0 rfl rfl 5 (by decide) (hT _ wf_X7_43) (fun _ h9 => h9) rfl (tyX7_ok 5 (by decide)) rfl rfl (Nat.le_of_ble_eq_true rfl) dX7_gather_7 (fun H locs hP hD hS => ?_)
    have hP : va_P D vwCl (vw5 cyI cyJ cyZ cyO h h2 next_ starts stands q2 inCell 0 bestNight mostLeft n_lands n_camphors n_there n_mothCells n_mothHeads n_threads n_sightNights n_sightCells n_sights n_night n_eaten) H := hP
    have hD : va_D A (vw5 cyI cyJ cyZ cyO h h2 next_ starts stands q2 inCell 0 bestNight mostLeft n_lands n_camphors n_there n_mothCells n_mothHeads n_threads n_sightNights n_sightCells n_sights n_night n_eaten) := hD
    refine lv_iconst (v := 0) hx hb dX7_gather_10 (by decide) ?_
    refine lv_istore_n (lv' := [(2, .int 0), (0, .ref (h 0)), (1, .ref (h2 0))]) hx hb dX7_gather_11 rfl hl (by decide) rfl (fun ls hl => ?_)
    exact l12 nf 0 next_ starts q2 0 n_sightNights n_sightCells n_sights H locs ls hP hD hS (lv_sub hl [1, 0] rfl) hf
  have hl := lv_entry ([.ref (h 0), .ref (h2 0)]) (n := 3) (Nat.le_of_ble_eq_true rfl)
  rw [lg_entry_eq]
  exact main s.heap [] _ hP hD hS hl
theorem hd_X7_toldStart : yX7_toldStart.cls = RX7 ∧ yX7_toldStart.cls ≠ "java/lang/invoke/MethodHandle" ∧ yX7_toldStart.cls ≠ "java/lang/invoke/VarHandle" ∧ (parseMethodDescriptor yX7_toldStart.desc).map (fun d => d.parameters.length) = some 1 := by decide +kernel
set_option maxHeartbeats 4000000 in
set_option maxRecDepth 100000 in
theorem c_X7_toldStart (l : Launch) (D : va_G) (cyI cyJ cyZ cyO : ClassId) (h : Nat → Nat) (sz : Nat) (next_ : Nat → Int32) (starts : Nat → Int32) (stands : Nat → Int32) (cellsSeen : Nat → Int32) (inCell : Nat → Int32) (fitting : Int32) (bestNight : Int32) (mostLeft : Int32) (p1 : Int32) (nf : Nat) (q : Int32) (hf : g_X7_toldStart nf p1 starts = some q) : Met l yX7_toldStart (Cond.code yX7_toldStart cX7_toldStart 3 (some .int) :: tbG) ({ frames := 0, cells := 0, slots := 0, locals := 0 } : Room) (va_Pc [.ref (h 0), .int p1] (pcB D (ty4 cyI cyJ cyZ cyO) sz (wX7 cyI cyJ cyZ cyO h next_ starts stands cellsSeen inCell fitting bestNight mostLeft))) (qI D (wX7 cyI cyJ cyZ cyO h next_ starts stands cellsSeen inCell fitting bestNight mostLeft) q (va_A (wX7 cyI cyJ cyZ cyO h next_ starts stands cellsSeen inCell fitting bestNight mostLeft) sz)) 0 0 (va_A (wX7 cyI cyJ cyZ cyO h next_ starts stands cellsSeen inCell fitting bestNight mostLeft) sz) := by
  refine Met.ofW (cc := cX7_toldStart) (maxL := 3) (ret := (some .int)) (by decide) rfl ?_
  intro p e s m args below meth c s₁ B hml hv
  obtain ⟨rfl, hsz, hP, hK, hD0, hN⟩ := hv
  have hx := B.exec
  have hb := B.bytes
  have hr := B.returns
  have hT : ∀ w ∈ tbG, w.before ([.ref (h 0), .int p1] : List Value).toArray s = true := fun w h => atoms_spec (ws := (Cond.code yX7_toldStart cX7_toldStart 3 (some .int) :: tbG)) B.pre w (List.mem_cons_of_mem _ h)
  have hown : s.vm.findClass RX7 = some m.cls := findClass_of_methodNamed B.named
  have hlocks := B.notSynchronized
  subst hsz
  have hD := hD0.self (sz := s.heap.size)
  generalize hAe : va_A (wX7 cyI cyJ cyZ cyO h next_ starts stands cellsSeen inCell fitting bestNight mostLeft) s.heap.size = A at hD ⊢
  have hA : ∀ q : Nat, s.heap.size ≤ q → A q := fun q h => by rw [← hAe]; exact Or.inr h
  have hS : va_S A s.heap s.heap [] := va_S.rf
  show W p l e ({ frames := 0, cells := 0, slots := 0, locals := 0 } : Room) s m ([.ref (h 0), .int p1] : List Value).toArray below meth c s.heap [] 0 0 (MQ below (qI D (wX7 cyI cyJ cyZ cyO h next_ starts stands cellsSeen inCell fitting bestNight mostLeft) q A) ([.ref (h 0), .int p1] : List Value).toArray s 0 0 A) _
  have b20 : ∀ (s0 : Int32) (starts : Nat → Int32) (H : Heap) (locs : List Loc) (ls : Array Slot), va_P D vwCl (wX7 cyI cyJ cyZ cyO h next_ starts stands cellsSeen inCell fitting bestNight mostLeft) H → va_D A (wX7 cyI cyJ cyZ cyO h next_ starts stands cellsSeen inCell fitting bestNight mostLeft) → va_S A s.heap H locs → lv_has ls 3 [] → g_X7_toldStart_b20 nf s0 starts = some q → W p l e ({ frames := 0, cells := 0, slots := 0, locals := 0 } : Room) s m ([.ref (h 0), .int p1] : List Value).toArray below meth c H locs 0 0 (MQ below (qI D (wX7 cyI cyJ cyZ cyO h next_ starts stands cellsSeen inCell fitting bestNight mostLeft) q A) ([.ref (h 0), .int p1] : List Value).toArray s 0 0 A) (F0 m 20 ls [.int s0]) := by
    intro s0 starts H locs ls hP hD hS hl hf
    unfold g_X7_toldStart_b20 at hf
    refine lv_istore_n (lv' := [(2, .int s0)]) hx hb dX7_toldStart_20 rfl hl (by decide) rfl (fun ls hl => ?_)
    refine lv_iload_n hx hb dX7_toldStart_21 rfl (lv_at hl 0 rfl) ?_
    refine lv_iconst (v := 4) hx hb dX7_toldStart_22 (by decide) ?_
    refine lv_idiv hx hb dX7_toldStart_23 (by decide) ?_
    refine lv_bipush (v := 10) hx hb dX7_toldStart_24 (by decide) ?_
    refine lv_imul hx hb dX7_toldStart_26 ?_
    refine lv_iload_n hx hb dX7_toldStart_27 rfl (lv_at hl 0 rfl) ?_
    refine lv_iconst (v := 4) hx hb dX7_toldStart_28 (by decide) ?_
    refine lv_irem hx hb dX7_toldStart_29 (by decide) ?_
    refine lv_iadd hx hb dX7_toldStart_30 ?_
    cases Option.some.inj hf
    exact W.iret hx hb hr (fun t ht hW => ⟨⟨_, (), rfl, rfl, by show va_P D vwCl _ t.heap; rw [ht]; exact hP⟩, hS.F ht⟩) hS.2.2 dX7_toldStart_31
  have b19 : ∀ (starts : Nat → Int32) (H : Heap) (locs : List Loc) (ls : Array Slot), va_P D vwCl (wX7 cyI cyJ cyZ cyO h next_ starts stands cellsSeen inCell fitting bestNight mostLeft) H → va_D A (wX7 cyI cyJ cyZ cyO h next_ starts stands cellsSeen inCell fitting bestNight mostLeft) → va_S A s.heap H locs → lv_has ls 3 [] → g_X7_toldStart_b19 nf starts = some q → W p l e ({ frames := 0, cells := 0, slots := 0, locals := 0 } : Room) s m ([.ref (h 0), .int p1] : List Value).toArray below meth c H locs 0 0 (MQ below (qI D (wX7 cyI cyJ cyZ cyO h next_ starts stands cellsSeen inCell fitting bestNight mostLeft) q A) ([.ref (h 0), .int p1] : List Value).toArray s 0 0 A) (F0 m 19 ls []) := by
    intro starts H locs ls hP hD hS hl hf
    unfold g_X7_toldStart_b19 at hf
    refine lv_iconst (v := 0) hx hb dX7_toldStart_19 (by decide) ?_
    exact b20 0 starts H locs ls hP hD hS (lv_sub hl [] rfl) hf
  have main : ∀ (H : Heap) (locs : List Loc) (ls : Array Slot), va_P D vwCl (wX7 cyI cyJ cyZ cyO h next_ starts stands cellsSeen inCell fitting bestNight mostLeft) H → va_D A (wX7 cyI cyJ cyZ cyO h next_ starts stands cellsSeen inCell fitting bestNight mostLeft) → va_S A s.heap H locs → lv_has ls 3 [(0, .ref (h 0)), (1, .int p1)] → W p l e ({ frames := 0, cells := 0, slots := 0, locals := 0 } : Room) s m ([.ref (h 0), .int p1] : List Value).toArray below meth c H locs 0 0 (MQ below (qI D (wX7 cyI cyJ cyZ cyO h next_ starts stands cellsSeen inCell fitting bestNight mostLeft) q A) ([.ref (h 0), .int p1] : List Value).toArray s 0 0 A) (F0 m 0 ls []) := by
    intro H locs ls hP hD hS hl
    unfold g_X7_toldStart at hf
    refine lv_iload_n hx hb dX7_toldStart_0 rfl (lv_at hl 1 rfl) ?_
    refine lv_if_lt (tgt := 19) hx hb dX7_toldStart_1 (by decide) (fun cc => ?_) (fun cc => ?_)
    · replace hf := if_t cc hf
      exact b19 starts H locs ls hP hD hS (lv_sub hl [] rfl) hf
    · replace hf := if_f cc hf
      refine lv_iload_n hx hb dX7_toldStart_4 rfl (lv_at hl 1 rfl) ?_
      refine lv_bipush (v := 100) hx hb dX7_toldStart_5 (by decide) ?_
      refine lv_icmp_ge (tgt := 19) hx hb dX7_toldStart_7 (by decide) (fun cc => ?_) (fun cc => ?_)
      · replace hf := if_t cc hf
        exact b19 starts H locs ls hP hD hS (lv_sub hl [] rfl) hf
      · replace hf := if_f cc hf
        refine lv_aload_n hx hb dX7_toldStart_10 rfl (lv_at hl 0 rfl) ?_
        refine va_get (ci := 7) (v := .ref (h 2)) (C := RX7) (T := TX7) (N := 8) hx hb hT hin_X7 hown hK hP 0 rfl rfl 1 (by decide) (hT _ wf_X7_15) (fun _ h9 => h9) rfl dX7_toldStart_11 ?_
        refine lv_iload_n hx hb dX7_toldStart_14 rfl (lv_at hl 1 rfl) ?_
        obtain ⟨hi, hf⟩ := ck_some hf
        refine va_iald hx hb hK hP 2 0 rfl rfl hi dX7_toldStart_15 ?_
        refine lv_goto (tgt := 20) hx hb dX7_toldStart_16 (by decide) ?_
        exact b20 (starts p1.toNatClampNeg) starts H locs ls hP hD hS (lv_sub hl [] rfl) hf
  have hl := lv_entry ([.ref (h 0), .int p1]) (n := 3) (Nat.le_of_ble_eq_true rfl)
  rw [lg_entry_eq]
  exact main s.heap [] _ hP hD hS hl
theorem hd_X7_mostInOneCell : yX7_mostInOneCell.cls = RX7 ∧ yX7_mostInOneCell.cls ≠ "java/lang/invoke/MethodHandle" ∧ yX7_mostInOneCell.cls ≠ "java/lang/invoke/VarHandle" ∧ (parseMethodDescriptor yX7_mostInOneCell.desc).map (fun d => d.parameters.length) = some 0 := by decide +kernel
set_option maxHeartbeats 4000000 in
set_option maxRecDepth 100000 in
theorem c_X7_mostInOneCell (l : Launch) (D : va_G) (cyI cyJ cyZ cyO : ClassId) (h : Nat → Nat) (sz : Nat) (next_ : Nat → Int32) (starts : Nat → Int32) (stands : Nat → Int32) (cellsSeen : Nat → Int32) (inCell : Nat → Int32) (fitting : Int32) (bestNight : Int32) (mostLeft : Int32) (nf : Nat) (q : Int32 × (Nat → Int32)) (hf : g_X7_mostInOneCell nf stands inCell fitting = some q) : Met l yX7_mostInOneCell (Cond.code yX7_mostInOneCell cX7_mostInOneCell 4 (some .int) :: tbG) ({ frames := 1, cells := 0, slots := 0, locals := 40 } : Room) (va_Pc [.ref (h 0)] (pcB D (ty4 cyI cyJ cyZ cyO) sz (wX7 cyI cyJ cyZ cyO h next_ starts stands cellsSeen inCell fitting bestNight mostLeft))) (qI D (wX7 cyI cyJ cyZ cyO h next_ starts stands cellsSeen q.2 fitting bestNight mostLeft) q.1 (va_A (wX7 cyI cyJ cyZ cyO h next_ starts stands cellsSeen inCell fitting bestNight mostLeft) sz)) 0 0 (va_A (wX7 cyI cyJ cyZ cyO h next_ starts stands cellsSeen inCell fitting bestNight mostLeft) sz) := by
  refine Met.ofW (cc := cX7_mostInOneCell) (maxL := 4) (ret := (some .int)) (by decide) rfl ?_
  intro p e s m args below meth c s₁ B hml hv
  obtain ⟨rfl, hsz, hP, hK, hD0, hN⟩ := hv
  have hx := B.exec
  have hb := B.bytes
  have hr := B.returns
  have hT : ∀ w ∈ tbG, w.before ([.ref (h 0)] : List Value).toArray s = true := fun w h => atoms_spec (ws := (Cond.code yX7_mostInOneCell cX7_mostInOneCell 4 (some .int) :: tbG)) B.pre w (List.mem_cons_of_mem _ h)
  have hown : s.vm.findClass RX7 = some m.cls := findClass_of_methodNamed B.named
  have hlocks := B.notSynchronized
  subst hsz
  have hD := hD0.self (sz := s.heap.size)
  generalize hAe : va_A (wX7 cyI cyJ cyZ cyO h next_ starts stands cellsSeen inCell fitting bestNight mostLeft) s.heap.size = A at hD ⊢
  have hA : ∀ q : Nat, s.heap.size ≤ q → A q := fun q h => by rw [← hAe]; exact Or.inr h
  have hS : va_S A s.heap s.heap [] := va_S.rf
  show W p l e ({ frames := 1, cells := 0, slots := 0, locals := 40 } : Room) s m ([.ref (h 0)] : List Value).toArray below meth c s.heap [] 0 0 (MQ below (qI D (wX7 cyI cyJ cyZ cyO h next_ starts stands cellsSeen q.2 fitting bestNight mostLeft) q.1 A) ([.ref (h 0)] : List Value).toArray s 0 0 A) _
  have l25 : ∀ (n25 : Nat) (x1 : Int32) (x2 : Int32) (stands : Nat → Int32) (inCell : Nat → Int32) (fitting : Int32) (H : Heap) (locs : List Loc) (ls : Array Slot), va_P D vwCl (wX7 cyI cyJ cyZ cyO h next_ starts stands cellsSeen inCell fitting bestNight mostLeft) H → va_D A (wX7 cyI cyJ cyZ cyO h next_ starts stands cellsSeen inCell fitting bestNight mostLeft) → va_S A s.heap H locs → lv_has ls 4 [(0, .ref (h 0)), (1, .int x1), (2, .int x2)] → g_X7_mostInOneCell_l25 nf n25 x1 x2 stands inCell fitting = some q → W p l e ({ frames := 1, cells := 0, slots := 0, locals := 40 } : Room) s m ([.ref (h 0)] : List Value).toArray below meth c H locs 0 0 (MQ below (qI D (wX7 cyI cyJ cyZ cyO h next_ starts stands cellsSeen q.2 fitting bestNight mostLeft) q.1 A) ([.ref (h 0)] : List Value).toArray s 0 0 A) (F0 m 25 ls []) := by
    intro n25
    induction n25 with
    | zero =>
      intro x1 x2 stands inCell fitting H locs ls hP hD hS hl hf
      rw [g_X7_mostInOneCell_l25] at hf
      cases hf
    | succ n25 ih25 =>
      intro x1 x2 stands inCell fitting H locs ls hP hD hS hl hf
      rw [g_X7_mostInOneCell_l25] at hf
      refine lv_iload_n hx hb dX7_mostInOneCell_25 rfl (lv_at hl 2 rfl) ?_
      refine lv_aload_n hx hb dX7_mostInOneCell_26 rfl (lv_at hl 0 rfl) ?_
      refine va_get (ci := 7) (v := .int fitting) (C := RX7) (T := TX7) (N := 8) hx hb hT hin_X7 hown hK hP 0 rfl rfl 5 (by decide) (hT _ wf_X7_43) (fun _ h9 => h9) rfl dX7_mostInOneCell_27 ?_
      refine lv_icmp_ge (tgt := 69) hx hb dX7_mostInOneCell_30 (by decide) (fun cc => ?_) (fun cc => ?_)
      · replace hf := if_t cc hf
        refine lv_iload_n hx hb dX7_mostInOneCell_69 rfl (lv_at hl 1 rfl) ?_
        cases Option.some.inj hf
        exact W.iret hx hb hr (fun t ht hW => ⟨⟨_, (), rfl, rfl, by show va_P D vwCl _ t.heap; rw [ht]; exact hP⟩, hS.F ht⟩) hS.2.2 dX7_mostInOneCell_70
      · replace hf := if_f cc hf
        refine lv_aload_n hx hb dX7_mostInOneCell_33 rfl (lv_at hl 0 rfl) ?_
        refine va_get (ci := 7) (v := .ref (h 3)) (C := RX7) (T := TX7) (N := 8) hx hb hT hin_X7 hown hK hP 0 rfl rfl 2 (by decide) (hT _ wf_X7_18) (fun _ h9 => h9) rfl dX7_mostInOneCell_34 ?_
        refine lv_iload_n hx hb dX7_mostInOneCell_37 rfl (lv_at hl 2 rfl) ?_
        obtain ⟨hi, hf⟩ := ck_some hf
        refine va_iald hx hb hK hP 3 0 rfl rfl hi dX7_mostInOneCell_38 ?_
        refine lv_iconst (v := 4) hx hb dX7_mostInOneCell_39 (by decide) ?_
        refine lv_idiv hx hb dX7_mostInOneCell_40 (by decide) ?_
        refine lv_istore_n (lv' := [(3, .int ((stands x2.toNatClampNeg) / 4)), (0, .ref (h 0)), (1, .int x1), (2, .int x2)]) hx hb dX7_mostInOneCell_41 rfl hl (by decide) rfl (fun ls hl => ?_)
        refine lv_aload_n hx hb dX7_mostInOneCell_42 rfl (lv_at hl 1 rfl) ?_
        refine va_get (ci := 7) (v := .ref (h 5)) (C := RX7) (T := TX7) (N := 8) hx hb hT hin_X7 hown hK hP 0 rfl rfl 4 (by decide) (hT _ wf_X7_24) (fun _ h9 => h9) rfl dX7_mostInOneCell_43 ?_
        refine lv_iload_n hx hb dX7_mostInOneCell_46 rfl (lv_at hl 0 rfl) ?_
        refine lv_dup2_11 hx hb dX7_mostInOneCell_47 rfl rfl ?_
        obtain ⟨hi, hf⟩ := ck_some hf
        refine va_iald hx hb hK hP 5 0 rfl rfl hi dX7_mostInOneCell_48 ?_
        refine lv_iconst (v := 1) hx hb dX7_mostInOneCell_49 (by decide) ?_
        refine lv_iadd hx hb dX7_mostInOneCell_50 ?_
        obtain ⟨hi, hf⟩ := ck_some hf
        refine va_iast hx hb hK hP hD hS 5 0 rfl rfl hi dX7_mostInOneCell_51 (fun H locs hP hD hS => ?_)
        have hP : va_P D vwCl (wX7 cyI cyJ cyZ cyO h next_ starts stands cellsSeen (upd inCell ((stands x2.toNatClampNeg) / 4).toNatClampNeg ((inCell ((stands x2.toNatClampNeg) / 4).toNatClampNeg) + 1)) fitting bestNight mostLeft) H := hP
        have hD : va_D A (wX7 cyI cyJ cyZ cyO h next_ starts stands cellsSeen (upd inCell ((stands x2.toNatClampNeg) / 4).toNatClampNeg ((inCell ((stands x2.toNatClampNeg) / 4).toNatClampNeg) + 1)) fitting bestNight mostLeft) := hD
        refine lv_iload_n hx hb dX7_mostInOneCell_52 rfl (lv_at hl 2 rfl) ?_
        refine lv_aload_n hx hb dX7_mostInOneCell_53 rfl (lv_at hl 1 rfl) ?_
        refine va_get (ci := 7) (v := .ref (h 5)) (C := RX7) (T := TX7) (N := 8) hx hb hT hin_X7 hown hK hP 0 rfl rfl 4 (by decide) (hT _ wf_X7_24) (fun _ h9 => h9) rfl dX7_mostInOneCell_54 ?_
        refine lv_iload_n hx hb dX7_mostInOneCell_57 rfl (lv_at hl 0 rfl) ?_
        obtain ⟨hi, hf⟩ := ck_some hf
        refine va_iald hx hb hK hP 5 0 rfl rfl hi dX7_mostInOneCell_58 ?_
        refine va_mmax (x := x1) (y := ((upd inCell ((stands x2.toNatClampNeg) / 4).toNatClampNeg ((inCell ((stands x2.toNatClampNeg) / 4).toNatClampNeg) + 1)) ((stands x2.toNatClampNeg) / 4).toNatClampNeg)) hx hb (by rw [hml]; exact hl.1.symm) hown (hT _ wm_X7_75) (hT _ wt_J9_max_7cf53) (hT _ wz_J9) (hT _ wc_J9_max_7cf53) (Nat.le_of_ble_eq_true rfl) (Nat.le_of_ble_eq_true rfl) (Nat.zero_le _) (Nat.zero_le _) dX7_mostInOneCell_59 ?_
        refine lv_istore_n (lv' := [(1, .int (if x1 < ((upd inCell ((stands x2.toNatClampNeg) / 4).toNatClampNeg ((inCell ((stands x2.toNatClampNeg) / 4).toNatClampNeg) + 1)) ((stands x2.toNatClampNeg) / 4).toNatClampNeg) then ((upd inCell ((stands x2.toNatClampNeg) / 4).toNatClampNeg ((inCell ((stands x2.toNatClampNeg) / 4).toNatClampNeg) + 1)) ((stands x2.toNatClampNeg) / 4).toNatClampNeg) else x1)), (3, .int ((stands x2.toNatClampNeg) / 4)), (0, .ref (h 0)), (2, .int x2)]) hx hb dX7_mostInOneCell_62 rfl hl (by decide) rfl (fun ls hl => ?_)
        refine lv_iinc (v := (x2 + 1)) (lv' := [(2, .int (x2 + 1)), (1, .int (if x1 < ((upd inCell ((stands x2.toNatClampNeg) / 4).toNatClampNeg ((inCell ((stands x2.toNatClampNeg) / 4).toNatClampNeg) + 1)) ((stands x2.toNatClampNeg) / 4).toNatClampNeg) then ((upd inCell ((stands x2.toNatClampNeg) / 4).toNatClampNeg ((inCell ((stands x2.toNatClampNeg) / 4).toNatClampNeg) + 1)) ((stands x2.toNatClampNeg) / 4).toNatClampNeg) else x1)), (3, .int ((stands x2.toNatClampNeg) / 4)), (0, .ref (h 0))]) hx hb dX7_mostInOneCell_63 hl (k := 3) rfl rfl (by decide) rfl (fun ls hl => ?_)
        refine lv_goto (tgt := 25) hx hb dX7_mostInOneCell_66 (by decide) ?_
        exact ih25 (if x1 < ((upd inCell ((stands x2.toNatClampNeg) / 4).toNatClampNeg ((inCell ((stands x2.toNatClampNeg) / 4).toNatClampNeg) + 1)) ((stands x2.toNatClampNeg) / 4).toNatClampNeg) then ((upd inCell ((stands x2.toNatClampNeg) / 4).toNatClampNeg ((inCell ((stands x2.toNatClampNeg) / 4).toNatClampNeg) + 1)) ((stands x2.toNatClampNeg) / 4).toNatClampNeg) else x1) (x2 + 1) stands (upd inCell ((stands x2.toNatClampNeg) / 4).toNatClampNeg ((inCell ((stands x2.toNatClampNeg) / 4).toNatClampNeg) + 1)) fitting H locs ls hP hD hS (lv_sub hl [3, 1, 0] rfl) hf
  have l2 : ∀ (n2 : Nat) (x1 : Int32) (stands : Nat → Int32) (inCell : Nat → Int32) (fitting : Int32) (H : Heap) (locs : List Loc) (ls : Array Slot), va_P D vwCl (wX7 cyI cyJ cyZ cyO h next_ starts stands cellsSeen inCell fitting bestNight mostLeft) H → va_D A (wX7 cyI cyJ cyZ cyO h next_ starts stands cellsSeen inCell fitting bestNight mostLeft) → va_S A s.heap H locs → lv_has ls 4 [(0, .ref (h 0)), (1, .int x1)] → g_X7_mostInOneCell_l2 nf n2 x1 stands inCell fitting = some q → W p l e ({ frames := 1, cells := 0, slots := 0, locals := 40 } : Room) s m ([.ref (h 0)] : List Value).toArray below meth c H locs 0 0 (MQ below (qI D (wX7 cyI cyJ cyZ cyO h next_ starts stands cellsSeen q.2 fitting bestNight mostLeft) q.1 A) ([.ref (h 0)] : List Value).toArray s 0 0 A) (F0 m 2 ls []) := by
    intro n2
    induction n2 with
    | zero =>
      intro x1 stands inCell fitting H locs ls hP hD hS hl hf
      rw [g_X7_mostInOneCell_l2] at hf
      cases hf
    | succ n2 ih2 =>
      intro x1 stands inCell fitting H locs ls hP hD hS hl hf
      rw [g_X7_mostInOneCell_l2] at hf
      refine lv_iload_n hx hb dX7_mostInOneCell_2 rfl (lv_at hl 1 rfl) ?_
      refine lv_bipush (v := 25) hx hb dX7_mostInOneCell_3 (by decide) ?_
      refine lv_icmp_ge (tgt := 21) hx hb dX7_mostInOneCell_5 (by decide) (fun cc => ?_) (fun cc => ?_)
      · replace hf := if_t cc hf
        refine lv_iconst (v := 0) hx hb dX7_mostInOneCell_21 (by decide) ?_
        refine lv_istore_n (lv' := [(1, .int 0), (0, .ref (h 0))]) hx hb dX7_mostInOneCell_22 rfl hl (by decide) rfl (fun ls hl => ?_)
        refine lv_iconst (v := 0) hx hb dX7_mostInOneCell_23 (by decide) ?_
        refine lv_istore_n (lv' := [(2, .int 0), (1, .int 0), (0, .ref (h 0))]) hx hb dX7_mostInOneCell_24 rfl hl (by decide) rfl (fun ls hl => ?_)
        exact l25 nf 0 0 stands inCell fitting H locs ls hP hD hS (lv_sub hl [2, 1, 0] rfl) hf
      · replace hf := if_f cc hf
        refine lv_aload_n hx hb dX7_mostInOneCell_8 rfl (lv_at hl 0 rfl) ?_
        refine va_get (ci := 7) (v := .ref (h 5)) (C := RX7) (T := TX7) (N := 8) hx hb hT hin_X7 hown hK hP 0 rfl rfl 4 (by decide) (hT _ wf_X7_24) (fun _ h9 => h9) rfl dX7_mostInOneCell_9 ?_
        refine lv_iload_n hx hb dX7_mostInOneCell_12 rfl (lv_at hl 1 rfl) ?_
        refine lv_iconst (v := 0) hx hb dX7_mostInOneCell_13 (by decide) ?_
        obtain ⟨hi, hf⟩ := ck_some hf
        refine va_iast hx hb hK hP hD hS 5 0 rfl rfl hi dX7_mostInOneCell_14 (fun H locs hP hD hS => ?_)
        have hP : va_P D vwCl (wX7 cyI cyJ cyZ cyO h next_ starts stands cellsSeen (upd inCell x1.toNatClampNeg 0) fitting bestNight mostLeft) H := hP
        have hD : va_D A (wX7 cyI cyJ cyZ cyO h next_ starts stands cellsSeen (upd inCell x1.toNatClampNeg 0) fitting bestNight mostLeft) := hD
        refine lv_iinc (v := (x1 + 1)) (lv' := [(1, .int (x1 + 1)), (0, .ref (h 0))]) hx hb dX7_mostInOneCell_15 hl (k := 1) rfl rfl (by decide) rfl (fun ls hl => ?_)
        refine lv_goto (tgt := 2) hx hb dX7_mostInOneCell_18 (by decide) ?_
        exact ih2 (x1 + 1) stands (upd inCell x1.toNatClampNeg 0) fitting H locs ls hP hD hS (lv_sub hl [1, 0] rfl) hf
  have main : ∀ (H : Heap) (locs : List Loc) (ls : Array Slot), va_P D vwCl (wX7 cyI cyJ cyZ cyO h next_ starts stands cellsSeen inCell fitting bestNight mostLeft) H → va_D A (wX7 cyI cyJ cyZ cyO h next_ starts stands cellsSeen inCell fitting bestNight mostLeft) → va_S A s.heap H locs → lv_has ls 4 [(0, .ref (h 0))] → W p l e ({ frames := 1, cells := 0, slots := 0, locals := 40 } : Room) s m ([.ref (h 0)] : List Value).toArray below meth c H locs 0 0 (MQ below (qI D (wX7 cyI cyJ cyZ cyO h next_ starts stands cellsSeen q.2 fitting bestNight mostLeft) q.1 A) ([.ref (h 0)] : List Value).toArray s 0 0 A) (F0 m 0 ls []) := by
    intro H locs ls hP hD hS hl
    unfold g_X7_mostInOneCell at hf
    refine lv_iconst (v := 0) hx hb dX7_mostInOneCell_0 (by decide) ?_
    refine lv_istore_n (lv' := [(1, .int 0), (0, .ref (h 0))]) hx hb dX7_mostInOneCell_1 rfl hl (by decide) rfl (fun ls hl => ?_)
    exact l2 nf 0 stands inCell fitting H locs ls hP hD hS (lv_sub hl [1, 0] rfl) hf
  have hl := lv_entry ([.ref (h 0)]) (n := 4) (Nat.le_of_ble_eq_true rfl)
  rw [lg_entry_eq]
  exact main s.heap [] _ hP hD hS hl
theorem hd_X7_chooseNight : yX7_chooseNight.cls = RX7 ∧ yX7_chooseNight.cls ≠ "java/lang/invoke/MethodHandle" ∧ yX7_chooseNight.cls ≠ "java/lang/invoke/VarHandle" ∧ (parseMethodDescriptor yX7_chooseNight.desc).map (fun d => d.parameters.length) = some 0 := by decide +kernel
set_option maxHeartbeats 4000000 in
set_option maxRecDepth 100000 in
theorem c_X7_chooseNight (l : Launch) (D : va_G) (cyI cyJ cyZ cyO : ClassId) (h : Nat → Nat) (sz : Nat) (next_ : Nat → Int32) (starts : Nat → Int32) (stands : Nat → Int32) (cellsSeen : Nat → Int32) (inCell : Nat → Int32) (fitting : Int32) (bestNight : Int32) (mostLeft : Int32) (nf : Nat) (q : (Nat → Int32) × (Nat → Int32) × Int32 × Int32) (hf : g_X7_chooseNight nf next_ starts stands inCell fitting bestNight mostLeft = some q) : Met l yX7_chooseNight (Cond.code yX7_chooseNight cX7_chooseNight 4 none :: tbG) ({ frames := 2, cells := 0, slots := 0, locals := 63 } : Room) (va_Pc [.ref (h 0)] (pcB D (ty4 cyI cyJ cyZ cyO) sz (wX7 cyI cyJ cyZ cyO h next_ starts stands cellsSeen inCell fitting bestNight mostLeft))) (qV D (wX7 cyI cyJ cyZ cyO h next_ starts q.1 cellsSeen q.2.1 fitting q.2.2.1 q.2.2.2) (va_A (wX7 cyI cyJ cyZ cyO h next_ starts stands cellsSeen inCell fitting bestNight mostLeft) sz)) 0 0 (va_A (wX7 cyI cyJ cyZ cyO h next_ starts stands cellsSeen inCell fitting bestNight mostLeft) sz) := by
  refine Met.ofW (cc := cX7_chooseNight) (maxL := 4) (ret := none) (by decide) rfl ?_
  intro p e s m args below meth c s₁ B hml hv
  obtain ⟨rfl, hsz, hP, hK, hD0, hN⟩ := hv
  have hx := B.exec
  have hb := B.bytes
  have hr := B.returns
  have hT : ∀ w ∈ tbG, w.before ([.ref (h 0)] : List Value).toArray s = true := fun w h => atoms_spec (ws := (Cond.code yX7_chooseNight cX7_chooseNight 4 none :: tbG)) B.pre w (List.mem_cons_of_mem _ h)
  have hown : s.vm.findClass RX7 = some m.cls := findClass_of_methodNamed B.named
  have hlocks := B.notSynchronized
  subst hsz
  have hD := hD0.self (sz := s.heap.size)
  generalize hAe : va_A (wX7 cyI cyJ cyZ cyO h next_ starts stands cellsSeen inCell fitting bestNight mostLeft) s.heap.size = A at hD ⊢
  have hA : ∀ q : Nat, s.heap.size ≤ q → A q := fun q h => by rw [← hAe]; exact Or.inr h
  have hS : va_S A s.heap s.heap [] := va_S.rf
  show W p l e ({ frames := 2, cells := 0, slots := 0, locals := 63 } : Room) s m ([.ref (h 0)] : List Value).toArray below meth c s.heap [] 0 0 (MQ below (qV D (wX7 cyI cyJ cyZ cyO h next_ starts q.1 cellsSeen q.2.1 fitting q.2.2.1 q.2.2.2) A) ([.ref (h 0)] : List Value).toArray s 0 0 A) _
  have l41 : ∀ (n41 : Nat) (x1 : Int32) (next_ : Nat → Int32) (starts : Nat → Int32) (stands : Nat → Int32) (inCell : Nat → Int32) (fitting : Int32) (bestNight : Int32) (mostLeft : Int32) (H : Heap) (locs : List Loc) (ls : Array Slot), va_P D vwCl (wX7 cyI cyJ cyZ cyO h next_ starts stands cellsSeen inCell fitting bestNight mostLeft) H → va_D A (wX7 cyI cyJ cyZ cyO h next_ starts stands cellsSeen inCell fitting bestNight mostLeft) → va_S A s.heap H locs → lv_has ls 4 [(0, .ref (h 0)), (1, .int x1)] → g_X7_chooseNight_l41 nf n41 x1 next_ starts stands inCell fitting bestNight mostLeft = some q → W p l e ({ frames := 2, cells := 0, slots := 0, locals := 63 } : Room) s m ([.ref (h 0)] : List Value).toArray below meth c H locs 0 0 (MQ below (qV D (wX7 cyI cyJ cyZ cyO h next_ starts q.1 cellsSeen q.2.1 fitting q.2.2.1 q.2.2.2) A) ([.ref (h 0)] : List Value).toArray s 0 0 A) (F0 m 41 ls []) := by
    intro n41
    induction n41 with
    | zero =>
      intro x1 next_ starts stands inCell fitting bestNight mostLeft H locs ls hP hD hS hl hf
      rw [g_X7_chooseNight_l41] at hf
      cases hf
    | succ n41 ih41 =>
      have l72 : ∀ (n72 : Nat) (x1 : Int32) (x3 : Int32) (next_ : Nat → Int32) (starts : Nat → Int32) (stands : Nat → Int32) (inCell : Nat → Int32) (fitting : Int32) (bestNight : Int32) (mostLeft : Int32) (H : Heap) (locs : List Loc) (ls : Array Slot), va_P D vwCl (wX7 cyI cyJ cyZ cyO h next_ starts stands cellsSeen inCell fitting bestNight mostLeft) H → va_D A (wX7 cyI cyJ cyZ cyO h next_ starts stands cellsSeen inCell fitting bestNight mostLeft) → va_S A s.heap H locs → lv_has ls 4 [(0, .ref (h 0)), (1, .int x1), (3, .int x3)] → g_X7_chooseNight_l72 nf (g_X7_chooseNight_l41 nf n41) n72 x1 x3 next_ starts stands inCell fitting bestNight mostLeft = some q → W p l e ({ frames := 2, cells := 0, slots := 0, locals := 63 } : Room) s m ([.ref (h 0)] : List Value).toArray below meth c H locs 0 0 (MQ below (qV D (wX7 cyI cyJ cyZ cyO h next_ starts q.1 cellsSeen q.2.1 fitting q.2.2.1 q.2.2.2) A) ([.ref (h 0)] : List Value).toArray s 0 0 A) (F0 m 72 ls []) := by
        intro n72
        induction n72 with
        | zero =>
          intro x1 x3 next_ starts stands inCell fitting bestNight mostLeft H locs ls hP hD hS hl hf
          rw [g_X7_chooseNight_l72] at hf
          cases hf
        | succ n72 ih72 =>
          intro x1 x3 next_ starts stands inCell fitting bestNight mostLeft H locs ls hP hD hS hl hf
          rw [g_X7_chooseNight_l72] at hf
          refine lv_iload_n hx hb dX7_chooseNight_72 rfl (lv_at hl 2 rfl) ?_
          refine lv_aload_n hx hb dX7_chooseNight_73 rfl (lv_at hl 0 rfl) ?_
          refine va_get (ci := 7) (v := .int fitting) (C := RX7) (T := TX7) (N := 8) hx hb hT hin_X7 hown hK hP 0 rfl rfl 5 (by decide) (hT _ wf_X7_43) (fun _ h9 => h9) rfl dX7_chooseNight_74 ?_
          refine lv_icmp_ge (tgt := 103) hx hb dX7_chooseNight_77 (by decide) (fun cc => ?_) (fun cc => ?_)
          · replace hf := if_t cc hf
            refine lv_iinc (v := (x1 + 1)) (lv' := [(1, .int (x1 + 1)), (0, .ref (h 0)), (3, .int x3)]) hx hb dX7_chooseNight_103 hl (k := 1) rfl rfl (by decide) rfl (fun ls hl => ?_)
            refine lv_goto (tgt := 41) hx hb dX7_chooseNight_106 (by decide) ?_
            exact ih41 (x1 + 1) next_ starts stands inCell fitting bestNight mostLeft H locs ls hP hD hS (lv_sub hl [1, 0] rfl) hf
          · replace hf := if_f cc hf
            refine lv_aload_n hx hb dX7_chooseNight_80 rfl (lv_at hl 0 rfl) ?_
            refine va_get (ci := 7) (v := .ref (h 3)) (C := RX7) (T := TX7) (N := 8) hx hb hT hin_X7 hown hK hP 0 rfl rfl 2 (by decide) (hT _ wf_X7_18) (fun _ h9 => h9) rfl dX7_chooseNight_81 ?_
            refine lv_iload_n hx hb dX7_chooseNight_84 rfl (lv_at hl 2 rfl) ?_
            refine lv_aload_n hx hb dX7_chooseNight_85 rfl (lv_at hl 0 rfl) ?_
            refine va_get (ci := 7) (v := .ref (h 1)) (C := RX7) (T := TX7) (N := 8) hx hb hT hin_X7 hown hK hP 0 rfl rfl 0 (by decide) (hT _ wf_X7_11) (fun _ h9 => h9) rfl dX7_chooseNight_86 ?_
            refine lv_aload_n hx hb dX7_chooseNight_89 rfl (lv_at hl 0 rfl) ?_
            refine va_get (ci := 7) (v := .ref (h 3)) (C := RX7) (T := TX7) (N := 8) hx hb hT hin_X7 hown hK hP 0 rfl rfl 2 (by decide) (hT _ wf_X7_18) (fun _ h9 => h9) rfl dX7_chooseNight_90 ?_
            refine lv_iload_n hx hb dX7_chooseNight_93 rfl (lv_at hl 2 rfl) ?_
            obtain ⟨hi, hf⟩ := ck_some hf
            refine va_iald hx hb hK hP 3 0 rfl rfl hi dX7_chooseNight_94 ?_
            obtain ⟨hi, hf⟩ := ck_some hf
            refine va_iald hx hb hK hP 1 0 rfl rfl hi dX7_chooseNight_95 ?_
            obtain ⟨hi, hf⟩ := ck_some hf
            refine va_iast hx hb hK hP hD hS 3 0 rfl rfl hi dX7_chooseNight_96 (fun H locs hP hD hS => ?_)
            have hP : va_P D vwCl (wX7 cyI cyJ cyZ cyO h next_ starts (upd stands x3.toNatClampNeg (next_ (stands x3.toNatClampNeg).toNatClampNeg)) cellsSeen inCell fitting bestNight mostLeft) H := hP
            have hD : va_D A (wX7 cyI cyJ cyZ cyO h next_ starts (upd stands x3.toNatClampNeg (next_ (stands x3.toNatClampNeg).toNatClampNeg)) cellsSeen inCell fitting bestNight mostLeft) := hD
            refine lv_iinc (v := (x3 + 1)) (lv' := [(3, .int (x3 + 1)), (0, .ref (h 0)), (1, .int x1)]) hx hb dX7_chooseNight_97 hl (k := 2) rfl rfl (by decide) rfl (fun ls hl => ?_)
            refine lv_goto (tgt := 72) hx hb dX7_chooseNight_100 (by decide) ?_
            exact ih72 x1 (x3 + 1) next_ starts (upd stands x3.toNatClampNeg (next_ (stands x3.toNatClampNeg).toNatClampNeg)) inCell fitting bestNight mostLeft H locs ls hP hD hS (lv_sub hl [1, 2, 0] rfl) hf
      have b70 : ∀ (x1 : Int32) (next_ : Nat → Int32) (starts : Nat → Int32) (stands : Nat → Int32) (inCell : Nat → Int32) (fitting : Int32) (bestNight : Int32) (mostLeft : Int32) (H : Heap) (locs : List Loc) (ls : Array Slot), va_P D vwCl (wX7 cyI cyJ cyZ cyO h next_ starts stands cellsSeen inCell fitting bestNight mostLeft) H → va_D A (wX7 cyI cyJ cyZ cyO h next_ starts stands cellsSeen inCell fitting bestNight mostLeft) → va_S A s.heap H locs → lv_has ls 4 [(0, .ref (h 0)), (1, .int x1)] → g_X7_chooseNight_b70 nf (g_X7_chooseNight_l41 nf n41) x1 next_ starts stands inCell fitting bestNight mostLeft = some q → W p l e ({ frames := 2, cells := 0, slots := 0, locals := 63 } : Room) s m ([.ref (h 0)] : List Value).toArray below meth c H locs 0 0 (MQ below (qV D (wX7 cyI cyJ cyZ cyO h next_ starts q.1 cellsSeen q.2.1 fitting q.2.2.1 q.2.2.2) A) ([.ref (h 0)] : List Value).toArray s 0 0 A) (F0 m 70 ls []) := by
        intro x1 next_ starts stands inCell fitting bestNight mostLeft H locs ls hP hD hS hl hf
        unfold g_X7_chooseNight_b70 at hf
        refine lv_iconst (v := 0) hx hb dX7_chooseNight_70 (by decide) ?_
        refine lv_istore_n (lv' := [(3, .int 0), (0, .ref (h 0)), (1, .int x1)]) hx hb dX7_chooseNight_71 rfl hl (by decide) rfl (fun ls hl => ?_)
        exact l72 nf x1 0 next_ starts stands inCell fitting bestNight mostLeft H locs ls hP hD hS (lv_sub hl [1, 2, 0] rfl) hf
      intro x1 next_ starts stands inCell fitting bestNight mostLeft H locs ls hP hD hS hl hf
      rw [g_X7_chooseNight_l41] at hf
      refine lv_iload_n hx hb dX7_chooseNight_41 rfl (lv_at hl 1 rfl) ?_
      refine lv_bipush (v := 41) hx hb dX7_chooseNight_42 (by decide) ?_
      refine lv_icmp_ge (tgt := 109) hx hb dX7_chooseNight_44 (by decide) (fun cc => ?_) (fun cc => ?_)
      · replace hf := if_t cc hf
        cases Option.some.inj hf
        exact W.vret hx hb hr (fun t ht hW => ⟨⟨(), rfl, trivial, by show va_P D vwCl _ t.heap; rw [ht]; exact hP⟩, hS.F ht⟩) hS.2.2 dX7_chooseNight_109
      · replace hf := if_f cc hf
        refine lv_aload_n hx hb dX7_chooseNight_47 rfl (lv_at hl 0 rfl) ?_
        obtain ⟨q1, hq1, hf⟩ := bd_some hf
        have hC : [0, 1, 2, 3, 4, 5].map (fun i => (wX7 cyI cyJ cyZ cyO h next_ starts stands cellsSeen inCell fitting bestNight mostLeft)[i]?) = (wX7 cyI cyJ cyZ cyO h next_ starts stands cellsSeen inCell fitting bestNight mostLeft).map some := rfl
        refine cl_i (rn_V (As := []) (rest := []) (C := RX7) hx hb hml hown hT hK hN hP hD [0, 1, 2, 3, 4, 5] hC rfl (c_X7_mostInOneCell l D cyI cyJ cyZ cyO h H.size next_ starts stands cellsSeen inCell fitting bestNight mostLeft nf q1 hq1) wm_X7_71 wi_X7_mostInOneCell wl_X7_mostInOneCell wz_X7 wc_X7_mostInOneCell hd_X7_mostInOneCell ⟨rfl, rfl⟩ ⟨Nat.le_of_ble_eq_true rfl, Nat.le_of_ble_eq_true rfl⟩ (q0 := 0) (ci := 7) rfl rfl rfl rfl hl.1 rfl (Nat.le_of_ble_eq_true rfl) dX7_chooseNight_48 ⟨Nat.zero_le _, Nat.zero_le _⟩) hP hD hS hA [0, 1, 2, 3, 4, 5] hC [(true, 0), (true, 1), (true, 2), (true, 3), (true, 4), (true, 5)] (ws' := wX7 cyI cyJ cyZ cyO h next_ starts stands cellsSeen q1.2 fitting bestNight mostLeft) rfl rfl rfl (fun H locs hP hD hS => ?_)
        refine lv_istore_n (lv' := [(2, .int q1.1), (0, .ref (h 0)), (1, .int x1)]) hx hb dX7_chooseNight_51 rfl hl (by decide) rfl (fun ls hl => ?_)
        refine lv_iload_n hx hb dX7_chooseNight_52 rfl (lv_at hl 0 rfl) ?_
        refine lv_aload_n hx hb dX7_chooseNight_53 rfl (lv_at hl 1 rfl) ?_
        refine va_get (ci := 7) (v := .int mostLeft) (C := RX7) (T := TX7) (N := 8) hx hb hT hin_X7 hown hK hP 0 rfl rfl 7 (by decide) (hT _ wf_X7_68) (fun _ h9 => h9) rfl dX7_chooseNight_54 ?_
        refine lv_icmp_ge (tgt := 70) hx hb dX7_chooseNight_57 (by decide) (fun cc => ?_) (fun cc => ?_)
        · replace hf := if_t cc hf
          exact b70 x1 next_ starts stands q1.2 fitting bestNight mostLeft H locs ls hP hD hS (lv_sub hl [1, 2] rfl) hf
        · replace hf := if_f cc hf
          refine lv_aload_n hx hb dX7_chooseNight_60 rfl (lv_at hl 1 rfl) ?_
          refine lv_iload_n hx hb dX7_chooseNight_61 rfl (lv_at hl 0 rfl) ?_
          refine va_put (ci := 7) (v := .int q1.1) (ty := .int) (C := RX7) (T := TX7) (N := 8) hx hb hT hin_X7 tyX7 tyX7_ok nmX7 hown hK hP hD hS 0 rfl rfl 7 (by decide) (hT _ wf_X7_68) (fun _ h9 => h9) rfl (tyX7_ok 7 (by decide)) rfl rfl (Nat.le_of_ble_eq_true rfl) dX7_chooseNight_62 (fun H locs hP hD hS => ?_)
          have hP : va_P D vwCl (wX7 cyI cyJ cyZ cyO h next_ starts stands cellsSeen q1.2 fitting bestNight q1.1) H := hP
          have hD : va_D A (wX7 cyI cyJ cyZ cyO h next_ starts stands cellsSeen q1.2 fitting bestNight q1.1) := hD
          refine lv_aload_n hx hb dX7_chooseNight_65 rfl (lv_at hl 1 rfl) ?_
          refine lv_iload_n hx hb dX7_chooseNight_66 rfl (lv_at hl 2 rfl) ?_
          refine va_put (ci := 7) (v := .int x1) (ty := .int) (C := RX7) (T := TX7) (N := 8) hx hb hT hin_X7 tyX7 tyX7_ok nmX7 hown hK hP hD hS 0 rfl rfl 6 (by decide) (hT _ wf_X7_65) (fun _ h9 => h9) rfl (tyX7_ok 6 (by decide)) rfl rfl (Nat.le_of_ble_eq_true rfl) dX7_chooseNight_67 (fun H locs hP hD hS => ?_)
          have hP : va_P D vwCl (wX7 cyI cyJ cyZ cyO h next_ starts stands cellsSeen q1.2 fitting x1 q1.1) H := hP
          have hD : va_D A (wX7 cyI cyJ cyZ cyO h next_ starts stands cellsSeen q1.2 fitting x1 q1.1) := hD
          exact b70 x1 next_ starts stands q1.2 fitting x1 q1.1 H locs ls hP hD hS (lv_sub hl [1, 2] rfl) hf
  have l2 : ∀ (n2 : Nat) (x1 : Int32) (next_ : Nat → Int32) (starts : Nat → Int32) (stands : Nat → Int32) (inCell : Nat → Int32) (fitting : Int32) (bestNight : Int32) (mostLeft : Int32) (H : Heap) (locs : List Loc) (ls : Array Slot), va_P D vwCl (wX7 cyI cyJ cyZ cyO h next_ starts stands cellsSeen inCell fitting bestNight mostLeft) H → va_D A (wX7 cyI cyJ cyZ cyO h next_ starts stands cellsSeen inCell fitting bestNight mostLeft) → va_S A s.heap H locs → lv_has ls 4 [(0, .ref (h 0)), (1, .int x1)] → g_X7_chooseNight_l2 nf n2 x1 next_ starts stands inCell fitting bestNight mostLeft = some q → W p l e ({ frames := 2, cells := 0, slots := 0, locals := 63 } : Room) s m ([.ref (h 0)] : List Value).toArray below meth c H locs 0 0 (MQ below (qV D (wX7 cyI cyJ cyZ cyO h next_ starts q.1 cellsSeen q.2.1 fitting q.2.2.1 q.2.2.2) A) ([.ref (h 0)] : List Value).toArray s 0 0 A) (F0 m 2 ls []) := by
    intro n2
    induction n2 with
    | zero =>
      intro x1 next_ starts stands inCell fitting bestNight mostLeft H locs ls hP hD hS hl hf
      rw [g_X7_chooseNight_l2] at hf
      cases hf
    | succ n2 ih2 =>
      intro x1 next_ starts stands inCell fitting bestNight mostLeft H locs ls hP hD hS hl hf
      rw [g_X7_chooseNight_l2] at hf
      refine lv_iload_n hx hb dX7_chooseNight_2 rfl (lv_at hl 1 rfl) ?_
      refine lv_aload_n hx hb dX7_chooseNight_3 rfl (lv_at hl 0 rfl) ?_
      refine va_get (ci := 7) (v := .int fitting) (C := RX7) (T := TX7) (N := 8) hx hb hT hin_X7 hown hK hP 0 rfl rfl 5 (by decide) (hT _ wf_X7_43) (fun _ h9 => h9) rfl dX7_chooseNight_4 ?_
      refine lv_icmp_ge (tgt := 28) hx hb dX7_chooseNight_7 (by decide) (fun cc => ?_) (fun cc => ?_)
      · replace hf := if_t cc hf
        refine lv_aload_n hx hb dX7_chooseNight_28 rfl (lv_at hl 0 rfl) ?_
        refine lv_iconst (v := 0) hx hb dX7_chooseNight_29 (by decide) ?_
        refine va_put (ci := 7) (v := .int 0) (ty := .int) (C := RX7) (T := TX7) (N := 8) hx hb hT hin_X7 tyX7 tyX7_ok nmX7 hown hK hP hD hS 0 rfl rfl 6 (by decide) (hT _ wf_X7_65) (fun _ h9 => h9) rfl (tyX7_ok 6 (by decide)) rfl rfl (Nat.le_of_ble_eq_true rfl) dX7_chooseNight_30 (fun H locs hP hD hS => ?_)
        have hP : va_P D vwCl (wX7 cyI cyJ cyZ cyO h next_ starts stands cellsSeen inCell fitting 0 mostLeft) H := hP
        have hD : va_D A (wX7 cyI cyJ cyZ cyO h next_ starts stands cellsSeen inCell fitting 0 mostLeft) := hD
        refine lv_aload_n hx hb dX7_chooseNight_33 rfl (lv_at hl 0 rfl) ?_
        refine lv_bipush (v := 101) hx hb dX7_chooseNight_34 (by decide) ?_
        refine va_put (ci := 7) (v := .int 101) (ty := .int) (C := RX7) (T := TX7) (N := 8) hx hb hT hin_X7 tyX7 tyX7_ok nmX7 hown hK hP hD hS 0 rfl rfl 7 (by decide) (hT _ wf_X7_68) (fun _ h9 => h9) rfl (tyX7_ok 7 (by decide)) rfl rfl (Nat.le_of_ble_eq_true rfl) dX7_chooseNight_36 (fun H locs hP hD hS => ?_)
        have hP : va_P D vwCl (wX7 cyI cyJ cyZ cyO h next_ starts stands cellsSeen inCell fitting 0 101) H := hP
        have hD : va_D A (wX7 cyI cyJ cyZ cyO h next_ starts stands cellsSeen inCell fitting 0 101) := hD
        refine lv_iconst (v := 0) hx hb dX7_chooseNight_39 (by decide) ?_
        refine lv_istore_n (lv' := [(1, .int 0), (0, .ref (h 0))]) hx hb dX7_chooseNight_40 rfl hl (by decide) rfl (fun ls hl => ?_)
        exact l41 nf 0 next_ starts stands inCell fitting 0 101 H locs ls hP hD hS (lv_sub hl [1, 0] rfl) hf
      · replace hf := if_f cc hf
        refine lv_aload_n hx hb dX7_chooseNight_10 rfl (lv_at hl 0 rfl) ?_
        refine va_get (ci := 7) (v := .ref (h 3)) (C := RX7) (T := TX7) (N := 8) hx hb hT hin_X7 hown hK hP 0 rfl rfl 2 (by decide) (hT _ wf_X7_18) (fun _ h9 => h9) rfl dX7_chooseNight_11 ?_
        refine lv_iload_n hx hb dX7_chooseNight_14 rfl (lv_at hl 1 rfl) ?_
        refine lv_aload_n hx hb dX7_chooseNight_15 rfl (lv_at hl 0 rfl) ?_
        refine va_get (ci := 7) (v := .ref (h 2)) (C := RX7) (T := TX7) (N := 8) hx hb hT hin_X7 hown hK hP 0 rfl rfl 1 (by decide) (hT _ wf_X7_15) (fun _ h9 => h9) rfl dX7_chooseNight_16 ?_
        refine lv_iload_n hx hb dX7_chooseNight_19 rfl (lv_at hl 1 rfl) ?_
        obtain ⟨hi, hf⟩ := ck_some hf
        refine va_iald hx hb hK hP 2 0 rfl rfl hi dX7_chooseNight_20 ?_
        obtain ⟨hi, hf⟩ := ck_some hf
        refine va_iast hx hb hK hP hD hS 3 0 rfl rfl hi dX7_chooseNight_21 (fun H locs hP hD hS => ?_)
        have hP : va_P D vwCl (wX7 cyI cyJ cyZ cyO h next_ starts (upd stands x1.toNatClampNeg (starts x1.toNatClampNeg)) cellsSeen inCell fitting bestNight mostLeft) H := hP
        have hD : va_D A (wX7 cyI cyJ cyZ cyO h next_ starts (upd stands x1.toNatClampNeg (starts x1.toNatClampNeg)) cellsSeen inCell fitting bestNight mostLeft) := hD
        refine lv_iinc (v := (x1 + 1)) (lv' := [(1, .int (x1 + 1)), (0, .ref (h 0))]) hx hb dX7_chooseNight_22 hl (k := 1) rfl rfl (by decide) rfl (fun ls hl => ?_)
        refine lv_goto (tgt := 2) hx hb dX7_chooseNight_25 (by decide) ?_
        exact ih2 (x1 + 1) next_ starts (upd stands x1.toNatClampNeg (starts x1.toNatClampNeg)) inCell fitting bestNight mostLeft H locs ls hP hD hS (lv_sub hl [1, 0] rfl) hf
  have main : ∀ (H : Heap) (locs : List Loc) (ls : Array Slot), va_P D vwCl (wX7 cyI cyJ cyZ cyO h next_ starts stands cellsSeen inCell fitting bestNight mostLeft) H → va_D A (wX7 cyI cyJ cyZ cyO h next_ starts stands cellsSeen inCell fitting bestNight mostLeft) → va_S A s.heap H locs → lv_has ls 4 [(0, .ref (h 0))] → W p l e ({ frames := 2, cells := 0, slots := 0, locals := 63 } : Room) s m ([.ref (h 0)] : List Value).toArray below meth c H locs 0 0 (MQ below (qV D (wX7 cyI cyJ cyZ cyO h next_ starts q.1 cellsSeen q.2.1 fitting q.2.2.1 q.2.2.2) A) ([.ref (h 0)] : List Value).toArray s 0 0 A) (F0 m 0 ls []) := by
    intro H locs ls hP hD hS hl
    unfold g_X7_chooseNight at hf
    refine lv_iconst (v := 0) hx hb dX7_chooseNight_0 (by decide) ?_
    refine lv_istore_n (lv' := [(1, .int 0), (0, .ref (h 0))]) hx hb dX7_chooseNight_1 rfl hl (by decide) rfl (fun ls hl => ?_)
    exact l2 nf 0 next_ starts stands inCell fitting bestNight mostLeft H locs ls hP hD hS (lv_sub hl [1, 0] rfl) hf
  have hl := lv_entry ([.ref (h 0)]) (n := 4) (Nat.le_of_ble_eq_true rfl)
  rw [lg_entry_eq]
  exact main s.heap [] _ hP hD hS hl
theorem hd_X8_isWay : yX8_isWay.cls ≠ "java/lang/invoke/MethodHandle" ∧ yX8_isWay.cls ≠ "java/lang/invoke/VarHandle" ∧ (parseMethodDescriptor yX8_isWay.desc).map (fun d => d.parameters.length) = some 1 := by decide +kernel
set_option maxHeartbeats 4000000 in
set_option maxRecDepth 100000 in
theorem c_X8_isWay (l : Launch) (D : va_G) (cyI cyJ cyZ cyO : ClassId) (sz : Nat) (p0 : Int32) (nf : Nat) (q : Int32) (hf : g_X8_isWay nf p0 = some q) : Met l yX8_isWay (Cond.code yX8_isWay cX8_isWay 1 (some .boolean) :: tbG) ({ frames := 1, cells := 0, slots := 0, locals := 22 } : Room) (va_Pc [.int p0] (pcB D (ty4 cyI cyJ cyZ cyO) sz (([] : va_W)))) (qI D (([] : va_W)) q (va_A (([] : va_W)) sz)) 0 0 (va_A (([] : va_W)) sz) := by
  refine Met.ofW (cc := cX8_isWay) (maxL := 1) (ret := (some .boolean)) (by decide) rfl ?_
  intro p e s m args below meth c s₁ B hml hv
  obtain ⟨rfl, hsz, hP, hK, hD0, hN⟩ := hv
  have hx := B.exec
  have hb := B.bytes
  have hr := B.returns
  have hT : ∀ w ∈ tbG, w.before ([.int p0] : List Value).toArray s = true := fun w h => atoms_spec (ws := (Cond.code yX8_isWay cX8_isWay 1 (some .boolean) :: tbG)) B.pre w (List.mem_cons_of_mem _ h)
  have hown : s.vm.findClass RX8 = some m.cls := findClass_of_methodNamed B.named
  have hlocks := B.notSynchronized
  subst hsz
  have hD := hD0.self (sz := s.heap.size)
  generalize hAe : va_A (([] : va_W)) s.heap.size = A at hD ⊢
  have hA : ∀ q : Nat, s.heap.size ≤ q → A q := fun q h => by rw [← hAe]; exact Or.inr h
  have hS : va_S A s.heap s.heap [] := va_S.rf
  show W p l e ({ frames := 1, cells := 0, slots := 0, locals := 22 } : Room) s m ([.int p0] : List Value).toArray below meth c s.heap [] 0 0 (MQ below (qI D (([] : va_W)) q A) ([.int p0] : List Value).toArray s 0 0 A) _
  have main : ∀ (H : Heap) (locs : List Loc) (ls : Array Slot), va_P D vwCl (([] : va_W)) H → va_D A (([] : va_W)) → va_S A s.heap H locs → lv_has ls 1 [(0, .int p0)] → W p l e ({ frames := 1, cells := 0, slots := 0, locals := 22 } : Room) s m ([.int p0] : List Value).toArray below meth c H locs 0 0 (MQ below (qI D (([] : va_W)) q A) ([.int p0] : List Value).toArray s 0 0 A) (F0 m 0 ls []) := by
    intro H locs ls hP hD hS hl
    unfold g_X8_isWay at hf
    refine lv_iload_n hx hb dX8_isWay_0 rfl (lv_at hl 0 rfl) ?_
    refine lv_iconst (v := 0) hx hb dX8_isWay_1 (by decide) ?_
    refine lv_iconst (v := 3) hx hb dX8_isWay_2 (by decide) ?_
    obtain ⟨q1, hq1, hf⟩ := bd_some hf
    have hC : ([] : List Nat).map (fun i => (([] : va_W))[i]?) = ([] : va_W).map some := rfl
    refine cl_i (rn_S (As := [.int p0, .int 0, .int 3]) (rest := []) hx hb hml hown hT hK hN hP hD [] hC rfl (c_X8_within l D cyI cyJ cyZ cyO H.size p0 0 3 nf q1 hq1) wm_X8_80 wt_X8_within wz_X8 wc_X8_within hd_X8_within ⟨rfl, rfl⟩ ⟨Nat.le_of_ble_eq_true rfl, Nat.le_of_ble_eq_true rfl⟩ rfl hl.1 rfl (Nat.le_of_ble_eq_true rfl) dX8_isWay_3 ⟨Nat.zero_le _, Nat.zero_le _⟩) hP hD hS hA [] hC [] (ws' := ([] : va_W)) rfl rfl rfl (fun H locs hP hD hS => ?_)
    obtain ⟨hz, hf⟩ := bz_some hf
    cases Option.some.inj hf
    exact W.zret hx hb hr (bz_nar hz).2 (fun t ht hW => ⟨⟨_, (), rfl, rfl, by show va_P D vwCl _ t.heap; rw [ht]; exact hP⟩, hS.F ht⟩) hS.2.2 dX8_isWay_6
  have hl := lv_entry ([.int p0]) (n := 1) (Nat.le_of_ble_eq_true rfl)
  rw [lg_entry_eq]
  exact main s.heap [] _ hP hD hS hl
theorem hd_X8_areFourLands : yX8_areFourLands.cls ≠ "java/lang/invoke/MethodHandle" ∧ yX8_areFourLands.cls ≠ "java/lang/invoke/VarHandle" ∧ (parseMethodDescriptor yX8_areFourLands.desc).map (fun d => d.parameters.length) = some 1 := by decide +kernel
set_option maxHeartbeats 4000000 in
set_option maxRecDepth 100000 in
theorem c_X8_areFourLands (l : Launch) (D : va_G) (cyI cyJ cyZ cyO : ClassId) (sz : Nat) (p0 : Int32) (nf : Nat) (q : Int32) (hf : g_X8_areFourLands nf p0 = some q) : Met l yX8_areFourLands (Cond.code yX8_areFourLands cX8_areFourLands 1 (some .boolean) :: tbG) ({ frames := 1, cells := 0, slots := 0, locals := 22 } : Room) (va_Pc [.int p0] (pcB D (ty4 cyI cyJ cyZ cyO) sz (([] : va_W)))) (qI D (([] : va_W)) q (va_A (([] : va_W)) sz)) 0 0 (va_A (([] : va_W)) sz) := by
  refine Met.ofW (cc := cX8_areFourLands) (maxL := 1) (ret := (some .boolean)) (by decide) rfl ?_
  intro p e s m args below meth c s₁ B hml hv
  obtain ⟨rfl, hsz, hP, hK, hD0, hN⟩ := hv
  have hx := B.exec
  have hb := B.bytes
  have hr := B.returns
  have hT : ∀ w ∈ tbG, w.before ([.int p0] : List Value).toArray s = true := fun w h => atoms_spec (ws := (Cond.code yX8_areFourLands cX8_areFourLands 1 (some .boolean) :: tbG)) B.pre w (List.mem_cons_of_mem _ h)
  have hown : s.vm.findClass RX8 = some m.cls := findClass_of_methodNamed B.named
  have hlocks := B.notSynchronized
  subst hsz
  have hD := hD0.self (sz := s.heap.size)
  generalize hAe : va_A (([] : va_W)) s.heap.size = A at hD ⊢
  have hA : ∀ q : Nat, s.heap.size ≤ q → A q := fun q h => by rw [← hAe]; exact Or.inr h
  have hS : va_S A s.heap s.heap [] := va_S.rf
  show W p l e ({ frames := 1, cells := 0, slots := 0, locals := 22 } : Room) s m ([.int p0] : List Value).toArray below meth c s.heap [] 0 0 (MQ below (qI D (([] : va_W)) q A) ([.int p0] : List Value).toArray s 0 0 A) _
  have main : ∀ (H : Heap) (locs : List Loc) (ls : Array Slot), va_P D vwCl (([] : va_W)) H → va_D A (([] : va_W)) → va_S A s.heap H locs → lv_has ls 1 [(0, .int p0)] → W p l e ({ frames := 1, cells := 0, slots := 0, locals := 22 } : Room) s m ([.int p0] : List Value).toArray below meth c H locs 0 0 (MQ below (qI D (([] : va_W)) q A) ([.int p0] : List Value).toArray s 0 0 A) (F0 m 0 ls []) := by
    intro H locs ls hP hD hS hl
    unfold g_X8_areFourLands at hf
    refine lv_iload_n hx hb dX8_areFourLands_0 rfl (lv_at hl 0 rfl) ?_
    refine lv_iconst (v := 0) hx hb dX8_areFourLands_1 (by decide) ?_
    refine lv_sipush (v := 9999) hx hb dX8_areFourLands_2 (by decide) ?_
    obtain ⟨q1, hq1, hf⟩ := bd_some hf
    have hC : ([] : List Nat).map (fun i => (([] : va_W))[i]?) = ([] : va_W).map some := rfl
    refine cl_i (rn_S (As := [.int p0, .int 0, .int 9999]) (rest := []) hx hb hml hown hT hK hN hP hD [] hC rfl (c_X8_within l D cyI cyJ cyZ cyO H.size p0 0 9999 nf q1 hq1) wm_X8_80 wt_X8_within wz_X8 wc_X8_within hd_X8_within ⟨rfl, rfl⟩ ⟨Nat.le_of_ble_eq_true rfl, Nat.le_of_ble_eq_true rfl⟩ rfl hl.1 rfl (Nat.le_of_ble_eq_true rfl) dX8_areFourLands_5 ⟨Nat.zero_le _, Nat.zero_le _⟩) hP hD hS hA [] hC [] (ws' := ([] : va_W)) rfl rfl rfl (fun H locs hP hD hS => ?_)
    refine lv_if_ne (tgt := 13) hx hb dX8_areFourLands_8 (by decide) (fun cc => ?_) (fun cc => ?_)
    · replace hf := if_f cc hf
      refine lv_iload_n hx hb dX8_areFourLands_13 rfl (lv_at hl 0 rfl) ?_
      refine lv_sipush (v := 1000) hx hb dX8_areFourLands_14 (by decide) ?_
      refine lv_idiv hx hb dX8_areFourLands_17 (by decide) ?_
      refine lv_iconst (v := 5) hx hb dX8_areFourLands_18 (by decide) ?_
      refine lv_icmp_gt (tgt := 56) hx hb dX8_areFourLands_19 (by decide) (fun cc => ?_) (fun cc => ?_)
      · replace hf := if_t cc hf
        refine lv_iconst (v := 0) hx hb dX8_areFourLands_56 (by decide) ?_
        obtain ⟨hz, hf⟩ := bz_some hf
        cases Option.some.inj hf
        exact W.zret hx hb hr (bz_nar hz).2 (fun t ht hW => ⟨⟨_, (), rfl, rfl, by show va_P D vwCl _ t.heap; rw [ht]; exact hP⟩, hS.F ht⟩) hS.2.2 dX8_areFourLands_57
      · replace hf := if_f cc hf
        refine lv_iload_n hx hb dX8_areFourLands_22 rfl (lv_at hl 0 rfl) ?_
        refine lv_bipush (v := 100) hx hb dX8_areFourLands_23 (by decide) ?_
        refine lv_idiv hx hb dX8_areFourLands_25 (by decide) ?_
        refine lv_bipush (v := 10) hx hb dX8_areFourLands_26 (by decide) ?_
        refine lv_irem hx hb dX8_areFourLands_28 (by decide) ?_
        refine lv_iconst (v := 5) hx hb dX8_areFourLands_29 (by decide) ?_
        refine lv_icmp_gt (tgt := 56) hx hb dX8_areFourLands_30 (by decide) (fun cc => ?_) (fun cc => ?_)
        · replace hf := if_t cc hf
          refine lv_iconst (v := 0) hx hb dX8_areFourLands_56 (by decide) ?_
          obtain ⟨hz, hf⟩ := bz_some hf
          cases Option.some.inj hf
          exact W.zret hx hb hr (bz_nar hz).2 (fun t ht hW => ⟨⟨_, (), rfl, rfl, by show va_P D vwCl _ t.heap; rw [ht]; exact hP⟩, hS.F ht⟩) hS.2.2 dX8_areFourLands_57
        · replace hf := if_f cc hf
          refine lv_iload_n hx hb dX8_areFourLands_33 rfl (lv_at hl 0 rfl) ?_
          refine lv_bipush (v := 10) hx hb dX8_areFourLands_34 (by decide) ?_
          refine lv_idiv hx hb dX8_areFourLands_36 (by decide) ?_
          refine lv_bipush (v := 10) hx hb dX8_areFourLands_37 (by decide) ?_
          refine lv_irem hx hb dX8_areFourLands_39 (by decide) ?_
          refine lv_iconst (v := 5) hx hb dX8_areFourLands_40 (by decide) ?_
          refine lv_icmp_gt (tgt := 56) hx hb dX8_areFourLands_41 (by decide) (fun cc => ?_) (fun cc => ?_)
          · replace hf := if_t cc hf
            refine lv_iconst (v := 0) hx hb dX8_areFourLands_56 (by decide) ?_
            obtain ⟨hz, hf⟩ := bz_some hf
            cases Option.some.inj hf
            exact W.zret hx hb hr (bz_nar hz).2 (fun t ht hW => ⟨⟨_, (), rfl, rfl, by show va_P D vwCl _ t.heap; rw [ht]; exact hP⟩, hS.F ht⟩) hS.2.2 dX8_areFourLands_57
          · replace hf := if_f cc hf
            refine lv_iload_n hx hb dX8_areFourLands_44 rfl (lv_at hl 0 rfl) ?_
            refine lv_bipush (v := 10) hx hb dX8_areFourLands_45 (by decide) ?_
            refine lv_irem hx hb dX8_areFourLands_47 (by decide) ?_
            refine lv_iconst (v := 5) hx hb dX8_areFourLands_48 (by decide) ?_
            refine lv_icmp_gt (tgt := 56) hx hb dX8_areFourLands_49 (by decide) (fun cc => ?_) (fun cc => ?_)
            · replace hf := if_t cc hf
              refine lv_iconst (v := 0) hx hb dX8_areFourLands_56 (by decide) ?_
              obtain ⟨hz, hf⟩ := bz_some hf
              cases Option.some.inj hf
              exact W.zret hx hb hr (bz_nar hz).2 (fun t ht hW => ⟨⟨_, (), rfl, rfl, by show va_P D vwCl _ t.heap; rw [ht]; exact hP⟩, hS.F ht⟩) hS.2.2 dX8_areFourLands_57
            · replace hf := if_f cc hf
              refine lv_iconst (v := 1) hx hb dX8_areFourLands_52 (by decide) ?_
              refine lv_goto (tgt := 57) hx hb dX8_areFourLands_53 (by decide) ?_
              obtain ⟨hz, hf⟩ := bz_some hf
              cases Option.some.inj hf
              exact W.zret hx hb hr (bz_nar hz).2 (fun t ht hW => ⟨⟨_, (), rfl, rfl, by show va_P D vwCl _ t.heap; rw [ht]; exact hP⟩, hS.F ht⟩) hS.2.2 dX8_areFourLands_57
    · replace hf := if_t cc hf
      refine lv_iconst (v := 0) hx hb dX8_areFourLands_11 (by decide) ?_
      obtain ⟨hz, hf⟩ := bz_some hf
      cases Option.some.inj hf
      exact W.zret hx hb hr (bz_nar hz).2 (fun t ht hW => ⟨⟨_, (), rfl, rfl, by show va_P D vwCl _ t.heap; rw [ht]; exact hP⟩, hS.F ht⟩) hS.2.2 dX8_areFourLands_12
  have hl := lv_entry ([.int p0]) (n := 1) (Nat.le_of_ble_eq_true rfl)
  rw [lg_entry_eq]
  exact main s.heap [] _ hP hD hS hl
theorem hd_X8_greatestCommon : yX8_greatestCommon.cls ≠ "java/lang/invoke/MethodHandle" ∧ yX8_greatestCommon.cls ≠ "java/lang/invoke/VarHandle" ∧ (parseMethodDescriptor yX8_greatestCommon.desc).map (fun d => d.parameters.length) = some 2 := by decide +kernel
set_option maxHeartbeats 4000000 in
set_option maxRecDepth 100000 in
theorem c_X8_greatestCommon (l : Launch) (D : va_G) (cyI cyJ cyZ cyO : ClassId) (sz : Nat) (p0 : Int64) (p2 : Int64) (nf : Nat) (q : Int64) (hf : g_X8_greatestCommon nf p0 p2 = some q) : Met l yX8_greatestCommon (Cond.code yX8_greatestCommon cX8_greatestCommon 11 (some .long) :: tbG) ({ frames := 0, cells := 0, slots := 0, locals := 0 } : Room) (va_Pc [.long p0, .long p2] (pcB D (ty4 cyI cyJ cyZ cyO) sz (([] : va_W)))) (qL D (([] : va_W)) q (va_A (([] : va_W)) sz)) 0 0 (va_A (([] : va_W)) sz) := by
  refine Met.ofW (cc := cX8_greatestCommon) (maxL := 11) (ret := (some .long)) (by decide) rfl ?_
  intro p e s m args below meth c s₁ B hml hv
  obtain ⟨rfl, hsz, hP, hK, hD0, hN⟩ := hv
  have hx := B.exec
  have hb := B.bytes
  have hr := B.returns
  have hT : ∀ w ∈ tbG, w.before ([.long p0, .long p2] : List Value).toArray s = true := fun w h => atoms_spec (ws := (Cond.code yX8_greatestCommon cX8_greatestCommon 11 (some .long) :: tbG)) B.pre w (List.mem_cons_of_mem _ h)
  have hown : s.vm.findClass RX8 = some m.cls := findClass_of_methodNamed B.named
  have hlocks := B.notSynchronized
  subst hsz
  have hD := hD0.self (sz := s.heap.size)
  generalize hAe : va_A (([] : va_W)) s.heap.size = A at hD ⊢
  have hA : ∀ q : Nat, s.heap.size ≤ q → A q := fun q h => by rw [← hAe]; exact Or.inr h
  have hS : va_S A s.heap s.heap [] := va_S.rf
  show W p l e ({ frames := 0, cells := 0, slots := 0, locals := 0 } : Room) s m ([.long p0, .long p2] : List Value).toArray below meth c s.heap [] 0 0 (MQ below (qL D (([] : va_W)) q A) ([.long p0, .long p2] : List Value).toArray s 0 0 A) _
  have l9 : ∀ (n9 : Nat) (x4 : Int64) (x6 : Int64) (x8 : Int32) (H : Heap) (locs : List Loc) (ls : Array Slot), va_P D vwCl (([] : va_W)) H → va_D A (([] : va_W)) → va_S A s.heap H locs → lv_has ls 11 [(4, .long x4), (6, .long x6), (8, .int x8)] → g_X8_greatestCommon_l9 nf n9 x4 x6 x8 = some q → W p l e ({ frames := 0, cells := 0, slots := 0, locals := 0 } : Room) s m ([.long p0, .long p2] : List Value).toArray below meth c H locs 0 0 (MQ below (qL D (([] : va_W)) q A) ([.long p0, .long p2] : List Value).toArray s 0 0 A) (F0 m 9 ls []) := by
    intro n9
    induction n9 with
    | zero =>
      intro x4 x6 x8 H locs ls hP hD hS hl hf
      rw [g_X8_greatestCommon_l9] at hf
      cases hf
    | succ n9 ih9 =>
      intro x4 x6 x8 H locs ls hP hD hS hl hf
      rw [g_X8_greatestCommon_l9] at hf
      refine lv_iload hx hb dX8_greatestCommon_9 (lv_at hl 2 rfl) ?_
      refine lv_sipush (v := 128) hx hb dX8_greatestCommon_11 (by decide) ?_
      refine lv_icmp_ge (tgt := 45) hx hb dX8_greatestCommon_14 (by decide) (fun cc => ?_) (fun cc => ?_)
      · replace hf := if_t cc hf
        refine lv_lload hx hb dX8_greatestCommon_45 (lv_at hl 0 rfl) ?_
        cases Option.some.inj hf
        exact W.lret hx hb hr (fun t ht hW => ⟨⟨_, (), rfl, rfl, by show va_P D vwCl _ t.heap; rw [ht]; exact hP⟩, hS.F ht⟩) hS.2.2 dX8_greatestCommon_47
      · replace hf := if_f cc hf
        refine lv_lload hx hb dX8_greatestCommon_17 (lv_at hl 1 rfl) ?_
        refine lv_lconst (v := 0) hx hb dX8_greatestCommon_19 (by decide) ?_
        refine W.lcmp hx hb dX8_greatestCommon_20 ?_
        refine lv_if_eq (tgt := 45) hx hb dX8_greatestCommon_21 (by decide) (fun cc => ?_) (fun cc => ?_)
        · replace hf := if_t cc hf
          refine lv_lload hx hb dX8_greatestCommon_45 (lv_at hl 0 rfl) ?_
          cases Option.some.inj hf
          exact W.lret hx hb hr (fun t ht hW => ⟨⟨_, (), rfl, rfl, by show va_P D vwCl _ t.heap; rw [ht]; exact hP⟩, hS.F ht⟩) hS.2.2 dX8_greatestCommon_47
        · replace hf := if_f cc hf
          refine lv_lload hx hb dX8_greatestCommon_24 (lv_at hl 0 rfl) ?_
          refine lv_lload hx hb dX8_greatestCommon_26 (lv_at hl 1 rfl) ?_
          obtain ⟨hz, hf⟩ := dz_some hf
          refine lv_lrem hx hb dX8_greatestCommon_28 hz ?_
          refine lv_lstore (lv' := [(9, .long (x4 - x4 / x6 * x6)), (4, .long x4), (6, .long x6), (8, .int x8)]) hx hb dX8_greatestCommon_29 hl (by decide) rfl (fun ls hl => ?_)
          refine lv_lload hx hb dX8_greatestCommon_31 (lv_at hl 2 rfl) ?_
          refine lv_lstore (lv' := [(4, .long x6), (9, .long (x4 - x4 / x6 * x6)), (6, .long x6), (8, .int x8)]) hx hb dX8_greatestCommon_33 hl (by decide) rfl (fun ls hl => ?_)
          refine lv_lload hx hb dX8_greatestCommon_35 (lv_at hl 1 rfl) ?_
          refine lv_lstore (lv' := [(6, .long (x4 - x4 / x6 * x6)), (4, .long x6), (9, .long (x4 - x4 / x6 * x6)), (8, .int x8)]) hx hb dX8_greatestCommon_37 hl (by decide) rfl (fun ls hl => ?_)
          refine lv_iinc (v := (x8 + 1)) (lv' := [(8, .int (x8 + 1)), (6, .long (x4 - x4 / x6 * x6)), (4, .long x6), (9, .long (x4 - x4 / x6 * x6))]) hx hb dX8_greatestCommon_39 hl (k := 3) rfl rfl (by decide) rfl (fun ls hl => ?_)
          refine lv_goto (tgt := 9) hx hb dX8_greatestCommon_42 (by decide) ?_
          exact ih9 x6 (x4 - x4 / x6 * x6) (x8 + 1) H locs ls hP hD hS (lv_sub hl [2, 1, 0] rfl) hf
  have main : ∀ (H : Heap) (locs : List Loc) (ls : Array Slot), va_P D vwCl (([] : va_W)) H → va_D A (([] : va_W)) → va_S A s.heap H locs → lv_has ls 11 [(0, .long p0), (2, .long p2)] → W p l e ({ frames := 0, cells := 0, slots := 0, locals := 0 } : Room) s m ([.long p0, .long p2] : List Value).toArray below meth c H locs 0 0 (MQ below (qL D (([] : va_W)) q A) ([.long p0, .long p2] : List Value).toArray s 0 0 A) (F0 m 0 ls []) := by
    intro H locs ls hP hD hS hl
    unfold g_X8_greatestCommon at hf
    refine lv_lload_n hx hb dX8_greatestCommon_0 rfl (lv_at hl 0 rfl) ?_
    refine lv_lstore (lv' := [(4, .long p0), (0, .long p0), (2, .long p2)]) hx hb dX8_greatestCommon_1 hl (by decide) rfl (fun ls hl => ?_)
    refine lv_lload_n hx hb dX8_greatestCommon_3 rfl (lv_at hl 2 rfl) ?_
    refine lv_lstore (lv' := [(6, .long p2), (4, .long p0), (0, .long p0), (2, .long p2)]) hx hb dX8_greatestCommon_4 hl (by decide) rfl (fun ls hl => ?_)
    refine lv_iconst (v := 0) hx hb dX8_greatestCommon_6 (by decide) ?_
    refine lv_istore (lv' := [(8, .int 0), (6, .long p2), (4, .long p0), (0, .long p0), (2, .long p2)]) hx hb dX8_greatestCommon_7 hl (by decide) rfl (fun ls hl => ?_)
    exact l9 nf p0 p2 0 H locs ls hP hD hS (lv_sub hl [2, 1, 0] rfl) hf
  have hl := lv_entry ([.long p0, .long p2]) (n := 11) (Nat.le_of_ble_eq_true rfl)
  rw [lg_entry_eq]
  exact main s.heap [] _ hP hD hS hl
