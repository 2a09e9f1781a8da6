/-! ===== making: arrays of the four kinds, objects, constructors ===== -/
section MK
variable {p : Program} {l : Launch} {e : Env} {R : Room} {s : State} {m : MethodId} {args : Array Value} {below : List Frame} {meth : Method} {c : Code} {H : Heap} {locs : List Loc} {cells slots : Nat} {Q : State → Prop}
variable {pc : Nat} {ls : Array Slot} {rest st0 : List Value} {a : Array Value} {A : Nat → Prop} {D : va_G} {ws wc w1 wr ws' : va_W} {cc : ByteArray} {cyI cyJ cyZ cyO : ClassId}
theorem nw_I (hx : p.tables.exec = Jvm.exec) (hb : c.code = cc) (hT : ∀ w ∈ tbG, w.before args s = true) (hK : va_K D vwCl (ty4 cyI cyJ cyZ cyO) s) (hP : va_P D vwCl ws H) (hD : va_D A ws) (hS : va_S A s.heap H locs) (hA : ∀ q, s.heap.size ≤ q → A q) {n : Int32} {N' : Nat} (hn : ¬ n < 0) (hN : n.toNatClampNeg = N') (hbytes : N' * 4 ≤ 536870912) (hcells : cells + 1 ≤ R.cells) (hslots : slots + N' ≤ R.slots) (hdg : decode cc pc = .ok (.newarray .int, 2))
    (kk : ∀ (q : Nat) (H1 : Heap), va_P D vwCl (ws ++ [(q, .inl (cyI, N', .inl (fun _ => 0)))]) H1 → va_D A (ws ++ [(q, .inl (cyI, N', .inl (fun _ => 0)))]) → va_S A s.heap H1 locs → W p l e R s m args below meth c H1 locs (cells + 1) (slots + N') Q (F0 m (pc + 2) ls (.ref q :: rest))) : W p l e R s m args below meth c H locs cells slots Q (F0 m pc ls (.int n :: rest)) := by
  refine va_newa (atype := .int) (ty := .int) (a0 := (N', .inl (fun _ => 0))) hx hb (hT _ wa_int) rfl hK hP hD hS hA (fun cA => rfl) hn hN hbytes hcells hslots hdg (fun q cA H1 hK' hP' hD' hS' => ?_)
  have e1 : s.vm.findClass "[I" = some cyI := va_nm_int (hK.2 0 _ rfl).2
  have e2 : s.vm.findClass "[I" = some cA := va_nm_int (hK'.2 4 _ rfl).2
  have e3 : cA = cyI := Option.some.inj (e2.symm.trans e1)
  subst e3
  exact kk q H1 hP' hD' hS'
theorem nw_J (hx : p.tables.exec = Jvm.exec) (hb : c.code = cc) (hT : ∀ w ∈ tbG, w.before args s = true) (hK : va_K D vwCl (ty4 cyI cyJ cyZ cyO) s) (hP : va_P D vwCl ws H) (hD : va_D A ws) (hS : va_S A s.heap H locs) (hA : ∀ q, s.heap.size ≤ q → A q) {n : Int32} {N' : Nat} (hn : ¬ n < 0) (hN : n.toNatClampNeg = N') (hbytes : N' * 8 ≤ 536870912) (hcells : cells + 1 ≤ R.cells) (hslots : slots + N' ≤ R.slots) (hdg : decode cc pc = .ok (.newarray .long, 2))
    (kk : ∀ (q : Nat) (H1 : Heap), va_P D vwCl (ws ++ [(q, .inl (cyJ, N', .inr (.inl (fun _ => 0))))]) H1 → va_D A (ws ++ [(q, .inl (cyJ, N', .inr (.inl (fun _ => 0))))]) → va_S A s.heap H1 locs → W p l e R s m args below meth c H1 locs (cells + 1) (slots + N') Q (F0 m (pc + 2) ls (.ref q :: rest))) : W p l e R s m args below meth c H locs cells slots Q (F0 m pc ls (.int n :: rest)) := by
  refine va_newa (atype := .long) (ty := .long) (a0 := (N', .inr (.inl (fun _ => 0)))) hx hb (hT _ wa_long) rfl hK hP hD hS hA (fun cA => rfl) hn hN hbytes hcells hslots hdg (fun q cA H1 hK' hP' hD' hS' => ?_)
  have e1 : s.vm.findClass "[J" = some cyJ := va_nm_long (hK.2 1 _ rfl).2
  have e2 : s.vm.findClass "[J" = some cA := va_nm_long (hK'.2 4 _ rfl).2
  have e3 : cA = cyJ := Option.some.inj (e2.symm.trans e1)
  subst e3
  exact kk q H1 hP' hD' hS'
theorem nw_Z (hx : p.tables.exec = Jvm.exec) (hb : c.code = cc) (hT : ∀ w ∈ tbG, w.before args s = true) (hK : va_K D vwCl (ty4 cyI cyJ cyZ cyO) s) (hP : va_P D vwCl ws H) (hD : va_D A ws) (hS : va_S A s.heap H locs) (hA : ∀ q, s.heap.size ≤ q → A q) {n : Int32} {N' : Nat} (hn : ¬ n < 0) (hN : n.toNatClampNeg = N') (hbytes : N' * 1 ≤ 536870912) (hcells : cells + 1 ≤ R.cells) (hslots : slots + N' ≤ R.slots) (hdg : decode cc pc = .ok (.newarray .boolean, 2))
    (kk : ∀ (q : Nat) (H1 : Heap), va_P D vwCl (ws ++ [(q, .inl (cyZ, N', .inl (fun _ => 0)))]) H1 → va_D A (ws ++ [(q, .inl (cyZ, N', .inl (fun _ => 0)))]) → va_S A s.heap H1 locs → W p l e R s m args below meth c H1 locs (cells + 1) (slots + N') Q (F0 m (pc + 2) ls (.ref q :: rest))) : W p l e R s m args below meth c H locs cells slots Q (F0 m pc ls (.int n :: rest)) := by
  refine va_newa (atype := .boolean) (ty := .boolean) (a0 := (N', .inl (fun _ => 0))) hx hb (hT _ wa_boolean) rfl hK hP hD hS hA (fun cA => rfl) hn hN hbytes hcells hslots hdg (fun q cA H1 hK' hP' hD' hS' => ?_)
  have e1 : s.vm.findClass "[Z" = some cyZ := va_nm_boolean (hK.2 2 _ rfl).2
  have e2 : s.vm.findClass "[Z" = some cA := va_nm_boolean (hK'.2 4 _ rfl).2
  have e3 : cA = cyZ := Option.some.inj (e2.symm.trans e1)
  subst e3
  exact kk q H1 hP' hD' hS'
theorem nw_Q (hx : p.tables.exec = Jvm.exec) (hb : c.code = cc) {own : String} {index : Nat} (hown : s.vm.findClass own = some m.cls) (hcl : (Cond.classLink own index "EatenMaps$Duchy").before args s = true) (hov : va_AO "EatenMaps$Duchy" s) (hK : va_K D vwCl (ty4 cyI cyJ cyZ cyO) s) (hP : va_P D vwCl ws H) (hD : va_D A ws) (hS : va_S A s.heap H locs) (hA : ∀ q, s.heap.size ≤ q → A q) {n : Int32} {N' : Nat} (hn : ¬ n < 0) (hN : n.toNatClampNeg = N') (hbytes : N' * 4 ≤ 536870912) (hcells : cells + 1 ≤ R.cells) (hslots : slots + N' ≤ R.slots) (hdg : decode cc pc = .ok (.anewarray index, 3))
    (kk : ∀ (q : Nat) (H1 : Heap), va_P D vwCl (ws ++ [(q, .inl (cyO, N', .inr (.inr (.inr (.inr (fun _ => none))))))]) H1 → va_D A (ws ++ [(q, .inl (cyO, N', .inr (.inr (.inr (.inr (fun _ => none))))))]) → va_S A s.heap H1 locs → W p l e R s m args below meth c H1 locs (cells + 1) (slots + N') Q (F0 m (pc + 3) ls (.ref q :: rest))) : W p l e R s m args below meth c H locs cells slots Q (F0 m pc ls (.int n :: rest)) := by
  refine va_newq hx hb hown hcl hov hK hP hD hS hA hn hN hbytes hcells hslots hdg (fun q cA H1 hK' hP' hD' hS' => ?_)
  have e1 : s.vm.findClass "[LEatenMaps$Duchy;" = some cyO := va_nmO (hK.2 3 _ rfl).2 (by decide +kernel)
  have e2 : s.vm.findClass "[LEatenMaps$Duchy;" = some cA := va_nmO (hK'.2 4 _ rfl).2 (by decide +kernel)
  have e3 : cA = cyO := Option.some.inj (e2.symm.trans e1)
  subst e3
  exact kk q H1 hP' hD' hS'
/-- a constructor's end -/
abbrev qN {S : Type} (D : va_G) (post : S → Prop) (wf : S → va_W) (A : Nat → Prop) : Array Value → State → Outcome → State → Prop := va_Qv post (fun u t => va_P D vwCl (wf u) t.heap ∧ va_D A (wf u)) A
theorem cl_n {S : Type} {post : S → Prop} {wf : S → va_W} {mc ms : Nat} (hr : va_Run p l e R s m args below meth c H locs cells slots mc ms (F0 m pc ls st0) rest (qN D post wf (va_A wc H.size) a) (va_A wc H.size)) (hP : va_P D vwCl (wr ++ wc) H) (hD : va_D A (wr ++ wc)) (hS : va_S A s.heap H locs) (hA : ∀ q, s.heap.size ≤ q → A q) (isC isR : List Nat) (hC : isC.map (fun i => (wr ++ wc)[i]?) = wc.map some) (hR : isR.map (fun i => (wr ++ wc)[i]?) = wr.map some) (hn : va_nd isR = true) (hdis : ∀ i ∈ isR, i ∉ isC)
    (kk : ∀ (u : S) (H1 : Heap) (locs1 : List Loc), post u → va_P D vwCl (wr ++ wf u) H1 → va_D A (wr ++ wf u) → va_S A s.heap H1 locs1 → W p l e R s m args below meth c H1 locs1 (cells + mc) (slots + ms) Q (F0 m (pc + 3) ls rest)) : W p l e R s m args below meth c H locs cells slots Q (F0 m pc ls st0) := by
  have hF := va_free hD hS hA isC hC
  refine va_callv hr hS (fun q _ h => hF q h) hF (fun u t H1 locs1 ht hvm hw' hB hz1 hk1 hS1 => ?_)
  rw [ht] at hB
  obtain ⟨hP2, hD2⟩ := va_join hP hD isC isR hC hR hn hdis hk1 hF hB.1 hB.2
  exact kk u H1 locs1 hw' hP2 hD2 hS1
variable {bytes : ByteArray} {nL maxL index mc ms : Nat} {own host : String} {y : MethodName} {rm : Room} {Qc : Array Value → State → Outcome → State → Prop} {free : Addr → Prop} {tys : List (ClassId × FieldType)} {b : Addr} {x : va_E}
theorem rn_I (hx : p.tables.exec = Jvm.exec) (hb : c.code = cc) (hml : c.maxLocals = nL) (hown : s.vm.findClass own = some m.cls) (hT : ∀ w ∈ tbG, w.before args s = true) {Pc : Array Value → State → Prop} (hM : Met l y (Cond.code y bytes maxL none :: tbG) rm Pc Qc mc ms free) (hpre : PreS s H Pc [.ref b]) (h1 : Cond.methodLink own index y ∈ tbG) (h2 : Cond.instanceMethod y ∈ tbG) (h4 : Cond.initialized y.cls ∈ tbG) (h5 : Cond.code y bytes maxL none ∈ tbG) (hy : y.name = "<init>")
    (hd : y.cls ≠ "java/lang/invoke/MethodHandle" ∧ y.cls ≠ "java/lang/invoke/VarHandle" ∧ (parseMethodDescriptor y.desc).map (fun d => d.parameters.length) = some 0) (hrm : rm.cells = mc ∧ rm.slots = ms) (hR : rm.frames + 1 ≤ R.frames ∧ 8 + (maxL + 11) + rm.locals ≤ R.locals)
    (hsize : ls.size = nL) (hst : st0 = .ref b :: rest) (hW : (rest.map fun v => v.category).sum ≤ 8) (hdg : decode cc pc = .ok (.invokespecial index, 3)) (hf : cells + mc ≤ R.cells ∧ slots + ms ≤ R.slots) :
    va_Run p l e R s m args below meth c H locs cells slots mc ms (F0 m pc ls st0) rest (Qc [Value.ref b].toArray) free :=
  va_runI (As := []) (rest := rest) ⟨hx, hb, hml, hown, hT⟩ hM (cwI 0 hT (tb_GI (tb_cons h5)) rfl hrm.1 hrm.2 (hT _ h4) (hT _ h1) (hT _ h2) hy hd hR) hpre rfl rfl hsize hst (lv_room hW) hdg hf
theorem rn_IN (hx : p.tables.exec = Jvm.exec) (hb : c.code = cc) (hml : c.maxLocals = nL) (hown : s.vm.findClass own = some m.cls) (hT : ∀ w ∈ tbG, w.before args s = true) (hN : nW s) {Pc : Array Value → State → Prop} (hM : Met l y (Cond.code y bytes maxL none :: tbG) rm Pc Qc mc ms free) (hpre : PreS s H Pc [.ref b]) (h1 : (own, index, y, host) ∈ nWq) (h2 : Cond.instanceMethod y ∈ tbG) (h4 : Cond.initialized y.cls ∈ tbG) (h5 : Cond.code y bytes maxL none ∈ tbG) (hy : y.name = "<init>")
    (hd : y.cls ≠ "java/lang/invoke/MethodHandle" ∧ y.cls ≠ "java/lang/invoke/VarHandle" ∧ (parseMethodDescriptor y.desc).map (fun d => d.parameters.length) = some 0) (hrm : rm.cells = mc ∧ rm.slots = ms) (hR : rm.frames + 1 ≤ R.frames ∧ 8 + (maxL + 11) + rm.locals ≤ R.locals)
    (hsize : ls.size = nL) (hst : st0 = .ref b :: rest) (hW : (rest.map fun v => v.category).sum ≤ 8) (hdg : decode cc pc = .ok (.invokespecial index, 3)) (hf : cells + mc ≤ R.cells ∧ slots + ms ≤ R.slots) :
    va_Run p l e R s m args below meth c H locs cells slots mc ms (F0 m pc ls st0) rest (Qc [Value.ref b].toArray) free :=
  va_runIN (As := []) (rest := rest) (host := host) ⟨hx, hb, hml, hown, hT⟩ hM ⟨va_cnB 0 hT (tb_GI (tb_cons h5)) rfl hrm.1 hrm.2 (hN _ h1) (hT _ h4) hd hR, hy, hT _ h2⟩ hpre rfl rfl hsize hst (lv_room hW) hdg hf
theorem preS_B {sz : Nat} {Pq : State → Prop} (hP : va_P D vwCl (wr ++ wc) H) (hD : va_D A (wr ++ wc)) (hK : va_K D vwCl tys s) (hN : nW s) (isC : List Nat) (hC : isC.map (fun i => (wr ++ wc)[i]?) = wc.map some) (hnd : va_nd isC = true) : PreS s H (va_Pc [.ref b] (pcB D tys H.size wc)) [.ref b] :=
  ⟨pcB_blind, pcB_at (hP.sub isC (hC_filter hC)) hK (hD.sub isC hnd hC) hN⟩
end MK
/-- with the arrays over Duchies -/
def pcA (D : va_G) (tys : List (ClassId × FieldType)) (sz : Nat) (ws : va_W) (U : State) : Prop := pcB D tys sz ws U ∧ va_AO "EatenMaps$Duchy" U
/-- with the table of strips -/
def stripF : Nat → Int32 := fun j => ([0, 0, 0, 1, 0, 2, 1, 0, 2, 1, 0, 2, 1, 3, 2, 1, 3, 2, 4, 3, 0, 4, 3, 0, 4, 3, 0, 4, 1, 2, 3, 1, 2, 4, 1, 2, 4, 1, 2, 4, 1, 5, 4, 1, 5, 4, 1, 5, 4, 1, 0, 2, 1, 0, 2, 1, 5, 2, 1, 3, 2] : List Int32).getD j 0
def zS (A : Nat → Prop) (U : State) (H : Heap) (t : Nat) : Prop := va_Z "EatenMaps" "STRIPS" "[I" (.ref t) A U H ∧ va_T .int t 61 (fun j => .int (stripF j)) A U H
def pcS (D : va_G) (tys : List (ClassId × FieldType)) (sz : Nat) (ws : va_W) (U : State) : Prop := pcB D tys sz ws U ∧ ∃ t, zS (va_A ws sz) U U.heap t
theorem pcS_blind {D : va_G} {tys : List (ClassId × FieldType)} {sz : Nat} {ws : va_W} {av : List Value} : FrameBlind (va_Pc av (pcS D tys sz ws)) := by
  intro a U g mk q
  obtain ⟨q0, q1, t, q2, q3⟩ := q
  exact ⟨q0, (pcB_blind (av := av) a U g mk ⟨q0, q1⟩).2, t, va_Z.moved (U := U.calling g mk a) (Vm.Alike.refl U.vm) q2, va_T.moved (U := U.calling g mk a) (Vm.Alike.refl U.vm) q3⟩
theorem pcS_at {D : va_G} {tys : List (ClassId × FieldType)} {wc : va_W} {av : List Value} {s : State} {H : Heap} {A : Nat → Prop} {locs : List Loc} {t : Nat} (hP : va_P D vwCl wc H) (hK : va_K D vwCl tys s) (hD : va_D A wc) (hN : nW s) (hS : va_S A s.heap H locs) (hF : ∀ q, va_A wc H.size q → A q) (hz : zS A s s.heap t) : ∀ U : State, U.heap = H → s.WarmedH U.vm → va_Pc av (pcS D tys H.size wc) av.toArray U := by
  intro U hU hW
  have hq : ∀ a : Nat, a < s.heap.size → ¬ A a → U.heap[a]? = s.heap[a]? := fun a h1 h2 => by rw [hU]; exact hS.2.1 a h1 h2
  exact ⟨rfl, (pcB_at (av := av) hP hK hD hN U hU hW).2, t, va_Z.moved hW.alike ((hz.1.kept hq).narrow hF), va_T.moved hW.alike ((hz.2.kept hq).narrow hF)⟩
theorem pcA_blind {D : va_G} {tys : List (ClassId × FieldType)} {sz : Nat} {ws : va_W} {av : List Value} : FrameBlind (va_Pc av (pcA D tys sz ws)) := by
  intro a U g mk q
  obtain ⟨q0, q1, q2⟩ := q
  exact ⟨q0, (pcB_blind (av := av) a U g mk ⟨q0, q1⟩).2, va_AO.moved (U := U.calling g mk a) (Vm.Alike.refl U.vm) q2⟩
theorem pcA_at {D : va_G} {tys : List (ClassId × FieldType)} {wc : va_W} {av : List Value} {s : State} {H : Heap} {A : Nat → Prop} (hP : va_P D vwCl wc H) (hK : va_K D vwCl tys s) (hD : va_D A wc) (hN : nW s) (hv : va_AO "EatenMaps$Duchy" s) : ∀ U : State, U.heap = H → s.WarmedH U.vm → va_Pc av (pcA D tys H.size wc) av.toArray U := fun U hU hW => ⟨rfl, (pcB_at (av := av) hP hK hD hN U hU hW).2, va_AO.moved hW.alike hv⟩
