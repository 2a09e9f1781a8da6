abbrev ty4 (cyI cyJ cyZ cyO : ClassId) : List (ClassId × FieldType) := [(cyI, .int), (cyJ, .long), (cyZ, .boolean), (cyO, .object "EatenMaps$Duchy")]
def pcB (D : va_G) (tys : List (ClassId × FieldType)) (sz : Nat) (ws : va_W) (U : State) : Prop := U.heap.size = sz ∧ va_P D vwCl ws U.heap ∧ va_K D vwCl tys U ∧ va_D (fun _ => True) ws ∧ nW U
abbrev qI (D : va_G) (w1 : va_W) (r : Int32) (A : Nat → Prop) : Array Value → State → Outcome → State → Prop := va_Qi (fun (x : Int32) (_ : Unit) => x = r) (fun _ t => va_P D vwCl w1 t.heap) A
abbrev qL (D : va_G) (w1 : va_W) (r : Int64) (A : Nat → Prop) : Array Value → State → Outcome → State → Prop := va_Ql (fun (x : Int64) (_ : Unit) => x = r) (fun _ t => va_P D vwCl w1 t.heap) A
abbrev qV (D : va_G) (w1 : va_W) (A : Nat → Prop) : Array Value → State → Outcome → State → Prop := va_Qv (fun (_ : Unit) => True) (fun _ t => va_P D vwCl w1 t.heap) A
theorem pcB_blind {D : va_G} {tys : List (ClassId × FieldType)} {sz : Nat} {ws : va_W} {av : List Value} : FrameBlind (va_Pc av (pcB D tys sz ws)) := by
  intro a U g mk q
  obtain ⟨q0, q1, qP, qK, qD, qN⟩ := q
  exact ⟨q0, q1, qP, va_K.moved (u := U) (U := U.calling g mk a) (Vm.Alike.refl U.vm) qK, qD, nW.call (V := U.calling g mk a) rfl qN⟩
theorem pcB_at {D : va_G} {tys : List (ClassId × FieldType)} {wc : va_W} {av : List Value} {s : State} {H : Heap} {A : Nat → Prop} (hP : va_P D vwCl wc H) (hK : va_K D vwCl tys s) (hD : va_D A wc) (hN : nW s) : ∀ U : State, U.heap = H → s.WarmedH U.vm → va_Pc av (pcB D tys H.size wc) av.toArray U := fun U hU hW => ⟨rfl, by rw [hU], by rw [hU]; exact hP, va_K.moved hW.alike hK, hD.weaken (fun _ _ _ _ => trivial), hN.warm hW⟩
theorem va_D_same {A : Nat → Prop} {ws ws' : va_W} (h : va_D A ws) (e : ws'.map (fun q => q.1) = ws.map (fun q => q.1)) : va_D A ws' := by
  have at' : ∀ (k : Nat) (q : Nat × va_E), ws'[k]? = some q → ∃ q2 : Nat × va_E, ws[k]? = some q2 ∧ q2.1 = q.1 := by
    intro k q hq
    have h1 : (ws'.map (fun q => q.1))[k]? = some q.1 := by rw [List.getElem?_map, hq]; rfl
    rw [e, List.getElem?_map] at h1
    cases h2 : ws[k]? with
    | none => rw [h2] at h1; cases h1
    | some q2 => rw [h2] at h1; exact ⟨q2, rfl, Option.some.inj h1⟩
  refine ⟨fun i j p q hp hq hpq => ?_, fun k q hk => ?_⟩
  · obtain ⟨p2, a1, a2⟩ := at' i p hp
    obtain ⟨q2, b1, b2⟩ := at' j q hq
    exact h.1 i j p2 q2 a1 b1 (by rw [a2, b2, hpq])
  · obtain ⟨q2, a1, a2⟩ := at' k q hk
    rw [← a2]
    exact h.2 k q2 a1
/-- where each cell behind a call is from: the callee's j-th (true, j), or the caller's k-th as it was (false, k) -/
def srcOf (ws w1 : va_W) : Bool × Nat → Option (Nat × va_E)
  | (true, j) => w1[j]?
  | (false, k) => ws[k]?
def srcOk (isC : List Nat) : List (Bool × Nat) → Bool
  | [] => true
  | (true, _) :: r => srcOk isC r
  | (false, k) :: r => !(isC.contains k) && srcOk isC r
theorem srcOk_at {isC : List Nat} : ∀ {src : List (Bool × Nat)}, srcOk isC src = true → ∀ k, (false, k) ∈ src → k ∉ isC
  | [], _, _, h => absurd h List.not_mem_nil
  | (true, _) :: r, h, k, hk => srcOk_at (src := r) h k ((List.mem_cons.mp hk).elim (fun h2 => by cases h2) id)
  | (false, i) :: r, h, k, hk => by
    simp only [srcOk, Bool.and_eq_true, Bool.not_eq_true'] at h
    rcases List.mem_cons.mp hk with h2 | h2
    · cases h2
      intro hm
      have := List.contains_iff_mem.mpr hm
      rw [h.1] at this
      cases this
    · exact srcOk_at h.2 k h2
theorem hC_filter {ws wc : va_W} {isC : List Nat} (hC : isC.map (fun i => ws[i]?) = wc.map some) : isC.filterMap (fun i => ws[i]?) = wc := by
  have h : isC.filterMap (fun i => ws[i]?) = (isC.map (fun i => ws[i]?)).filterMap id := by rw [List.filterMap_map]; rfl
  rw [h, hC, List.filterMap_map]
  exact List.filterMap_some
theorem va_put_in {A0 : Nat → Prop} {D : va_G} {cl : List vw_C} {ws wc w1 ws' : va_W} {H H1 : Heap} (hP : va_P D cl ws H) (hD : va_D A0 ws) (isC : List Nat) (hC : isC.map (fun i => ws[i]?) = wc.map some) (src : List (Bool × Nat)) (hs : src.map (srcOf ws w1) = ws'.map some) (ho : srcOk isC src = true)
    (hk : ∀ q : Nat, q < H.size → ¬ va_A wc H.size q → H1[q]? = H[q]?) (hP1 : va_P D cl w1 H1) : va_P D cl ws' H1 := by
  intro k q hq
  have h1 : (src.map (srcOf ws w1))[k]? = some (some q) := by rw [hs, List.getElem?_map, hq]; rfl
  rw [List.getElem?_map] at h1
  cases hi : src[k]? with
  | none => rw [hi] at h1; cases h1
  | some z =>
    rw [hi] at h1
    have h2 : srcOf ws w1 z = some q := Option.some.inj h1
    match z, h2, hi with
    | (true, j), h2, _ => exact hP1 j q h2
    | (false, i), h2, hi =>
      have hni := srcOk_at ho i (List.mem_of_getElem? hi)
      have h2 : ws[i]? = some q := h2
      have hlt := (hP i q h2).lt
      refine (hP i q h2).kept (hk q.1 hlt fun h => ?_)
      rcases h with ⟨k2, e, h⟩ | h
      · have h3 : (isC.map (fun i => ws[i]?))[k2]? = some (some (q.1, e)) := by rw [hC, List.getElem?_map, h]; rfl
        rw [List.getElem?_map] at h3
        cases hj : isC[k2]? with
        | none => rw [hj] at h3; cases h3
        | some j =>
          rw [hj] at h3
          have h4 : ws[j]? = some (q.1, e) := Option.some.inj h3
          have := hD.1 i j q (q.1, e) h2 h4 rfl
          subst this
          exact hni (List.mem_of_getElem? hj)
      · omega
section BX
variable {p : Program} {l : Launch} {e : Env} {R : Room} {s : State} {m : MethodId} {args : Array Value} {below : List Frame} {meth : Method} {c : Code} {H : Heap} {locs : List Loc} {cells slots : Nat} {Q : State → Prop}
variable {pc : Nat} {ls : Array Slot} {rest st0 : List Value} {a : Array Value} {A : Nat → Prop} {D : va_G} {ws wc w1 ws' : va_W}
theorem cl_A (hD : va_D A ws) (hS : va_S A s.heap H locs) (hA : ∀ q, s.heap.size ≤ q → A q) (isC : List Nat) (hC : isC.map (fun i => ws[i]?) = wc.map some) : ∀ q, va_A wc H.size q → A q := va_free hD hS hA isC hC
theorem cl_i {r : Int32} (hr : va_Run p l e R s m args below meth c H locs cells slots 0 0 (F0 m pc ls st0) rest (qI D w1 r (va_A wc H.size) a) (va_A wc H.size)) (hP : va_P D vwCl ws H) (hD : va_D A ws) (hS : va_S A s.heap H locs) (hA : ∀ q, s.heap.size ≤ q → A q) (isC : List Nat) (hC : isC.map (fun i => ws[i]?) = wc.map some) (src : List (Bool × Nat)) (hs : src.map (srcOf ws w1) = ws'.map some) (ho : srcOk isC src = true) (hn : ws'.map (fun q => q.1) = ws.map (fun q => q.1))
    (kk : ∀ (H1 : Heap) (locs1 : List Loc), va_P D vwCl ws' H1 → va_D A ws' → va_S A s.heap H1 locs1 → W p l e R s m args below meth c H1 locs1 cells slots Q (F0 m (pc + 3) ls (.int r :: rest))) : W p l e R s m args below meth c H locs cells slots Q (F0 m pc ls st0) := by
  have hF := va_free hD hS hA isC hC
  refine va_calli hr hS (fun q _ h => hF q h) hF (fun r' u t H1 locs1 ht hvm hw' hB hz1 hk1 hS1 => ?_)
  try dsimp only at hw'
  subst hw'
  rw [ht] at hB
  exact kk H1 locs1 (va_put_in hP hD isC hC src hs ho hk1 hB) (va_D_same hD hn) hS1
theorem cl_l {r : Int64} (hr : va_Run p l e R s m args below meth c H locs cells slots 0 0 (F0 m pc ls st0) rest (qL D w1 r (va_A wc H.size) a) (va_A wc H.size)) (hP : va_P D vwCl ws H) (hD : va_D A ws) (hS : va_S A s.heap H locs) (hA : ∀ q, s.heap.size ≤ q → A q) (isC : List Nat) (hC : isC.map (fun i => ws[i]?) = wc.map some) (src : List (Bool × Nat)) (hs : src.map (srcOf ws w1) = ws'.map some) (ho : srcOk isC src = true) (hn : ws'.map (fun q => q.1) = ws.map (fun q => q.1))
    (kk : ∀ (H1 : Heap) (locs1 : List Loc), va_P D vwCl ws' H1 → va_D A ws' → va_S A s.heap H1 locs1 → W p l e R s m args below meth c H1 locs1 cells slots Q (F0 m (pc + 3) ls (.long r :: rest))) : W p l e R s m args below meth c H locs cells slots Q (F0 m pc ls st0) := by
  have hF := va_free hD hS hA isC hC
  refine va_calll hr hS (fun q _ h => hF q h) hF (fun r' u t H1 locs1 ht hvm hw' hB hz1 hk1 hS1 => ?_)
  try dsimp only at hw'
  subst hw'
  rw [ht] at hB
  exact kk H1 locs1 (va_put_in hP hD isC hC src hs ho hk1 hB) (va_D_same hD hn) hS1
theorem cl_v (hr : va_Run p l e R s m args below meth c H locs cells slots 0 0 (F0 m pc ls st0) rest (qV D w1 (va_A wc H.size) a) (va_A wc H.size)) (hP : va_P D vwCl ws H) (hD : va_D A ws) (hS : va_S A s.heap H locs) (hA : ∀ q, s.heap.size ≤ q → A q) (isC : List Nat) (hC : isC.map (fun i => ws[i]?) = wc.map some) (src : List (Bool × Nat)) (hs : src.map (srcOf ws w1) = ws'.map some) (ho : srcOk isC src = true) (hn : ws'.map (fun q => q.1) = ws.map (fun q => q.1))
    (kk : ∀ (H1 : Heap) (locs1 : List Loc), va_P D vwCl ws' H1 → va_D A ws' → va_S A s.heap H1 locs1 → W p l e R s m args below meth c H1 locs1 cells slots Q (F0 m (pc + 3) ls rest)) : W p l e R s m args below meth c H locs cells slots Q (F0 m pc ls st0) := by
  have hF := va_free hD hS hA isC hC
  refine va_callv hr hS (fun q _ h => hF q h) hF (fun u t H1 locs1 ht hvm hw' hB hz1 hk1 hS1 => ?_)
  rw [ht] at hB
  exact kk H1 locs1 (va_put_in hP hD isC hC src hs ho hk1 hB) (va_D_same hD hn) hS1
variable {cc bytes : ByteArray} {nL maxL index n : Nat} {own C host : String} {y : MethodName} {ret : Option FieldType} {rm : Room} {Qc : Array Value → State → Outcome → State → Prop} {free : Addr → Prop} {tys : List (ClassId × FieldType)} {b : Addr} {As : List Value}
/-- a virtual call -/
theorem rn_V (hx : p.tables.exec = Jvm.exec) (hb : c.code = cc) (hml : c.maxLocals = nL) (hown : s.vm.findClass own = some m.cls) (hT : ∀ w ∈ tbG, w.before args s = true) (hK : va_K D vwCl tys s) (hN : nW s) (hP : va_P D vwCl ws H) (hD : va_D A ws) (isC : List Nat) (hC : isC.map (fun i => ws[i]?) = wc.map some) (hnd : va_nd isC = true)
    (hM : Met l y (Cond.code y bytes maxL ret :: tbG) rm (va_Pc (.ref b :: As) (pcB D tys H.size wc)) Qc 0 0 free) (h1 : Cond.methodLink own index y ∈ tbG) (h2 : Cond.instanceMethod y ∈ tbG) (h3 : Cond.selects C y y ∈ tbG) (h4 : Cond.initialized C ∈ tbG) (h5 : Cond.code y bytes maxL ret ∈ tbG)
    (hd : y.cls = C ∧ y.cls ≠ "java/lang/invoke/MethodHandle" ∧ y.cls ≠ "java/lang/invoke/VarHandle" ∧ (parseMethodDescriptor y.desc).map (fun d => d.parameters.length) = some n) (hrm : rm.cells = 0 ∧ rm.slots = 0) (hR : rm.frames + 1 ≤ R.frames ∧ 8 + (maxL + 11) + rm.locals ≤ R.locals)
    {q0 ci : Nat} {q : vw_C} {fs : List Value} (hc : vwCl[ci]? = some q) (hq : q.1 = C) (he : wc[q0]? = some (b, .inr (ci, fs)))
    (hn : As.length = n) (hsize : ls.size = nL) (hst : st0 = As.reverse ++ .ref b :: rest) (hW : (rest.map fun v => v.category).sum ≤ 8) (hdg : decode cc pc = .ok (.invokevirtual index, 3)) (hf : cells ≤ R.cells ∧ slots ≤ R.slots) :
    va_Run p l e R s m args below meth c H locs cells slots 0 0 (F0 m pc ls st0) rest (Qc (Value.ref b :: As).toArray) free := by
  have hPc := hP.sub (ws' := wc) isC (hC_filter hC)
  have hDc := hD.sub (ws' := wc) isC hnd hC
  refine va_runV (As := As) (rest := rest) (b := b) (C := C) ⟨hx, hb, hml, hown, hT⟩ hM (cwV n hT (tb_GI ?_) rfl hrm.1 hrm.2 hd hR) ⟨pcB_blind, ?_, pcB_at hPc hK hDc hN⟩ rfl hn hsize hst (lv_room hW) hdg hf
  · intro w hw
    simp only [wsV, List.mem_append, List.mem_cons, List.not_mem_nil, or_false] at hw
    rcases hw with (rfl | rfl | rfl | rfl) | rfl | hw
    · exact h1
    · exact h2
    · exact h3
    · exact h4
    · exact h5
    · exact hw
  · rw [← hq]
    exact va_recv hK hPc hc he
/-- a static call, in the class itself -/
theorem rn_S (hx : p.tables.exec = Jvm.exec) (hb : c.code = cc) (hml : c.maxLocals = nL) (hown : s.vm.findClass own = some m.cls) (hT : ∀ w ∈ tbG, w.before args s = true) (hK : va_K D vwCl tys s) (hN : nW s) (hP : va_P D vwCl ws H) (hD : va_D A ws) (isC : List Nat) (hC : isC.map (fun i => ws[i]?) = wc.map some) (hnd : va_nd isC = true)
    (hM : Met l y (Cond.code y bytes maxL ret :: tbG) rm (va_Pc As (pcB D tys H.size wc)) Qc 0 0 free) (h1 : Cond.methodLink own index y ∈ tbG) (h2 : Cond.static y ∈ tbG) (h4 : Cond.initialized y.cls ∈ tbG) (h5 : Cond.code y bytes maxL ret ∈ tbG)
    (hd : y.cls ≠ "java/lang/invoke/MethodHandle" ∧ y.cls ≠ "java/lang/invoke/VarHandle" ∧ (parseMethodDescriptor y.desc).map (fun d => d.parameters.length) = some n) (hrm : rm.cells = 0 ∧ rm.slots = 0) (hR : rm.frames + 1 ≤ R.frames ∧ 8 + (maxL + 11) + rm.locals ≤ R.locals)
    (hn : As.length = n) (hsize : ls.size = nL) (hst : st0 = As.reverse ++ rest) (hW : (rest.map fun v => v.category).sum ≤ 8) (hdg : decode cc pc = .ok (.invokestatic index, 3)) (hf : cells ≤ R.cells ∧ slots ≤ R.slots) :
    va_Run p l e R s m args below meth c H locs cells slots 0 0 (F0 m pc ls st0) rest (Qc As.toArray) free := by
  have hPc := hP.sub (ws' := wc) isC (hC_filter hC)
  have hDc := hD.sub (ws' := wc) isC hnd hC
  exact va_runS (As := As) (rest := rest) ⟨hx, hb, hml, hown, hT⟩ hM ⟨callB_of n hT (tb_GI (tb_cons h5)) rfl hrm.1 hrm.2 (hT _ h4) (hT _ h1) hd hR, hT _ h2⟩ ⟨pcB_blind, pcB_at hPc hK hDc hN⟩ rfl hn hsize hst (lv_room hW) hdg hf
/-- a static call of a nest mate's private method -/
theorem rn_SN (hx : p.tables.exec = Jvm.exec) (hb : c.code = cc) (hml : c.maxLocals = nL) (hown : s.vm.findClass own = some m.cls) (hT : ∀ w ∈ tbG, w.before args s = true) (hK : va_K D vwCl tys s) (hN : nW s) (hP : va_P D vwCl ws H) (hD : va_D A ws) (isC : List Nat) (hC : isC.map (fun i => ws[i]?) = wc.map some) (hnd : va_nd isC = true)
    (hM : Met l y (Cond.code y bytes maxL ret :: tbG) rm (va_Pc As (pcB D tys H.size wc)) Qc 0 0 free) (h1 : (own, index, y, host) ∈ nWq) (h2 : Cond.static y ∈ tbG) (h4 : Cond.initialized y.cls ∈ tbG) (h5 : Cond.code y bytes maxL ret ∈ tbG)
    (hd : y.cls ≠ "java/lang/invoke/MethodHandle" ∧ y.cls ≠ "java/lang/invoke/VarHandle" ∧ (parseMethodDescriptor y.desc).map (fun d => d.parameters.length) = some n) (hrm : rm.cells = 0 ∧ rm.slots = 0) (hR : rm.frames + 1 ≤ R.frames ∧ 8 + (maxL + 11) + rm.locals ≤ R.locals)
    (hn : As.length = n) (hsize : ls.size = nL) (hst : st0 = As.reverse ++ rest) (hW : (rest.map fun v => v.category).sum ≤ 8) (hdg : decode cc pc = .ok (.invokestatic index, 3)) (hf : cells ≤ R.cells ∧ slots ≤ R.slots) :
    va_Run p l e R s m args below meth c H locs cells slots 0 0 (F0 m pc ls st0) rest (Qc As.toArray) free := by
  have hPc := hP.sub (ws' := wc) isC (hC_filter hC)
  have hDc := hD.sub (ws' := wc) isC hnd hC
  exact va_runSN (As := As) (rest := rest) (host := host) ⟨hx, hb, hml, hown, hT⟩ hM ⟨va_cnB n hT (tb_GI (tb_cons h5)) rfl hrm.1 hrm.2 (hN _ h1) (hT _ h4) hd hR, hT _ h2, trivial⟩ ⟨pcB_blind, pcB_at hPc hK hDc hN⟩ rfl hn hsize hst (lv_room hW) hdg hf
end BX
/-! ===== pure guards ===== -/
/-- an index is looked at -/
def ck {α : Type} (i : Int32) (n : Nat) (e : Option α) : Option α := if i < 0 ∨ n ≤ i.toNatClampNeg then none else e
theorem ck_some {α : Type} {i : Int32} {n : Nat} {e : Option α} {x : α} (h : ck i n e = some x) : vp_in i n ∧ e = some x := by
  unfold ck at h
  split at h
  · cases h
  · exact ⟨by assumption, h⟩
theorem ck_in {α : Type} {i : Int32} {n : Nat} {e : Option α} (h : vp_in i n) : ck i n e = e := if_neg h
/-- a truth value is looked at -/
def bz {α : Type} (v : Int32) (e : Option α) : Option α := if v = 0 ∨ v = 1 then e else none
theorem bz_some {α : Type} {v : Int32} {e : Option α} {x : α} (h : bz v e = some x) : (v = 0 ∨ v = 1) ∧ e = some x := by
  unfold bz at h
  split at h
  · exact ⟨by assumption, h⟩
  · cases h
theorem bz_in {α : Type} {v : Int32} {e : Option α} (h : v = 0 ∨ v = 1) : bz v e = e := if_pos h
theorem bz_nar {v : Int32} (h : v = 0 ∨ v = 1) : vp_nar .boolean v = v ∧ narrow .boolean (.int v) = .int v := by rcases h with rfl | rfl <;> exact ⟨by decide, by decide⟩
/-- a divisor is looked at -/
def dz {α : Type} (v : Int64) (e : Option α) : Option α := if v = 0 then none else e
theorem dz_some {α : Type} {v : Int64} {e : Option α} {x : α} (h : dz v e = some x) : ¬ v = 0 ∧ e = some x := by
  unfold dz at h
  split at h
  · cases h
  · exact ⟨by assumption, h⟩
theorem dz_in {α : Type} {v : Int64} {e : Option α} (h : ¬ v = 0) : dz v e = e := if_neg h
theorem bd_some {α β : Type} {o : Option α} {f : α → Option β} {x : β} (h : o.bind f = some x) : ∃ q, o = some q ∧ f q = some x := by
  cases o with
  | none => cases h
  | some q => exact ⟨q, rfl, h⟩
theorem if_t {α : Type} {c : Prop} [Decidable c] {a b x : Option α} (h : c) (hf : (if c then a else b) = x) : a = x := by rw [if_pos h] at hf; exact hf
theorem if_f {α : Type} {c : Prop} [Decidable c] {a b x : Option α} (h : ¬ c) (hf : (if c then a else b) = x) : b = x := by rw [if_neg h] at hf; exact hf
