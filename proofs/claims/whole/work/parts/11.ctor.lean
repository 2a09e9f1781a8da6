def g_X1_init_l87 (nf : Nat) : Nat → Int32 → (Nat → Int32) → (Nat → Int32) → Int32 → Option ((Nat → Int32) × (Nat → Int32) × Int32)
  | 0, _, _, _, _ => none
  | n + 1, x1, lands, threads, eaten =>
    if 3 < x1 then
      some (lands, threads, (-6))
    else
      ck x1 4 <|
      (g_X1_init_l87 nf n) (x1 + 1) lands (upd threads x1.toNatClampNeg 9) eaten
def g_X1_init_l66 (nf : Nat) : Nat → Int32 → (Nat → Int32) → (Nat → Int32) → Int32 → Option ((Nat → Int32) × (Nat → Int32) × Int32)
  | 0, _, _, _, _ => none
  | n + 1, x1, lands, threads, eaten =>
    if 25 ≤ x1 then
      g_X1_init_l87 nf nf 1 lands threads eaten
    else
      ck x1 25 <|
      (g_X1_init_l66 nf n) (x1 + 1) (upd lands x1.toNatClampNeg 1) threads eaten
def g_X1_init (nf : Nat) (lands : Nat → Int32) (threads : Nat → Int32) (eaten : Int32) : Option ((Nat → Int32) × (Nat → Int32) × Int32) :=
  g_X1_init_l66 nf nf 0 lands threads eaten
def g_X7_init_l46 (nf : Nat) : Nat → Int32 → (Nat → Int32) → Option ((Nat → Int32))
  | 0, _, _ => none
  | n + 1, x1, next_ =>
    if 100 ≤ x1 then
      some next_
    else
      (g_X7_standBehind nf x1).bind fun q1 =>
      ck x1 100 <|
      (g_X7_init_l46 nf n) (x1 + 1) (upd next_ x1.toNatClampNeg q1)
def g_X7_init (nf : Nat) (next_ : Nat → Int32) : Option ((Nat → Int32)) :=
  g_X7_init_l46 nf nf 0 next_
def g_X9_init_l131 (nf : Nat) : Nat → Int32 → (Nat → Int32) → Option ((Nat → Int32))
  | 0, _, _ => none
  | n + 1, x1, book =>
    if 3 ≤ x1 then
      some book
    else
      ck (58 + x1) 63 <|
      (g_X9_init_l131 nf n) (x1 + 1) (upd book (58 + x1).toNatClampNeg 9)
def g_X9_init_l110 (nf : Nat) : Nat → Int32 → (Nat → Int32) → Option ((Nat → Int32))
  | 0, _, _ => none
  | n + 1, x1, book =>
    if 25 ≤ x1 then
      g_X9_init_l131 nf nf 0 book
    else
      ck x1 63 <|
      (g_X9_init_l110 nf n) (x1 + 1) (upd book x1.toNatClampNeg 1)
def g_X9_init (nf : Nat) (book : Nat → Int32) : Option ((Nat → Int32)) :=
  g_X9_init_l110 nf nf 0 book
theorem hdn_X1_init : yX1_init.cls ≠ "java/lang/invoke/MethodHandle" ∧ yX1_init.cls ≠ "java/lang/invoke/VarHandle" ∧ (parseMethodDescriptor yX1_init.desc).map (fun d => d.parameters.length) = some 0 := by decide +kernel
set_option maxHeartbeats 8000000 in
set_option maxRecDepth 100000 in
theorem c_X1_init (l : Launch) (D : va_G) (cyI cyJ cyZ cyO : ClassId) (h0 sz : Nat) (nf : Nat) (q : (Nat → Int32) × (Nat → Int32) × Int32) (hf : g_X1_init nf (fun _ => 0) (fun _ => 0) 0 = some q) : Met l yX1_init (Cond.code yX1_init cX1_init 2 none :: tbG) ({ frames := 1, cells := 8, slots := 82, locals := 40 } : Room) (va_Pc [.ref h0] (pcB D (ty4 cyI cyJ cyZ cyO) sz [(h0, .inr (1, [.null, .null, .null, .null, .null, .null, .null, .null, .int 0, .int 0, .int 0]))])) (qN (S := Nat → Nat) D (fun u => u 0 = h0) (fun u => wX1 cyI cyJ cyZ cyO u q.1 (fun _ => 0) (fun _ => 0) (fun _ => 0) (fun _ => 0) q.2.1 (fun _ => 0) (fun _ => 0) 0 0 q.2.2) (va_A [(h0, .inr (1, [.null, .null, .null, .null, .null, .null, .null, .null, .int 0, .int 0, .int 0]))] sz)) 8 82 (va_A [(h0, .inr (1, [.null, .null, .null, .null, .null, .null, .null, .null, .int 0, .int 0, .int 0]))] sz) := by
  refine Met.ofW (cc := cX1_init) (maxL := 2) (ret := none) (by decide) rfl ?_
  intro p e s m args below meth c s₁ B hml hv
  obtain ⟨rfl, hsz, hP, hK, hD0, hN⟩ := hv
  have hx := B.exec
  have hb := B.bytes
  have hr := B.returns
  have hT : ∀ w ∈ tbG, w.before ([.ref h0] : List Value).toArray s = true := fun w h => atoms_spec (ws := (Cond.code yX1_init cX1_init 2 none :: tbG)) B.pre w (List.mem_cons_of_mem _ h)
  have hown : s.vm.findClass RX1 = some m.cls := findClass_of_methodNamed B.named
  have hlocks := B.notSynchronized
  have hin : meth.name = "<init>" := (name_of_methodNamed B.named B.method).1
  subst hsz
  have hD := hD0.self (sz := s.heap.size)
  generalize hAe : va_A [(h0, .inr (1, [.null, .null, .null, .null, .null, .null, .null, .null, .int 0, .int 0, .int 0]))] s.heap.size = A at hD ⊢
  have hA : ∀ q : Nat, s.heap.size ≤ q → A q := fun q h => by rw [← hAe]; exact Or.inr h
  have hS : va_S A s.heap s.heap [] := va_S.rf
  show W p l e ({ frames := 1, cells := 8, slots := 82, locals := 40 } : Room) s m ([.ref h0] : List Value).toArray below meth c s.heap [] 0 0 (MQ below (qN (S := Nat → Nat) D (fun u => u 0 = h0) (fun u => wX1 cyI cyJ cyZ cyO u q.1 (fun _ => 0) (fun _ => 0) (fun _ => 0) (fun _ => 0) q.2.1 (fun _ => 0) (fun _ => 0) 0 0 q.2.2) A) ([.ref h0] : List Value).toArray s 8 82 A) _
  have hl := lv_entry ([.ref h0]) (n := 2) (Nat.le_of_ble_eq_true rfl)
  rw [lg_entry_eq]
  generalize (lg_sl ([.ref h0]) ++ List.replicate (2 - (lg_sl ([.ref h0])).length) Slot.unset).toArray = ls at hl ⊢
  have hl : lv_has ls 2 [(0, .ref h0)] := hl
  refine lv_aload_n hx hb dX1_init_0 rfl (lv_at hl 0 rfl) ?_
  refine W.objInit hx hb hown (hT _ wm_X1_3) (hT _ wi_bjectInit) (hT _ wc_objectInit) rfl (by rw [hml]; exact hl.1) rfl dX1_init_1 (Nat.le_of_ble_eq_true rfl) (Nat.le_of_ble_eq_true rfl) ?_
  refine W.eq (g2 := F0 m 4 ls []) rfl ?_
  refine lv_aload_n hx hb dX1_init_4 rfl (lv_at hl 0 rfl) ?_
  refine lv_bipush (v := 25) hx hb dX1_init_5 (by decide) ?_
  refine nw_I hx hb hT hK hP hD hS hA (n := 25) (N' := 25) (by decide) (by decide) (by decide) (Nat.le_of_ble_eq_true rfl) (Nat.le_of_ble_eq_true rfl) dX1_init_7 (fun q1 H hP hD hS => ?_)
  have hP : va_P D vwCl ([(h0, .inr (1, [.null, .null, .null, .null, .null, .null, .null, .null, .int 0, .int 0, .int 0])), (q1, .inl (cyI, 25, .inl (fun _ => 0)))]) H := hP
  have hD : va_D A ([(h0, .inr (1, [.null, .null, .null, .null, .null, .null, .null, .null, .int 0, .int 0, .int 0])), (q1, .inl (cyI, 25, .inl (fun _ => 0)))]) := hD
  refine W.widen (k := 1) (n := 25) (Nat.le_of_ble_eq_true rfl) (Nat.le_of_ble_eq_true rfl) ?_
  refine va_putF (ci := 1) (v := .ref q1) (ty := .array .int) (C := RX1) (T := TX1) (N := 11) hx hb hT hin_X1 tyX1 tyX1_ok nmX1 hown hK hP hD hS 0 rfl rfl 0 (by decide) (hT _ wf_X1_9) (fun _ h9 => h9) rfl hin rfl (tyX1_ok 0 (by decide)) rfl rfl (Nat.le_of_ble_eq_true rfl) dX1_init_9 (fun H locs hP hD hS => ?_)
  have hP : va_P D vwCl ([(h0, .inr (1, [.ref q1, .null, .null, .null, .null, .null, .null, .null, .int 0, .int 0, .int 0])), (q1, .inl (cyI, 25, .inl (fun _ => 0)))]) H := hP
  have hD : va_D A ([(h0, .inr (1, [.ref q1, .null, .null, .null, .null, .null, .null, .null, .int 0, .int 0, .int 0])), (q1, .inl (cyI, 25, .inl (fun _ => 0)))]) := hD
  refine lv_aload_n hx hb dX1_init_12 rfl (lv_at hl 0 rfl) ?_
  refine lv_bipush (v := 25) hx hb dX1_init_13 (by decide) ?_
  refine nw_I hx hb hT hK hP hD hS hA (n := 25) (N' := 25) (by decide) (by decide) (by decide) (Nat.le_of_ble_eq_true rfl) (Nat.le_of_ble_eq_true rfl) dX1_init_15 (fun q2 H hP hD hS => ?_)
  have hP : va_P D vwCl ([(h0, .inr (1, [.ref q1, .null, .null, .null, .null, .null, .null, .null, .int 0, .int 0, .int 0])), (q1, .inl (cyI, 25, .inl (fun _ => 0))), (q2, .inl (cyI, 25, .inl (fun _ => 0)))]) H := hP
  have hD : va_D A ([(h0, .inr (1, [.ref q1, .null, .null, .null, .null, .null, .null, .null, .int 0, .int 0, .int 0])), (q1, .inl (cyI, 25, .inl (fun _ => 0))), (q2, .inl (cyI, 25, .inl (fun _ => 0)))]) := hD
  refine W.widen (k := 2) (n := 50) (Nat.le_of_ble_eq_true rfl) (Nat.le_of_ble_eq_true rfl) ?_
  refine va_putF (ci := 1) (v := .ref q2) (ty := .array .int) (C := RX1) (T := TX1) (N := 11) hx hb hT hin_X1 tyX1 tyX1_ok nmX1 hown hK hP hD hS 0 rfl rfl 1 (by decide) (hT _ wf_X1_15) (fun _ h9 => h9) rfl hin rfl (tyX1_ok 1 (by decide)) rfl rfl (Nat.le_of_ble_eq_true rfl) dX1_init_17 (fun H locs hP hD hS => ?_)
  have hP : va_P D vwCl ([(h0, .inr (1, [.ref q1, .ref q2, .null, .null, .null, .null, .null, .null, .int 0, .int 0, .int 0])), (q1, .inl (cyI, 25, .inl (fun _ => 0))), (q2, .inl (cyI, 25, .inl (fun _ => 0)))]) H := hP
  have hD : va_D A ([(h0, .inr (1, [.ref q1, .ref q2, .null, .null, .null, .null, .null, .null, .int 0, .int 0, .int 0])), (q1, .inl (cyI, 25, .inl (fun _ => 0))), (q2, .inl (cyI, 25, .inl (fun _ => 0)))]) := hD
  refine lv_aload_n hx hb dX1_init_20 rfl (lv_at hl 0 rfl) ?_
  refine lv_iconst (v := 4) hx hb dX1_init_21 (by decide) ?_
  refine nw_Z hx hb hT hK hP hD hS hA (n := 4) (N' := 4) (by decide) (by decide) (by decide) (Nat.le_of_ble_eq_true rfl) (Nat.le_of_ble_eq_true rfl) dX1_init_22 (fun q3 H hP hD hS => ?_)
  have hP : va_P D vwCl ([(h0, .inr (1, [.ref q1, .ref q2, .null, .null, .null, .null, .null, .null, .int 0, .int 0, .int 0])), (q1, .inl (cyI, 25, .inl (fun _ => 0))), (q2, .inl (cyI, 25, .inl (fun _ => 0))), (q3, .inl (cyZ, 4, .inl (fun _ => 0)))]) H := hP
  have hD : va_D A ([(h0, .inr (1, [.ref q1, .ref q2, .null, .null, .null, .null, .null, .null, .int 0, .int 0, .int 0])), (q1, .inl (cyI, 25, .inl (fun _ => 0))), (q2, .inl (cyI, 25, .inl (fun _ => 0))), (q3, .inl (cyZ, 4, .inl (fun _ => 0)))]) := hD
  refine W.widen (k := 3) (n := 54) (Nat.le_of_ble_eq_true rfl) (Nat.le_of_ble_eq_true rfl) ?_
  refine va_putF (ci := 1) (v := .ref q3) (ty := .array .boolean) (C := RX1) (T := TX1) (N := 11) hx hb hT hin_X1 tyX1 tyX1_ok nmX1 hown hK hP hD hS 0 rfl rfl 2 (by decide) (hT _ wf_X1_18) (fun _ h9 => h9) rfl hin rfl (tyX1_ok 2 (by decide)) rfl rfl (Nat.le_of_ble_eq_true rfl) dX1_init_24 (fun H locs hP hD hS => ?_)
  have hP : va_P D vwCl ([(h0, .inr (1, [.ref q1, .ref q2, .ref q3, .null, .null, .null, .null, .null, .int 0, .int 0, .int 0])), (q1, .inl (cyI, 25, .inl (fun _ => 0))), (q2, .inl (cyI, 25, .inl (fun _ => 0))), (q3, .inl (cyZ, 4, .inl (fun _ => 0)))]) H := hP
  have hD : va_D A ([(h0, .inr (1, [.ref q1, .ref q2, .ref q3, .null, .null, .null, .null, .null, .int 0, .int 0, .int 0])), (q1, .inl (cyI, 25, .inl (fun _ => 0))), (q2, .inl (cyI, 25, .inl (fun _ => 0))), (q3, .inl (cyZ, 4, .inl (fun _ => 0)))]) := hD
  refine lv_aload_n hx hb dX1_init_27 rfl (lv_at hl 0 rfl) ?_
  refine lv_iconst (v := 4) hx hb dX1_init_28 (by decide) ?_
  refine nw_I hx hb hT hK hP hD hS hA (n := 4) (N' := 4) (by decide) (by decide) (by decide) (Nat.le_of_ble_eq_true rfl) (Nat.le_of_ble_eq_true rfl) dX1_init_29 (fun q4 H hP hD hS => ?_)
  have hP : va_P D vwCl ([(h0, .inr (1, [.ref q1, .ref q2, .ref q3, .null, .null, .null, .null, .null, .int 0, .int 0, .int 0])), (q1, .inl (cyI, 25, .inl (fun _ => 0))), (q2, .inl (cyI, 25, .inl (fun _ => 0))), (q3, .inl (cyZ, 4, .inl (fun _ => 0))), (q4, .inl (cyI, 4, .inl (fun _ => 0)))]) H := hP
  have hD : va_D A ([(h0, .inr (1, [.ref q1, .ref q2, .ref q3, .null, .null, .null, .null, .null, .int 0, .int 0, .int 0])), (q1, .inl (cyI, 25, .inl (fun _ => 0))), (q2, .inl (cyI, 25, .inl (fun _ => 0))), (q3, .inl (cyZ, 4, .inl (fun _ => 0))), (q4, .inl (cyI, 4, .inl (fun _ => 0)))]) := hD
  refine W.widen (k := 4) (n := 58) (Nat.le_of_ble_eq_true rfl) (Nat.le_of_ble_eq_true rfl) ?_
  refine va_putF (ci := 1) (v := .ref q4) (ty := .array .int) (C := RX1) (T := TX1) (N := 11) hx hb hT hin_X1 tyX1 tyX1_ok nmX1 hown hK hP hD hS 0 rfl rfl 3 (by decide) (hT _ wf_X1_22) (fun _ h9 => h9) rfl hin rfl (tyX1_ok 3 (by decide)) rfl rfl (Nat.le_of_ble_eq_true rfl) dX1_init_31 (fun H locs hP hD hS => ?_)
  have hP : va_P D vwCl ([(h0, .inr (1, [.ref q1, .ref q2, .ref q3, .ref q4, .null, .null, .null, .null, .int 0, .int 0, .int 0])), (q1, .inl (cyI, 25, .inl (fun _ => 0))), (q2, .inl (cyI, 25, .inl (fun _ => 0))), (q3, .inl (cyZ, 4, .inl (fun _ => 0))), (q4, .inl (cyI, 4, .inl (fun _ => 0)))]) H := hP
  have hD : va_D A ([(h0, .inr (1, [.ref q1, .ref q2, .ref q3, .ref q4, .null, .null, .null, .null, .int 0, .int 0, .int 0])), (q1, .inl (cyI, 25, .inl (fun _ => 0))), (q2, .inl (cyI, 25, .inl (fun _ => 0))), (q3, .inl (cyZ, 4, .inl (fun _ => 0))), (q4, .inl (cyI, 4, .inl (fun _ => 0)))]) := hD
  refine lv_aload_n hx hb dX1_init_34 rfl (lv_at hl 0 rfl) ?_
  refine lv_iconst (v := 4) hx hb dX1_init_35 (by decide) ?_
  refine nw_I hx hb hT hK hP hD hS hA (n := 4) (N' := 4) (by decide) (by decide) (by decide) (Nat.le_of_ble_eq_true rfl) (Nat.le_of_ble_eq_true rfl) dX1_init_36 (fun q5 H hP hD hS => ?_)
  have hP : va_P D vwCl ([(h0, .inr (1, [.ref q1, .ref q2, .ref q3, .ref q4, .null, .null, .null, .null, .int 0, .int 0, .int 0])), (q1, .inl (cyI, 25, .inl (fun _ => 0))), (q2, .inl (cyI, 25, .inl (fun _ => 0))), (q3, .inl (cyZ, 4, .inl (fun _ => 0))), (q4, .inl (cyI, 4, .inl (fun _ => 0))), (q5, .inl (cyI, 4, .inl (fun _ => 0)))]) H := hP
  have hD : va_D A ([(h0, .inr (1, [.ref q1, .ref q2, .ref q3, .ref q4, .null, .null, .null, .null, .int 0, .int 0, .int 0])), (q1, .inl (cyI, 25, .inl (fun _ => 0))), (q2, .inl (cyI, 25, .inl (fun _ => 0))), (q3, .inl (cyZ, 4, .inl (fun _ => 0))), (q4, .inl (cyI, 4, .inl (fun _ => 0))), (q5, .inl (cyI, 4, .inl (fun _ => 0)))]) := hD
  refine W.widen (k := 5) (n := 62) (Nat.le_of_ble_eq_true rfl) (Nat.le_of_ble_eq_true rfl) ?_
  refine va_putF (ci := 1) (v := .ref q5) (ty := .array .int) (C := RX1) (T := TX1) (N := 11) hx hb hT hin_X1 tyX1 tyX1_ok nmX1 hown hK hP hD hS 0 rfl rfl 4 (by decide) (hT _ wf_X1_25) (fun _ h9 => h9) rfl hin rfl (tyX1_ok 4 (by decide)) rfl rfl (Nat.le_of_ble_eq_true rfl) dX1_init_38 (fun H locs hP hD hS => ?_)
  have hP : va_P D vwCl ([(h0, .inr (1, [.ref q1, .ref q2, .ref q3, .ref q4, .ref q5, .null, .null, .null, .int 0, .int 0, .int 0])), (q1, .inl (cyI, 25, .inl (fun _ => 0))), (q2, .inl (cyI, 25, .inl (fun _ => 0))), (q3, .inl (cyZ, 4, .inl (fun _ => 0))), (q4, .inl (cyI, 4, .inl (fun _ => 0))), (q5, .inl (cyI, 4, .inl (fun _ => 0)))]) H := hP
  have hD : va_D A ([(h0, .inr (1, [.ref q1, .ref q2, .ref q3, .ref q4, .ref q5, .null, .null, .null, .int 0, .int 0, .int 0])), (q1, .inl (cyI, 25, .inl (fun _ => 0))), (q2, .inl (cyI, 25, .inl (fun _ => 0))), (q3, .inl (cyZ, 4, .inl (fun _ => 0))), (q4, .inl (cyI, 4, .inl (fun _ => 0))), (q5, .inl (cyI, 4, .inl (fun _ => 0)))]) := hD
  refine lv_aload_n hx hb dX1_init_41 rfl (lv_at hl 0 rfl) ?_
  refine lv_iconst (v := 4) hx hb dX1_init_42 (by decide) ?_
  refine nw_I hx hb hT hK hP hD hS hA (n := 4) (N' := 4) (by decide) (by decide) (by decide) (Nat.le_of_ble_eq_true rfl) (Nat.le_of_ble_eq_true rfl) dX1_init_43 (fun q6 H hP hD hS => ?_)
  have hP : va_P D vwCl ([(h0, .inr (1, [.ref q1, .ref q2, .ref q3, .ref q4, .ref q5, .null, .null, .null, .int 0, .int 0, .int 0])), (q1, .inl (cyI, 25, .inl (fun _ => 0))), (q2, .inl (cyI, 25, .inl (fun _ => 0))), (q3, .inl (cyZ, 4, .inl (fun _ => 0))), (q4, .inl (cyI, 4, .inl (fun _ => 0))), (q5, .inl (cyI, 4, .inl (fun _ => 0))), (q6, .inl (cyI, 4, .inl (fun _ => 0)))]) H := hP
  have hD : va_D A ([(h0, .inr (1, [.ref q1, .ref q2, .ref q3, .ref q4, .ref q5, .null, .null, .null, .int 0, .int 0, .int 0])), (q1, .inl (cyI, 25, .inl (fun _ => 0))), (q2, .inl (cyI, 25, .inl (fun _ => 0))), (q3, .inl (cyZ, 4, .inl (fun _ => 0))), (q4, .inl (cyI, 4, .inl (fun _ => 0))), (q5, .inl (cyI, 4, .inl (fun _ => 0))), (q6, .inl (cyI, 4, .inl (fun _ => 0)))]) := hD
  refine W.widen (k := 6) (n := 66) (Nat.le_of_ble_eq_true rfl) (Nat.le_of_ble_eq_true rfl) ?_
  refine va_putF (ci := 1) (v := .ref q6) (ty := .array .int) (C := RX1) (T := TX1) (N := 11) hx hb hT hin_X1 tyX1 tyX1_ok nmX1 hown hK hP hD hS 0 rfl rfl 5 (by decide) (hT _ wf_X1_28) (fun _ h9 => h9) rfl hin rfl (tyX1_ok 5 (by decide)) rfl rfl (Nat.le_of_ble_eq_true rfl) dX1_init_45 (fun H locs hP hD hS => ?_)
  have hP : va_P D vwCl ([(h0, .inr (1, [.ref q1, .ref q2, .ref q3, .ref q4, .ref q5, .ref q6, .null, .null, .int 0, .int 0, .int 0])), (q1, .inl (cyI, 25, .inl (fun _ => 0))), (q2, .inl (cyI, 25, .inl (fun _ => 0))), (q3, .inl (cyZ, 4, .inl (fun _ => 0))), (q4, .inl (cyI, 4, .inl (fun _ => 0))), (q5, .inl (cyI, 4, .inl (fun _ => 0))), (q6, .inl (cyI, 4, .inl (fun _ => 0)))]) H := hP
  have hD : va_D A ([(h0, .inr (1, [.ref q1, .ref q2, .ref q3, .ref q4, .ref q5, .ref q6, .null, .null, .int 0, .int 0, .int 0])), (q1, .inl (cyI, 25, .inl (fun _ => 0))), (q2, .inl (cyI, 25, .inl (fun _ => 0))), (q3, .inl (cyZ, 4, .inl (fun _ => 0))), (q4, .inl (cyI, 4, .inl (fun _ => 0))), (q5, .inl (cyI, 4, .inl (fun _ => 0))), (q6, .inl (cyI, 4, .inl (fun _ => 0)))]) := hD
  refine lv_aload_n hx hb dX1_init_48 rfl (lv_at hl 0 rfl) ?_
  refine lv_bipush (v := 8) hx hb dX1_init_49 (by decide) ?_
  refine nw_I hx hb hT hK hP hD hS hA (n := 8) (N' := 8) (by decide) (by decide) (by decide) (Nat.le_of_ble_eq_true rfl) (Nat.le_of_ble_eq_true rfl) dX1_init_51 (fun q7 H hP hD hS => ?_)
  have hP : va_P D vwCl ([(h0, .inr (1, [.ref q1, .ref q2, .ref q3, .ref q4, .ref q5, .ref q6, .null, .null, .int 0, .int 0, .int 0])), (q1, .inl (cyI, 25, .inl (fun _ => 0))), (q2, .inl (cyI, 25, .inl (fun _ => 0))), (q3, .inl (cyZ, 4, .inl (fun _ => 0))), (q4, .inl (cyI, 4, .inl (fun _ => 0))), (q5, .inl (cyI, 4, .inl (fun _ => 0))), (q6, .inl (cyI, 4, .inl (fun _ => 0))), (q7, .inl (cyI, 8, .inl (fun _ => 0)))]) H := hP
  have hD : va_D A ([(h0, .inr (1, [.ref q1, .ref q2, .ref q3, .ref q4, .ref q5, .ref q6, .null, .null, .int 0, .int 0, .int 0])), (q1, .inl (cyI, 25, .inl (fun _ => 0))), (q2, .inl (cyI, 25, .inl (fun _ => 0))), (q3, .inl (cyZ, 4, .inl (fun _ => 0))), (q4, .inl (cyI, 4, .inl (fun _ => 0))), (q5, .inl (cyI, 4, .inl (fun _ => 0))), (q6, .inl (cyI, 4, .inl (fun _ => 0))), (q7, .inl (cyI, 8, .inl (fun _ => 0)))]) := hD
  refine W.widen (k := 7) (n := 74) (Nat.le_of_ble_eq_true rfl) (Nat.le_of_ble_eq_true rfl) ?_
  refine va_putF (ci := 1) (v := .ref q7) (ty := .array .int) (C := RX1) (T := TX1) (N := 11) hx hb hT hin_X1 tyX1 tyX1_ok nmX1 hown hK hP hD hS 0 rfl rfl 6 (by decide) (hT _ wf_X1_31) (fun _ h9 => h9) rfl hin rfl (tyX1_ok 6 (by decide)) rfl rfl (Nat.le_of_ble_eq_true rfl) dX1_init_53 (fun H locs hP hD hS => ?_)
  have hP : va_P D vwCl ([(h0, .inr (1, [.ref q1, .ref q2, .ref q3, .ref q4, .ref q5, .ref q6, .ref q7, .null, .int 0, .int 0, .int 0])), (q1, .inl (cyI, 25, .inl (fun _ => 0))), (q2, .inl (cyI, 25, .inl (fun _ => 0))), (q3, .inl (cyZ, 4, .inl (fun _ => 0))), (q4, .inl (cyI, 4, .inl (fun _ => 0))), (q5, .inl (cyI, 4, .inl (fun _ => 0))), (q6, .inl (cyI, 4, .inl (fun _ => 0))), (q7, .inl (cyI, 8, .inl (fun _ => 0)))]) H := hP
  have hD : va_D A ([(h0, .inr (1, [.ref q1, .ref q2, .ref q3, .ref q4, .ref q5, .ref q6, .ref q7, .null, .int 0, .int 0, .int 0])), (q1, .inl (cyI, 25, .inl (fun _ => 0))), (q2, .inl (cyI, 25, .inl (fun _ => 0))), (q3, .inl (cyZ, 4, .inl (fun _ => 0))), (q4, .inl (cyI, 4, .inl (fun _ => 0))), (q5, .inl (cyI, 4, .inl (fun _ => 0))), (q6, .inl (cyI, 4, .inl (fun _ => 0))), (q7, .inl (cyI, 8, .inl (fun _ => 0)))]) := hD
  refine lv_aload_n hx hb dX1_init_56 rfl (lv_at hl 0 rfl) ?_
  refine lv_bipush (v := 8) hx hb dX1_init_57 (by decide) ?_
  refine nw_I hx hb hT hK hP hD hS hA (n := 8) (N' := 8) (by decide) (by decide) (by decide) (Nat.le_of_ble_eq_true rfl) (Nat.le_of_ble_eq_true rfl) dX1_init_59 (fun q8 H hP hD hS => ?_)
  have hP : va_P D vwCl ([(h0, .inr (1, [.ref q1, .ref q2, .ref q3, .ref q4, .ref q5, .ref q6, .ref q7, .null, .int 0, .int 0, .int 0])), (q1, .inl (cyI, 25, .inl (fun _ => 0))), (q2, .inl (cyI, 25, .inl (fun _ => 0))), (q3, .inl (cyZ, 4, .inl (fun _ => 0))), (q4, .inl (cyI, 4, .inl (fun _ => 0))), (q5, .inl (cyI, 4, .inl (fun _ => 0))), (q6, .inl (cyI, 4, .inl (fun _ => 0))), (q7, .inl (cyI, 8, .inl (fun _ => 0))), (q8, .inl (cyI, 8, .inl (fun _ => 0)))]) H := hP
  have hD : va_D A ([(h0, .inr (1, [.ref q1, .ref q2, .ref q3, .ref q4, .ref q5, .ref q6, .ref q7, .null, .int 0, .int 0, .int 0])), (q1, .inl (cyI, 25, .inl (fun _ => 0))), (q2, .inl (cyI, 25, .inl (fun _ => 0))), (q3, .inl (cyZ, 4, .inl (fun _ => 0))), (q4, .inl (cyI, 4, .inl (fun _ => 0))), (q5, .inl (cyI, 4, .inl (fun _ => 0))), (q6, .inl (cyI, 4, .inl (fun _ => 0))), (q7, .inl (cyI, 8, .inl (fun _ => 0))), (q8, .inl (cyI, 8, .inl (fun _ => 0)))]) := hD
  refine W.widen (k := 8) (n := 82) (Nat.le_of_ble_eq_true rfl) (Nat.le_of_ble_eq_true rfl) ?_
  refine va_putF (ci := 1) (v := .ref q8) (ty := .array .int) (C := RX1) (T := TX1) (N := 11) hx hb hT hin_X1 tyX1 tyX1_ok nmX1 hown hK hP hD hS 0 rfl rfl 7 (by decide) (hT _ wf_X1_34) (fun _ h9 => h9) rfl hin rfl (tyX1_ok 7 (by decide)) rfl rfl (Nat.le_of_ble_eq_true rfl) dX1_init_61 (fun H locs hP hD hS => ?_)
  have hP : va_P D vwCl ([(h0, .inr (1, [.ref q1, .ref q2, .ref q3, .ref q4, .ref q5, .ref q6, .ref q7, .ref q8, .int 0, .int 0, .int 0])), (q1, .inl (cyI, 25, .inl (fun _ => 0))), (q2, .inl (cyI, 25, .inl (fun _ => 0))), (q3, .inl (cyZ, 4, .inl (fun _ => 0))), (q4, .inl (cyI, 4, .inl (fun _ => 0))), (q5, .inl (cyI, 4, .inl (fun _ => 0))), (q6, .inl (cyI, 4, .inl (fun _ => 0))), (q7, .inl (cyI, 8, .inl (fun _ => 0))), (q8, .inl (cyI, 8, .inl (fun _ => 0)))]) H := hP
  have hD : va_D A ([(h0, .inr (1, [.ref q1, .ref q2, .ref q3, .ref q4, .ref q5, .ref q6, .ref q7, .ref q8, .int 0, .int 0, .int 0])), (q1, .inl (cyI, 25, .inl (fun _ => 0))), (q2, .inl (cyI, 25, .inl (fun _ => 0))), (q3, .inl (cyZ, 4, .inl (fun _ => 0))), (q4, .inl (cyI, 4, .inl (fun _ => 0))), (q5, .inl (cyI, 4, .inl (fun _ => 0))), (q6, .inl (cyI, 4, .inl (fun _ => 0))), (q7, .inl (cyI, 8, .inl (fun _ => 0))), (q8, .inl (cyI, 8, .inl (fun _ => 0)))]) := hD
  obtain ⟨h, hh⟩ : ∃ h : Nat → Nat, h = fun k => [h0, q1, q2, q3, q4, q5, q6, q7, q8].getD k 0 := ⟨_, rfl⟩
  have hP : va_P D vwCl (wX1 cyI cyJ cyZ cyO h (fun _ => 0) (fun _ => 0) (fun _ => 0) (fun _ => 0) (fun _ => 0) (fun _ => 0) (fun _ => 0) (fun _ => 0) 0 0 0) H := by rw [hh]; exact hP
  have hD : va_D A (wX1 cyI cyJ cyZ cyO h (fun _ => 0) (fun _ => 0) (fun _ => 0) (fun _ => 0) (fun _ => 0) (fun _ => 0) (fun _ => 0) (fun _ => 0) 0 0 0) := by rw [hh]; exact hD
  have hl : lv_has ls 2 [(0, .ref (h 0))] := by rw [hh]; exact hl
  have hh0 : h 0 = h0 := by rw [hh]; rfl
  clear hh
  rw [← hh0] at hT ⊢
  have l87 : ∀ (n87 : Nat) (x1 : Int32) (lands : Nat → Int32) (threads : Nat → Int32) (eaten : Int32) (H : Heap) (locs : List Loc) (ls : Array Slot), va_P D vwCl (wX1 cyI cyJ cyZ cyO h lands (fun _ => 0) (fun _ => 0) (fun _ => 0) (fun _ => 0) threads (fun _ => 0) (fun _ => 0) 0 0 eaten) H → va_D A (wX1 cyI cyJ cyZ cyO h lands (fun _ => 0) (fun _ => 0) (fun _ => 0) (fun _ => 0) threads (fun _ => 0) (fun _ => 0) 0 0 eaten) → va_S A s.heap H locs → lv_has ls 2 [(0, .ref (h 0)), (1, .int x1)] → g_X1_init_l87 nf n87 x1 lands threads eaten = some q → W p l e ({ frames := 1, cells := 8, slots := 82, locals := 40 } : Room) s m ([.ref (h 0)] : List Value).toArray below meth c H locs 8 82 (MQ below (qN (S := Nat → Nat) D (fun u => u 0 = h 0) (fun u => wX1 cyI cyJ cyZ cyO u q.1 (fun _ => 0) (fun _ => 0) (fun _ => 0) (fun _ => 0) q.2.1 (fun _ => 0) (fun _ => 0) 0 0 q.2.2) A) ([.ref (h 0)] : List Value).toArray s 8 82 A) (F0 m 87 ls []) := by
    intro n87
    induction n87 with
    | zero =>
      intro x1 lands threads eaten H locs ls hP hD hS hl hf
      rw [g_X1_init_l87] at hf
      cases hf
    | succ n87 ih87 =>
      intro x1 lands threads eaten H locs ls hP hD hS hl hf
      rw [g_X1_init_l87] at hf
      refine lv_iload_n hx hb dX1_init_87 rfl (lv_at hl 1 rfl) ?_
      refine lv_iconst (v := 3) hx hb dX1_init_88 (by decide) ?_
      refine lv_icmp_gt (tgt := 106) hx hb dX1_init_89 (by decide) (fun cc => ?_) (fun cc => ?_)
      · replace hf := if_t cc hf
        refine lv_aload_n hx hb dX1_init_106 rfl (lv_at hl 0 rfl) ?_
        refine lv_bipush (v := (-6)) hx hb dX1_init_107 (by decide) ?_
        refine va_put (ci := 1) (v := .int (-6)) (ty := .int) (C := RX1) (T := TX1) (N := 11) hx hb hT hin_X1 tyX1 tyX1_ok nmX1 hown hK hP hD hS 0 rfl rfl 10 (by decide) (hT _ wf_X1_37) (fun _ h9 => h9) rfl (tyX1_ok 10 (by decide)) rfl rfl (Nat.le_of_ble_eq_true rfl) dX1_init_109 (fun H locs hP hD hS => ?_)
        have hP : va_P D vwCl (wX1 cyI cyJ cyZ cyO h lands (fun _ => 0) (fun _ => 0) (fun _ => 0) (fun _ => 0) threads (fun _ => 0) (fun _ => 0) 0 0 (-6)) H := hP
        have hD : va_D A (wX1 cyI cyJ cyZ cyO h lands (fun _ => 0) (fun _ => 0) (fun _ => 0) (fun _ => 0) threads (fun _ => 0) (fun _ => 0) 0 0 (-6)) := hD
        cases Option.some.inj hf
        exact W.vret hx hb hr (fun t ht hW => ⟨⟨h, rfl, rfl, by show va_P D vwCl _ t.heap; rw [ht]; exact hP, hD⟩, hS.F ht⟩) hS.2.2 dX1_init_112
      · replace hf := if_f cc hf
        refine lv_aload_n hx hb dX1_init_92 rfl (lv_at hl 0 rfl) ?_
        refine va_get (ci := 1) (v := .ref (h 6)) (C := RX1) (T := TX1) (N := 11) hx hb hT hin_X1 hown hK hP 0 rfl rfl 5 (by decide) (hT _ wf_X1_28) (fun _ h9 => h9) rfl dX1_init_93 ?_
        refine lv_iload_n hx hb dX1_init_96 rfl (lv_at hl 1 rfl) ?_
        refine lv_bipush (v := 9) hx hb dX1_init_97 (by decide) ?_
        obtain ⟨hi, hf⟩ := ck_some hf
        refine va_iast hx hb hK hP hD hS 6 0 rfl rfl hi dX1_init_99 (fun H locs hP hD hS => ?_)
        have hP : va_P D vwCl (wX1 cyI cyJ cyZ cyO h lands (fun _ => 0) (fun _ => 0) (fun _ => 0) (fun _ => 0) (upd threads x1.toNatClampNeg 9) (fun _ => 0) (fun _ => 0) 0 0 eaten) H := hP
        have hD : va_D A (wX1 cyI cyJ cyZ cyO h lands (fun _ => 0) (fun _ => 0) (fun _ => 0) (fun _ => 0) (upd threads x1.toNatClampNeg 9) (fun _ => 0) (fun _ => 0) 0 0 eaten) := hD
        refine lv_iinc (v := (x1 + 1)) (lv' := [(1, .int (x1 + 1)), (0, .ref (h 0))]) hx hb dX1_init_100 hl (k := 1) rfl rfl (by decide) rfl (fun ls hl => ?_)
        refine lv_goto (tgt := 87) hx hb dX1_init_103 (by decide) ?_
        exact ih87 (x1 + 1) lands (upd threads x1.toNatClampNeg 9) eaten H locs ls hP hD hS (lv_sub hl [1, 0] rfl) hf
  have l66 : ∀ (n66 : Nat) (x1 : Int32) (lands : Nat → Int32) (threads : Nat → Int32) (eaten : Int32) (H : Heap) (locs : List Loc) (ls : Array Slot), va_P D vwCl (wX1 cyI cyJ cyZ cyO h lands (fun _ => 0) (fun _ => 0) (fun _ => 0) (fun _ => 0) threads (fun _ => 0) (fun _ => 0) 0 0 eaten) H → va_D A (wX1 cyI cyJ cyZ cyO h lands (fun _ => 0) (fun _ => 0) (fun _ => 0) (fun _ => 0) threads (fun _ => 0) (fun _ => 0) 0 0 eaten) → va_S A s.heap H locs → lv_has ls 2 [(0, .ref (h 0)), (1, .int x1)] → g_X1_init_l66 nf n66 x1 lands threads eaten = some q → W p l e ({ frames := 1, cells := 8, slots := 82, locals := 40 } : Room) s m ([.ref (h 0)] : List Value).toArray below meth c H locs 8 82 (MQ below (qN (S := Nat → Nat) D (fun u => u 0 = h 0) (fun u => wX1 cyI cyJ cyZ cyO u q.1 (fun _ => 0) (fun _ => 0) (fun _ => 0) (fun _ => 0) q.2.1 (fun _ => 0) (fun _ => 0) 0 0 q.2.2) A) ([.ref (h 0)] : List Value).toArray s 8 82 A) (F0 m 66 ls []) := by
    intro n66
    induction n66 with
    | zero =>
      intro x1 lands threads eaten H locs ls hP hD hS hl hf
      rw [g_X1_init_l66] at hf
      cases hf
    | succ n66 ih66 =>
      intro x1 lands threads eaten H locs ls hP hD hS hl hf
      rw [g_X1_init_l66] at hf
      refine lv_iload_n hx hb dX1_init_66 rfl (lv_at hl 1 rfl) ?_
      refine lv_bipush (v := 25) hx hb dX1_init_67 (by decide) ?_
      refine lv_icmp_ge (tgt := 85) hx hb dX1_init_69 (by decide) (fun cc => ?_) (fun cc => ?_)
      · replace hf := if_t cc hf
        refine lv_iconst (v := 1) hx hb dX1_init_85 (by decide) ?_
        refine lv_istore_n (lv' := [(1, .int 1), (0, .ref (h 0))]) hx hb dX1_init_86 rfl hl (by decide) rfl (fun ls hl => ?_)
        exact l87 nf 1 lands threads eaten H locs ls hP hD hS (lv_sub hl [1, 0] rfl) hf
      · replace hf := if_f cc hf
        refine lv_aload_n hx hb dX1_init_72 rfl (lv_at hl 0 rfl) ?_
        refine va_get (ci := 1) (v := .ref (h 1)) (C := RX1) (T := TX1) (N := 11) hx hb hT hin_X1 hown hK hP 0 rfl rfl 0 (by decide) (hT _ wf_X1_9) (fun _ h9 => h9) rfl dX1_init_73 ?_
        refine lv_iload_n hx hb dX1_init_76 rfl (lv_at hl 1 rfl) ?_
        refine lv_iconst (v := 1) hx hb dX1_init_77 (by decide) ?_
        obtain ⟨hi, hf⟩ := ck_some hf
        refine va_iast hx hb hK hP hD hS 1 0 rfl rfl hi dX1_init_78 (fun H locs hP hD hS => ?_)
        have hP : va_P D vwCl (wX1 cyI cyJ cyZ cyO h (upd lands x1.toNatClampNeg 1) (fun _ => 0) (fun _ => 0) (fun _ => 0) (fun _ => 0) threads (fun _ => 0) (fun _ => 0) 0 0 eaten) H := hP
        have hD : va_D A (wX1 cyI cyJ cyZ cyO h (upd lands x1.toNatClampNeg 1) (fun _ => 0) (fun _ => 0) (fun _ => 0) (fun _ => 0) threads (fun _ => 0) (fun _ => 0) 0 0 eaten) := hD
        refine lv_iinc (v := (x1 + 1)) (lv' := [(1, .int (x1 + 1)), (0, .ref (h 0))]) hx hb dX1_init_79 hl (k := 1) rfl rfl (by decide) rfl (fun ls hl => ?_)
        refine lv_goto (tgt := 66) hx hb dX1_init_82 (by decide) ?_
        exact ih66 (x1 + 1) (upd lands x1.toNatClampNeg 1) threads eaten H locs ls hP hD hS (lv_sub hl [1, 0] rfl) hf
  unfold g_X1_init at hf
  refine lv_iconst (v := 0) hx hb dX1_init_64 (by decide) ?_
  refine lv_istore_n (lv' := [(1, .int 0), (0, .ref (h 0))]) hx hb dX1_init_65 rfl hl (by decide) rfl (fun ls hl => ?_)
  exact l66 nf 0 (fun _ => 0) (fun _ => 0) 0 H locs ls hP hD hS (lv_sub hl [1, 0] rfl) hf
theorem hdn_X5_init : yX5_init.cls ≠ "java/lang/invoke/MethodHandle" ∧ yX5_init.cls ≠ "java/lang/invoke/VarHandle" ∧ (parseMethodDescriptor yX5_init.desc).map (fun d => d.parameters.length) = some 0 := by decide +kernel
set_option maxHeartbeats 8000000 in
set_option maxRecDepth 100000 in
theorem c_X5_init (l : Launch) (D : va_G) (cyI cyJ cyZ cyO : ClassId) (h0 sz : Nat) : Met l yX5_init (Cond.code yX5_init cX5_init 1 none :: tbG) ({ frames := 1, cells := 1, slots := 60, locals := 40 } : Room) (va_Pc [.ref h0] (pcB D (ty4 cyI cyJ cyZ cyO) sz [(h0, .inr (5, [.null, .int 0]))])) (qN (S := Nat → Nat) D (fun u => u 0 = h0) (fun u => wX5 cyI cyJ cyZ cyO u (fun _ => 0) 0) (va_A [(h0, .inr (5, [.null, .int 0]))] sz)) 1 60 (va_A [(h0, .inr (5, [.null, .int 0]))] sz) := by
  refine Met.ofW (cc := cX5_init) (maxL := 1) (ret := none) (by decide) rfl ?_
  intro p e s m args below meth c s₁ B hml hv
  obtain ⟨rfl, hsz, hP, hK, hD0, hN⟩ := hv
  have hx := B.exec
  have hb := B.bytes
  have hr := B.returns
  have hT : ∀ w ∈ tbG, w.before ([.ref h0] : List Value).toArray s = true := fun w h => atoms_spec (ws := (Cond.code yX5_init cX5_init 1 none :: tbG)) B.pre w (List.mem_cons_of_mem _ h)
  have hown : s.vm.findClass RX5 = some m.cls := findClass_of_methodNamed B.named
  have hlocks := B.notSynchronized
  have hin : meth.name = "<init>" := (name_of_methodNamed B.named B.method).1
  subst hsz
  have hD := hD0.self (sz := s.heap.size)
  generalize hAe : va_A [(h0, .inr (5, [.null, .int 0]))] s.heap.size = A at hD ⊢
  have hA : ∀ q : Nat, s.heap.size ≤ q → A q := fun q h => by rw [← hAe]; exact Or.inr h
  have hS : va_S A s.heap s.heap [] := va_S.rf
  show W p l e ({ frames := 1, cells := 1, slots := 60, locals := 40 } : Room) s m ([.ref h0] : List Value).toArray below meth c s.heap [] 0 0 (MQ below (qN (S := Nat → Nat) D (fun u => u 0 = h0) (fun u => wX5 cyI cyJ cyZ cyO u (fun _ => 0) 0) A) ([.ref h0] : List Value).toArray s 1 60 A) _
  have hl := lv_entry ([.ref h0]) (n := 1) (Nat.le_of_ble_eq_true rfl)
  rw [lg_entry_eq]
  generalize (lg_sl ([.ref h0]) ++ List.replicate (1 - (lg_sl ([.ref h0])).length) Slot.unset).toArray = ls at hl ⊢
  have hl : lv_has ls 1 [(0, .ref h0)] := hl
  refine lv_aload_n hx hb dX5_init_0 rfl (lv_at hl 0 rfl) ?_
  refine W.objInit hx hb hown (hT _ wm_X5_3) (hT _ wi_bjectInit) (hT _ wc_objectInit) rfl (by rw [hml]; exact hl.1) rfl dX5_init_1 (Nat.le_of_ble_eq_true rfl) (Nat.le_of_ble_eq_true rfl) ?_
  refine W.eq (g2 := F0 m 4 ls []) rfl ?_
  refine lv_aload_n hx hb dX5_init_4 rfl (lv_at hl 0 rfl) ?_
  refine lv_bipush (v := 60) hx hb dX5_init_5 (by decide) ?_
  refine nw_I hx hb hT hK hP hD hS hA (n := 60) (N' := 60) (by decide) (by decide) (by decide) (Nat.le_of_ble_eq_true rfl) (Nat.le_of_ble_eq_true rfl) dX5_init_7 (fun q1 H hP hD hS => ?_)
  have hP : va_P D vwCl ([(h0, .inr (5, [.null, .int 0])), (q1, .inl (cyI, 60, .inl (fun _ => 0)))]) H := hP
  have hD : va_D A ([(h0, .inr (5, [.null, .int 0])), (q1, .inl (cyI, 60, .inl (fun _ => 0)))]) := hD
  refine W.widen (k := 1) (n := 60) (Nat.le_of_ble_eq_true rfl) (Nat.le_of_ble_eq_true rfl) ?_
  refine va_putF (ci := 5) (v := .ref q1) (ty := .array .int) (C := RX5) (T := TX5) (N := 2) hx hb hT hin_X5 tyX5 tyX5_ok nmX5 hown hK hP hD hS 0 rfl rfl 0 (by decide) (hT _ wf_X5_9) (fun _ h9 => h9) rfl hin rfl (tyX5_ok 0 (by decide)) rfl rfl (Nat.le_of_ble_eq_true rfl) dX5_init_9 (fun H locs hP hD hS => ?_)
  have hP : va_P D vwCl ([(h0, .inr (5, [.ref q1, .int 0])), (q1, .inl (cyI, 60, .inl (fun _ => 0)))]) H := hP
  have hD : va_D A ([(h0, .inr (5, [.ref q1, .int 0])), (q1, .inl (cyI, 60, .inl (fun _ => 0)))]) := hD
  exact W.vret hx hb hr (fun t ht hW => ⟨⟨(fun k => [h0, q1].getD k 0), rfl, rfl, by show va_P D vwCl _ t.heap; rw [ht]; exact hP, hD⟩, hS.F ht⟩) hS.2.2 dX5_init_12
theorem hdn_X6_init : yX6_init.cls ≠ "java/lang/invoke/MethodHandle" ∧ yX6_init.cls ≠ "java/lang/invoke/VarHandle" ∧ (parseMethodDescriptor yX6_init.desc).map (fun d => d.parameters.length) = some 0 := by decide +kernel
set_option maxHeartbeats 8000000 in
set_option maxRecDepth 100000 in
theorem c_X6_init (l : Launch) (D : va_G) (cyI cyJ cyZ cyO : ClassId) (h0 sz : Nat) : Met l yX6_init (Cond.code yX6_init cX6_init 1 none :: tbG) ({ frames := 1, cells := 2, slots := 50, locals := 40 } : Room) (va_Pc [.ref h0] (pcB D (ty4 cyI cyJ cyZ cyO) sz [(h0, .inr (6, [.null, .null]))])) (qN (S := Nat → Nat) D (fun u => u 0 = h0) (fun u => wX6 cyI cyJ cyZ cyO u (fun _ => 0) (fun _ => 0)) (va_A [(h0, .inr (6, [.null, .null]))] sz)) 2 50 (va_A [(h0, .inr (6, [.null, .null]))] sz) := by
  refine Met.ofW (cc := cX6_init) (maxL := 1) (ret := none) (by decide) rfl ?_
  intro p e s m args below meth c s₁ B hml hv
  obtain ⟨rfl, hsz, hP, hK, hD0, hN⟩ := hv
  have hx := B.exec
  have hb := B.bytes
  have hr := B.returns
  have hT : ∀ w ∈ tbG, w.before ([.ref h0] : List Value).toArray s = true := fun w h => atoms_spec (ws := (Cond.code yX6_init cX6_init 1 none :: tbG)) B.pre w (List.mem_cons_of_mem _ h)
  have hown : s.vm.findClass RX6 = some m.cls := findClass_of_methodNamed B.named
  have hlocks := B.notSynchronized
  have hin : meth.name = "<init>" := (name_of_methodNamed B.named B.method).1
  subst hsz
  have hD := hD0.self (sz := s.heap.size)
  generalize hAe : va_A [(h0, .inr (6, [.null, .null]))] s.heap.size = A at hD ⊢
  have hA : ∀ q : Nat, s.heap.size ≤ q → A q := fun q h => by rw [← hAe]; exact Or.inr h
  have hS : va_S A s.heap s.heap [] := va_S.rf
  show W p l e ({ frames := 1, cells := 2, slots := 50, locals := 40 } : Room) s m ([.ref h0] : List Value).toArray below meth c s.heap [] 0 0 (MQ below (qN (S := Nat → Nat) D (fun u => u 0 = h0) (fun u => wX6 cyI cyJ cyZ cyO u (fun _ => 0) (fun _ => 0)) A) ([.ref h0] : List Value).toArray s 2 50 A) _
  have hl := lv_entry ([.ref h0]) (n := 1) (Nat.le_of_ble_eq_true rfl)
  rw [lg_entry_eq]
  generalize (lg_sl ([.ref h0]) ++ List.replicate (1 - (lg_sl ([.ref h0])).length) Slot.unset).toArray = ls at hl ⊢
  have hl : lv_has ls 1 [(0, .ref h0)] := hl
  refine lv_aload_n hx hb dX6_init_0 rfl (lv_at hl 0 rfl) ?_
  refine W.objInit hx hb hown (hT _ wm_X6_3) (hT _ wi_bjectInit) (hT _ wc_objectInit) rfl (by rw [hml]; exact hl.1) rfl dX6_init_1 (Nat.le_of_ble_eq_true rfl) (Nat.le_of_ble_eq_true rfl) ?_
  refine W.eq (g2 := F0 m 4 ls []) rfl ?_
  refine lv_aload_n hx hb dX6_init_4 rfl (lv_at hl 0 rfl) ?_
  refine lv_bipush (v := 25) hx hb dX6_init_5 (by decide) ?_
  refine nw_I hx hb hT hK hP hD hS hA (n := 25) (N' := 25) (by decide) (by decide) (by decide) (Nat.le_of_ble_eq_true rfl) (Nat.le_of_ble_eq_true rfl) dX6_init_7 (fun q1 H hP hD hS => ?_)
  have hP : va_P D vwCl ([(h0, .inr (6, [.null, .null])), (q1, .inl (cyI, 25, .inl (fun _ => 0)))]) H := hP
  have hD : va_D A ([(h0, .inr (6, [.null, .null])), (q1, .inl (cyI, 25, .inl (fun _ => 0)))]) := hD
  refine W.widen (k := 1) (n := 25) (Nat.le_of_ble_eq_true rfl) (Nat.le_of_ble_eq_true rfl) ?_
  refine va_putF (ci := 6) (v := .ref q1) (ty := .array .int) (C := RX6) (T := TX6) (N := 2) hx hb hT hin_X6 tyX6 tyX6_ok nmX6 hown hK hP hD hS 0 rfl rfl 0 (by decide) (hT _ wf_X6_9) (fun _ h9 => h9) rfl hin rfl (tyX6_ok 0 (by decide)) rfl rfl (Nat.le_of_ble_eq_true rfl) dX6_init_9 (fun H locs hP hD hS => ?_)
  have hP : va_P D vwCl ([(h0, .inr (6, [.ref q1, .null])), (q1, .inl (cyI, 25, .inl (fun _ => 0)))]) H := hP
  have hD : va_D A ([(h0, .inr (6, [.ref q1, .null])), (q1, .inl (cyI, 25, .inl (fun _ => 0)))]) := hD
  refine lv_aload_n hx hb dX6_init_12 rfl (lv_at hl 0 rfl) ?_
  refine lv_bipush (v := 25) hx hb dX6_init_13 (by decide) ?_
  refine nw_Z hx hb hT hK hP hD hS hA (n := 25) (N' := 25) (by decide) (by decide) (by decide) (Nat.le_of_ble_eq_true rfl) (Nat.le_of_ble_eq_true rfl) dX6_init_15 (fun q2 H hP hD hS => ?_)
  have hP : va_P D vwCl ([(h0, .inr (6, [.ref q1, .null])), (q1, .inl (cyI, 25, .inl (fun _ => 0))), (q2, .inl (cyZ, 25, .inl (fun _ => 0)))]) H := hP
  have hD : va_D A ([(h0, .inr (6, [.ref q1, .null])), (q1, .inl (cyI, 25, .inl (fun _ => 0))), (q2, .inl (cyZ, 25, .inl (fun _ => 0)))]) := hD
  refine W.widen (k := 2) (n := 50) (Nat.le_of_ble_eq_true rfl) (Nat.le_of_ble_eq_true rfl) ?_
  refine va_putF (ci := 6) (v := .ref q2) (ty := .array .boolean) (C := RX6) (T := TX6) (N := 2) hx hb hT hin_X6 tyX6 tyX6_ok nmX6 hown hK hP hD hS 0 rfl rfl 1 (by decide) (hT _ wf_X6_15) (fun _ h9 => h9) rfl hin rfl (tyX6_ok 1 (by decide)) rfl rfl (Nat.le_of_ble_eq_true rfl) dX6_init_17 (fun H locs hP hD hS => ?_)
  have hP : va_P D vwCl ([(h0, .inr (6, [.ref q1, .ref q2])), (q1, .inl (cyI, 25, .inl (fun _ => 0))), (q2, .inl (cyZ, 25, .inl (fun _ => 0)))]) H := hP
  have hD : va_D A ([(h0, .inr (6, [.ref q1, .ref q2])), (q1, .inl (cyI, 25, .inl (fun _ => 0))), (q2, .inl (cyZ, 25, .inl (fun _ => 0)))]) := hD
  exact W.vret hx hb hr (fun t ht hW => ⟨⟨(fun k => [h0, q1, q2].getD k 0), rfl, rfl, by show va_P D vwCl _ t.heap; rw [ht]; exact hP, hD⟩, hS.F ht⟩) hS.2.2 dX6_init_20
theorem hdn_X3_init : yX3_init.cls ≠ "java/lang/invoke/MethodHandle" ∧ yX3_init.cls ≠ "java/lang/invoke/VarHandle" ∧ (parseMethodDescriptor yX3_init.desc).map (fun d => d.parameters.length) = some 0 := by decide +kernel
set_option maxHeartbeats 8000000 in
set_option maxRecDepth 100000 in
theorem c_X3_init (l : Launch) (D : va_G) (cyI cyJ cyZ cyO : ClassId) (h0 sz : Nat) : Met l yX3_init (Cond.code yX3_init cX3_init 1 none :: tbG) ({ frames := 1, cells := 1, slots := 26, locals := 40 } : Room) (va_Pc [.ref h0] (pcB D (ty4 cyI cyJ cyZ cyO) sz [(h0, .inr (3, [.null, .int 0, .int 0, .int 0]))])) (qN (S := Nat → Nat) D (fun u => u 0 = h0) (fun u => wX3 cyI cyJ cyZ cyO u (fun _ => 0) 0 0 0) (va_A [(h0, .inr (3, [.null, .int 0, .int 0, .int 0]))] sz)) 1 26 (va_A [(h0, .inr (3, [.null, .int 0, .int 0, .int 0]))] sz) := by
  refine Met.ofW (cc := cX3_init) (maxL := 1) (ret := none) (by decide) rfl ?_
  intro p e s m args below meth c s₁ B hml hv
  obtain ⟨rfl, hsz, hP, hK, hD0, hN⟩ := hv
  have hx := B.exec
  have hb := B.bytes
  have hr := B.returns
  have hT : ∀ w ∈ tbG, w.before ([.ref h0] : List Value).toArray s = true := fun w h => atoms_spec (ws := (Cond.code yX3_init cX3_init 1 none :: tbG)) B.pre w (List.mem_cons_of_mem _ h)
  have hown : s.vm.findClass RX3 = some m.cls := findClass_of_methodNamed B.named
  have hlocks := B.notSynchronized
  have hin : meth.name = "<init>" := (name_of_methodNamed B.named B.method).1
  subst hsz
  have hD := hD0.self (sz := s.heap.size)
  generalize hAe : va_A [(h0, .inr (3, [.null, .int 0, .int 0, .int 0]))] s.heap.size = A at hD ⊢
  have hA : ∀ q : Nat, s.heap.size ≤ q → A q := fun q h => by rw [← hAe]; exact Or.inr h
  have hS : va_S A s.heap s.heap [] := va_S.rf
  show W p l e ({ frames := 1, cells := 1, slots := 26, locals := 40 } : Room) s m ([.ref h0] : List Value).toArray below meth c s.heap [] 0 0 (MQ below (qN (S := Nat → Nat) D (fun u => u 0 = h0) (fun u => wX3 cyI cyJ cyZ cyO u (fun _ => 0) 0 0 0) A) ([.ref h0] : List Value).toArray s 1 26 A) _
  have hl := lv_entry ([.ref h0]) (n := 1) (Nat.le_of_ble_eq_true rfl)
  rw [lg_entry_eq]
  generalize (lg_sl ([.ref h0]) ++ List.replicate (1 - (lg_sl ([.ref h0])).length) Slot.unset).toArray = ls at hl ⊢
  have hl : lv_has ls 1 [(0, .ref h0)] := hl
  refine lv_aload_n hx hb dX3_init_0 rfl (lv_at hl 0 rfl) ?_
  refine W.objInit hx hb hown (hT _ wm_X3_3) (hT _ wi_bjectInit) (hT _ wc_objectInit) rfl (by rw [hml]; exact hl.1) rfl dX3_init_1 (Nat.le_of_ble_eq_true rfl) (Nat.le_of_ble_eq_true rfl) ?_
  refine W.eq (g2 := F0 m 4 ls []) rfl ?_
  refine lv_aload_n hx hb dX3_init_4 rfl (lv_at hl 0 rfl) ?_
  refine lv_bipush (v := 26) hx hb dX3_init_5 (by decide) ?_
  refine nw_I hx hb hT hK hP hD hS hA (n := 26) (N' := 26) (by decide) (by decide) (by decide) (Nat.le_of_ble_eq_true rfl) (Nat.le_of_ble_eq_true rfl) dX3_init_7 (fun q1 H hP hD hS => ?_)
  have hP : va_P D vwCl ([(h0, .inr (3, [.null, .int 0, .int 0, .int 0])), (q1, .inl (cyI, 26, .inl (fun _ => 0)))]) H := hP
  have hD : va_D A ([(h0, .inr (3, [.null, .int 0, .int 0, .int 0])), (q1, .inl (cyI, 26, .inl (fun _ => 0)))]) := hD
  refine W.widen (k := 1) (n := 26) (Nat.le_of_ble_eq_true rfl) (Nat.le_of_ble_eq_true rfl) ?_
  refine va_putF (ci := 3) (v := .ref q1) (ty := .array .int) (C := RX3) (T := TX3) (N := 4) hx hb hT hin_X3 tyX3 tyX3_ok nmX3 hown hK hP hD hS 0 rfl rfl 0 (by decide) (hT _ wf_X3_9) (fun _ h9 => h9) rfl hin rfl (tyX3_ok 0 (by decide)) rfl rfl (Nat.le_of_ble_eq_true rfl) dX3_init_9 (fun H locs hP hD hS => ?_)
  have hP : va_P D vwCl ([(h0, .inr (3, [.ref q1, .int 0, .int 0, .int 0])), (q1, .inl (cyI, 26, .inl (fun _ => 0)))]) H := hP
  have hD : va_D A ([(h0, .inr (3, [.ref q1, .int 0, .int 0, .int 0])), (q1, .inl (cyI, 26, .inl (fun _ => 0)))]) := hD
  exact W.vret hx hb hr (fun t ht hW => ⟨⟨(fun k => [h0, q1].getD k 0), rfl, rfl, by show va_P D vwCl _ t.heap; rw [ht]; exact hP, hD⟩, hS.F ht⟩) hS.2.2 dX3_init_12
theorem hdn_X0_init : yX0_init.cls ≠ "java/lang/invoke/MethodHandle" ∧ yX0_init.cls ≠ "java/lang/invoke/VarHandle" ∧ (parseMethodDescriptor yX0_init.desc).map (fun d => d.parameters.length) = some 0 := by decide +kernel
set_option maxHeartbeats 8000000 in
set_option maxRecDepth 100000 in
theorem c_X0_init (l : Launch) (D : va_G) (cyI cyJ cyZ cyO : ClassId) (h0 sz : Nat) : Met l yX0_init (Cond.code yX0_init cX0_init 1 none :: tbG) ({ frames := 1, cells := 2, slots := 13, locals := 40 } : Room) (va_Pc [.ref h0] (pcB D (ty4 cyI cyJ cyZ cyO) sz [(h0, .inr (0, [.null, .null, .int 0, .int 0, .int 0, .int 0, .int 0]))])) (qN (S := Nat → Nat) D (fun u => u 0 = h0) (fun u => wX0 cyI cyJ cyZ cyO u (fun _ => 0) (fun _ => 0) 0 0 0 0 0) (va_A [(h0, .inr (0, [.null, .null, .int 0, .int 0, .int 0, .int 0, .int 0]))] sz)) 2 13 (va_A [(h0, .inr (0, [.null, .null, .int 0, .int 0, .int 0, .int 0, .int 0]))] sz) := by
  refine Met.ofW (cc := cX0_init) (maxL := 1) (ret := none) (by decide) rfl ?_
  intro p e s m args below meth c s₁ B hml hv
  obtain ⟨rfl, hsz, hP, hK, hD0, hN⟩ := hv
  have hx := B.exec
  have hb := B.bytes
  have hr := B.returns
  have hT : ∀ w ∈ tbG, w.before ([.ref h0] : List Value).toArray s = true := fun w h => atoms_spec (ws := (Cond.code yX0_init cX0_init 1 none :: tbG)) B.pre w (List.mem_cons_of_mem _ h)
  have hown : s.vm.findClass RX0 = some m.cls := findClass_of_methodNamed B.named
  have hlocks := B.notSynchronized
  have hin : meth.name = "<init>" := (name_of_methodNamed B.named B.method).1
  subst hsz
  have hD := hD0.self (sz := s.heap.size)
  generalize hAe : va_A [(h0, .inr (0, [.null, .null, .int 0, .int 0, .int 0, .int 0, .int 0]))] s.heap.size = A at hD ⊢
  have hA : ∀ q : Nat, s.heap.size ≤ q → A q := fun q h => by rw [← hAe]; exact Or.inr h
  have hS : va_S A s.heap s.heap [] := va_S.rf
  show W p l e ({ frames := 1, cells := 2, slots := 13, locals := 40 } : Room) s m ([.ref h0] : List Value).toArray below meth c s.heap [] 0 0 (MQ below (qN (S := Nat → Nat) D (fun u => u 0 = h0) (fun u => wX0 cyI cyJ cyZ cyO u (fun _ => 0) (fun _ => 0) 0 0 0 0 0) A) ([.ref h0] : List Value).toArray s 2 13 A) _
  have hl := lv_entry ([.ref h0]) (n := 1) (Nat.le_of_ble_eq_true rfl)
  rw [lg_entry_eq]
  generalize (lg_sl ([.ref h0]) ++ List.replicate (1 - (lg_sl ([.ref h0])).length) Slot.unset).toArray = ls at hl ⊢
  have hl : lv_has ls 1 [(0, .ref h0)] := hl
  refine lv_aload_n hx hb dX0_init_0 rfl (lv_at hl 0 rfl) ?_
  refine W.objInit hx hb hown (hT _ wm_X0_3) (hT _ wi_bjectInit) (hT _ wc_objectInit) rfl (by rw [hml]; exact hl.1) rfl dX0_init_1 (Nat.le_of_ble_eq_true rfl) (Nat.le_of_ble_eq_true rfl) ?_
  refine W.eq (g2 := F0 m 4 ls []) rfl ?_
  refine lv_aload_n hx hb dX0_init_4 rfl (lv_at hl 0 rfl) ?_
  refine lv_iconst (v := 4) hx hb dX0_init_5 (by decide) ?_
  refine nw_I hx hb hT hK hP hD hS hA (n := 4) (N' := 4) (by decide) (by decide) (by decide) (Nat.le_of_ble_eq_true rfl) (Nat.le_of_ble_eq_true rfl) dX0_init_6 (fun q1 H hP hD hS => ?_)
  have hP : va_P D vwCl ([(h0, .inr (0, [.null, .null, .int 0, .int 0, .int 0, .int 0, .int 0])), (q1, .inl (cyI, 4, .inl (fun _ => 0)))]) H := hP
  have hD : va_D A ([(h0, .inr (0, [.null, .null, .int 0, .int 0, .int 0, .int 0, .int 0])), (q1, .inl (cyI, 4, .inl (fun _ => 0)))]) := hD
  refine W.widen (k := 1) (n := 4) (Nat.le_of_ble_eq_true rfl) (Nat.le_of_ble_eq_true rfl) ?_
  refine va_putF (ci := 0) (v := .ref q1) (ty := .array .int) (C := RX0) (T := TX0) (N := 7) hx hb hT hin_X0 tyX0 tyX0_ok nmX0 hown hK hP hD hS 0 rfl rfl 0 (by decide) (hT _ wf_X0_9) (fun _ h9 => h9) rfl hin rfl (tyX0_ok 0 (by decide)) rfl rfl (Nat.le_of_ble_eq_true rfl) dX0_init_8 (fun H locs hP hD hS => ?_)
  have hP : va_P D vwCl ([(h0, .inr (0, [.ref q1, .null, .int 0, .int 0, .int 0, .int 0, .int 0])), (q1, .inl (cyI, 4, .inl (fun _ => 0)))]) H := hP
  have hD : va_D A ([(h0, .inr (0, [.ref q1, .null, .int 0, .int 0, .int 0, .int 0, .int 0])), (q1, .inl (cyI, 4, .inl (fun _ => 0)))]) := hD
  refine lv_aload_n hx hb dX0_init_11 rfl (lv_at hl 0 rfl) ?_
  refine lv_bipush (v := 9) hx hb dX0_init_12 (by decide) ?_
  refine nw_I hx hb hT hK hP hD hS hA (n := 9) (N' := 9) (by decide) (by decide) (by decide) (Nat.le_of_ble_eq_true rfl) (Nat.le_of_ble_eq_true rfl) dX0_init_14 (fun q2 H hP hD hS => ?_)
  have hP : va_P D vwCl ([(h0, .inr (0, [.ref q1, .null, .int 0, .int 0, .int 0, .int 0, .int 0])), (q1, .inl (cyI, 4, .inl (fun _ => 0))), (q2, .inl (cyI, 9, .inl (fun _ => 0)))]) H := hP
  have hD : va_D A ([(h0, .inr (0, [.ref q1, .null, .int 0, .int 0, .int 0, .int 0, .int 0])), (q1, .inl (cyI, 4, .inl (fun _ => 0))), (q2, .inl (cyI, 9, .inl (fun _ => 0)))]) := hD
  refine W.widen (k := 2) (n := 13) (Nat.le_of_ble_eq_true rfl) (Nat.le_of_ble_eq_true rfl) ?_
  refine va_putF (ci := 0) (v := .ref q2) (ty := .array .int) (C := RX0) (T := TX0) (N := 7) hx hb hT hin_X0 tyX0 tyX0_ok nmX0 hown hK hP hD hS 0 rfl rfl 1 (by decide) (hT _ wf_X0_15) (fun _ h9 => h9) rfl hin rfl (tyX0_ok 1 (by decide)) rfl rfl (Nat.le_of_ble_eq_true rfl) dX0_init_16 (fun H locs hP hD hS => ?_)
  have hP : va_P D vwCl ([(h0, .inr (0, [.ref q1, .ref q2, .int 0, .int 0, .int 0, .int 0, .int 0])), (q1, .inl (cyI, 4, .inl (fun _ => 0))), (q2, .inl (cyI, 9, .inl (fun _ => 0)))]) H := hP
  have hD : va_D A ([(h0, .inr (0, [.ref q1, .ref q2, .int 0, .int 0, .int 0, .int 0, .int 0])), (q1, .inl (cyI, 4, .inl (fun _ => 0))), (q2, .inl (cyI, 9, .inl (fun _ => 0)))]) := hD
  exact W.vret hx hb hr (fun t ht hW => ⟨⟨(fun k => [h0, q1, q2].getD k 0), rfl, rfl, by show va_P D vwCl _ t.heap; rw [ht]; exact hP, hD⟩, hS.F ht⟩) hS.2.2 dX0_init_19
theorem hdn_X2_init : yX2_init.cls ≠ "java/lang/invoke/MethodHandle" ∧ yX2_init.cls ≠ "java/lang/invoke/VarHandle" ∧ (parseMethodDescriptor yX2_init.desc).map (fun d => d.parameters.length) = some 0 := by decide +kernel
set_option maxHeartbeats 8000000 in
set_option maxRecDepth 100000 in
theorem c_X2_init (l : Launch) (D : va_G) (cyI cyJ cyZ cyO : ClassId) (h0 sz : Nat) : Met l yX2_init (Cond.code yX2_init cX2_init 1 none :: tbG) ({ frames := 1, cells := 2, slots := 20, locals := 40 } : Room) (va_Pc [.ref h0] (pcB D (ty4 cyI cyJ cyZ cyO) sz [(h0, .inr (2, [.null, .null, .long 0]))])) (qN (S := Nat → Nat) D (fun u => u 0 = h0) (fun u => wX2 cyI cyJ cyZ cyO u (fun _ => 0) (fun _ => 0) 0) (va_A [(h0, .inr (2, [.null, .null, .long 0]))] sz)) 2 20 (va_A [(h0, .inr (2, [.null, .null, .long 0]))] sz) := by
  refine Met.ofW (cc := cX2_init) (maxL := 1) (ret := none) (by decide) rfl ?_
  intro p e s m args below meth c s₁ B hml hv
  obtain ⟨rfl, hsz, hP, hK, hD0, hN⟩ := hv
  have hx := B.exec
  have hb := B.bytes
  have hr := B.returns
  have hT : ∀ w ∈ tbG, w.before ([.ref h0] : List Value).toArray s = true := fun w h => atoms_spec (ws := (Cond.code yX2_init cX2_init 1 none :: tbG)) B.pre w (List.mem_cons_of_mem _ h)
  have hown : s.vm.findClass RX2 = some m.cls := findClass_of_methodNamed B.named
  have hlocks := B.notSynchronized
  have hin : meth.name = "<init>" := (name_of_methodNamed B.named B.method).1
  subst hsz
  have hD := hD0.self (sz := s.heap.size)
  generalize hAe : va_A [(h0, .inr (2, [.null, .null, .long 0]))] s.heap.size = A at hD ⊢
  have hA : ∀ q : Nat, s.heap.size ≤ q → A q := fun q h => by rw [← hAe]; exact Or.inr h
  have hS : va_S A s.heap s.heap [] := va_S.rf
  show W p l e ({ frames := 1, cells := 2, slots := 20, locals := 40 } : Room) s m ([.ref h0] : List Value).toArray below meth c s.heap [] 0 0 (MQ below (qN (S := Nat → Nat) D (fun u => u 0 = h0) (fun u => wX2 cyI cyJ cyZ cyO u (fun _ => 0) (fun _ => 0) 0) A) ([.ref h0] : List Value).toArray s 2 20 A) _
  have hl := lv_entry ([.ref h0]) (n := 1) (Nat.le_of_ble_eq_true rfl)
  rw [lg_entry_eq]
  generalize (lg_sl ([.ref h0]) ++ List.replicate (1 - (lg_sl ([.ref h0])).length) Slot.unset).toArray = ls at hl ⊢
  have hl : lv_has ls 1 [(0, .ref h0)] := hl
  refine lv_aload_n hx hb dX2_init_0 rfl (lv_at hl 0 rfl) ?_
  refine W.objInit hx hb hown (hT _ wm_X2_3) (hT _ wi_bjectInit) (hT _ wc_objectInit) rfl (by rw [hml]; exact hl.1) rfl dX2_init_1 (Nat.le_of_ble_eq_true rfl) (Nat.le_of_ble_eq_true rfl) ?_
  refine W.eq (g2 := F0 m 4 ls []) rfl ?_
  refine lv_aload_n hx hb dX2_init_4 rfl (lv_at hl 0 rfl) ?_
  refine lv_bipush (v := 10) hx hb dX2_init_5 (by decide) ?_
  refine nw_J hx hb hT hK hP hD hS hA (n := 10) (N' := 10) (by decide) (by decide) (by decide) (Nat.le_of_ble_eq_true rfl) (Nat.le_of_ble_eq_true rfl) dX2_init_7 (fun q1 H hP hD hS => ?_)
  have hP : va_P D vwCl ([(h0, .inr (2, [.null, .null, .long 0])), (q1, .inl (cyJ, 10, .inr (.inl (fun _ => 0))))]) H := hP
  have hD : va_D A ([(h0, .inr (2, [.null, .null, .long 0])), (q1, .inl (cyJ, 10, .inr (.inl (fun _ => 0))))]) := hD
  refine W.widen (k := 1) (n := 10) (Nat.le_of_ble_eq_true rfl) (Nat.le_of_ble_eq_true rfl) ?_
  refine va_putF (ci := 2) (v := .ref q1) (ty := .array .long) (C := RX2) (T := TX2) (N := 3) hx hb hT hin_X2 tyX2 tyX2_ok nmX2 hown hK hP hD hS 0 rfl rfl 0 (by decide) (hT _ wf_X2_9) (fun _ h9 => h9) rfl hin rfl (tyX2_ok 0 (by decide)) rfl rfl (Nat.le_of_ble_eq_true rfl) dX2_init_9 (fun H locs hP hD hS => ?_)
  have hP : va_P D vwCl ([(h0, .inr (2, [.ref q1, .null, .long 0])), (q1, .inl (cyJ, 10, .inr (.inl (fun _ => 0))))]) H := hP
  have hD : va_D A ([(h0, .inr (2, [.ref q1, .null, .long 0])), (q1, .inl (cyJ, 10, .inr (.inl (fun _ => 0))))]) := hD
  refine lv_aload_n hx hb dX2_init_12 rfl (lv_at hl 0 rfl) ?_
  refine lv_bipush (v := 10) hx hb dX2_init_13 (by decide) ?_
  refine nw_J hx hb hT hK hP hD hS hA (n := 10) (N' := 10) (by decide) (by decide) (by decide) (Nat.le_of_ble_eq_true rfl) (Nat.le_of_ble_eq_true rfl) dX2_init_15 (fun q2 H hP hD hS => ?_)
  have hP : va_P D vwCl ([(h0, .inr (2, [.ref q1, .null, .long 0])), (q1, .inl (cyJ, 10, .inr (.inl (fun _ => 0)))), (q2, .inl (cyJ, 10, .inr (.inl (fun _ => 0))))]) H := hP
  have hD : va_D A ([(h0, .inr (2, [.ref q1, .null, .long 0])), (q1, .inl (cyJ, 10, .inr (.inl (fun _ => 0)))), (q2, .inl (cyJ, 10, .inr (.inl (fun _ => 0))))]) := hD
  refine W.widen (k := 2) (n := 20) (Nat.le_of_ble_eq_true rfl) (Nat.le_of_ble_eq_true rfl) ?_
  refine va_putF (ci := 2) (v := .ref q2) (ty := .array .long) (C := RX2) (T := TX2) (N := 3) hx hb hT hin_X2 tyX2 tyX2_ok nmX2 hown hK hP hD hS 0 rfl rfl 1 (by decide) (hT _ wf_X2_15) (fun _ h9 => h9) rfl hin rfl (tyX2_ok 1 (by decide)) rfl rfl (Nat.le_of_ble_eq_true rfl) dX2_init_17 (fun H locs hP hD hS => ?_)
  have hP : va_P D vwCl ([(h0, .inr (2, [.ref q1, .ref q2, .long 0])), (q1, .inl (cyJ, 10, .inr (.inl (fun _ => 0)))), (q2, .inl (cyJ, 10, .inr (.inl (fun _ => 0))))]) H := hP
  have hD : va_D A ([(h0, .inr (2, [.ref q1, .ref q2, .long 0])), (q1, .inl (cyJ, 10, .inr (.inl (fun _ => 0)))), (q2, .inl (cyJ, 10, .inr (.inl (fun _ => 0))))]) := hD
  exact W.vret hx hb hr (fun t ht hW => ⟨⟨(fun k => [h0, q1, q2].getD k 0), rfl, rfl, by show va_P D vwCl _ t.heap; rw [ht]; exact hP, hD⟩, hS.F ht⟩) hS.2.2 dX2_init_20
theorem hdn_X7_init : yX7_init.cls ≠ "java/lang/invoke/MethodHandle" ∧ yX7_init.cls ≠ "java/lang/invoke/VarHandle" ∧ (parseMethodDescriptor yX7_init.desc).map (fun d => d.parameters.length) = some 0 := by decide +kernel
set_option maxHeartbeats 8000000 in
set_option maxRecDepth 100000 in
theorem c_X7_init (l : Launch) (D : va_G) (cyI cyJ cyZ cyO : ClassId) (h0 sz : Nat) (nf : Nat) (q : (Nat → Int32)) (hf : g_X7_init nf (fun _ => 0) = some q) : Met l yX7_init (Cond.code yX7_init cX7_init 2 none :: tbG) ({ frames := 2, cells := 5, slots := 366, locals := 44 } : Room) (va_Pc [.ref h0] (pcB D (ty4 cyI cyJ cyZ cyO) sz [(h0, .inr (7, [.null, .null, .null, .null, .null, .int 0, .int 0, .int 0]))])) (qN (S := Nat → Nat) D (fun u => u 0 = h0) (fun u => wX7 cyI cyJ cyZ cyO u q (fun _ => 0) (fun _ => 0) (fun _ => 0) (fun _ => 0) 0 0 0) (va_A [(h0, .inr (7, [.null, .null, .null, .null, .null, .int 0, .int 0, .int 0]))] sz)) 5 366 (va_A [(h0, .inr (7, [.null, .null, .null, .null, .null, .int 0, .int 0, .int 0]))] sz) := by
  refine Met.ofW (cc := cX7_init) (maxL := 2) (ret := none) (by decide) rfl ?_
  intro p e s m args below meth c s₁ B hml hv
  obtain ⟨rfl, hsz, hP, hK, hD0, hN⟩ := hv
  have hx := B.exec
  have hb := B.bytes
  have hr := B.returns
  have hT : ∀ w ∈ tbG, w.before ([.ref h0] : List Value).toArray s = true := fun w h => atoms_spec (ws := (Cond.code yX7_init cX7_init 2 none :: tbG)) B.pre w (List.mem_cons_of_mem _ h)
  have hown : s.vm.findClass RX7 = some m.cls := findClass_of_methodNamed B.named
  have hlocks := B.notSynchronized
  have hin : meth.name = "<init>" := (name_of_methodNamed B.named B.method).1
  subst hsz
  have hD := hD0.self (sz := s.heap.size)
  generalize hAe : va_A [(h0, .inr (7, [.null, .null, .null, .null, .null, .int 0, .int 0, .int 0]))] s.heap.size = A at hD ⊢
  have hA : ∀ q : Nat, s.heap.size ≤ q → A q := fun q h => by rw [← hAe]; exact Or.inr h
  have hS : va_S A s.heap s.heap [] := va_S.rf
  show W p l e ({ frames := 2, cells := 5, slots := 366, locals := 44 } : Room) s m ([.ref h0] : List Value).toArray below meth c s.heap [] 0 0 (MQ below (qN (S := Nat → Nat) D (fun u => u 0 = h0) (fun u => wX7 cyI cyJ cyZ cyO u q (fun _ => 0) (fun _ => 0) (fun _ => 0) (fun _ => 0) 0 0 0) A) ([.ref h0] : List Value).toArray s 5 366 A) _
  have hl := lv_entry ([.ref h0]) (n := 2) (Nat.le_of_ble_eq_true rfl)
  rw [lg_entry_eq]
  generalize (lg_sl ([.ref h0]) ++ List.replicate (2 - (lg_sl ([.ref h0])).length) Slot.unset).toArray = ls at hl ⊢
  have hl : lv_has ls 2 [(0, .ref h0)] := hl
  refine lv_aload_n hx hb dX7_init_0 rfl (lv_at hl 0 rfl) ?_
  refine W.objInit hx hb hown (hT _ wm_X7_3) (hT _ wi_bjectInit) (hT _ wc_objectInit) rfl (by rw [hml]; exact hl.1) rfl dX7_init_1 (Nat.le_of_ble_eq_true rfl) (Nat.le_of_ble_eq_true rfl) ?_
  refine W.eq (g2 := F0 m 4 ls []) rfl ?_
  refine lv_aload_n hx hb dX7_init_4 rfl (lv_at hl 0 rfl) ?_
  refine lv_bipush (v := 100) hx hb dX7_init_5 (by decide) ?_
  refine nw_I hx hb hT hK hP hD hS hA (n := 100) (N' := 100) (by decide) (by decide) (by decide) (Nat.le_of_ble_eq_true rfl) (Nat.le_of_ble_eq_true rfl) dX7_init_7 (fun q1 H hP hD hS => ?_)
  have hP : va_P D vwCl ([(h0, .inr (7, [.null, .null, .null, .null, .null, .int 0, .int 0, .int 0])), (q1, .inl (cyI, 100, .inl (fun _ => 0)))]) H := hP
  have hD : va_D A ([(h0, .inr (7, [.null, .null, .null, .null, .null, .int 0, .int 0, .int 0])), (q1, .inl (cyI, 100, .inl (fun _ => 0)))]) := hD
  refine W.widen (k := 1) (n := 100) (Nat.le_of_ble_eq_true rfl) (Nat.le_of_ble_eq_true rfl) ?_
  refine va_putF (ci := 7) (v := .ref q1) (ty := .array .int) (C := RX7) (T := TX7) (N := 8) hx hb hT hin_X7 tyX7 tyX7_ok nmX7 hown hK hP hD hS 0 rfl rfl 0 (by decide) (hT _ wf_X7_11) (fun _ h9 => h9) rfl hin rfl (tyX7_ok 0 (by decide)) rfl rfl (Nat.le_of_ble_eq_true rfl) dX7_init_9 (fun H locs hP hD hS => ?_)
  have hP : va_P D vwCl ([(h0, .inr (7, [.ref q1, .null, .null, .null, .null, .int 0, .int 0, .int 0])), (q1, .inl (cyI, 100, .inl (fun _ => 0)))]) H := hP
  have hD : va_D A ([(h0, .inr (7, [.ref q1, .null, .null, .null, .null, .int 0, .int 0, .int 0])), (q1, .inl (cyI, 100, .inl (fun _ => 0)))]) := hD
  refine lv_aload_n hx hb dX7_init_12 rfl (lv_at hl 0 rfl) ?_
  refine lv_bipush (v := 100) hx hb dX7_init_13 (by decide) ?_
  refine nw_I hx hb hT hK hP hD hS hA (n := 100) (N' := 100) (by decide) (by decide) (by decide) (Nat.le_of_ble_eq_true rfl) (Nat.le_of_ble_eq_true rfl) dX7_init_15 (fun q2 H hP hD hS => ?_)
  have hP : va_P D vwCl ([(h0, .inr (7, [.ref q1, .null, .null, .null, .null, .int 0, .int 0, .int 0])), (q1, .inl (cyI, 100, .inl (fun _ => 0))), (q2, .inl (cyI, 100, .inl (fun _ => 0)))]) H := hP
  have hD : va_D A ([(h0, .inr (7, [.ref q1, .null, .null, .null, .null, .int 0, .int 0, .int 0])), (q1, .inl (cyI, 100, .inl (fun _ => 0))), (q2, .inl (cyI, 100, .inl (fun _ => 0)))]) := hD
  refine W.widen (k := 2) (n := 200) (Nat.le_of_ble_eq_true rfl) (Nat.le_of_ble_eq_true rfl) ?_
  refine va_putF (ci := 7) (v := .ref q2) (ty := .array .int) (C := RX7) (T := TX7) (N := 8) hx hb hT hin_X7 tyX7 tyX7_ok nmX7 hown hK hP hD hS 0 rfl rfl 1 (by decide) (hT _ wf_X7_15) (fun _ h9 => h9) rfl hin rfl (tyX7_ok 1 (by decide)) rfl rfl (Nat.le_of_ble_eq_true rfl) dX7_init_17 (fun H locs hP hD hS => ?_)
  have hP : va_P D vwCl ([(h0, .inr (7, [.ref q1, .ref q2, .null, .null, .null, .int 0, .int 0, .int 0])), (q1, .inl (cyI, 100, .inl (fun _ => 0))), (q2, .inl (cyI, 100, .inl (fun _ => 0)))]) H := hP
  have hD : va_D A ([(h0, .inr (7, [.ref q1, .ref q2, .null, .null, .null, .int 0, .int 0, .int 0])), (q1, .inl (cyI, 100, .inl (fun _ => 0))), (q2, .inl (cyI, 100, .inl (fun _ => 0)))]) := hD
  refine lv_aload_n hx hb dX7_init_20 rfl (lv_at hl 0 rfl) ?_
  refine lv_bipush (v := 100) hx hb dX7_init_21 (by decide) ?_
  refine nw_I hx hb hT hK hP hD hS hA (n := 100) (N' := 100) (by decide) (by decide) (by decide) (Nat.le_of_ble_eq_true rfl) (Nat.le_of_ble_eq_true rfl) dX7_init_23 (fun q3 H hP hD hS => ?_)
  have hP : va_P D vwCl ([(h0, .inr (7, [.ref q1, .ref q2, .null, .null, .null, .int 0, .int 0, .int 0])), (q1, .inl (cyI, 100, .inl (fun _ => 0))), (q2, .inl (cyI, 100, .inl (fun _ => 0))), (q3, .inl (cyI, 100, .inl (fun _ => 0)))]) H := hP
  have hD : va_D A ([(h0, .inr (7, [.ref q1, .ref q2, .null, .null, .null, .int 0, .int 0, .int 0])), (q1, .inl (cyI, 100, .inl (fun _ => 0))), (q2, .inl (cyI, 100, .inl (fun _ => 0))), (q3, .inl (cyI, 100, .inl (fun _ => 0)))]) := hD
  refine W.widen (k := 3) (n := 300) (Nat.le_of_ble_eq_true rfl) (Nat.le_of_ble_eq_true rfl) ?_
  refine va_putF (ci := 7) (v := .ref q3) (ty := .array .int) (C := RX7) (T := TX7) (N := 8) hx hb hT hin_X7 tyX7 tyX7_ok nmX7 hown hK hP hD hS 0 rfl rfl 2 (by decide) (hT _ wf_X7_18) (fun _ h9 => h9) rfl hin rfl (tyX7_ok 2 (by decide)) rfl rfl (Nat.le_of_ble_eq_true rfl) dX7_init_25 (fun H locs hP hD hS => ?_)
  have hP : va_P D vwCl ([(h0, .inr (7, [.ref q1, .ref q2, .ref q3, .null, .null, .int 0, .int 0, .int 0])), (q1, .inl (cyI, 100, .inl (fun _ => 0))), (q2, .inl (cyI, 100, .inl (fun _ => 0))), (q3, .inl (cyI, 100, .inl (fun _ => 0)))]) H := hP
  have hD : va_D A ([(h0, .inr (7, [.ref q1, .ref q2, .ref q3, .null, .null, .int 0, .int 0, .int 0])), (q1, .inl (cyI, 100, .inl (fun _ => 0))), (q2, .inl (cyI, 100, .inl (fun _ => 0))), (q3, .inl (cyI, 100, .inl (fun _ => 0)))]) := hD
  refine lv_aload_n hx hb dX7_init_28 rfl (lv_at hl 0 rfl) ?_
  refine lv_bipush (v := 41) hx hb dX7_init_29 (by decide) ?_
  refine nw_I hx hb hT hK hP hD hS hA (n := 41) (N' := 41) (by decide) (by decide) (by decide) (Nat.le_of_ble_eq_true rfl) (Nat.le_of_ble_eq_true rfl) dX7_init_31 (fun q4 H hP hD hS => ?_)
  have hP : va_P D vwCl ([(h0, .inr (7, [.ref q1, .ref q2, .ref q3, .null, .null, .int 0, .int 0, .int 0])), (q1, .inl (cyI, 100, .inl (fun _ => 0))), (q2, .inl (cyI, 100, .inl (fun _ => 0))), (q3, .inl (cyI, 100, .inl (fun _ => 0))), (q4, .inl (cyI, 41, .inl (fun _ => 0)))]) H := hP
  have hD : va_D A ([(h0, .inr (7, [.ref q1, .ref q2, .ref q3, .null, .null, .int 0, .int 0, .int 0])), (q1, .inl (cyI, 100, .inl (fun _ => 0))), (q2, .inl (cyI, 100, .inl (fun _ => 0))), (q3, .inl (cyI, 100, .inl (fun _ => 0))), (q4, .inl (cyI, 41, .inl (fun _ => 0)))]) := hD
  refine W.widen (k := 4) (n := 341) (Nat.le_of_ble_eq_true rfl) (Nat.le_of_ble_eq_true rfl) ?_
  refine va_putF (ci := 7) (v := .ref q4) (ty := .array .int) (C := RX7) (T := TX7) (N := 8) hx hb hT hin_X7 tyX7 tyX7_ok nmX7 hown hK hP hD hS 0 rfl rfl 3 (by decide) (hT _ wf_X7_21) (fun _ h9 => h9) rfl hin rfl (tyX7_ok 3 (by decide)) rfl rfl (Nat.le_of_ble_eq_true rfl) dX7_init_33 (fun H locs hP hD hS => ?_)
  have hP : va_P D vwCl ([(h0, .inr (7, [.ref q1, .ref q2, .ref q3, .ref q4, .null, .int 0, .int 0, .int 0])), (q1, .inl (cyI, 100, .inl (fun _ => 0))), (q2, .inl (cyI, 100, .inl (fun _ => 0))), (q3, .inl (cyI, 100, .inl (fun _ => 0))), (q4, .inl (cyI, 41, .inl (fun _ => 0)))]) H := hP
  have hD : va_D A ([(h0, .inr (7, [.ref q1, .ref q2, .ref q3, .ref q4, .null, .int 0, .int 0, .int 0])), (q1, .inl (cyI, 100, .inl (fun _ => 0))), (q2, .inl (cyI, 100, .inl (fun _ => 0))), (q3, .inl (cyI, 100, .inl (fun _ => 0))), (q4, .inl (cyI, 41, .inl (fun _ => 0)))]) := hD
  refine lv_aload_n hx hb dX7_init_36 rfl (lv_at hl 0 rfl) ?_
  refine lv_bipush (v := 25) hx hb dX7_init_37 (by decide) ?_
  refine nw_I hx hb hT hK hP hD hS hA (n := 25) (N' := 25) (by decide) (by decide) (by decide) (Nat.le_of_ble_eq_true rfl) (Nat.le_of_ble_eq_true rfl) dX7_init_39 (fun q5 H hP hD hS => ?_)
  have hP : va_P D vwCl ([(h0, .inr (7, [.ref q1, .ref q2, .ref q3, .ref q4, .null, .int 0, .int 0, .int 0])), (q1, .inl (cyI, 100, .inl (fun _ => 0))), (q2, .inl (cyI, 100, .inl (fun _ => 0))), (q3, .inl (cyI, 100, .inl (fun _ => 0))), (q4, .inl (cyI, 41, .inl (fun _ => 0))), (q5, .inl (cyI, 25, .inl (fun _ => 0)))]) H := hP
  have hD : va_D A ([(h0, .inr (7, [.ref q1, .ref q2, .ref q3, .ref q4, .null, .int 0, .int 0, .int 0])), (q1, .inl (cyI, 100, .inl (fun _ => 0))), (q2, .inl (cyI, 100, .inl (fun _ => 0))), (q3, .inl (cyI, 100, .inl (fun _ => 0))), (q4, .inl (cyI, 41, .inl (fun _ => 0))), (q5, .inl (cyI, 25, .inl (fun _ => 0)))]) := hD
  refine W.widen (k := 5) (n := 366) (Nat.le_of_ble_eq_true rfl) (Nat.le_of_ble_eq_true rfl) ?_
  refine va_putF (ci := 7) (v := .ref q5) (ty := .array .int) (C := RX7) (T := TX7) (N := 8) hx hb hT hin_X7 tyX7 tyX7_ok nmX7 hown hK hP hD hS 0 rfl rfl 4 (by decide) (hT _ wf_X7_24) (fun _ h9 => h9) rfl hin rfl (tyX7_ok 4 (by decide)) rfl rfl (Nat.le_of_ble_eq_true rfl) dX7_init_41 (fun H locs hP hD hS => ?_)
  have hP : va_P D vwCl ([(h0, .inr (7, [.ref q1, .ref q2, .ref q3, .ref q4, .ref q5, .int 0, .int 0, .int 0])), (q1, .inl (cyI, 100, .inl (fun _ => 0))), (q2, .inl (cyI, 100, .inl (fun _ => 0))), (q3, .inl (cyI, 100, .inl (fun _ => 0))), (q4, .inl (cyI, 41, .inl (fun _ => 0))), (q5, .inl (cyI, 25, .inl (fun _ => 0)))]) H := hP
  have hD : va_D A ([(h0, .inr (7, [.ref q1, .ref q2, .ref q3, .ref q4, .ref q5, .int 0, .int 0, .int 0])), (q1, .inl (cyI, 100, .inl (fun _ => 0))), (q2, .inl (cyI, 100, .inl (fun _ => 0))), (q3, .inl (cyI, 100, .inl (fun _ => 0))), (q4, .inl (cyI, 41, .inl (fun _ => 0))), (q5, .inl (cyI, 25, .inl (fun _ => 0)))]) := hD
  obtain ⟨h, hh⟩ : ∃ h : Nat → Nat, h = fun k => [h0, q1, q2, q3, q4, q5].getD k 0 := ⟨_, rfl⟩
  have hP : va_P D vwCl (wX7 cyI cyJ cyZ cyO h (fun _ => 0) (fun _ => 0) (fun _ => 0) (fun _ => 0) (fun _ => 0) 0 0 0) H := by rw [hh]; exact hP
  have hD : va_D A (wX7 cyI cyJ cyZ cyO h (fun _ => 0) (fun _ => 0) (fun _ => 0) (fun _ => 0) (fun _ => 0) 0 0 0) := by rw [hh]; exact hD
  have hl : lv_has ls 2 [(0, .ref (h 0))] := by rw [hh]; exact hl
  have hh0 : h 0 = h0 := by rw [hh]; rfl
  clear hh
  rw [← hh0] at hT ⊢
  have l46 : ∀ (n46 : Nat) (x1 : Int32) (next_ : Nat → Int32) (H : Heap) (locs : List Loc) (ls : Array Slot), va_P D vwCl (wX7 cyI cyJ cyZ cyO h next_ (fun _ => 0) (fun _ => 0) (fun _ => 0) (fun _ => 0) 0 0 0) H → va_D A (wX7 cyI cyJ cyZ cyO h next_ (fun _ => 0) (fun _ => 0) (fun _ => 0) (fun _ => 0) 0 0 0) → va_S A s.heap H locs → lv_has ls 2 [(0, .ref (h 0)), (1, .int x1)] → g_X7_init_l46 nf n46 x1 next_ = some q → W p l e ({ frames := 2, cells := 5, slots := 366, locals := 44 } : Room) s m ([.ref (h 0)] : List Value).toArray below meth c H locs 5 366 (MQ below (qN (S := Nat → Nat) D (fun u => u 0 = h 0) (fun u => wX7 cyI cyJ cyZ cyO u q (fun _ => 0) (fun _ => 0) (fun _ => 0) (fun _ => 0) 0 0 0) A) ([.ref (h 0)] : List Value).toArray s 5 366 A) (F0 m 46 ls []) := by
    intro n46
    induction n46 with
    | zero =>
      intro x1 next_ H locs ls hP hD hS hl hf
      rw [g_X7_init_l46] at hf
      cases hf
    | succ n46 ih46 =>
      intro x1 next_ H locs ls hP hD hS hl hf
      rw [g_X7_init_l46] at hf
      refine lv_iload_n hx hb dX7_init_46 rfl (lv_at hl 1 rfl) ?_
      refine lv_bipush (v := 100) hx hb dX7_init_47 (by decide) ?_
      refine lv_icmp_ge (tgt := 68) hx hb dX7_init_49 (by decide) (fun cc => ?_) (fun cc => ?_)
      · replace hf := if_t cc hf
        cases Option.some.inj hf
        exact W.vret hx hb hr (fun t ht hW => ⟨⟨h, rfl, rfl, by show va_P D vwCl _ t.heap; rw [ht]; exact hP, hD⟩, hS.F ht⟩) hS.2.2 dX7_init_68
      · replace hf := if_f cc hf
        refine lv_aload_n hx hb dX7_init_52 rfl (lv_at hl 0 rfl) ?_
        refine va_get (ci := 7) (v := .ref (h 1)) (C := RX7) (T := TX7) (N := 8) hx hb hT hin_X7 hown hK hP 0 rfl rfl 0 (by decide) (hT _ wf_X7_11) (fun _ h9 => h9) rfl dX7_init_53 ?_
        refine lv_iload_n hx hb dX7_init_56 rfl (lv_at hl 1 rfl) ?_
        refine lv_iload_n hx hb dX7_init_57 rfl (lv_at hl 1 rfl) ?_
        obtain ⟨q1, hq1, hf⟩ := bd_some hf
        have hC : ([] : List Nat).map (fun i => (wX7 cyI cyJ cyZ cyO h next_ (fun _ => 0) (fun _ => 0) (fun _ => 0) (fun _ => 0) 0 0 0)[i]?) = ([] : va_W).map some := rfl
        refine cl_i (rn_S (As := [.int x1]) (rest := [.int x1, .ref (h 1)]) hx hb hml hown hT hK hN hP hD [] hC rfl (c_X7_standBehind l D cyI cyJ cyZ cyO H.size x1 nf q1 hq1) wm_X7_27 wt_X7_standBehind wz_X7 wc_X7_standBehind hd_X7_standBehind ⟨rfl, rfl⟩ ⟨Nat.le_of_ble_eq_true rfl, Nat.le_of_ble_eq_true rfl⟩ rfl hl.1 rfl (Nat.le_of_ble_eq_true rfl) dX7_init_58 ⟨Nat.le_of_ble_eq_true rfl, Nat.le_of_ble_eq_true rfl⟩) hP hD hS hA [] hC [(false, 0), (false, 1), (false, 2), (false, 3), (false, 4), (false, 5)] (ws' := wX7 cyI cyJ cyZ cyO h next_ (fun _ => 0) (fun _ => 0) (fun _ => 0) (fun _ => 0) 0 0 0) rfl rfl rfl (fun H locs hP hD hS => ?_)
        obtain ⟨hi, hf⟩ := ck_some hf
        refine va_iast hx hb hK hP hD hS 1 0 rfl rfl hi dX7_init_61 (fun H locs hP hD hS => ?_)
        have hP : va_P D vwCl (wX7 cyI cyJ cyZ cyO h (upd next_ x1.toNatClampNeg q1) (fun _ => 0) (fun _ => 0) (fun _ => 0) (fun _ => 0) 0 0 0) H := hP
        have hD : va_D A (wX7 cyI cyJ cyZ cyO h (upd next_ x1.toNatClampNeg q1) (fun _ => 0) (fun _ => 0) (fun _ => 0) (fun _ => 0) 0 0 0) := hD
        refine lv_iinc (v := (x1 + 1)) (lv' := [(1, .int (x1 + 1)), (0, .ref (h 0))]) hx hb dX7_init_62 hl (k := 1) rfl rfl (by decide) rfl (fun ls hl => ?_)
        refine lv_goto (tgt := 46) hx hb dX7_init_65 (by decide) ?_
        exact ih46 (x1 + 1) (upd next_ x1.toNatClampNeg q1) H locs ls hP hD hS (lv_sub hl [1, 0] rfl) hf
  unfold g_X7_init at hf
  refine lv_iconst (v := 0) hx hb dX7_init_44 (by decide) ?_
  refine lv_istore_n (lv' := [(1, .int 0), (0, .ref (h 0))]) hx hb dX7_init_45 rfl hl (by decide) rfl (fun ls hl => ?_)
  exact l46 nf 0 (fun _ => 0) H locs ls hP hD hS (lv_sub hl [1, 0] rfl) hf
theorem hdn_X9_init : yX9_init.cls ≠ "java/lang/invoke/MethodHandle" ∧ yX9_init.cls ≠ "java/lang/invoke/VarHandle" ∧ (parseMethodDescriptor yX9_init.desc).map (fun d => d.parameters.length) = some 0 := by decide +kernel
set_option maxHeartbeats 8000000 in
set_option maxRecDepth 100000 in
theorem c_X9_init (l : Launch) (D : va_G) (cyI cyJ cyZ cyO : ClassId) (h0 sz : Nat) (nf : Nat) (q : (Nat → Int32)) (hf : g_X9_init nf (fun _ => 0) = some q) : Met l yX9_init (Cond.code yX9_init cX9_init 2 none :: tbG) ({ frames := 1, cells := 13, slots := 604, locals := 40 } : Room) (va_Pc [.ref h0] (pcB D (ty4 cyI cyJ cyZ cyO) sz [(h0, .inr (9, [.null, .null, .int 0, .null, .int 0, .null, .int 0, .int 0, .int 0, .int 0, .int 0, .int 0, .null, .null, .null, .null, .null, .null, .null, .null, .null]))])) (qN (S := Nat → Nat) D (fun u => u 0 = h0) (fun u => wX9 cyI cyJ cyZ cyO u q (fun _ => 0) 0 (fun _ => 0) 0 (fun _ => 0) 0 0 0 0 0 0 (fun _ => 0) (fun _ => 0) (fun _ => 0) (fun _ => 0) (fun _ => 0) (fun _ => 0) (fun _ => 0) (fun _ => 0) (fun _ => 0)) (va_A [(h0, .inr (9, [.null, .null, .int 0, .null, .int 0, .null, .int 0, .int 0, .int 0, .int 0, .int 0, .int 0, .null, .null, .null, .null, .null, .null, .null, .null, .null]))] sz)) 13 604 (va_A [(h0, .inr (9, [.null, .null, .int 0, .null, .int 0, .null, .int 0, .int 0, .int 0, .int 0, .int 0, .int 0, .null, .null, .null, .null, .null, .null, .null, .null, .null]))] sz) := by
  refine Met.ofW (cc := cX9_init) (maxL := 2) (ret := none) (by decide) rfl ?_
  intro p e s m args below meth c s₁ B hml hv
  obtain ⟨rfl, hsz, hP, hK, hD0, hN⟩ := hv
  have hx := B.exec
  have hb := B.bytes
  have hr := B.returns
  have hT : ∀ w ∈ tbG, w.before ([.ref h0] : List Value).toArray s = true := fun w h => atoms_spec (ws := (Cond.code yX9_init cX9_init 2 none :: tbG)) B.pre w (List.mem_cons_of_mem _ h)
  have hown : s.vm.findClass RX9 = some m.cls := findClass_of_methodNamed B.named
  have hlocks := B.notSynchronized
  have hin : meth.name = "<init>" := (name_of_methodNamed B.named B.method).1
  subst hsz
  have hD := hD0.self (sz := s.heap.size)
  generalize hAe : va_A [(h0, .inr (9, [.null, .null, .int 0, .null, .int 0, .null, .int 0, .int 0, .int 0, .int 0, .int 0, .int 0, .null, .null, .null, .null, .null, .null, .null, .null, .null]))] s.heap.size = A at hD ⊢
  have hA : ∀ q : Nat, s.heap.size ≤ q → A q := fun q h => by rw [← hAe]; exact Or.inr h
  have hS : va_S A s.heap s.heap [] := va_S.rf
  show W p l e ({ frames := 1, cells := 13, slots := 604, locals := 40 } : Room) s m ([.ref h0] : List Value).toArray below meth c s.heap [] 0 0 (MQ below (qN (S := Nat → Nat) D (fun u => u 0 = h0) (fun u => wX9 cyI cyJ cyZ cyO u q (fun _ => 0) 0 (fun _ => 0) 0 (fun _ => 0) 0 0 0 0 0 0 (fun _ => 0) (fun _ => 0) (fun _ => 0) (fun _ => 0) (fun _ => 0) (fun _ => 0) (fun _ => 0) (fun _ => 0) (fun _ => 0)) A) ([.ref h0] : List Value).toArray s 13 604 A) _
  have hl := lv_entry ([.ref h0]) (n := 2) (Nat.le_of_ble_eq_true rfl)
  rw [lg_entry_eq]
  generalize (lg_sl ([.ref h0]) ++ List.replicate (2 - (lg_sl ([.ref h0])).length) Slot.unset).toArray = ls at hl ⊢
  have hl : lv_has ls 2 [(0, .ref h0)] := hl
  refine lv_aload_n hx hb dX9_init_0 rfl (lv_at hl 0 rfl) ?_
  refine W.objInit hx hb hown (hT _ wm_X9_1) (hT _ wi_bjectInit) (hT _ wc_objectInit) rfl (by rw [hml]; exact hl.1) rfl dX9_init_1 (Nat.le_of_ble_eq_true rfl) (Nat.le_of_ble_eq_true rfl) ?_
  refine W.eq (g2 := F0 m 4 ls []) rfl ?_
  refine lv_aload_n hx hb dX9_init_4 rfl (lv_at hl 0 rfl) ?_
  refine lv_bipush (v := 63) hx hb dX9_init_5 (by decide) ?_
  refine nw_I hx hb hT hK hP hD hS hA (n := 63) (N' := 63) (by decide) (by decide) (by decide) (Nat.le_of_ble_eq_true rfl) (Nat.le_of_ble_eq_true rfl) dX9_init_7 (fun q1 H hP hD hS => ?_)
  have hP : va_P D vwCl ([(h0, .inr (9, [.null, .null, .int 0, .null, .int 0, .null, .int 0, .int 0, .int 0, .int 0, .int 0, .int 0, .null, .null, .null, .null, .null, .null, .null, .null, .null])), (q1, .inl (cyI, 63, .inl (fun _ => 0)))]) H := hP
  have hD : va_D A ([(h0, .inr (9, [.null, .null, .int 0, .null, .int 0, .null, .int 0, .int 0, .int 0, .int 0, .int 0, .int 0, .null, .null, .null, .null, .null, .null, .null, .null, .null])), (q1, .inl (cyI, 63, .inl (fun _ => 0)))]) := hD
  refine W.widen (k := 1) (n := 63) (Nat.le_of_ble_eq_true rfl) (Nat.le_of_ble_eq_true rfl) ?_
  refine va_putF (ci := 9) (v := .ref q1) (ty := .array .int) (C := RX9) (T := TX9) (N := 21) hx hb hT hin_X9 tyX9 tyX9_ok nmX9 hown hK hP hD hS 0 rfl rfl 0 (by decide) (hT _ wf_X9_7) (fun _ h9 => h9) rfl hin rfl (tyX9_ok 0 (by decide)) rfl rfl (Nat.le_of_ble_eq_true rfl) dX9_init_9 (fun H locs hP hD hS => ?_)
  have hP : va_P D vwCl ([(h0, .inr (9, [.ref q1, .null, .int 0, .null, .int 0, .null, .int 0, .int 0, .int 0, .int 0, .int 0, .int 0, .null, .null, .null, .null, .null, .null, .null, .null, .null])), (q1, .inl (cyI, 63, .inl (fun _ => 0)))]) H := hP
  have hD : va_D A ([(h0, .inr (9, [.ref q1, .null, .int 0, .null, .int 0, .null, .int 0, .int 0, .int 0, .int 0, .int 0, .int 0, .null, .null, .null, .null, .null, .null, .null, .null, .null])), (q1, .inl (cyI, 63, .inl (fun _ => 0)))]) := hD
  refine lv_aload_n hx hb dX9_init_12 rfl (lv_at hl 0 rfl) ?_
  refine lv_bipush (v := 63) hx hb dX9_init_13 (by decide) ?_
  refine nw_I hx hb hT hK hP hD hS hA (n := 63) (N' := 63) (by decide) (by decide) (by decide) (Nat.le_of_ble_eq_true rfl) (Nat.le_of_ble_eq_true rfl) dX9_init_15 (fun q2 H hP hD hS => ?_)
  have hP : va_P D vwCl ([(h0, .inr (9, [.ref q1, .null, .int 0, .null, .int 0, .null, .int 0, .int 0, .int 0, .int 0, .int 0, .int 0, .null, .null, .null, .null, .null, .null, .null, .null, .null])), (q1, .inl (cyI, 63, .inl (fun _ => 0))), (q2, .inl (cyI, 63, .inl (fun _ => 0)))]) H := hP
  have hD : va_D A ([(h0, .inr (9, [.ref q1, .null, .int 0, .null, .int 0, .null, .int 0, .int 0, .int 0, .int 0, .int 0, .int 0, .null, .null, .null, .null, .null, .null, .null, .null, .null])), (q1, .inl (cyI, 63, .inl (fun _ => 0))), (q2, .inl (cyI, 63, .inl (fun _ => 0)))]) := hD
  refine W.widen (k := 2) (n := 126) (Nat.le_of_ble_eq_true rfl) (Nat.le_of_ble_eq_true rfl) ?_
  refine va_putF (ci := 9) (v := .ref q2) (ty := .array .int) (C := RX9) (T := TX9) (N := 21) hx hb hT hin_X9 tyX9 tyX9_ok nmX9 hown hK hP hD hS 0 rfl rfl 1 (by decide) (hT _ wf_X9_13) (fun _ h9 => h9) rfl hin rfl (tyX9_ok 1 (by decide)) rfl rfl (Nat.le_of_ble_eq_true rfl) dX9_init_17 (fun H locs hP hD hS => ?_)
  have hP : va_P D vwCl ([(h0, .inr (9, [.ref q1, .ref q2, .int 0, .null, .int 0, .null, .int 0, .int 0, .int 0, .int 0, .int 0, .int 0, .null, .null, .null, .null, .null, .null, .null, .null, .null])), (q1, .inl (cyI, 63, .inl (fun _ => 0))), (q2, .inl (cyI, 63, .inl (fun _ => 0)))]) H := hP
  have hD : va_D A ([(h0, .inr (9, [.ref q1, .ref q2, .int 0, .null, .int 0, .null, .int 0, .int 0, .int 0, .int 0, .int 0, .int 0, .null, .null, .null, .null, .null, .null, .null, .null, .null])), (q1, .inl (cyI, 63, .inl (fun _ => 0))), (q2, .inl (cyI, 63, .inl (fun _ => 0)))]) := hD
  refine lv_aload_n hx hb dX9_init_20 rfl (lv_at hl 0 rfl) ?_
  refine lv_bipush (v := 16) hx hb dX9_init_21 (by decide) ?_
  refine nw_I hx hb hT hK hP hD hS hA (n := 16) (N' := 16) (by decide) (by decide) (by decide) (Nat.le_of_ble_eq_true rfl) (Nat.le_of_ble_eq_true rfl) dX9_init_23 (fun q3 H hP hD hS => ?_)
  have hP : va_P D vwCl ([(h0, .inr (9, [.ref q1, .ref q2, .int 0, .null, .int 0, .null, .int 0, .int 0, .int 0, .int 0, .int 0, .int 0, .null, .null, .null, .null, .null, .null, .null, .null, .null])), (q1, .inl (cyI, 63, .inl (fun _ => 0))), (q2, .inl (cyI, 63, .inl (fun _ => 0))), (q3, .inl (cyI, 16, .inl (fun _ => 0)))]) H := hP
  have hD : va_D A ([(h0, .inr (9, [.ref q1, .ref q2, .int 0, .null, .int 0, .null, .int 0, .int 0, .int 0, .int 0, .int 0, .int 0, .null, .null, .null, .null, .null, .null, .null, .null, .null])), (q1, .inl (cyI, 63, .inl (fun _ => 0))), (q2, .inl (cyI, 63, .inl (fun _ => 0))), (q3, .inl (cyI, 16, .inl (fun _ => 0)))]) := hD
  refine W.widen (k := 3) (n := 142) (Nat.le_of_ble_eq_true rfl) (Nat.le_of_ble_eq_true rfl) ?_
  refine va_putF (ci := 9) (v := .ref q3) (ty := .array .int) (C := RX9) (T := TX9) (N := 21) hx hb hT hin_X9 tyX9 tyX9_ok nmX9 hown hK hP hD hS 0 rfl rfl 3 (by decide) (hT _ wf_X9_16) (fun _ h9 => h9) rfl hin rfl (tyX9_ok 3 (by decide)) rfl rfl (Nat.le_of_ble_eq_true rfl) dX9_init_25 (fun H locs hP hD hS => ?_)
  have hP : va_P D vwCl ([(h0, .inr (9, [.ref q1, .ref q2, .int 0, .ref q3, .int 0, .null, .int 0, .int 0, .int 0, .int 0, .int 0, .int 0, .null, .null, .null, .null, .null, .null, .null, .null, .null])), (q1, .inl (cyI, 63, .inl (fun _ => 0))), (q2, .inl (cyI, 63, .inl (fun _ => 0))), (q3, .inl (cyI, 16, .inl (fun _ => 0)))]) H := hP
  have hD : va_D A ([(h0, .inr (9, [.ref q1, .ref q2, .int 0, .ref q3, .int 0, .null, .int 0, .int 0, .int 0, .int 0, .int 0, .int 0, .null, .null, .null, .null, .null, .null, .null, .null, .null])), (q1, .inl (cyI, 63, .inl (fun _ => 0))), (q2, .inl (cyI, 63, .inl (fun _ => 0))), (q3, .inl (cyI, 16, .inl (fun _ => 0)))]) := hD
  refine lv_aload_n hx hb dX9_init_28 rfl (lv_at hl 0 rfl) ?_
  refine lv_bipush (v := 60) hx hb dX9_init_29 (by decide) ?_
  refine nw_I hx hb hT hK hP hD hS hA (n := 60) (N' := 60) (by decide) (by decide) (by decide) (Nat.le_of_ble_eq_true rfl) (Nat.le_of_ble_eq_true rfl) dX9_init_31 (fun q4 H hP hD hS => ?_)
  have hP : va_P D vwCl ([(h0, .inr (9, [.ref q1, .ref q2, .int 0, .ref q3, .int 0, .null, .int 0, .int 0, .int 0, .int 0, .int 0, .int 0, .null, .null, .null, .null, .null, .null, .null, .null, .null])), (q1, .inl (cyI, 63, .inl (fun _ => 0))), (q2, .inl (cyI, 63, .inl (fun _ => 0))), (q3, .inl (cyI, 16, .inl (fun _ => 0))), (q4, .inl (cyI, 60, .inl (fun _ => 0)))]) H := hP
  have hD : va_D A ([(h0, .inr (9, [.ref q1, .ref q2, .int 0, .ref q3, .int 0, .null, .int 0, .int 0, .int 0, .int 0, .int 0, .int 0, .null, .null, .null, .null, .null, .null, .null, .null, .null])), (q1, .inl (cyI, 63, .inl (fun _ => 0))), (q2, .inl (cyI, 63, .inl (fun _ => 0))), (q3, .inl (cyI, 16, .inl (fun _ => 0))), (q4, .inl (cyI, 60, .inl (fun _ => 0)))]) := hD
  refine W.widen (k := 4) (n := 202) (Nat.le_of_ble_eq_true rfl) (Nat.le_of_ble_eq_true rfl) ?_
  refine va_putF (ci := 9) (v := .ref q4) (ty := .array .int) (C := RX9) (T := TX9) (N := 21) hx hb hT hin_X9 tyX9 tyX9_ok nmX9 hown hK hP hD hS 0 rfl rfl 5 (by decide) (hT _ wf_X9_19) (fun _ h9 => h9) rfl hin rfl (tyX9_ok 5 (by decide)) rfl rfl (Nat.le_of_ble_eq_true rfl) dX9_init_33 (fun H locs hP hD hS => ?_)
  have hP : va_P D vwCl ([(h0, .inr (9, [.ref q1, .ref q2, .int 0, .ref q3, .int 0, .ref q4, .int 0, .int 0, .int 0, .int 0, .int 0, .int 0, .null, .null, .null, .null, .null, .null, .null, .null, .null])), (q1, .inl (cyI, 63, .inl (fun _ => 0))), (q2, .inl (cyI, 63, .inl (fun _ => 0))), (q3, .inl (cyI, 16, .inl (fun _ => 0))), (q4, .inl (cyI, 60, .inl (fun _ => 0)))]) H := hP
  have hD : va_D A ([(h0, .inr (9, [.ref q1, .ref q2, .int 0, .ref q3, .int 0, .ref q4, .int 0, .int 0, .int 0, .int 0, .int 0, .int 0, .null, .null, .null, .null, .null, .null, .null, .null, .null])), (q1, .inl (cyI, 63, .inl (fun _ => 0))), (q2, .inl (cyI, 63, .inl (fun _ => 0))), (q3, .inl (cyI, 16, .inl (fun _ => 0))), (q4, .inl (cyI, 60, .inl (fun _ => 0)))]) := hD
  refine lv_aload_n hx hb dX9_init_36 rfl (lv_at hl 0 rfl) ?_
  refine lv_bipush (v := 25) hx hb dX9_init_37 (by decide) ?_
  refine nw_I hx hb hT hK hP hD hS hA (n := 25) (N' := 25) (by decide) (by decide) (by decide) (Nat.le_of_ble_eq_true rfl) (Nat.le_of_ble_eq_true rfl) dX9_init_39 (fun q5 H hP hD hS => ?_)
  have hP : va_P D vwCl ([(h0, .inr (9, [.ref q1, .ref q2, .int 0, .ref q3, .int 0, .ref q4, .int 0, .int 0, .int 0, .int 0, .int 0, .int 0, .null, .null, .null, .null, .null, .null, .null, .null, .null])), (q1, .inl (cyI, 63, .inl (fun _ => 0))), (q2, .inl (cyI, 63, .inl (fun _ => 0))), (q3, .inl (cyI, 16, .inl (fun _ => 0))), (q4, .inl (cyI, 60, .inl (fun _ => 0))), (q5, .inl (cyI, 25, .inl (fun _ => 0)))]) H := hP
  have hD : va_D A ([(h0, .inr (9, [.ref q1, .ref q2, .int 0, .ref q3, .int 0, .ref q4, .int 0, .int 0, .int 0, .int 0, .int 0, .int 0, .null, .null, .null, .null, .null, .null, .null, .null, .null])), (q1, .inl (cyI, 63, .inl (fun _ => 0))), (q2, .inl (cyI, 63, .inl (fun _ => 0))), (q3, .inl (cyI, 16, .inl (fun _ => 0))), (q4, .inl (cyI, 60, .inl (fun _ => 0))), (q5, .inl (cyI, 25, .inl (fun _ => 0)))]) := hD
  refine W.widen (k := 5) (n := 227) (Nat.le_of_ble_eq_true rfl) (Nat.le_of_ble_eq_true rfl) ?_
  refine va_putF (ci := 9) (v := .ref q5) (ty := .array .int) (C := RX9) (T := TX9) (N := 21) hx hb hT hin_X9 tyX9 tyX9_ok nmX9 hown hK hP hD hS 0 rfl rfl 12 (by decide) (hT _ wf_X9_22) (fun _ h9 => h9) rfl hin rfl (tyX9_ok 12 (by decide)) rfl rfl (Nat.le_of_ble_eq_true rfl) dX9_init_41 (fun H locs hP hD hS => ?_)
  have hP : va_P D vwCl ([(h0, .inr (9, [.ref q1, .ref q2, .int 0, .ref q3, .int 0, .ref q4, .int 0, .int 0, .int 0, .int 0, .int 0, .int 0, .ref q5, .null, .null, .null, .null, .null, .null, .null, .null])), (q1, .inl (cyI, 63, .inl (fun _ => 0))), (q2, .inl (cyI, 63, .inl (fun _ => 0))), (q3, .inl (cyI, 16, .inl (fun _ => 0))), (q4, .inl (cyI, 60, .inl (fun _ => 0))), (q5, .inl (cyI, 25, .inl (fun _ => 0)))]) H := hP
  have hD : va_D A ([(h0, .inr (9, [.ref q1, .ref q2, .int 0, .ref q3, .int 0, .ref q4, .int 0, .int 0, .int 0, .int 0, .int 0, .int 0, .ref q5, .null, .null, .null, .null, .null, .null, .null, .null])), (q1, .inl (cyI, 63, .inl (fun _ => 0))), (q2, .inl (cyI, 63, .inl (fun _ => 0))), (q3, .inl (cyI, 16, .inl (fun _ => 0))), (q4, .inl (cyI, 60, .inl (fun _ => 0))), (q5, .inl (cyI, 25, .inl (fun _ => 0)))]) := hD
  refine lv_aload_n hx hb dX9_init_44 rfl (lv_at hl 0 rfl) ?_
  refine lv_bipush (v := 25) hx hb dX9_init_45 (by decide) ?_
  refine nw_I hx hb hT hK hP hD hS hA (n := 25) (N' := 25) (by decide) (by decide) (by decide) (Nat.le_of_ble_eq_true rfl) (Nat.le_of_ble_eq_true rfl) dX9_init_47 (fun q6 H hP hD hS => ?_)
  have hP : va_P D vwCl ([(h0, .inr (9, [.ref q1, .ref q2, .int 0, .ref q3, .int 0, .ref q4, .int 0, .int 0, .int 0, .int 0, .int 0, .int 0, .ref q5, .null, .null, .null, .null, .null, .null, .null, .null])), (q1, .inl (cyI, 63, .inl (fun _ => 0))), (q2, .inl (cyI, 63, .inl (fun _ => 0))), (q3, .inl (cyI, 16, .inl (fun _ => 0))), (q4, .inl (cyI, 60, .inl (fun _ => 0))), (q5, .inl (cyI, 25, .inl (fun _ => 0))), (q6, .inl (cyI, 25, .inl (fun _ => 0)))]) H := hP
  have hD : va_D A ([(h0, .inr (9, [.ref q1, .ref q2, .int 0, .ref q3, .int 0, .ref q4, .int 0, .int 0, .int 0, .int 0, .int 0, .int 0, .ref q5, .null, .null, .null, .null, .null, .null, .null, .null])), (q1, .inl (cyI, 63, .inl (fun _ => 0))), (q2, .inl (cyI, 63, .inl (fun _ => 0))), (q3, .inl (cyI, 16, .inl (fun _ => 0))), (q4, .inl (cyI, 60, .inl (fun _ => 0))), (q5, .inl (cyI, 25, .inl (fun _ => 0))), (q6, .inl (cyI, 25, .inl (fun _ => 0)))]) := hD
  refine W.widen (k := 6) (n := 252) (Nat.le_of_ble_eq_true rfl) (Nat.le_of_ble_eq_true rfl) ?_
  refine va_putF (ci := 9) (v := .ref q6) (ty := .array .int) (C := RX9) (T := TX9) (N := 21) hx hb hT hin_X9 tyX9 tyX9_ok nmX9 hown hK hP hD hS 0 rfl rfl 13 (by decide) (hT _ wf_X9_25) (fun _ h9 => h9) rfl hin rfl (tyX9_ok 13 (by decide)) rfl rfl (Nat.le_of_ble_eq_true rfl) dX9_init_49 (fun H locs hP hD hS => ?_)
  have hP : va_P D vwCl ([(h0, .inr (9, [.ref q1, .ref q2, .int 0, .ref q3, .int 0, .ref q4, .int 0, .int 0, .int 0, .int 0, .int 0, .int 0, .ref q5, .ref q6, .null, .null, .null, .null, .null, .null, .null])), (q1, .inl (cyI, 63, .inl (fun _ => 0))), (q2, .inl (cyI, 63, .inl (fun _ => 0))), (q3, .inl (cyI, 16, .inl (fun _ => 0))), (q4, .inl (cyI, 60, .inl (fun _ => 0))), (q5, .inl (cyI, 25, .inl (fun _ => 0))), (q6, .inl (cyI, 25, .inl (fun _ => 0)))]) H := hP
  have hD : va_D A ([(h0, .inr (9, [.ref q1, .ref q2, .int 0, .ref q3, .int 0, .ref q4, .int 0, .int 0, .int 0, .int 0, .int 0, .int 0, .ref q5, .ref q6, .null, .null, .null, .null, .null, .null, .null])), (q1, .inl (cyI, 63, .inl (fun _ => 0))), (q2, .inl (cyI, 63, .inl (fun _ => 0))), (q3, .inl (cyI, 16, .inl (fun _ => 0))), (q4, .inl (cyI, 60, .inl (fun _ => 0))), (q5, .inl (cyI, 25, .inl (fun _ => 0))), (q6, .inl (cyI, 25, .inl (fun _ => 0)))]) := hD
  refine lv_aload_n hx hb dX9_init_52 rfl (lv_at hl 0 rfl) ?_
  refine lv_bipush (v := 25) hx hb dX9_init_53 (by decide) ?_
  refine nw_I hx hb hT hK hP hD hS hA (n := 25) (N' := 25) (by decide) (by decide) (by decide) (Nat.le_of_ble_eq_true rfl) (Nat.le_of_ble_eq_true rfl) dX9_init_55 (fun q7 H hP hD hS => ?_)
  have hP : va_P D vwCl ([(h0, .inr (9, [.ref q1, .ref q2, .int 0, .ref q3, .int 0, .ref q4, .int 0, .int 0, .int 0, .int 0, .int 0, .int 0, .ref q5, .ref q6, .null, .null, .null, .null, .null, .null, .null])), (q1, .inl (cyI, 63, .inl (fun _ => 0))), (q2, .inl (cyI, 63, .inl (fun _ => 0))), (q3, .inl (cyI, 16, .inl (fun _ => 0))), (q4, .inl (cyI, 60, .inl (fun _ => 0))), (q5, .inl (cyI, 25, .inl (fun _ => 0))), (q6, .inl (cyI, 25, .inl (fun _ => 0))), (q7, .inl (cyI, 25, .inl (fun _ => 0)))]) H := hP
  have hD : va_D A ([(h0, .inr (9, [.ref q1, .ref q2, .int 0, .ref q3, .int 0, .ref q4, .int 0, .int 0, .int 0, .int 0, .int 0, .int 0, .ref q5, .ref q6, .null, .null, .null, .null, .null, .null, .null])), (q1, .inl (cyI, 63, .inl (fun _ => 0))), (q2, .inl (cyI, 63, .inl (fun _ => 0))), (q3, .inl (cyI, 16, .inl (fun _ => 0))), (q4, .inl (cyI, 60, .inl (fun _ => 0))), (q5, .inl (cyI, 25, .inl (fun _ => 0))), (q6, .inl (cyI, 25, .inl (fun _ => 0))), (q7, .inl (cyI, 25, .inl (fun _ => 0)))]) := hD
  refine W.widen (k := 7) (n := 277) (Nat.le_of_ble_eq_true rfl) (Nat.le_of_ble_eq_true rfl) ?_
  refine va_putF (ci := 9) (v := .ref q7) (ty := .array .int) (C := RX9) (T := TX9) (N := 21) hx hb hT hin_X9 tyX9 tyX9_ok nmX9 hown hK hP hD hS 0 rfl rfl 14 (by decide) (hT _ wf_X9_28) (fun _ h9 => h9) rfl hin rfl (tyX9_ok 14 (by decide)) rfl rfl (Nat.le_of_ble_eq_true rfl) dX9_init_57 (fun H locs hP hD hS => ?_)
  have hP : va_P D vwCl ([(h0, .inr (9, [.ref q1, .ref q2, .int 0, .ref q3, .int 0, .ref q4, .int 0, .int 0, .int 0, .int 0, .int 0, .int 0, .ref q5, .ref q6, .ref q7, .null, .null, .null, .null, .null, .null])), (q1, .inl (cyI, 63, .inl (fun _ => 0))), (q2, .inl (cyI, 63, .inl (fun _ => 0))), (q3, .inl (cyI, 16, .inl (fun _ => 0))), (q4, .inl (cyI, 60, .inl (fun _ => 0))), (q5, .inl (cyI, 25, .inl (fun _ => 0))), (q6, .inl (cyI, 25, .inl (fun _ => 0))), (q7, .inl (cyI, 25, .inl (fun _ => 0)))]) H := hP
  have hD : va_D A ([(h0, .inr (9, [.ref q1, .ref q2, .int 0, .ref q3, .int 0, .ref q4, .int 0, .int 0, .int 0, .int 0, .int 0, .int 0, .ref q5, .ref q6, .ref q7, .null, .null, .null, .null, .null, .null])), (q1, .inl (cyI, 63, .inl (fun _ => 0))), (q2, .inl (cyI, 63, .inl (fun _ => 0))), (q3, .inl (cyI, 16, .inl (fun _ => 0))), (q4, .inl (cyI, 60, .inl (fun _ => 0))), (q5, .inl (cyI, 25, .inl (fun _ => 0))), (q6, .inl (cyI, 25, .inl (fun _ => 0))), (q7, .inl (cyI, 25, .inl (fun _ => 0)))]) := hD
  refine lv_aload_n hx hb dX9_init_60 rfl (lv_at hl 0 rfl) ?_
  refine lv_bipush (v := 61) hx hb dX9_init_61 (by decide) ?_
  refine nw_I hx hb hT hK hP hD hS hA (n := 61) (N' := 61) (by decide) (by decide) (by decide) (Nat.le_of_ble_eq_true rfl) (Nat.le_of_ble_eq_true rfl) dX9_init_63 (fun q8 H hP hD hS => ?_)
  have hP : va_P D vwCl ([(h0, .inr (9, [.ref q1, .ref q2, .int 0, .ref q3, .int 0, .ref q4, .int 0, .int 0, .int 0, .int 0, .int 0, .int 0, .ref q5, .ref q6, .ref q7, .null, .null, .null, .null, .null, .null])), (q1, .inl (cyI, 63, .inl (fun _ => 0))), (q2, .inl (cyI, 63, .inl (fun _ => 0))), (q3, .inl (cyI, 16, .inl (fun _ => 0))), (q4, .inl (cyI, 60, .inl (fun _ => 0))), (q5, .inl (cyI, 25, .inl (fun _ => 0))), (q6, .inl (cyI, 25, .inl (fun _ => 0))), (q7, .inl (cyI, 25, .inl (fun _ => 0))), (q8, .inl (cyI, 61, .inl (fun _ => 0)))]) H := hP
  have hD : va_D A ([(h0, .inr (9, [.ref q1, .ref q2, .int 0, .ref q3, .int 0, .ref q4, .int 0, .int 0, .int 0, .int 0, .int 0, .int 0, .ref q5, .ref q6, .ref q7, .null, .null, .null, .null, .null, .null])), (q1, .inl (cyI, 63, .inl (fun _ => 0))), (q2, .inl (cyI, 63, .inl (fun _ => 0))), (q3, .inl (cyI, 16, .inl (fun _ => 0))), (q4, .inl (cyI, 60, .inl (fun _ => 0))), (q5, .inl (cyI, 25, .inl (fun _ => 0))), (q6, .inl (cyI, 25, .inl (fun _ => 0))), (q7, .inl (cyI, 25, .inl (fun _ => 0))), (q8, .inl (cyI, 61, .inl (fun _ => 0)))]) := hD
  refine W.widen (k := 8) (n := 338) (Nat.le_of_ble_eq_true rfl) (Nat.le_of_ble_eq_true rfl) ?_
  refine va_putF (ci := 9) (v := .ref q8) (ty := .array .int) (C := RX9) (T := TX9) (N := 21) hx hb hT hin_X9 tyX9 tyX9_ok nmX9 hown hK hP hD hS 0 rfl rfl 15 (by decide) (hT _ wf_X9_31) (fun _ h9 => h9) rfl hin rfl (tyX9_ok 15 (by decide)) rfl rfl (Nat.le_of_ble_eq_true rfl) dX9_init_65 (fun H locs hP hD hS => ?_)
  have hP : va_P D vwCl ([(h0, .inr (9, [.ref q1, .ref q2, .int 0, .ref q3, .int 0, .ref q4, .int 0, .int 0, .int 0, .int 0, .int 0, .int 0, .ref q5, .ref q6, .ref q7, .ref q8, .null, .null, .null, .null, .null])), (q1, .inl (cyI, 63, .inl (fun _ => 0))), (q2, .inl (cyI, 63, .inl (fun _ => 0))), (q3, .inl (cyI, 16, .inl (fun _ => 0))), (q4, .inl (cyI, 60, .inl (fun _ => 0))), (q5, .inl (cyI, 25, .inl (fun _ => 0))), (q6, .inl (cyI, 25, .inl (fun _ => 0))), (q7, .inl (cyI, 25, .inl (fun _ => 0))), (q8, .inl (cyI, 61, .inl (fun _ => 0)))]) H := hP
  have hD : va_D A ([(h0, .inr (9, [.ref q1, .ref q2, .int 0, .ref q3, .int 0, .ref q4, .int 0, .int 0, .int 0, .int 0, .int 0, .int 0, .ref q5, .ref q6, .ref q7, .ref q8, .null, .null, .null, .null, .null])), (q1, .inl (cyI, 63, .inl (fun _ => 0))), (q2, .inl (cyI, 63, .inl (fun _ => 0))), (q3, .inl (cyI, 16, .inl (fun _ => 0))), (q4, .inl (cyI, 60, .inl (fun _ => 0))), (q5, .inl (cyI, 25, .inl (fun _ => 0))), (q6, .inl (cyI, 25, .inl (fun _ => 0))), (q7, .inl (cyI, 25, .inl (fun _ => 0))), (q8, .inl (cyI, 61, .inl (fun _ => 0)))]) := hD
  refine lv_aload_n hx hb dX9_init_68 rfl (lv_at hl 0 rfl) ?_
  refine lv_bipush (v := 64) hx hb dX9_init_69 (by decide) ?_
  refine nw_I hx hb hT hK hP hD hS hA (n := 64) (N' := 64) (by decide) (by decide) (by decide) (Nat.le_of_ble_eq_true rfl) (Nat.le_of_ble_eq_true rfl) dX9_init_71 (fun q9 H hP hD hS => ?_)
  have hP : va_P D vwCl ([(h0, .inr (9, [.ref q1, .ref q2, .int 0, .ref q3, .int 0, .ref q4, .int 0, .int 0, .int 0, .int 0, .int 0, .int 0, .ref q5, .ref q6, .ref q7, .ref q8, .null, .null, .null, .null, .null])), (q1, .inl (cyI, 63, .inl (fun _ => 0))), (q2, .inl (cyI, 63, .inl (fun _ => 0))), (q3, .inl (cyI, 16, .inl (fun _ => 0))), (q4, .inl (cyI, 60, .inl (fun _ => 0))), (q5, .inl (cyI, 25, .inl (fun _ => 0))), (q6, .inl (cyI, 25, .inl (fun _ => 0))), (q7, .inl (cyI, 25, .inl (fun _ => 0))), (q8, .inl (cyI, 61, .inl (fun _ => 0))), (q9, .inl (cyI, 64, .inl (fun _ => 0)))]) H := hP
  have hD : va_D A ([(h0, .inr (9, [.ref q1, .ref q2, .int 0, .ref q3, .int 0, .ref q4, .int 0, .int 0, .int 0, .int 0, .int 0, .int 0, .ref q5, .ref q6, .ref q7, .ref q8, .null, .null, .null, .null, .null])), (q1, .inl (cyI, 63, .inl (fun _ => 0))), (q2, .inl (cyI, 63, .inl (fun _ => 0))), (q3, .inl (cyI, 16, .inl (fun _ => 0))), (q4, .inl (cyI, 60, .inl (fun _ => 0))), (q5, .inl (cyI, 25, .inl (fun _ => 0))), (q6, .inl (cyI, 25, .inl (fun _ => 0))), (q7, .inl (cyI, 25, .inl (fun _ => 0))), (q8, .inl (cyI, 61, .inl (fun _ => 0))), (q9, .inl (cyI, 64, .inl (fun _ => 0)))]) := hD
  refine W.widen (k := 9) (n := 402) (Nat.le_of_ble_eq_true rfl) (Nat.le_of_ble_eq_true rfl) ?_
  refine va_putF (ci := 9) (v := .ref q9) (ty := .array .int) (C := RX9) (T := TX9) (N := 21) hx hb hT hin_X9 tyX9 tyX9_ok nmX9 hown hK hP hD hS 0 rfl rfl 16 (by decide) (hT _ wf_X9_34) (fun _ h9 => h9) rfl hin rfl (tyX9_ok 16 (by decide)) rfl rfl (Nat.le_of_ble_eq_true rfl) dX9_init_73 (fun H locs hP hD hS => ?_)
  have hP : va_P D vwCl ([(h0, .inr (9, [.ref q1, .ref q2, .int 0, .ref q3, .int 0, .ref q4, .int 0, .int 0, .int 0, .int 0, .int 0, .int 0, .ref q5, .ref q6, .ref q7, .ref q8, .ref q9, .null, .null, .null, .null])), (q1, .inl (cyI, 63, .inl (fun _ => 0))), (q2, .inl (cyI, 63, .inl (fun _ => 0))), (q3, .inl (cyI, 16, .inl (fun _ => 0))), (q4, .inl (cyI, 60, .inl (fun _ => 0))), (q5, .inl (cyI, 25, .inl (fun _ => 0))), (q6, .inl (cyI, 25, .inl (fun _ => 0))), (q7, .inl (cyI, 25, .inl (fun _ => 0))), (q8, .inl (cyI, 61, .inl (fun _ => 0))), (q9, .inl (cyI, 64, .inl (fun _ => 0)))]) H := hP
  have hD : va_D A ([(h0, .inr (9, [.ref q1, .ref q2, .int 0, .ref q3, .int 0, .ref q4, .int 0, .int 0, .int 0, .int 0, .int 0, .int 0, .ref q5, .ref q6, .ref q7, .ref q8, .ref q9, .null, .null, .null, .null])), (q1, .inl (cyI, 63, .inl (fun _ => 0))), (q2, .inl (cyI, 63, .inl (fun _ => 0))), (q3, .inl (cyI, 16, .inl (fun _ => 0))), (q4, .inl (cyI, 60, .inl (fun _ => 0))), (q5, .inl (cyI, 25, .inl (fun _ => 0))), (q6, .inl (cyI, 25, .inl (fun _ => 0))), (q7, .inl (cyI, 25, .inl (fun _ => 0))), (q8, .inl (cyI, 61, .inl (fun _ => 0))), (q9, .inl (cyI, 64, .inl (fun _ => 0)))]) := hD
  refine lv_aload_n hx hb dX9_init_76 rfl (lv_at hl 0 rfl) ?_
  refine lv_bipush (v := 10) hx hb dX9_init_77 (by decide) ?_
  refine nw_J hx hb hT hK hP hD hS hA (n := 10) (N' := 10) (by decide) (by decide) (by decide) (Nat.le_of_ble_eq_true rfl) (Nat.le_of_ble_eq_true rfl) dX9_init_79 (fun q10 H hP hD hS => ?_)
  have hP : va_P D vwCl ([(h0, .inr (9, [.ref q1, .ref q2, .int 0, .ref q3, .int 0, .ref q4, .int 0, .int 0, .int 0, .int 0, .int 0, .int 0, .ref q5, .ref q6, .ref q7, .ref q8, .ref q9, .null, .null, .null, .null])), (q1, .inl (cyI, 63, .inl (fun _ => 0))), (q2, .inl (cyI, 63, .inl (fun _ => 0))), (q3, .inl (cyI, 16, .inl (fun _ => 0))), (q4, .inl (cyI, 60, .inl (fun _ => 0))), (q5, .inl (cyI, 25, .inl (fun _ => 0))), (q6, .inl (cyI, 25, .inl (fun _ => 0))), (q7, .inl (cyI, 25, .inl (fun _ => 0))), (q8, .inl (cyI, 61, .inl (fun _ => 0))), (q9, .inl (cyI, 64, .inl (fun _ => 0))), (q10, .inl (cyJ, 10, .inr (.inl (fun _ => 0))))]) H := hP
  have hD : va_D A ([(h0, .inr (9, [.ref q1, .ref q2, .int 0, .ref q3, .int 0, .ref q4, .int 0, .int 0, .int 0, .int 0, .int 0, .int 0, .ref q5, .ref q6, .ref q7, .ref q8, .ref q9, .null, .null, .null, .null])), (q1, .inl (cyI, 63, .inl (fun _ => 0))), (q2, .inl (cyI, 63, .inl (fun _ => 0))), (q3, .inl (cyI, 16, .inl (fun _ => 0))), (q4, .inl (cyI, 60, .inl (fun _ => 0))), (q5, .inl (cyI, 25, .inl (fun _ => 0))), (q6, .inl (cyI, 25, .inl (fun _ => 0))), (q7, .inl (cyI, 25, .inl (fun _ => 0))), (q8, .inl (cyI, 61, .inl (fun _ => 0))), (q9, .inl (cyI, 64, .inl (fun _ => 0))), (q10, .inl (cyJ, 10, .inr (.inl (fun _ => 0))))]) := hD
  refine W.widen (k := 10) (n := 412) (Nat.le_of_ble_eq_true rfl) (Nat.le_of_ble_eq_true rfl) ?_
  refine va_putF (ci := 9) (v := .ref q10) (ty := .array .long) (C := RX9) (T := TX9) (N := 21) hx hb hT hin_X9 tyX9 tyX9_ok nmX9 hown hK hP hD hS 0 rfl rfl 17 (by decide) (hT _ wf_X9_37) (fun _ h9 => h9) rfl hin rfl (tyX9_ok 17 (by decide)) rfl rfl (Nat.le_of_ble_eq_true rfl) dX9_init_81 (fun H locs hP hD hS => ?_)
  have hP : va_P D vwCl ([(h0, .inr (9, [.ref q1, .ref q2, .int 0, .ref q3, .int 0, .ref q4, .int 0, .int 0, .int 0, .int 0, .int 0, .int 0, .ref q5, .ref q6, .ref q7, .ref q8, .ref q9, .ref q10, .null, .null, .null])), (q1, .inl (cyI, 63, .inl (fun _ => 0))), (q2, .inl (cyI, 63, .inl (fun _ => 0))), (q3, .inl (cyI, 16, .inl (fun _ => 0))), (q4, .inl (cyI, 60, .inl (fun _ => 0))), (q5, .inl (cyI, 25, .inl (fun _ => 0))), (q6, .inl (cyI, 25, .inl (fun _ => 0))), (q7, .inl (cyI, 25, .inl (fun _ => 0))), (q8, .inl (cyI, 61, .inl (fun _ => 0))), (q9, .inl (cyI, 64, .inl (fun _ => 0))), (q10, .inl (cyJ, 10, .inr (.inl (fun _ => 0))))]) H := hP
  have hD : va_D A ([(h0, .inr (9, [.ref q1, .ref q2, .int 0, .ref q3, .int 0, .ref q4, .int 0, .int 0, .int 0, .int 0, .int 0, .int 0, .ref q5, .ref q6, .ref q7, .ref q8, .ref q9, .ref q10, .null, .null, .null])), (q1, .inl (cyI, 63, .inl (fun _ => 0))), (q2, .inl (cyI, 63, .inl (fun _ => 0))), (q3, .inl (cyI, 16, .inl (fun _ => 0))), (q4, .inl (cyI, 60, .inl (fun _ => 0))), (q5, .inl (cyI, 25, .inl (fun _ => 0))), (q6, .inl (cyI, 25, .inl (fun _ => 0))), (q7, .inl (cyI, 25, .inl (fun _ => 0))), (q8, .inl (cyI, 61, .inl (fun _ => 0))), (q9, .inl (cyI, 64, .inl (fun _ => 0))), (q10, .inl (cyJ, 10, .inr (.inl (fun _ => 0))))]) := hD
  refine lv_aload_n hx hb dX9_init_84 rfl (lv_at hl 0 rfl) ?_
  refine lv_bipush (v := 10) hx hb dX9_init_85 (by decide) ?_
  refine nw_J hx hb hT hK hP hD hS hA (n := 10) (N' := 10) (by decide) (by decide) (by decide) (Nat.le_of_ble_eq_true rfl) (Nat.le_of_ble_eq_true rfl) dX9_init_87 (fun q11 H hP hD hS => ?_)
  have hP : va_P D vwCl ([(h0, .inr (9, [.ref q1, .ref q2, .int 0, .ref q3, .int 0, .ref q4, .int 0, .int 0, .int 0, .int 0, .int 0, .int 0, .ref q5, .ref q6, .ref q7, .ref q8, .ref q9, .ref q10, .null, .null, .null])), (q1, .inl (cyI, 63, .inl (fun _ => 0))), (q2, .inl (cyI, 63, .inl (fun _ => 0))), (q3, .inl (cyI, 16, .inl (fun _ => 0))), (q4, .inl (cyI, 60, .inl (fun _ => 0))), (q5, .inl (cyI, 25, .inl (fun _ => 0))), (q6, .inl (cyI, 25, .inl (fun _ => 0))), (q7, .inl (cyI, 25, .inl (fun _ => 0))), (q8, .inl (cyI, 61, .inl (fun _ => 0))), (q9, .inl (cyI, 64, .inl (fun _ => 0))), (q10, .inl (cyJ, 10, .inr (.inl (fun _ => 0)))), (q11, .inl (cyJ, 10, .inr (.inl (fun _ => 0))))]) H := hP
  have hD : va_D A ([(h0, .inr (9, [.ref q1, .ref q2, .int 0, .ref q3, .int 0, .ref q4, .int 0, .int 0, .int 0, .int 0, .int 0, .int 0, .ref q5, .ref q6, .ref q7, .ref q8, .ref q9, .ref q10, .null, .null, .null])), (q1, .inl (cyI, 63, .inl (fun _ => 0))), (q2, .inl (cyI, 63, .inl (fun _ => 0))), (q3, .inl (cyI, 16, .inl (fun _ => 0))), (q4, .inl (cyI, 60, .inl (fun _ => 0))), (q5, .inl (cyI, 25, .inl (fun _ => 0))), (q6, .inl (cyI, 25, .inl (fun _ => 0))), (q7, .inl (cyI, 25, .inl (fun _ => 0))), (q8, .inl (cyI, 61, .inl (fun _ => 0))), (q9, .inl (cyI, 64, .inl (fun _ => 0))), (q10, .inl (cyJ, 10, .inr (.inl (fun _ => 0)))), (q11, .inl (cyJ, 10, .inr (.inl (fun _ => 0))))]) := hD
  refine W.widen (k := 11) (n := 422) (Nat.le_of_ble_eq_true rfl) (Nat.le_of_ble_eq_true rfl) ?_
  refine va_putF (ci := 9) (v := .ref q11) (ty := .array .long) (C := RX9) (T := TX9) (N := 21) hx hb hT hin_X9 tyX9 tyX9_ok nmX9 hown hK hP hD hS 0 rfl rfl 18 (by decide) (hT _ wf_X9_41) (fun _ h9 => h9) rfl hin rfl (tyX9_ok 18 (by decide)) rfl rfl (Nat.le_of_ble_eq_true rfl) dX9_init_89 (fun H locs hP hD hS => ?_)
  have hP : va_P D vwCl ([(h0, .inr (9, [.ref q1, .ref q2, .int 0, .ref q3, .int 0, .ref q4, .int 0, .int 0, .int 0, .int 0, .int 0, .int 0, .ref q5, .ref q6, .ref q7, .ref q8, .ref q9, .ref q10, .ref q11, .null, .null])), (q1, .inl (cyI, 63, .inl (fun _ => 0))), (q2, .inl (cyI, 63, .inl (fun _ => 0))), (q3, .inl (cyI, 16, .inl (fun _ => 0))), (q4, .inl (cyI, 60, .inl (fun _ => 0))), (q5, .inl (cyI, 25, .inl (fun _ => 0))), (q6, .inl (cyI, 25, .inl (fun _ => 0))), (q7, .inl (cyI, 25, .inl (fun _ => 0))), (q8, .inl (cyI, 61, .inl (fun _ => 0))), (q9, .inl (cyI, 64, .inl (fun _ => 0))), (q10, .inl (cyJ, 10, .inr (.inl (fun _ => 0)))), (q11, .inl (cyJ, 10, .inr (.inl (fun _ => 0))))]) H := hP
  have hD : va_D A ([(h0, .inr (9, [.ref q1, .ref q2, .int 0, .ref q3, .int 0, .ref q4, .int 0, .int 0, .int 0, .int 0, .int 0, .int 0, .ref q5, .ref q6, .ref q7, .ref q8, .ref q9, .ref q10, .ref q11, .null, .null])), (q1, .inl (cyI, 63, .inl (fun _ => 0))), (q2, .inl (cyI, 63, .inl (fun _ => 0))), (q3, .inl (cyI, 16, .inl (fun _ => 0))), (q4, .inl (cyI, 60, .inl (fun _ => 0))), (q5, .inl (cyI, 25, .inl (fun _ => 0))), (q6, .inl (cyI, 25, .inl (fun _ => 0))), (q7, .inl (cyI, 25, .inl (fun _ => 0))), (q8, .inl (cyI, 61, .inl (fun _ => 0))), (q9, .inl (cyI, 64, .inl (fun _ => 0))), (q10, .inl (cyJ, 10, .inr (.inl (fun _ => 0)))), (q11, .inl (cyJ, 10, .inr (.inl (fun _ => 0))))]) := hD
  refine lv_aload_n hx hb dX9_init_92 rfl (lv_at hl 0 rfl) ?_
  refine lv_sipush (v := 180) hx hb dX9_init_93 (by decide) ?_
  refine nw_I hx hb hT hK hP hD hS hA (n := 180) (N' := 180) (by decide) (by decide) (by decide) (Nat.le_of_ble_eq_true rfl) (Nat.le_of_ble_eq_true rfl) dX9_init_96 (fun q12 H hP hD hS => ?_)
  have hP : va_P D vwCl (((h0, .inr (9, [.ref q1, .ref q2, .int 0, .ref q3, .int 0, .ref q4, .int 0, .int 0, .int 0, .int 0, .int 0, .int 0, .ref q5, .ref q6, .ref q7, .ref q8, .ref q9, .ref q10, .ref q11, .null, .null])) :: (q1, .inl (cyI, 63, .inl (fun _ => 0))) :: (q2, .inl (cyI, 63, .inl (fun _ => 0))) :: (q3, .inl (cyI, 16, .inl (fun _ => 0))) :: (q4, .inl (cyI, 60, .inl (fun _ => 0))) :: (q5, .inl (cyI, 25, .inl (fun _ => 0))) :: (q6, .inl (cyI, 25, .inl (fun _ => 0))) :: (q7, .inl (cyI, 25, .inl (fun _ => 0))) :: (q8, .inl (cyI, 61, .inl (fun _ => 0))) :: (q9, .inl (cyI, 64, .inl (fun _ => 0))) :: (q10, .inl (cyJ, 10, .inr (.inl (fun _ => 0)))) :: (q11, .inl (cyJ, 10, .inr (.inl (fun _ => 0)))) :: (q12, .inl (cyI, 180, .inl (fun _ => 0))) :: [])) H := hP
  have hD : va_D A (((h0, .inr (9, [.ref q1, .ref q2, .int 0, .ref q3, .int 0, .ref q4, .int 0, .int 0, .int 0, .int 0, .int 0, .int 0, .ref q5, .ref q6, .ref q7, .ref q8, .ref q9, .ref q10, .ref q11, .null, .null])) :: (q1, .inl (cyI, 63, .inl (fun _ => 0))) :: (q2, .inl (cyI, 63, .inl (fun _ => 0))) :: (q3, .inl (cyI, 16, .inl (fun _ => 0))) :: (q4, .inl (cyI, 60, .inl (fun _ => 0))) :: (q5, .inl (cyI, 25, .inl (fun _ => 0))) :: (q6, .inl (cyI, 25, .inl (fun _ => 0))) :: (q7, .inl (cyI, 25, .inl (fun _ => 0))) :: (q8, .inl (cyI, 61, .inl (fun _ => 0))) :: (q9, .inl (cyI, 64, .inl (fun _ => 0))) :: (q10, .inl (cyJ, 10, .inr (.inl (fun _ => 0)))) :: (q11, .inl (cyJ, 10, .inr (.inl (fun _ => 0)))) :: (q12, .inl (cyI, 180, .inl (fun _ => 0))) :: [])) := hD
  refine W.widen (k := 12) (n := 602) (Nat.le_of_ble_eq_true rfl) (Nat.le_of_ble_eq_true rfl) ?_
  refine va_putF (ci := 9) (v := .ref q12) (ty := .array .int) (C := RX9) (T := TX9) (N := 21) hx hb hT hin_X9 tyX9 tyX9_ok nmX9 hown hK hP hD hS 0 rfl rfl 19 (by decide) (hT _ wf_X9_44) (fun _ h9 => h9) rfl hin rfl (tyX9_ok 19 (by decide)) rfl rfl (Nat.le_of_ble_eq_true rfl) dX9_init_98 (fun H locs hP hD hS => ?_)
  have hP : va_P D vwCl (((h0, .inr (9, [.ref q1, .ref q2, .int 0, .ref q3, .int 0, .ref q4, .int 0, .int 0, .int 0, .int 0, .int 0, .int 0, .ref q5, .ref q6, .ref q7, .ref q8, .ref q9, .ref q10, .ref q11, .ref q12, .null])) :: (q1, .inl (cyI, 63, .inl (fun _ => 0))) :: (q2, .inl (cyI, 63, .inl (fun _ => 0))) :: (q3, .inl (cyI, 16, .inl (fun _ => 0))) :: (q4, .inl (cyI, 60, .inl (fun _ => 0))) :: (q5, .inl (cyI, 25, .inl (fun _ => 0))) :: (q6, .inl (cyI, 25, .inl (fun _ => 0))) :: (q7, .inl (cyI, 25, .inl (fun _ => 0))) :: (q8, .inl (cyI, 61, .inl (fun _ => 0))) :: (q9, .inl (cyI, 64, .inl (fun _ => 0))) :: (q10, .inl (cyJ, 10, .inr (.inl (fun _ => 0)))) :: (q11, .inl (cyJ, 10, .inr (.inl (fun _ => 0)))) :: (q12, .inl (cyI, 180, .inl (fun _ => 0))) :: [])) H := hP
  have hD : va_D A (((h0, .inr (9, [.ref q1, .ref q2, .int 0, .ref q3, .int 0, .ref q4, .int 0, .int 0, .int 0, .int 0, .int 0, .int 0, .ref q5, .ref q6, .ref q7, .ref q8, .ref q9, .ref q10, .ref q11, .ref q12, .null])) :: (q1, .inl (cyI, 63, .inl (fun _ => 0))) :: (q2, .inl (cyI, 63, .inl (fun _ => 0))) :: (q3, .inl (cyI, 16, .inl (fun _ => 0))) :: (q4, .inl (cyI, 60, .inl (fun _ => 0))) :: (q5, .inl (cyI, 25, .inl (fun _ => 0))) :: (q6, .inl (cyI, 25, .inl (fun _ => 0))) :: (q7, .inl (cyI, 25, .inl (fun _ => 0))) :: (q8, .inl (cyI, 61, .inl (fun _ => 0))) :: (q9, .inl (cyI, 64, .inl (fun _ => 0))) :: (q10, .inl (cyJ, 10, .inr (.inl (fun _ => 0)))) :: (q11, .inl (cyJ, 10, .inr (.inl (fun _ => 0)))) :: (q12, .inl (cyI, 180, .inl (fun _ => 0))) :: [])) := hD
  refine lv_aload_n hx hb dX9_init_101 rfl (lv_at hl 0 rfl) ?_
  refine lv_iconst (v := 2) hx hb dX9_init_102 (by decide) ?_
  refine nw_Z hx hb hT hK hP hD hS hA (n := 2) (N' := 2) (by decide) (by decide) (by decide) (Nat.le_of_ble_eq_true rfl) (Nat.le_of_ble_eq_true rfl) dX9_init_103 (fun q13 H hP hD hS => ?_)
  have hP : va_P D vwCl (((h0, .inr (9, [.ref q1, .ref q2, .int 0, .ref q3, .int 0, .ref q4, .int 0, .int 0, .int 0, .int 0, .int 0, .int 0, .ref q5, .ref q6, .ref q7, .ref q8, .ref q9, .ref q10, .ref q11, .ref q12, .null])) :: (q1, .inl (cyI, 63, .inl (fun _ => 0))) :: (q2, .inl (cyI, 63, .inl (fun _ => 0))) :: (q3, .inl (cyI, 16, .inl (fun _ => 0))) :: (q4, .inl (cyI, 60, .inl (fun _ => 0))) :: (q5, .inl (cyI, 25, .inl (fun _ => 0))) :: (q6, .inl (cyI, 25, .inl (fun _ => 0))) :: (q7, .inl (cyI, 25, .inl (fun _ => 0))) :: (q8, .inl (cyI, 61, .inl (fun _ => 0))) :: (q9, .inl (cyI, 64, .inl (fun _ => 0))) :: (q10, .inl (cyJ, 10, .inr (.inl (fun _ => 0)))) :: (q11, .inl (cyJ, 10, .inr (.inl (fun _ => 0)))) :: (q12, .inl (cyI, 180, .inl (fun _ => 0))) :: (q13, .inl (cyZ, 2, .inl (fun _ => 0))) :: [])) H := hP
  have hD : va_D A (((h0, .inr (9, [.ref q1, .ref q2, .int 0, .ref q3, .int 0, .ref q4, .int 0, .int 0, .int 0, .int 0, .int 0, .int 0, .ref q5, .ref q6, .ref q7, .ref q8, .ref q9, .ref q10, .ref q11, .ref q12, .null])) :: (q1, .inl (cyI, 63, .inl (fun _ => 0))) :: (q2, .inl (cyI, 63, .inl (fun _ => 0))) :: (q3, .inl (cyI, 16, .inl (fun _ => 0))) :: (q4, .inl (cyI, 60, .inl (fun _ => 0))) :: (q5, .inl (cyI, 25, .inl (fun _ => 0))) :: (q6, .inl (cyI, 25, .inl (fun _ => 0))) :: (q7, .inl (cyI, 25, .inl (fun _ => 0))) :: (q8, .inl (cyI, 61, .inl (fun _ => 0))) :: (q9, .inl (cyI, 64, .inl (fun _ => 0))) :: (q10, .inl (cyJ, 10, .inr (.inl (fun _ => 0)))) :: (q11, .inl (cyJ, 10, .inr (.inl (fun _ => 0)))) :: (q12, .inl (cyI, 180, .inl (fun _ => 0))) :: (q13, .inl (cyZ, 2, .inl (fun _ => 0))) :: [])) := hD
  refine W.widen (k := 13) (n := 604) (Nat.le_of_ble_eq_true rfl) (Nat.le_of_ble_eq_true rfl) ?_
  refine va_putF (ci := 9) (v := .ref q13) (ty := .array .boolean) (C := RX9) (T := TX9) (N := 21) hx hb hT hin_X9 tyX9 tyX9_ok nmX9 hown hK hP hD hS 0 rfl rfl 20 (by decide) (hT _ wf_X9_47) (fun _ h9 => h9) rfl hin rfl (tyX9_ok 20 (by decide)) rfl rfl (Nat.le_of_ble_eq_true rfl) dX9_init_105 (fun H locs hP hD hS => ?_)
  have hP : va_P D vwCl (((h0, .inr (9, [.ref q1, .ref q2, .int 0, .ref q3, .int 0, .ref q4, .int 0, .int 0, .int 0, .int 0, .int 0, .int 0, .ref q5, .ref q6, .ref q7, .ref q8, .ref q9, .ref q10, .ref q11, .ref q12, .ref q13])) :: (q1, .inl (cyI, 63, .inl (fun _ => 0))) :: (q2, .inl (cyI, 63, .inl (fun _ => 0))) :: (q3, .inl (cyI, 16, .inl (fun _ => 0))) :: (q4, .inl (cyI, 60, .inl (fun _ => 0))) :: (q5, .inl (cyI, 25, .inl (fun _ => 0))) :: (q6, .inl (cyI, 25, .inl (fun _ => 0))) :: (q7, .inl (cyI, 25, .inl (fun _ => 0))) :: (q8, .inl (cyI, 61, .inl (fun _ => 0))) :: (q9, .inl (cyI, 64, .inl (fun _ => 0))) :: (q10, .inl (cyJ, 10, .inr (.inl (fun _ => 0)))) :: (q11, .inl (cyJ, 10, .inr (.inl (fun _ => 0)))) :: (q12, .inl (cyI, 180, .inl (fun _ => 0))) :: (q13, .inl (cyZ, 2, .inl (fun _ => 0))) :: [])) H := hP
  have hD : va_D A (((h0, .inr (9, [.ref q1, .ref q2, .int 0, .ref q3, .int 0, .ref q4, .int 0, .int 0, .int 0, .int 0, .int 0, .int 0, .ref q5, .ref q6, .ref q7, .ref q8, .ref q9, .ref q10, .ref q11, .ref q12, .ref q13])) :: (q1, .inl (cyI, 63, .inl (fun _ => 0))) :: (q2, .inl (cyI, 63, .inl (fun _ => 0))) :: (q3, .inl (cyI, 16, .inl (fun _ => 0))) :: (q4, .inl (cyI, 60, .inl (fun _ => 0))) :: (q5, .inl (cyI, 25, .inl (fun _ => 0))) :: (q6, .inl (cyI, 25, .inl (fun _ => 0))) :: (q7, .inl (cyI, 25, .inl (fun _ => 0))) :: (q8, .inl (cyI, 61, .inl (fun _ => 0))) :: (q9, .inl (cyI, 64, .inl (fun _ => 0))) :: (q10, .inl (cyJ, 10, .inr (.inl (fun _ => 0)))) :: (q11, .inl (cyJ, 10, .inr (.inl (fun _ => 0)))) :: (q12, .inl (cyI, 180, .inl (fun _ => 0))) :: (q13, .inl (cyZ, 2, .inl (fun _ => 0))) :: [])) := hD
  obtain ⟨h, hh⟩ : ∃ h : Nat → Nat, h = fun k => [h0, q1, q2, q3, q4, q5, q6, q7, q8, q9, q10, q11, q12, q13].getD k 0 := ⟨_, rfl⟩
  have hP : va_P D vwCl (wX9 cyI cyJ cyZ cyO h (fun _ => 0) (fun _ => 0) 0 (fun _ => 0) 0 (fun _ => 0) 0 0 0 0 0 0 (fun _ => 0) (fun _ => 0) (fun _ => 0) (fun _ => 0) (fun _ => 0) (fun _ => 0) (fun _ => 0) (fun _ => 0) (fun _ => 0)) H := by rw [hh]; exact hP
  have hD : va_D A (wX9 cyI cyJ cyZ cyO h (fun _ => 0) (fun _ => 0) 0 (fun _ => 0) 0 (fun _ => 0) 0 0 0 0 0 0 (fun _ => 0) (fun _ => 0) (fun _ => 0) (fun _ => 0) (fun _ => 0) (fun _ => 0) (fun _ => 0) (fun _ => 0) (fun _ => 0)) := by rw [hh]; exact hD
  have hl : lv_has ls 2 [(0, .ref (h 0))] := by rw [hh]; exact hl
  have hh0 : h 0 = h0 := by rw [hh]; rfl
  clear hh
  rw [← hh0] at hT ⊢
  have l131 : ∀ (n131 : Nat) (x1 : Int32) (book : Nat → Int32) (H : Heap) (locs : List Loc) (ls : Array Slot), va_P D vwCl (wX9 cyI cyJ cyZ cyO h book (fun _ => 0) 0 (fun _ => 0) 0 (fun _ => 0) 0 0 0 0 0 0 (fun _ => 0) (fun _ => 0) (fun _ => 0) (fun _ => 0) (fun _ => 0) (fun _ => 0) (fun _ => 0) (fun _ => 0) (fun _ => 0)) H → va_D A (wX9 cyI cyJ cyZ cyO h book (fun _ => 0) 0 (fun _ => 0) 0 (fun _ => 0) 0 0 0 0 0 0 (fun _ => 0) (fun _ => 0) (fun _ => 0) (fun _ => 0) (fun _ => 0) (fun _ => 0) (fun _ => 0) (fun _ => 0) (fun _ => 0)) → va_S A s.heap H locs → lv_has ls 2 [(0, .ref (h 0)), (1, .int x1)] → g_X9_init_l131 nf n131 x1 book = some q → W p l e ({ frames := 1, cells := 13, slots := 604, locals := 40 } : Room) s m ([.ref (h 0)] : List Value).toArray below meth c H locs 13 604 (MQ below (qN (S := Nat → Nat) D (fun u => u 0 = h 0) (fun u => wX9 cyI cyJ cyZ cyO u q (fun _ => 0) 0 (fun _ => 0) 0 (fun _ => 0) 0 0 0 0 0 0 (fun _ => 0) (fun _ => 0) (fun _ => 0) (fun _ => 0) (fun _ => 0) (fun _ => 0) (fun _ => 0) (fun _ => 0) (fun _ => 0)) A) ([.ref (h 0)] : List Value).toArray s 13 604 A) (F0 m 131 ls []) := by
    intro n131
    induction n131 with
    | zero =>
      intro x1 book H locs ls hP hD hS hl hf
      rw [g_X9_init_l131] at hf
      cases hf
    | succ n131 ih131 =>
      intro x1 book H locs ls hP hD hS hl hf
      rw [g_X9_init_l131] at hf
      refine lv_iload_n hx hb dX9_init_131 rfl (lv_at hl 1 rfl) ?_
      refine lv_iconst (v := 3) hx hb dX9_init_132 (by decide) ?_
      refine lv_icmp_ge (tgt := 153) hx hb dX9_init_133 (by decide) (fun cc => ?_) (fun cc => ?_)
      · replace hf := if_t cc hf
        cases Option.some.inj hf
        exact W.vret hx hb hr (fun t ht hW => ⟨⟨h, rfl, rfl, by show va_P D vwCl _ t.heap; rw [ht]; exact hP, hD⟩, hS.F ht⟩) hS.2.2 dX9_init_153
      · replace hf := if_f cc hf
        refine lv_aload_n hx hb dX9_init_136 rfl (lv_at hl 0 rfl) ?_
        refine va_get (ci := 9) (v := .ref (h 1)) (C := RX9) (T := TX9) (N := 21) hx hb hT hin_X9 hown hK hP 0 rfl rfl 0 (by decide) (hT _ wf_X9_7) (fun _ h9 => h9) rfl dX9_init_137 ?_
        refine lv_bipush (v := 58) hx hb dX9_init_140 (by decide) ?_
        refine lv_iload_n hx hb dX9_init_142 rfl (lv_at hl 1 rfl) ?_
        refine lv_iadd hx hb dX9_init_143 ?_
        refine lv_bipush (v := 9) hx hb dX9_init_144 (by decide) ?_
        obtain ⟨hi, hf⟩ := ck_some hf
        refine va_iast hx hb hK hP hD hS 1 0 rfl rfl hi dX9_init_146 (fun H locs hP hD hS => ?_)
        have hP : va_P D vwCl (wX9 cyI cyJ cyZ cyO h (upd book (58 + x1).toNatClampNeg 9) (fun _ => 0) 0 (fun _ => 0) 0 (fun _ => 0) 0 0 0 0 0 0 (fun _ => 0) (fun _ => 0) (fun _ => 0) (fun _ => 0) (fun _ => 0) (fun _ => 0) (fun _ => 0) (fun _ => 0) (fun _ => 0)) H := hP
        have hD : va_D A (wX9 cyI cyJ cyZ cyO h (upd book (58 + x1).toNatClampNeg 9) (fun _ => 0) 0 (fun _ => 0) 0 (fun _ => 0) 0 0 0 0 0 0 (fun _ => 0) (fun _ => 0) (fun _ => 0) (fun _ => 0) (fun _ => 0) (fun _ => 0) (fun _ => 0) (fun _ => 0) (fun _ => 0)) := hD
        refine lv_iinc (v := (x1 + 1)) (lv' := [(1, .int (x1 + 1)), (0, .ref (h 0))]) hx hb dX9_init_147 hl (k := 1) rfl rfl (by decide) rfl (fun ls hl => ?_)
        refine lv_goto (tgt := 131) hx hb dX9_init_150 (by decide) ?_
        exact ih131 (x1 + 1) (upd book (58 + x1).toNatClampNeg 9) H locs ls hP hD hS (lv_sub hl [1, 0] rfl) hf
  have l110 : ∀ (n110 : Nat) (x1 : Int32) (book : Nat → Int32) (H : Heap) (locs : List Loc) (ls : Array Slot), va_P D vwCl (wX9 cyI cyJ cyZ cyO h book (fun _ => 0) 0 (fun _ => 0) 0 (fun _ => 0) 0 0 0 0 0 0 (fun _ => 0) (fun _ => 0) (fun _ => 0) (fun _ => 0) (fun _ => 0) (fun _ => 0) (fun _ => 0) (fun _ => 0) (fun _ => 0)) H → va_D A (wX9 cyI cyJ cyZ cyO h book (fun _ => 0) 0 (fun _ => 0) 0 (fun _ => 0) 0 0 0 0 0 0 (fun _ => 0) (fun _ => 0) (fun _ => 0) (fun _ => 0) (fun _ => 0) (fun _ => 0) (fun _ => 0) (fun _ => 0) (fun _ => 0)) → va_S A s.heap H locs → lv_has ls 2 [(0, .ref (h 0)), (1, .int x1)] → g_X9_init_l110 nf n110 x1 book = some q → W p l e ({ frames := 1, cells := 13, slots := 604, locals := 40 } : Room) s m ([.ref (h 0)] : List Value).toArray below meth c H locs 13 604 (MQ below (qN (S := Nat → Nat) D (fun u => u 0 = h 0) (fun u => wX9 cyI cyJ cyZ cyO u q (fun _ => 0) 0 (fun _ => 0) 0 (fun _ => 0) 0 0 0 0 0 0 (fun _ => 0) (fun _ => 0) (fun _ => 0) (fun _ => 0) (fun _ => 0) (fun _ => 0) (fun _ => 0) (fun _ => 0) (fun _ => 0)) A) ([.ref (h 0)] : List Value).toArray s 13 604 A) (F0 m 110 ls []) := by
    intro n110
    induction n110 with
    | zero =>
      intro x1 book H locs ls hP hD hS hl hf
      rw [g_X9_init_l110] at hf
      cases hf
    | succ n110 ih110 =>
      intro x1 book H locs ls hP hD hS hl hf
      rw [g_X9_init_l110] at hf
      refine lv_iload_n hx hb dX9_init_110 rfl (lv_at hl 1 rfl) ?_
      refine lv_bipush (v := 25) hx hb dX9_init_111 (by decide) ?_
      refine lv_icmp_ge (tgt := 129) hx hb dX9_init_113 (by decide) (fun cc => ?_) (fun cc => ?_)
      · replace hf := if_t cc hf
        refine lv_iconst (v := 0) hx hb dX9_init_129 (by decide) ?_
        refine lv_istore_n (lv' := [(1, .int 0), (0, .ref (h 0))]) hx hb dX9_init_130 rfl hl (by decide) rfl (fun ls hl => ?_)
        exact l131 nf 0 book H locs ls hP hD hS (lv_sub hl [1, 0] rfl) hf
      · replace hf := if_f cc hf
        refine lv_aload_n hx hb dX9_init_116 rfl (lv_at hl 0 rfl) ?_
        refine va_get (ci := 9) (v := .ref (h 1)) (C := RX9) (T := TX9) (N := 21) hx hb hT hin_X9 hown hK hP 0 rfl rfl 0 (by decide) (hT _ wf_X9_7) (fun _ h9 => h9) rfl dX9_init_117 ?_
        refine lv_iload_n hx hb dX9_init_120 rfl (lv_at hl 1 rfl) ?_
        refine lv_iconst (v := 1) hx hb dX9_init_121 (by decide) ?_
        obtain ⟨hi, hf⟩ := ck_some hf
        refine va_iast hx hb hK hP hD hS 1 0 rfl rfl hi dX9_init_122 (fun H locs hP hD hS => ?_)
        have hP : va_P D vwCl (wX9 cyI cyJ cyZ cyO h (upd book x1.toNatClampNeg 1) (fun _ => 0) 0 (fun _ => 0) 0 (fun _ => 0) 0 0 0 0 0 0 (fun _ => 0) (fun _ => 0) (fun _ => 0) (fun _ => 0) (fun _ => 0) (fun _ => 0) (fun _ => 0) (fun _ => 0) (fun _ => 0)) H := hP
        have hD : va_D A (wX9 cyI cyJ cyZ cyO h (upd book x1.toNatClampNeg 1) (fun _ => 0) 0 (fun _ => 0) 0 (fun _ => 0) 0 0 0 0 0 0 (fun _ => 0) (fun _ => 0) (fun _ => 0) (fun _ => 0) (fun _ => 0) (fun _ => 0) (fun _ => 0) (fun _ => 0) (fun _ => 0)) := hD
        refine lv_iinc (v := (x1 + 1)) (lv' := [(1, .int (x1 + 1)), (0, .ref (h 0))]) hx hb dX9_init_123 hl (k := 1) rfl rfl (by decide) rfl (fun ls hl => ?_)
        refine lv_goto (tgt := 110) hx hb dX9_init_126 (by decide) ?_
        exact ih110 (x1 + 1) (upd book x1.toNatClampNeg 1) H locs ls hP hD hS (lv_sub hl [1, 0] rfl) hf
  unfold g_X9_init at hf
  refine lv_iconst (v := 0) hx hb dX9_init_108 (by decide) ?_
  refine lv_istore_n (lv' := [(1, .int 0), (0, .ref (h 0))]) hx hb dX9_init_109 rfl hl (by decide) rfl (fun ls hl => ?_)
  exact l110 nf 0 (fun _ => 0) H locs ls hP hD hS (lv_sub hl [1, 0] rfl) hf
theorem hdn_X4_init : yX4_init.cls ≠ "java/lang/invoke/MethodHandle" ∧ yX4_init.cls ≠ "java/lang/invoke/VarHandle" ∧ (parseMethodDescriptor yX4_init.desc).map (fun d => d.parameters.length) = some 0 := by decide +kernel
set_option maxHeartbeats 8000000 in
set_option maxRecDepth 100000 in
theorem c_X4_init (l : Launch) (D : va_G) (cyI cyJ cyZ cyO : ClassId) (h0 sz : Nat) (nf : Nat) (qD : (Nat → Int32) × (Nat → Int32) × Int32) (hfD : g_X1_init nf (fun _ => 0) (fun _ => 0) 0 = some qD) : Met l yX4_init (Cond.code yX4_init cX4_init 1 none :: tbG) ({ frames := 2, cells := 9, slots := 93, locals := 61 } : Room) (va_Pc [.ref h0] (pcB D (ty4 cyI cyJ cyZ cyO) sz [(h0, .inr (4, [.null, .int 0, .int 0, .int 0, .int 0, .int 0]))])) (qN (S := (Nat → Nat) × (Nat → Nat)) D (fun u => u.1 0 = h0) (fun u => vw2 cyI cyJ cyZ cyO u.1 u.2 0 0 0 0 0 qD.1 (fun _ => 0) (fun _ => 0) (fun _ => 0) (fun _ => 0) qD.2.1 (fun _ => 0) (fun _ => 0) 0 0 qD.2.2) (va_A [(h0, .inr (4, [.null, .int 0, .int 0, .int 0, .int 0, .int 0]))] sz)) 9 93 (va_A [(h0, .inr (4, [.null, .int 0, .int 0, .int 0, .int 0, .int 0]))] sz) := by
  refine Met.ofW (cc := cX4_init) (maxL := 1) (ret := none) (by decide) rfl ?_
  intro p e s m args below meth c s₁ B hml hv
  obtain ⟨rfl, hsz, hP, hK, hD0, hN⟩ := hv
  have hx := B.exec
  have hb := B.bytes
  have hr := B.returns
  have hT : ∀ w ∈ tbG, w.before ([.ref h0] : List Value).toArray s = true := fun w h => atoms_spec (ws := (Cond.code yX4_init cX4_init 1 none :: tbG)) B.pre w (List.mem_cons_of_mem _ h)
  have hown : s.vm.findClass RX4 = some m.cls := findClass_of_methodNamed B.named
  have hlocks := B.notSynchronized
  have hin : meth.name = "<init>" := (name_of_methodNamed B.named B.method).1
  subst hsz
  have hD := hD0.self (sz := s.heap.size)
  generalize hAe : va_A [(h0, .inr (4, [.null, .int 0, .int 0, .int 0, .int 0, .int 0]))] s.heap.size = A at hD ⊢
  have hA : ∀ q : Nat, s.heap.size ≤ q → A q := fun q h => by rw [← hAe]; exact Or.inr h
  have hS : va_S A s.heap s.heap [] := va_S.rf
  show W p l e ({ frames := 2, cells := 9, slots := 93, locals := 61 } : Room) s m ([.ref h0] : List Value).toArray below meth c s.heap [] 0 0 (MQ below (qN (S := (Nat → Nat) × (Nat → Nat)) D (fun u => u.1 0 = h0) (fun u => vw2 cyI cyJ cyZ cyO u.1 u.2 0 0 0 0 0 qD.1 (fun _ => 0) (fun _ => 0) (fun _ => 0) (fun _ => 0) qD.2.1 (fun _ => 0) (fun _ => 0) 0 0 qD.2.2) A) ([.ref h0] : List Value).toArray s 9 93 A) _
  have hl := lv_entry ([.ref h0]) (n := 1) (Nat.le_of_ble_eq_true rfl)
  rw [lg_entry_eq]
  generalize (lg_sl ([.ref h0]) ++ List.replicate (1 - (lg_sl ([.ref h0])).length) Slot.unset).toArray = ls at hl ⊢
  have hl : lv_has ls 1 [(0, .ref h0)] := hl
  refine lv_aload_n hx hb dX4_init_0 rfl (lv_at hl 0 rfl) ?_
  refine W.objInit hx hb hown (hT _ wm_X4_3) (hT _ wi_bjectInit) (hT _ wc_objectInit) rfl (by rw [hml]; exact hl.1) rfl dX4_init_1 (Nat.le_of_ble_eq_true rfl) (Nat.le_of_ble_eq_true rfl) ?_
  refine W.eq (g2 := F0 m 4 ls []) rfl ?_
  refine lv_aload_n hx hb dX4_init_4 rfl (lv_at hl 0 rfl) ?_
  refine va_new (ci := 1) (fs := [.null, .null, .null, .null, .null, .null, .null, .null, .int 0, .int 0, .int 0]) (C := RX1) (T := TX1) (N := 11) hx hb hT hin_X1 tyX1 tyX1_ok hown (hT _ wq_X4_9) (hT _ wn_X1) (hT _ wz_X1) hK hP hD hS hA rfl (fun j hj => by rcases (show j = 0 ∨ j = 1 ∨ j = 2 ∨ j = 3 ∨ j = 4 ∨ j = 5 ∨ j = 6 ∨ j = 7 ∨ j = 8 ∨ j = 9 ∨ j = 10 by omega) with rfl | rfl | rfl | rfl | rfl | rfl | rfl | rfl | rfl | rfl | rfl <;> rfl) (Nat.le_of_ble_eq_true rfl) (Nat.le_of_ble_eq_true rfl) dX4_init_5 (fun q1 H hP hD hS => ?_)
  have hP : va_P D vwCl ([(h0, .inr (4, [.null, .int 0, .int 0, .int 0, .int 0, .int 0])), (q1, .inr (1, [.null, .null, .null, .null, .null, .null, .null, .null, .int 0, .int 0, .int 0]))]) H := hP
  have hD : va_D A ([(h0, .inr (4, [.null, .int 0, .int 0, .int 0, .int 0, .int 0])), (q1, .inr (1, [.null, .null, .null, .null, .null, .null, .null, .null, .int 0, .int 0, .int 0]))]) := hD
  refine W.widen (k := 1) (n := 11) (Nat.le_of_ble_eq_true rfl) (Nat.le_of_ble_eq_true rfl) ?_
  refine lv_dup hx hb dX4_init_8 rfl ?_
  have hC : [1].map (fun i => (([(h0, .inr (4, [.null, .int 0, .int 0, .int 0, .int 0, .int 0]))] : va_W) ++ ([(q1, .inr (1, [.null, .null, .null, .null, .null, .null, .null, .null, .int 0, .int 0, .int 0]))] : va_W))[i]?) = ([(q1, .inr (1, [.null, .null, .null, .null, .null, .null, .null, .null, .int 0, .int 0, .int 0]))] : va_W).map some := rfl
  refine cl_n (wr := [(h0, .inr (4, [.null, .int 0, .int 0, .int 0, .int 0, .int 0]))]) (rn_I (rest := [.ref q1, .ref h0]) hx hb hml hown hT (c_X1_init l D cyI cyJ cyZ cyO q1 H.size nf qD hfD) (preS_B (sz := 0) (Pq := fun _ => True) hP hD hK hN [1] hC rfl) wm_X4_11 wi_X1_init wz_X1 wc_X1_init rfl hdn_X1_init ⟨rfl, rfl⟩ ⟨(Nat.le_of_ble_eq_true rfl), (Nat.le_of_ble_eq_true rfl)⟩ hl.1 rfl (Nat.le_of_ble_eq_true rfl) dX4_init_9 ⟨(Nat.le_of_ble_eq_true rfl), (Nat.le_of_ble_eq_true rfl)⟩) hP hD hS hA [1] [0] hC rfl (by decide) (by decide) (fun u1 H locs hu1 hP hD hS => ?_)
  refine W.widen (k := 9) (n := 93) (Nat.le_of_ble_eq_true rfl) (Nat.le_of_ble_eq_true rfl) ?_
  have hP : va_P D vwCl ([(h0, .inr (4, [.null, .int 0, .int 0, .int 0, .int 0, .int 0])), (u1 0, .inr (1, [.ref (u1 1), .ref (u1 2), .ref (u1 3), .ref (u1 4), .ref (u1 5), .ref (u1 6), .ref (u1 7), .ref (u1 8), .int 0, .int 0, .int qD.2.2])), (u1 1, .inl (cyI, 25, .inl qD.1)), (u1 2, .inl (cyI, 25, .inl (fun _ => 0))), (u1 3, .inl (cyZ, 4, .inl (fun _ => 0))), (u1 4, .inl (cyI, 4, .inl (fun _ => 0))), (u1 5, .inl (cyI, 4, .inl (fun _ => 0))), (u1 6, .inl (cyI, 4, .inl qD.2.1)), (u1 7, .inl (cyI, 8, .inl (fun _ => 0))), (u1 8, .inl (cyI, 8, .inl (fun _ => 0)))]) H := hP
  have hD : va_D A ([(h0, .inr (4, [.null, .int 0, .int 0, .int 0, .int 0, .int 0])), (u1 0, .inr (1, [.ref (u1 1), .ref (u1 2), .ref (u1 3), .ref (u1 4), .ref (u1 5), .ref (u1 6), .ref (u1 7), .ref (u1 8), .int 0, .int 0, .int qD.2.2])), (u1 1, .inl (cyI, 25, .inl qD.1)), (u1 2, .inl (cyI, 25, .inl (fun _ => 0))), (u1 3, .inl (cyZ, 4, .inl (fun _ => 0))), (u1 4, .inl (cyI, 4, .inl (fun _ => 0))), (u1 5, .inl (cyI, 4, .inl (fun _ => 0))), (u1 6, .inl (cyI, 4, .inl qD.2.1)), (u1 7, .inl (cyI, 8, .inl (fun _ => 0))), (u1 8, .inl (cyI, 8, .inl (fun _ => 0)))]) := hD
  have eu1 : u1 0 = q1 := hu1
  rw [← eu1]
  refine va_putF (ci := 4) (v := .ref (u1 0)) (ty := .object "EatenMaps$Duchy") (C := RX4) (T := TX4) (N := 6) hx hb hT hin_X4 tyX4 tyX4_ok nmX4 hown hK hP hD hS 0 rfl rfl 0 (by decide) (hT _ wf_X4_12) (fun _ h9 => h9) rfl hin rfl (tyX4_ok 0 (by decide)) rfl rfl (Nat.le_of_ble_eq_true rfl) dX4_init_12 (fun H locs hP hD hS => ?_)
  have hP : va_P D vwCl ([(h0, .inr (4, [.ref (u1 0), .int 0, .int 0, .int 0, .int 0, .int 0])), (u1 0, .inr (1, [.ref (u1 1), .ref (u1 2), .ref (u1 3), .ref (u1 4), .ref (u1 5), .ref (u1 6), .ref (u1 7), .ref (u1 8), .int 0, .int 0, .int qD.2.2])), (u1 1, .inl (cyI, 25, .inl qD.1)), (u1 2, .inl (cyI, 25, .inl (fun _ => 0))), (u1 3, .inl (cyZ, 4, .inl (fun _ => 0))), (u1 4, .inl (cyI, 4, .inl (fun _ => 0))), (u1 5, .inl (cyI, 4, .inl (fun _ => 0))), (u1 6, .inl (cyI, 4, .inl qD.2.1)), (u1 7, .inl (cyI, 8, .inl (fun _ => 0))), (u1 8, .inl (cyI, 8, .inl (fun _ => 0)))]) H := hP
  have hD : va_D A ([(h0, .inr (4, [.ref (u1 0), .int 0, .int 0, .int 0, .int 0, .int 0])), (u1 0, .inr (1, [.ref (u1 1), .ref (u1 2), .ref (u1 3), .ref (u1 4), .ref (u1 5), .ref (u1 6), .ref (u1 7), .ref (u1 8), .int 0, .int 0, .int qD.2.2])), (u1 1, .inl (cyI, 25, .inl qD.1)), (u1 2, .inl (cyI, 25, .inl (fun _ => 0))), (u1 3, .inl (cyZ, 4, .inl (fun _ => 0))), (u1 4, .inl (cyI, 4, .inl (fun _ => 0))), (u1 5, .inl (cyI, 4, .inl (fun _ => 0))), (u1 6, .inl (cyI, 4, .inl qD.2.1)), (u1 7, .inl (cyI, 8, .inl (fun _ => 0))), (u1 8, .inl (cyI, 8, .inl (fun _ => 0)))]) := hD
  exact W.vret hx hb hr (fun t ht hW => ⟨⟨(fun _ => h0, u1), rfl, rfl, by show va_P D vwCl _ t.heap; rw [ht]; exact hP, hD⟩, hS.F ht⟩) hS.2.2 dX4_init_15