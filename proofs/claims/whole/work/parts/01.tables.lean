-- ===== PART A: goes FIRST, ahead of the names: the tables' words, and 'selects' of the private methods out of them =====
/-- a private method of a class that the tables say can be made, by its rows of tables_1 -/
def lw_okq (q : MethodName × Nat) : Prop := (q.1.cls ≠ "java/lang/invoke/MethodHandle" ∧ q.1.cls ≠ "java/lang/invoke/VarHandle") ∧ Cond.instantiable q.1.cls q.2 ∈ tables_1 ∧ Cond.privateMethod q.1 ∈ tables_1 ∧ Cond.instanceMethod q.1 ∈ tables_1
theorem lw_p0 : lw_okq (⟨"EatenMaps$Nights", "attempt", "(III)I"⟩, 6) := ⟨⟨by decide +kernel, by decide +kernel⟩, List.mem_of_getElem? (i := 92) (by decide +kernel), List.mem_of_getElem? (i := 373) (by decide +kernel), List.mem_of_getElem? (i := 374) (by decide +kernel)⟩
theorem lw_p1 : lw_okq (⟨"EatenMaps$Duchy", "fly", "(I)V"⟩, 11) := ⟨⟨by decide +kernel, by decide +kernel⟩, List.mem_of_getElem? (i := 22) (by decide +kernel), List.mem_of_getElem? (i := 381) (by decide +kernel), List.mem_of_getElem? (i := 382) (by decide +kernel)⟩
theorem lw_p2 : lw_okq (⟨"EatenMaps$Duchy", "eat", "(I)V"⟩, 11) := ⟨⟨by decide +kernel, by decide +kernel⟩, List.mem_of_getElem? (i := 22) (by decide +kernel), List.mem_of_getElem? (i := 387) (by decide +kernel), List.mem_of_getElem? (i := 388) (by decide +kernel)⟩
theorem lw_p3 : lw_okq (⟨"EatenMaps$Nights", "attemptDeed", "(II)I"⟩, 6) := ⟨⟨by decide +kernel, by decide +kernel⟩, List.mem_of_getElem? (i := 92) (by decide +kernel), List.mem_of_getElem? (i := 406) (by decide +kernel), List.mem_of_getElem? (i := 407) (by decide +kernel)⟩
theorem lw_p4 : lw_okq (⟨"EatenMaps$Nights", "note", "(I)V"⟩, 6) := ⟨⟨by decide +kernel, by decide +kernel⟩, List.mem_of_getElem? (i := 92) (by decide +kernel), List.mem_of_getElem? (i := 423) (by decide +kernel), List.mem_of_getElem? (i := 424) (by decide +kernel)⟩
theorem lw_p5 : lw_okq (⟨"EatenMaps", "nightsCanBe", "()Z"⟩, 11) := ⟨⟨by decide +kernel, by decide +kernel⟩, List.mem_of_getElem? (i := 14) (by decide +kernel), List.mem_of_getElem? (i := 434) (by decide +kernel), List.mem_of_getElem? (i := 435) (by decide +kernel)⟩
theorem lw_p6 : lw_okq (⟨"EatenMaps$Roads", "nearest", "()I"⟩, 2) := ⟨⟨by decide +kernel, by decide +kernel⟩, List.mem_of_getElem? (i := 124) (by decide +kernel), List.mem_of_getElem? (i := 477) (by decide +kernel), List.mem_of_getElem? (i := 478) (by decide +kernel)⟩
theorem lw_p7 : lw_okq (⟨"EatenMaps$Roads", "spreadFrom", "(I[I)V"⟩, 2) := ⟨⟨by decide +kernel, by decide +kernel⟩, List.mem_of_getElem? (i := 124) (by decide +kernel), List.mem_of_getElem? (i := 482) (by decide +kernel), List.mem_of_getElem? (i := 483) (by decide +kernel)⟩
theorem lw_p8 : lw_okq (⟨"EatenMaps$Ministry", "search", "(III)V"⟩, 4) := ⟨⟨by decide +kernel, by decide +kernel⟩, List.mem_of_getElem? (i := 137) (by decide +kernel), List.mem_of_getElem? (i := 512) (by decide +kernel), List.mem_of_getElem? (i := 513) (by decide +kernel)⟩
theorem lw_p9 : lw_okq (⟨"EatenMaps$Ministry", "openWay", "(I)I"⟩, 4) := ⟨⟨by decide +kernel, by decide +kernel⟩, List.mem_of_getElem? (i := 137) (by decide +kernel), List.mem_of_getElem? (i := 516) (by decide +kernel), List.mem_of_getElem? (i := 517) (by decide +kernel)⟩
theorem lw_p10 : lw_okq (⟨"EatenMaps$Ministry", "wayBack", "(I)I"⟩, 4) := ⟨⟨by decide +kernel, by decide +kernel⟩, List.mem_of_getElem? (i := 137) (by decide +kernel), List.mem_of_getElem? (i := 520) (by decide +kernel), List.mem_of_getElem? (i := 521) (by decide +kernel)⟩
theorem lw_p11 : lw_okq (⟨"EatenMaps$Darner", "partHoles", "()I"⟩, 7) := ⟨⟨by decide +kernel, by decide +kernel⟩, List.mem_of_getElem? (i := 156) (by decide +kernel), List.mem_of_getElem? (i := 538) (by decide +kernel), List.mem_of_getElem? (i := 539) (by decide +kernel)⟩
theorem lw_p12 : lw_okq (⟨"EatenMaps$Darner", "waysFrom", "(I)I"⟩, 7) := ⟨⟨by decide +kernel, by decide +kernel⟩, List.mem_of_getElem? (i := 156) (by decide +kernel), List.mem_of_getElem? (i := 542) (by decide +kernel), List.mem_of_getElem? (i := 543) (by decide +kernel)⟩
theorem lw_p13 : lw_okq (⟨"EatenMaps$Darner", "digits", "()I"⟩, 7) := ⟨⟨by decide +kernel, by decide +kernel⟩, List.mem_of_getElem? (i := 156) (by decide +kernel), List.mem_of_getElem? (i := 546) (by decide +kernel), List.mem_of_getElem? (i := 547) (by decide +kernel)⟩
theorem lw_p14 : lw_okq (⟨"EatenMaps$Darner", "threadOf", "(I)I"⟩, 7) := ⟨⟨by decide +kernel, by decide +kernel⟩, List.mem_of_getElem? (i := 156) (by decide +kernel), List.mem_of_getElem? (i := 550) (by decide +kernel), List.mem_of_getElem? (i := 551) (by decide +kernel)⟩
theorem lw_p15 : lw_okq (⟨"EatenMaps$Tracker", "readSights", "(LEatenMaps$Duchy;)V"⟩, 8) := ⟨⟨by decide +kernel, by decide +kernel⟩, List.mem_of_getElem? (i := 186) (by decide +kernel), List.mem_of_getElem? (i := 585) (by decide +kernel), List.mem_of_getElem? (i := 586) (by decide +kernel)⟩
def lw_privs_1 : List (MethodName × Nat) := [(⟨"EatenMaps$Nights", "attempt", "(III)I"⟩, 6), (⟨"EatenMaps$Duchy", "fly", "(I)V"⟩, 11), (⟨"EatenMaps$Duchy", "eat", "(I)V"⟩, 11), (⟨"EatenMaps$Nights", "attemptDeed", "(II)I"⟩, 6), (⟨"EatenMaps$Nights", "note", "(I)V"⟩, 6), (⟨"EatenMaps", "nightsCanBe", "()Z"⟩, 11), (⟨"EatenMaps$Roads", "nearest", "()I"⟩, 2), (⟨"EatenMaps$Roads", "spreadFrom", "(I[I)V"⟩, 2), (⟨"EatenMaps$Ministry", "search", "(III)V"⟩, 4), (⟨"EatenMaps$Ministry", "openWay", "(I)I"⟩, 4), (⟨"EatenMaps$Ministry", "wayBack", "(I)I"⟩, 4), (⟨"EatenMaps$Darner", "partHoles", "()I"⟩, 7), (⟨"EatenMaps$Darner", "waysFrom", "(I)I"⟩, 7), (⟨"EatenMaps$Darner", "digits", "()I"⟩, 7), (⟨"EatenMaps$Darner", "threadOf", "(I)I"⟩, 7), (⟨"EatenMaps$Tracker", "readSights", "(LEatenMaps$Duchy;)V"⟩, 8)]
theorem lw_r1 : ∀ q ∈ lw_privs_1, lw_okq q := List.forall_mem_cons.mpr ⟨lw_p0, List.forall_mem_cons.mpr ⟨lw_p1, List.forall_mem_cons.mpr ⟨lw_p2, List.forall_mem_cons.mpr ⟨lw_p3, List.forall_mem_cons.mpr ⟨lw_p4, List.forall_mem_cons.mpr ⟨lw_p5, List.forall_mem_cons.mpr ⟨lw_p6, List.forall_mem_cons.mpr ⟨lw_p7, List.forall_mem_cons.mpr ⟨lw_p8, List.forall_mem_cons.mpr ⟨lw_p9, List.forall_mem_cons.mpr ⟨lw_p10, List.forall_mem_cons.mpr ⟨lw_p11, List.forall_mem_cons.mpr ⟨lw_p12, List.forall_mem_cons.mpr ⟨lw_p13, List.forall_mem_cons.mpr ⟨lw_p14, List.forall_mem_cons.mpr ⟨lw_p15, fun _ h => absurd h List.not_mem_nil⟩⟩⟩⟩⟩⟩⟩⟩⟩⟩⟩⟩⟩⟩⟩⟩
theorem lw_p16 : lw_okq (⟨"EatenMaps$Tracker", "fits", "(I)Z"⟩, 8) := ⟨⟨by decide +kernel, by decide +kernel⟩, List.mem_of_getElem? (i := 186) (by decide +kernel), List.mem_of_getElem? (i := 590) (by decide +kernel), List.mem_of_getElem? (i := 591) (by decide +kernel)⟩
theorem lw_p17 : lw_okq (⟨"EatenMaps$Tracker", "mostInOneCell", "()I"⟩, 8) := ⟨⟨by decide +kernel, by decide +kernel⟩, List.mem_of_getElem? (i := 186) (by decide +kernel), List.mem_of_getElem? (i := 606) (by decide +kernel), List.mem_of_getElem? (i := 607) (by decide +kernel)⟩
theorem lw_p18 : lw_okq (⟨"EatenMaps", "toldOfOne", "(I)I"⟩, 11) := ⟨⟨by decide +kernel, by decide +kernel⟩, List.mem_of_getElem? (i := 14) (by decide +kernel), List.mem_of_getElem? (i := 668) (by decide +kernel), List.mem_of_getElem? (i := 669) (by decide +kernel)⟩
theorem lw_p19 : lw_okq (⟨"EatenMapsModel", "faultOf", "()I"⟩, 21) := ⟨⟨by decide +kernel, by decide +kernel⟩, List.mem_of_getElem? (i := 672) (by decide +kernel), List.mem_of_getElem? (i := 776) (by decide +kernel), List.mem_of_getElem? (i := 777) (by decide +kernel)⟩
theorem lw_p20 : lw_okq (⟨"EatenMapsModel", "goNights", "()I"⟩, 21) := ⟨⟨by decide +kernel, by decide +kernel⟩, List.mem_of_getElem? (i := 672) (by decide +kernel), List.mem_of_getElem? (i := 790) (by decide +kernel), List.mem_of_getElem? (i := 791) (by decide +kernel)⟩
theorem lw_p21 : lw_okq (⟨"EatenMapsModel", "asNow", "()V"⟩, 21) := ⟨⟨by decide +kernel, by decide +kernel⟩, List.mem_of_getElem? (i := 672) (by decide +kernel), List.mem_of_getElem? (i := 794) (by decide +kernel), List.mem_of_getElem? (i := 795) (by decide +kernel)⟩
theorem lw_p22 : lw_okq (⟨"EatenMapsModel", "nextAct", "()I"⟩, 21) := ⟨⟨by decide +kernel, by decide +kernel⟩, List.mem_of_getElem? (i := 672) (by decide +kernel), List.mem_of_getElem? (i := 798) (by decide +kernel), List.mem_of_getElem? (i := 799) (by decide +kernel)⟩
theorem lw_p23 : lw_okq (⟨"EatenMapsModel", "endNight", "()I"⟩, 21) := ⟨⟨by decide +kernel, by decide +kernel⟩, List.mem_of_getElem? (i := 672) (by decide +kernel), List.mem_of_getElem? (i := 802) (by decide +kernel), List.mem_of_getElem? (i := 803) (by decide +kernel)⟩
theorem lw_p24 : lw_okq (⟨"EatenMapsModel", "flying", "(I)Z"⟩, 21) := ⟨⟨by decide +kernel, by decide +kernel⟩, List.mem_of_getElem? (i := 672) (by decide +kernel), List.mem_of_getElem? (i := 806) (by decide +kernel), List.mem_of_getElem? (i := 807) (by decide +kernel)⟩
theorem lw_p25 : lw_okq (⟨"EatenMapsModel", "fly", "(I)V"⟩, 21) := ⟨⟨by decide +kernel, by decide +kernel⟩, List.mem_of_getElem? (i := 672) (by decide +kernel), List.mem_of_getElem? (i := 813) (by decide +kernel), List.mem_of_getElem? (i := 814) (by decide +kernel)⟩
theorem lw_p26 : lw_okq (⟨"EatenMapsModel", "darn", "(II)I"⟩, 21) := ⟨⟨by decide +kernel, by decide +kernel⟩, List.mem_of_getElem? (i := 672) (by decide +kernel), List.mem_of_getElem? (i := 820) (by decide +kernel), List.mem_of_getElem? (i := 821) (by decide +kernel)⟩
theorem lw_p27 : lw_okq (⟨"EatenMapsModel", "strew", "(I)I"⟩, 21) := ⟨⟨by decide +kernel, by decide +kernel⟩, List.mem_of_getElem? (i := 672) (by decide +kernel), List.mem_of_getElem? (i := 824) (by decide +kernel), List.mem_of_getElem? (i := 825) (by decide +kernel)⟩
theorem lw_p28 : lw_okq (⟨"EatenMapsModel", "catchIt", "(I)I"⟩, 21) := ⟨⟨by decide +kernel, by decide +kernel⟩, List.mem_of_getElem? (i := 672) (by decide +kernel), List.mem_of_getElem? (i := 828) (by decide +kernel), List.mem_of_getElem? (i := 829) (by decide +kernel)⟩
theorem lw_p29 : lw_okq (⟨"EatenMapsModel", "turn", "(II)I"⟩, 21) := ⟨⟨by decide +kernel, by decide +kernel⟩, List.mem_of_getElem? (i := 672) (by decide +kernel), List.mem_of_getElem? (i := 832) (by decide +kernel), List.mem_of_getElem? (i := 833) (by decide +kernel)⟩
theorem lw_p30 : lw_okq (⟨"EatenMapsModel", "barOfNights", "()I"⟩, 21) := ⟨⟨by decide +kernel, by decide +kernel⟩, List.mem_of_getElem? (i := 672) (by decide +kernel), List.mem_of_getElem? (i := 840) (by decide +kernel), List.mem_of_getElem? (i := 841) (by decide +kernel)⟩
theorem lw_p31 : lw_okq (⟨"EatenMapsModel", "isThere", "(I)Z"⟩, 21) := ⟨⟨by decide +kernel, by decide +kernel⟩, List.mem_of_getElem? (i := 672) (by decide +kernel), List.mem_of_getElem? (i := 852) (by decide +kernel), List.mem_of_getElem? (i := 853) (by decide +kernel)⟩
def lw_privs_2 : List (MethodName × Nat) := [(⟨"EatenMaps$Tracker", "fits", "(I)Z"⟩, 8), (⟨"EatenMaps$Tracker", "mostInOneCell", "()I"⟩, 8), (⟨"EatenMaps", "toldOfOne", "(I)I"⟩, 11), (⟨"EatenMapsModel", "faultOf", "()I"⟩, 21), (⟨"EatenMapsModel", "goNights", "()I"⟩, 21), (⟨"EatenMapsModel", "asNow", "()V"⟩, 21), (⟨"EatenMapsModel", "nextAct", "()I"⟩, 21), (⟨"EatenMapsModel", "endNight", "()I"⟩, 21), (⟨"EatenMapsModel", "flying", "(I)Z"⟩, 21), (⟨"EatenMapsModel", "fly", "(I)V"⟩, 21), (⟨"EatenMapsModel", "darn", "(II)I"⟩, 21), (⟨"EatenMapsModel", "strew", "(I)I"⟩, 21), (⟨"EatenMapsModel", "catchIt", "(I)I"⟩, 21), (⟨"EatenMapsModel", "turn", "(II)I"⟩, 21), (⟨"EatenMapsModel", "barOfNights", "()I"⟩, 21), (⟨"EatenMapsModel", "isThere", "(I)Z"⟩, 21)]
theorem lw_r2 : ∀ q ∈ lw_privs_2, lw_okq q := List.forall_mem_cons.mpr ⟨lw_p16, List.forall_mem_cons.mpr ⟨lw_p17, List.forall_mem_cons.mpr ⟨lw_p18, List.forall_mem_cons.mpr ⟨lw_p19, List.forall_mem_cons.mpr ⟨lw_p20, List.forall_mem_cons.mpr ⟨lw_p21, List.forall_mem_cons.mpr ⟨lw_p22, List.forall_mem_cons.mpr ⟨lw_p23, List.forall_mem_cons.mpr ⟨lw_p24, List.forall_mem_cons.mpr ⟨lw_p25, List.forall_mem_cons.mpr ⟨lw_p26, List.forall_mem_cons.mpr ⟨lw_p27, List.forall_mem_cons.mpr ⟨lw_p28, List.forall_mem_cons.mpr ⟨lw_p29, List.forall_mem_cons.mpr ⟨lw_p30, List.forall_mem_cons.mpr ⟨lw_p31, fun _ h => absurd h List.not_mem_nil⟩⟩⟩⟩⟩⟩⟩⟩⟩⟩⟩⟩⟩⟩⟩⟩
theorem lw_p32 : lw_okq (⟨"EatenMapsModel", "countOf", "(I)I"⟩, 21) := ⟨⟨by decide +kernel, by decide +kernel⟩, List.mem_of_getElem? (i := 672) (by decide +kernel), List.mem_of_getElem? (i := 860) (by decide +kernel), List.mem_of_getElem? (i := 861) (by decide +kernel)⟩
theorem lw_p33 : lw_okq (⟨"EatenMapsModel", "layRoads", "(I)V"⟩, 21) := ⟨⟨by decide +kernel, by decide +kernel⟩, List.mem_of_getElem? (i := 672) (by decide +kernel), List.mem_of_getElem? (i := 868) (by decide +kernel), List.mem_of_getElem? (i := 869) (by decide +kernel)⟩
theorem lw_p34 : lw_okq (⟨"EatenMapsModel", "isSafe", "(II)Z"⟩, 21) := ⟨⟨by decide +kernel, by decide +kernel⟩, List.mem_of_getElem? (i := 672) (by decide +kernel), List.mem_of_getElem? (i := 882) (by decide +kernel), List.mem_of_getElem? (i := 883) (by decide +kernel)⟩
theorem lw_p35 : lw_okq (⟨"EatenMapsModel", "tryShut", "(III)I"⟩, 21) := ⟨⟨by decide +kernel, by decide +kernel⟩, List.mem_of_getElem? (i := 672) (by decide +kernel), List.mem_of_getElem? (i := 886) (by decide +kernel), List.mem_of_getElem? (i := 887) (by decide +kernel)⟩
theorem lw_p36 : lw_okq (⟨"EatenMapsModel", "canDarn", "(II)Z"⟩, 21) := ⟨⟨by decide +kernel, by decide +kernel⟩, List.mem_of_getElem? (i := 672) (by decide +kernel), List.mem_of_getElem? (i := 897) (by decide +kernel), List.mem_of_getElem? (i := 898) (by decide +kernel)⟩
theorem lw_p37 : lw_okq (⟨"EatenMapsModel", "isFit", "(I)Z"⟩, 21) := ⟨⟨by decide +kernel, by decide +kernel⟩, List.mem_of_getElem? (i := 672) (by decide +kernel), List.mem_of_getElem? (i := 920) (by decide +kernel), List.mem_of_getElem? (i := 921) (by decide +kernel)⟩
def lw_privs_3 : List (MethodName × Nat) := [(⟨"EatenMapsModel", "countOf", "(I)I"⟩, 21), (⟨"EatenMapsModel", "layRoads", "(I)V"⟩, 21), (⟨"EatenMapsModel", "isSafe", "(II)Z"⟩, 21), (⟨"EatenMapsModel", "tryShut", "(III)I"⟩, 21), (⟨"EatenMapsModel", "canDarn", "(II)Z"⟩, 21), (⟨"EatenMapsModel", "isFit", "(I)Z"⟩, 21)]
theorem lw_r3 : ∀ q ∈ lw_privs_3, lw_okq q := List.forall_mem_cons.mpr ⟨lw_p32, List.forall_mem_cons.mpr ⟨lw_p33, List.forall_mem_cons.mpr ⟨lw_p34, List.forall_mem_cons.mpr ⟨lw_p35, List.forall_mem_cons.mpr ⟨lw_p36, List.forall_mem_cons.mpr ⟨lw_p37, fun _ h => absurd h List.not_mem_nil⟩⟩⟩⟩⟩⟩
def lw_privs : List (MethodName × Nat) := lw_privs_1 ++ (lw_privs_2 ++ (lw_privs_3))
def lw_tbl : List Cond := k2_sels lw_privs ++ tables_1
theorem lw_privs_ok : ∀ q ∈ lw_privs, lw_okq q := by
  show ∀ q ∈ lw_privs_1 ++ (lw_privs_2 ++ (lw_privs_3)), lw_okq q
  exact List.forall_mem_append.mpr ⟨lw_r1, List.forall_mem_append.mpr ⟨lw_r2, lw_r3⟩⟩
def RX0 : String := "EatenMaps$Darner"
def TX0 : u_T := fun k => match k with
  | 0 => ("EatenMaps$Darner", "woven", "[I", true)
  | 1 => ("EatenMaps$Darner", "tied", "[I", true)
  | 2 => ("EatenMaps$Darner", "ties", "I", false)
  | 3 => ("EatenMaps$Darner", "holes", "I", false)
  | 4 => ("EatenMaps$Darner", "byTowns", "I", false)
  | 5 => ("EatenMaps$Darner", "ways", "I", false)
  | _ => ("EatenMaps$Darner", "first", "I", false)
def tyX0 : Nat → FieldType := fun k => match k with
  | 0 => .array .int
  | 1 => .array .int
  | 2 => .int
  | 3 => .int
  | 4 => .int
  | 5 => .int
  | _ => .int
abbrev wsX00 : List Cond := u_ws RX0 TX0 7
theorem nmX0 : ∀ a, a < 7 → ∀ b, b < 7 → a ≠ b → (TX0 a).2.1 ≠ (TX0 b).2.1 := by decide +kernel
theorem tyX0_ok : ∀ k, k < 7 → parseFieldDescriptor (TX0 k).2.2.1 = some (tyX0 k) := by decide +kernel
abbrev cX0_init : ByteArray := prog_2_method_1_code
def yX0_init : MethodName := ⟨RX0, "<init>", "()V"⟩
abbrev cX0_darn : ByteArray := prog_2_method_2_code
def yX0_darn : MethodName := ⟨RX0, "darn", "(II)V"⟩
abbrev cX0_partHoles : ByteArray := prog_2_method_3_code
def yX0_partHoles : MethodName := ⟨RX0, "partHoles", "()I"⟩
abbrev cX0_waysFrom : ByteArray := prog_2_method_4_code
def yX0_waysFrom : MethodName := ⟨RX0, "waysFrom", "(I)I"⟩
abbrev cX0_digits : ByteArray := prog_2_method_5_code
def yX0_digits : MethodName := ⟨RX0, "digits", "()I"⟩
abbrev cX0_threadOf : ByteArray := prog_2_method_6_code
def yX0_threadOf : MethodName := ⟨RX0, "threadOf", "(I)I"⟩
def RX1 : String := "EatenMaps$Duchy"
def TX1 : u_T := fun k => match k with
  | 0 => ("EatenMaps$Duchy", "lands", "[I", true)
  | 1 => ("EatenMaps$Duchy", "camphors", "[I", true)
  | 2 => ("EatenMaps$Duchy", "there", "[Z", true)
  | 3 => ("EatenMaps$Duchy", "mothCells", "[I", true)
  | 4 => ("EatenMaps$Duchy", "mothHeads", "[I", true)
  | 5 => ("EatenMaps$Duchy", "threads", "[I", true)
  | 6 => ("EatenMaps$Duchy", "sightNights", "[I", true)
  | 7 => ("EatenMaps$Duchy", "sightCells", "[I", true)
  | 8 => ("EatenMaps$Duchy", "sights", "I", false)
  | 9 => ("EatenMaps$Duchy", "night", "I", false)
  | _ => ("EatenMaps$Duchy", "eaten", "I", false)
def tyX1 : Nat → FieldType := fun k => match k with
  | 0 => .array .int
  | 1 => .array .int
  | 2 => .array .boolean
  | 3 => .array .int
  | 4 => .array .int
  | 5 => .array .int
  | 6 => .array .int
  | 7 => .array .int
  | 8 => .int
  | 9 => .int
  | _ => .int
abbrev wsX10 : List Cond := u_ws RX1 TX1 11
theorem nmX1 : ∀ a, a < 11 → ∀ b, b < 11 → a ≠ b → (TX1 a).2.1 ≠ (TX1 b).2.1 := by decide +kernel
theorem tyX1_ok : ∀ k, k < 11 → parseFieldDescriptor (TX1 k).2.2.1 = some (tyX1 k) := by decide +kernel
abbrev cX1_init : ByteArray := prog_3_method_1_code
def yX1_init : MethodName := ⟨RX1, "<init>", "()V"⟩
abbrev cX1_become : ByteArray := prog_3_method_2_code
def yX1_become : MethodName := ⟨RX1, "become", "(LEatenMaps$Duchy;)V"⟩
abbrev cX1_isThere : ByteArray := prog_3_method_3_code
def yX1_isThere : MethodName := ⟨RX1, "isThere", "(I)Z"⟩
abbrev cX1_mothBits : ByteArray := prog_3_method_4_code
def yX1_mothBits : MethodName := ⟨RX1, "mothBits", "()I"⟩
abbrev cX1_mothCellBits : ByteArray := prog_3_method_5_code
def yX1_mothCellBits : MethodName := ⟨RX1, "mothCellBits", "()I"⟩
abbrev cX1_bitsOf : ByteArray := prog_3_method_6_code
def yX1_bitsOf : MethodName := ⟨RX1, "bitsOf", "(I)I"⟩
abbrev cX1_countOf : ByteArray := prog_3_method_7_code
def yX1_countOf : MethodName := ⟨RX1, "countOf", "(I)I"⟩
abbrev cX1_threadsInAll : ByteArray := prog_3_method_8_code
def yX1_threadsInAll : MethodName := ⟨RX1, "threadsInAll", "()I"⟩
abbrev cX1_fourLandsFrom : ByteArray := prog_3_method_9_code
def yX1_fourLandsFrom : MethodName := ⟨RX1, "fourLandsFrom", "(I)I"⟩
abbrev cX1_addSight : ByteArray := prog_3_method_10_code
def yX1_addSight : MethodName := ⟨RX1, "addSight", "(II)Z"⟩
abbrev cX1_turn : ByteArray := prog_3_method_11_code
def yX1_turn : MethodName := ⟨RX1, "turn", "(II)I"⟩
abbrev cX1_catchMoth : ByteArray := prog_3_method_12_code
def yX1_catchMoth : MethodName := ⟨RX1, "catchMoth", "(I)I"⟩
abbrev cX1_layCamphor : ByteArray := prog_3_method_13_code
def yX1_layCamphor : MethodName := ⟨RX1, "layCamphor", "(I)I"⟩
abbrev cX1_darn : ByteArray := prog_3_method_14_code
def yX1_darn : MethodName := ⟨RX1, "darn", "(II)I"⟩
abbrev cX1_landBy : ByteArray := prog_3_method_15_code
def yX1_landBy : MethodName := ⟨RX1, "landBy", "(I)I"⟩
abbrev cX1_passNight : ByteArray := prog_3_method_16_code
def yX1_passNight : MethodName := ⟨RX1, "passNight", "()I"⟩
abbrev cX1_fly : ByteArray := prog_3_method_17_code
def yX1_fly : MethodName := ⟨RX1, "fly", "(I)V"⟩
abbrev cX1_eat : ByteArray := prog_3_method_18_code
def yX1_eat : MethodName := ⟨RX1, "eat", "(I)V"⟩
abbrev cX1_draw : ByteArray := prog_3_method_19_code
def yX1_draw : MethodName := ⟨RX1, "draw", "(II)V"⟩
def RX2 : String := "EatenMaps$Marsh"
def TX2 : u_T := fun k => match k with
  | 0 => ("EatenMaps$Marsh", "shares", "[J", true)
  | 1 => ("EatenMaps$Marsh", "moved", "[J", true)
  | _ => ("EatenMaps$Marsh", "parts", "J", false)
def tyX2 : Nat → FieldType := fun k => match k with
  | 0 => .array .long
  | 1 => .array .long
  | _ => .long
abbrev wsX20 : List Cond := u_ws RX2 TX2 3
theorem nmX2 : ∀ a, a < 3 → ∀ b, b < 3 → a ≠ b → (TX2 a).2.1 ≠ (TX2 b).2.1 := by decide +kernel
theorem tyX2_ok : ∀ k, k < 3 → parseFieldDescriptor (TX2 k).2.2.1 = some (tyX2 k) := by decide +kernel
abbrev cX2_init : ByteArray := prog_4_method_1_code
def yX2_init : MethodName := ⟨RX2, "<init>", "()V"⟩
abbrev cX2_pour : ByteArray := prog_4_method_2_code
def yX2_pour : MethodName := ⟨RX2, "pour", "(I)V"⟩
abbrev cX2_move : ByteArray := prog_4_method_3_code
def yX2_move : MethodName := ⟨RX2, "move", "(III)V"⟩
abbrev cX2_share : ByteArray := prog_4_method_4_code
def yX2_share : MethodName := ⟨RX2, "share", "(I)J"⟩
def RX3 : String := "EatenMaps$Ministry"
def TX3 : u_T := fun k => match k with
  | 0 => ("EatenMaps$Ministry", "rings", "[I", true)
  | 1 => ("EatenMaps$Ministry", "moths", "I", false)
  | 2 => ("EatenMaps$Ministry", "harbour", "I", false)
  | _ => ("EatenMaps$Ministry", "best", "I", false)
def tyX3 : Nat → FieldType := fun k => match k with
  | 0 => .array .int
  | 1 => .int
  | 2 => .int
  | _ => .int
abbrev wsX30 : List Cond := u_ws RX3 TX3 4
theorem nmX3 : ∀ a, a < 4 → ∀ b, b < 4 → a ≠ b → (TX3 a).2.1 ≠ (TX3 b).2.1 := by decide +kernel
theorem tyX3_ok : ∀ k, k < 4 → parseFieldDescriptor (TX3 k).2.2.1 = some (tyX3 k) := by decide +kernel
abbrev cX3_init : ByteArray := prog_5_method_1_code
def yX3_init : MethodName := ⟨RX3, "<init>", "()V"⟩
abbrev cX3_leastCells : ByteArray := prog_5_method_2_code
def yX3_leastCells : MethodName := ⟨RX3, "leastCells", "(II)I"⟩
abbrev cX3_search : ByteArray := prog_5_method_3_code
def yX3_search : MethodName := ⟨RX3, "search", "(III)V"⟩
abbrev cX3_openWay : ByteArray := prog_5_method_4_code
def yX3_openWay : MethodName := ⟨RX3, "openWay", "(I)I"⟩
abbrev cX3_wayBack : ByteArray := prog_5_method_5_code
def yX3_wayBack : MethodName := ⟨RX3, "wayBack", "(I)I"⟩
def RX4 : String := "EatenMaps$Nights"
def TX4 : u_T := fun k => match k with
  | 0 => ("EatenMaps$Nights", "after", "LEatenMaps$Duchy;", true)
  | 1 => ("EatenMaps$Nights", "acts", "I", false)
  | 2 => ("EatenMaps$Nights", "why", "I", false)
  | 3 => ("EatenMaps$Nights", "passed", "I", false)
  | 4 => ("EatenMaps$Nights", "townNight", "I", false)
  | _ => ("EatenMaps$Nights", "town", "I", false)
def tyX4 : Nat → FieldType := fun k => match k with
  | 0 => .object "EatenMaps$Duchy"
  | 1 => .int
  | 2 => .int
  | 3 => .int
  | 4 => .int
  | _ => .int
abbrev wsX40 : List Cond := u_ws RX4 TX4 6
theorem nmX4 : ∀ a, a < 6 → ∀ b, b < 6 → a ≠ b → (TX4 a).2.1 ≠ (TX4 b).2.1 := by decide +kernel
theorem tyX4_ok : ∀ k, k < 6 → parseFieldDescriptor (TX4 k).2.2.1 = some (tyX4 k) := by decide +kernel
abbrev cX4_init : ByteArray := prog_6_method_1_code
def yX4_init : MethodName := ⟨RX4, "<init>", "()V"⟩
abbrev cX4_tell : ByteArray := prog_6_method_2_code
def yX4_tell : MethodName := ⟨RX4, "tell", "(LEatenMaps$Pad;LEatenMaps$Duchy;)V"⟩
abbrev cX4_attempt : ByteArray := prog_6_method_3_code
def yX4_attempt : MethodName := ⟨RX4, "attempt", "(III)I"⟩
abbrev cX4_attemptDeed : ByteArray := prog_6_method_4_code
def yX4_attemptDeed : MethodName := ⟨RX4, "attemptDeed", "(II)I"⟩
abbrev cX4_note : ByteArray := prog_6_method_5_code
def yX4_note : MethodName := ⟨RX4, "note", "(I)V"⟩
def RX5 : String := "EatenMaps$Pad"
def TX5 : u_T := fun k => match k with
  | 0 => ("EatenMaps$Pad", "signs", "[I", true)
  | _ => ("EatenMaps$Pad", "size", "I", false)
def tyX5 : Nat → FieldType := fun k => match k with
  | 0 => .array .int
  | _ => .int
abbrev wsX50 : List Cond := u_ws RX5 TX5 2
theorem nmX5 : ∀ a, a < 2 → ∀ b, b < 2 → a ≠ b → (TX5 a).2.1 ≠ (TX5 b).2.1 := by decide +kernel
theorem tyX5_ok : ∀ k, k < 2 → parseFieldDescriptor (TX5 k).2.2.1 = some (tyX5 k) := by decide +kernel
abbrev cX5_init : ByteArray := prog_7_method_1_code
def yX5_init : MethodName := ⟨RX5, "<init>", "()V"⟩
abbrev cX5_append : ByteArray := prog_7_method_2_code
def yX5_append : MethodName := ⟨RX5, "append", "(I)Z"⟩
abbrev cX5_clear : ByteArray := prog_7_method_3_code
def yX5_clear : MethodName := ⟨RX5, "clear", "()I"⟩
abbrev cX5_signAt : ByteArray := prog_7_method_4_code
def yX5_signAt : MethodName := ⟨RX5, "signAt", "(I)I"⟩
abbrev cX5_firstWrong : ByteArray := prog_7_method_5_code
def yX5_firstWrong : MethodName := ⟨RX5, "firstWrong", "()I"⟩
abbrev cX5_dueBehind : ByteArray := prog_7_method_6_code
def yX5_dueBehind : MethodName := ⟨RX5, "dueBehind", "(II)I"⟩
abbrev cX5_dueBehindFirst : ByteArray := prog_7_method_7_code
def yX5_dueBehindFirst : MethodName := ⟨RX5, "dueBehindFirst", "(I)I"⟩
abbrev cX5_headOf : ByteArray := prog_7_method_8_code
def yX5_headOf : MethodName := ⟨RX5, "headOf", "(I)I"⟩
abbrev cX5_actLength : ByteArray := prog_7_method_9_code
def yX5_actLength : MethodName := ⟨RX5, "actLength", "(I)I"⟩
def RX6 : String := "EatenMaps$Roads"
def TX6 : u_T := fun k => match k with
  | 0 => ("EatenMaps$Roads", "costs", "[I", true)
  | _ => ("EatenMaps$Roads", "settled", "[Z", true)
def tyX6 : Nat → FieldType := fun k => match k with
  | 0 => .array .int
  | _ => .array .boolean
abbrev wsX60 : List Cond := u_ws RX6 TX6 2
theorem nmX6 : ∀ a, a < 2 → ∀ b, b < 2 → a ≠ b → (TX6 a).2.1 ≠ (TX6 b).2.1 := by decide +kernel
theorem tyX6_ok : ∀ k, k < 2 → parseFieldDescriptor (TX6 k).2.2.1 = some (tyX6 k) := by decide +kernel
abbrev cX6_init : ByteArray := prog_8_method_1_code
def yX6_init : MethodName := ⟨RX6, "<init>", "()V"⟩
abbrev cX6_leastCost : ByteArray := prog_8_method_2_code
def yX6_leastCost : MethodName := ⟨RX6, "leastCost", "([III)I"⟩
abbrev cX6_costOfLand : ByteArray := prog_8_method_3_code
def yX6_costOfLand : MethodName := ⟨RX6, "costOfLand", "(I)I"⟩
abbrev cX6_nearest : ByteArray := prog_8_method_4_code
def yX6_nearest : MethodName := ⟨RX6, "nearest", "()I"⟩
abbrev cX6_spreadFrom : ByteArray := prog_8_method_5_code
def yX6_spreadFrom : MethodName := ⟨RX6, "spreadFrom", "(I[I)V"⟩
def RX7 : String := "EatenMaps$Tracker"
def TX7 : u_T := fun k => match k with
  | 0 => ("EatenMaps$Tracker", "next", "[I", true)
  | 1 => ("EatenMaps$Tracker", "starts", "[I", true)
  | 2 => ("EatenMaps$Tracker", "stands", "[I", true)
  | 3 => ("EatenMaps$Tracker", "cellsSeen", "[I", true)
  | 4 => ("EatenMaps$Tracker", "inCell", "[I", true)
  | 5 => ("EatenMaps$Tracker", "fitting", "I", false)
  | 6 => ("EatenMaps$Tracker", "bestNight", "I", false)
  | _ => ("EatenMaps$Tracker", "mostLeft", "I", false)
def tyX7 : Nat → FieldType := fun k => match k with
  | 0 => .array .int
  | 1 => .array .int
  | 2 => .array .int
  | 3 => .array .int
  | 4 => .array .int
  | 5 => .int
  | 6 => .int
  | _ => .int
abbrev wsX70 : List Cond := u_ws RX7 TX7 8
theorem nmX7 : ∀ a, a < 8 → ∀ b, b < 8 → a ≠ b → (TX7 a).2.1 ≠ (TX7 b).2.1 := by decide +kernel
theorem tyX7_ok : ∀ k, k < 8 → parseFieldDescriptor (TX7 k).2.2.1 = some (tyX7 k) := by decide +kernel
abbrev cX7_init : ByteArray := prog_9_method_1_code
def yX7_init : MethodName := ⟨RX7, "<init>", "()V"⟩
abbrev cX7_standBehind : ByteArray := prog_9_method_2_code
def yX7_standBehind : MethodName := ⟨RX7, "standBehind", "(I)I"⟩
abbrev cX7_gather : ByteArray := prog_9_method_3_code
def yX7_gather : MethodName := ⟨RX7, "gather", "(LEatenMaps$Duchy;)V"⟩
abbrev cX7_readSights : ByteArray := prog_9_method_4_code
def yX7_readSights : MethodName := ⟨RX7, "readSights", "(LEatenMaps$Duchy;)V"⟩
abbrev cX7_fits : ByteArray := prog_9_method_5_code
def yX7_fits : MethodName := ⟨RX7, "fits", "(I)Z"⟩
abbrev cX7_toldStart : ByteArray := prog_9_method_6_code
def yX7_toldStart : MethodName := ⟨RX7, "toldStart", "(I)I"⟩
abbrev cX7_chooseNight : ByteArray := prog_9_method_7_code
def yX7_chooseNight : MethodName := ⟨RX7, "chooseNight", "()V"⟩
abbrev cX7_mostInOneCell : ByteArray := prog_9_method_8_code
def yX7_mostInOneCell : MethodName := ⟨RX7, "mostInOneCell", "()I"⟩
def RX8 : String := "EatenMaps"
def TX8 : u_T := fun k => match k with
  | 0 => ("EatenMaps", "now", "LEatenMaps$Duchy;", true)
  | 1 => ("EatenMaps", "spare", "LEatenMaps$Duchy;", true)
  | 2 => ("EatenMaps", "images", "[LEatenMaps$Duchy;", true)
  | 3 => ("EatenMaps", "kept", "[Z", true)
  | 4 => ("EatenMaps", "pad", "LEatenMaps$Pad;", true)
  | 5 => ("EatenMaps", "outcome", "LEatenMaps$Nights;", true)
  | 6 => ("EatenMaps", "roads", "LEatenMaps$Roads;", true)
  | 7 => ("EatenMaps", "ministry", "LEatenMaps$Ministry;", true)
  | 8 => ("EatenMaps", "darner", "LEatenMaps$Darner;", true)
  | 9 => ("EatenMaps", "tracker", "LEatenMaps$Tracker;", true)
  | _ => ("EatenMaps", "marsh", "LEatenMaps$Marsh;", true)
def tyX8 : Nat → FieldType := fun k => match k with
  | 0 => .object "EatenMaps$Duchy"
  | 1 => .object "EatenMaps$Duchy"
  | 2 => .array (.object "EatenMaps$Duchy")
  | 3 => .array .boolean
  | 4 => .object "EatenMaps$Pad"
  | 5 => .object "EatenMaps$Nights"
  | 6 => .object "EatenMaps$Roads"
  | 7 => .object "EatenMaps$Ministry"
  | 8 => .object "EatenMaps$Darner"
  | 9 => .object "EatenMaps$Tracker"
  | _ => .object "EatenMaps$Marsh"
abbrev wsX80 : List Cond := u_ws RX8 TX8 11
theorem nmX8 : ∀ a, a < 11 → ∀ b, b < 11 → a ≠ b → (TX8 a).2.1 ≠ (TX8 b).2.1 := by decide +kernel
theorem tyX8_ok : ∀ k, k < 11 → parseFieldDescriptor (TX8 k).2.2.1 = some (tyX8 k) := by decide +kernel
abbrev cX8_init : ByteArray := prog_1_method_1_code
def yX8_init : MethodName := ⟨RX8, "<init>", "()V"⟩
abbrev cX8_land : ByteArray := prog_1_method_2_code
def yX8_land : MethodName := ⟨RX8, "land", "(II)I"⟩
abbrev cX8_camphor : ByteArray := prog_1_method_3_code
def yX8_camphor : MethodName := ⟨RX8, "camphor", "(II)I"⟩
abbrev cX8_moth : ByteArray := prog_1_method_4_code
def yX8_moth : MethodName := ⟨RX8, "moth", "(III)I"⟩
abbrev cX8_spool : ByteArray := prog_1_method_5_code
def yX8_spool : MethodName := ⟨RX8, "spool", "(II)I"⟩
abbrev cX8_say : ByteArray := prog_1_method_6_code
def yX8_say : MethodName := ⟨RX8, "say", "(I)I"⟩
abbrev cX8_wipe : ByteArray := prog_1_method_7_code
def yX8_wipe : MethodName := ⟨RX8, "wipe", "()I"⟩
abbrev cX8_fault : ByteArray := prog_1_method_8_code
def yX8_fault : MethodName := ⟨RX8, "fault", "()I"⟩
abbrev cX8_judge : ByteArray := prog_1_method_9_code
def yX8_judge : MethodName := ⟨RX8, "judge", "(I)I"⟩
abbrev cX8_done : ByteArray := prog_1_method_10_code
def yX8_done : MethodName := ⟨RX8, "done", "()I"⟩
abbrev cX8_behind : ByteArray := prog_1_method_11_code
def yX8_behind : MethodName := ⟨RX8, "behind", "(II)I"⟩
abbrev cX8_flies : ByteArray := prog_1_method_12_code
def yX8_flies : MethodName := ⟨RX8, "flies", "(II)I"⟩
abbrev cX8_then : ByteArray := prog_1_method_13_code
def yX8_then : MethodName := ⟨RX8, "then", "(I)I"⟩
abbrev cX8_road : ByteArray := prog_1_method_14_code
def yX8_road : MethodName := ⟨RX8, "road", "(II)I"⟩
abbrev cX8_whole : ByteArray := prog_1_method_15_code
def yX8_whole : MethodName := ⟨RX8, "whole", "(III)I"⟩
abbrev cX8_camphored : ByteArray := prog_1_method_16_code
def yX8_camphored : MethodName := ⟨RX8, "camphored", "(II)I"⟩
abbrev cX8_darned : ByteArray := prog_1_method_17_code
def yX8_darned : MethodName := ⟨RX8, "darned", "(I)I"⟩
abbrev cX8_sheet : ByteArray := prog_1_method_18_code
def yX8_sheet : MethodName := ⟨RX8, "sheet", "(II)I"⟩
abbrev cX8_seen : ByteArray := prog_1_method_19_code
def yX8_seen : MethodName := ⟨RX8, "seen", "(II)I"⟩
abbrev cX8_forget : ByteArray := prog_1_method_20_code
def yX8_forget : MethodName := ⟨RX8, "forget", "()I"⟩
abbrev cX8_began : ByteArray := prog_1_method_21_code
def yX8_began : MethodName := ⟨RX8, "began", "(I)I"⟩
abbrev cX8_ask : ByteArray := prog_1_method_22_code
def yX8_ask : MethodName := ⟨RX8, "ask", "(I)I"⟩
abbrev cX8_folds : ByteArray := prog_1_method_23_code
def yX8_folds : MethodName := ⟨RX8, "folds", "(II)I"⟩
abbrev cX8_coffee : ByteArray := prog_1_method_24_code
def yX8_coffee : MethodName := ⟨RX8, "coffee", "(IIIIIII)J"⟩
abbrev cX8_year : ByteArray := prog_1_method_25_code
def yX8_year : MethodName := ⟨RX8, "year", "(III)I"⟩
abbrev cX8_image : ByteArray := prog_1_method_26_code
def yX8_image : MethodName := ⟨RX8, "image", "(I)I"⟩
abbrev cX8_restore : ByteArray := prog_1_method_27_code
def yX8_restore : MethodName := ⟨RX8, "restore", "(I)I"⟩
abbrev cX8_told : ByteArray := prog_1_method_28_code
def yX8_told : MethodName := ⟨RX8, "told", "(I)I"⟩
abbrev cX8_toldOfOne : ByteArray := prog_1_method_29_code
def yX8_toldOfOne : MethodName := ⟨RX8, "toldOfOne", "(I)I"⟩
abbrev cX8_nightsCanBe : ByteArray := prog_1_method_30_code
def yX8_nightsCanBe : MethodName := ⟨RX8, "nightsCanBe", "()Z"⟩
abbrev cX8_winningPart : ByteArray := prog_1_method_31_code
def yX8_winningPart : MethodName := ⟨RX8, "winningPart", "(I)I"⟩
abbrev cX8_areFourLands : ByteArray := prog_1_method_32_code
def yX8_areFourLands : MethodName := ⟨RX8, "areFourLands", "(I)Z"⟩
abbrev cX8_greatestCommon : ByteArray := prog_1_method_33_code
def yX8_greatestCommon : MethodName := ⟨RX8, "greatestCommon", "(JJ)J"⟩
abbrev cX8_within : ByteArray := prog_1_method_34_code
def yX8_within : MethodName := ⟨RX8, "within", "(III)Z"⟩
abbrev cX8_isCell : ByteArray := prog_1_method_35_code
def yX8_isCell : MethodName := ⟨RX8, "isCell", "(I)Z"⟩
abbrev cX8_isMoth : ByteArray := prog_1_method_36_code
def yX8_isMoth : MethodName := ⟨RX8, "isMoth", "(I)Z"⟩
abbrev cX8_isWay : ByteArray := prog_1_method_37_code
def yX8_isWay : MethodName := ⟨RX8, "isWay", "(I)Z"⟩
abbrev cX8_isThread : ByteArray := prog_1_method_38_code
def yX8_isThread : MethodName := ⟨RX8, "isThread", "(I)Z"⟩
abbrev cX8_beside : ByteArray := prog_1_method_39_code
def yX8_beside : MethodName := ⟨RX8, "beside", "(II)I"⟩
abbrev cX8_allBeside : ByteArray := prog_1_method_40_code
def yX8_allBeside : MethodName := ⟨RX8, "allBeside", "(I)I"⟩
def RX9 : String := "EatenMapsModel"
def TX9 : u_T := fun k => match k with
  | 0 => ("EatenMapsModel", "book", "[I", true)
  | 1 => ("EatenMapsModel", "now", "[I", true)
  | 2 => ("EatenMapsModel", "sights", "I", false)
  | 3 => ("EatenMapsModel", "sight", "[I", true)
  | 4 => ("EatenMapsModel", "signs", "I", false)
  | 5 => ("EatenMapsModel", "pad", "[I", true)
  | 6 => ("EatenMapsModel", "nights", "I", false)
  | 7 => ("EatenMapsModel", "townAt", "I", false)
  | 8 => ("EatenMapsModel", "townCell", "I", false)
  | 9 => ("EatenMapsModel", "reason", "I", false)
  | 10 => ("EatenMapsModel", "acts", "I", false)
  | 11 => ("EatenMapsModel", "at", "I", false)
  | 12 => ("EatenMapsModel", "cost", "[I", true)
  | 13 => ("EatenMapsModel", "hole", "[I", true)
  | 14 => ("EatenMapsModel", "counts", "[I", true)
  | 15 => ("EatenMapsModel", "worth", "[I", true)
  | 16 => ("EatenMapsModel", "met", "[I", true)
  | 17 => ("EatenMapsModel", "ways", "[J", true)
  | 18 => ("EatenMapsModel", "nextWays", "[J", true)
  | 19 => ("EatenMapsModel", "image", "[I", true)
  | _ => ("EatenMapsModel", "isKept", "[Z", true)
def tyX9 : Nat → FieldType := fun k => match k with
  | 0 => .array .int
  | 1 => .array .int
  | 2 => .int
  | 3 => .array .int
  | 4 => .int
  | 5 => .array .int
  | 6 => .int
  | 7 => .int
  | 8 => .int
  | 9 => .int
  | 10 => .int
  | 11 => .int
  | 12 => .array .int
  | 13 => .array .int
  | 14 => .array .int
  | 15 => .array .int
  | 16 => .array .int
  | 17 => .array .long
  | 18 => .array .long
  | 19 => .array .int
  | _ => .array .boolean
abbrev wsX90 : List Cond := u_ws RX9 TX9 21
theorem nmX9 : ∀ a, a < 21 → ∀ b, b < 21 → a ≠ b → (TX9 a).2.1 ≠ (TX9 b).2.1 := by decide +kernel
theorem tyX9_ok : ∀ k, k < 21 → parseFieldDescriptor (TX9 k).2.2.1 = some (tyX9 k) := by decide +kernel
abbrev cX9_init : ByteArray := prog_11_method_1_code
def yX9_init : MethodName := ⟨RX9, "<init>", "()V"⟩
abbrev cX9_in : ByteArray := prog_11_method_2_code
def yX9_in : MethodName := ⟨RX9, "in", "(III)Z"⟩
abbrev cX9_has : ByteArray := prog_11_method_3_code
def yX9_has : MethodName := ⟨RX9, "has", "(II)Z"⟩
abbrev cX9_isCell : ByteArray := prog_11_method_4_code
def yX9_isCell : MethodName := ⟨RX9, "isCell", "(I)Z"⟩
abbrev cX9_isThere : ByteArray := prog_11_method_5_code
def yX9_isThere : MethodName := ⟨RX9, "isThere", "(I)Z"⟩
abbrev cX9_beside : ByteArray := prog_11_method_6_code
def yX9_beside : MethodName := ⟨RX9, "beside", "(II)I"⟩
abbrev cX9_land : ByteArray := prog_11_method_7_code
def yX9_land : MethodName := ⟨RX9, "land", "(II)I"⟩
abbrev cX9_camphor : ByteArray := prog_11_method_8_code
def yX9_camphor : MethodName := ⟨RX9, "camphor", "(II)I"⟩
abbrev cX9_moth : ByteArray := prog_11_method_9_code
def yX9_moth : MethodName := ⟨RX9, "moth", "(III)I"⟩
abbrev cX9_spool : ByteArray := prog_11_method_10_code
def yX9_spool : MethodName := ⟨RX9, "spool", "(II)I"⟩
abbrev cX9_say : ByteArray := prog_11_method_11_code
def yX9_say : MethodName := ⟨RX9, "say", "(I)I"⟩
abbrev cX9_wipe : ByteArray := prog_11_method_12_code
def yX9_wipe : MethodName := ⟨RX9, "wipe", "()I"⟩
abbrev cX9_wayOf : ByteArray := prog_11_method_13_code
def yX9_wayOf : MethodName := ⟨RX9, "wayOf", "(I)I"⟩
abbrev cX9_step : ByteArray := prog_11_method_14_code
def yX9_step : MethodName := ⟨RX9, "step", "(II)I"⟩
abbrev cX9_faultOf : ByteArray := prog_11_method_15_code
def yX9_faultOf : MethodName := ⟨RX9, "faultOf", "()I"⟩
abbrev cX9_fault : ByteArray := prog_11_method_16_code
def yX9_fault : MethodName := ⟨RX9, "fault", "()I"⟩
abbrev cX9_asNow : ByteArray := prog_11_method_17_code
def yX9_asNow : MethodName := ⟨RX9, "asNow", "()V"⟩
abbrev cX9_flying : ByteArray := prog_11_method_18_code
def yX9_flying : MethodName := ⟨RX9, "flying", "(I)Z"⟩
abbrev cX9_turn : ByteArray := prog_11_method_19_code
def yX9_turn : MethodName := ⟨RX9, "turn", "(II)I"⟩
abbrev cX9_catchIt : ByteArray := prog_11_method_20_code
def yX9_catchIt : MethodName := ⟨RX9, "catchIt", "(I)I"⟩
abbrev cX9_strew : ByteArray := prog_11_method_21_code
def yX9_strew : MethodName := ⟨RX9, "strew", "(I)I"⟩
abbrev cX9_darn : ByteArray := prog_11_method_22_code
def yX9_darn : MethodName := ⟨RX9, "darn", "(II)I"⟩
abbrev cX9_fly : ByteArray := prog_11_method_23_code
def yX9_fly : MethodName := ⟨RX9, "fly", "(I)V"⟩
abbrev cX9_endNight : ByteArray := prog_11_method_24_code
def yX9_endNight : MethodName := ⟨RX9, "endNight", "()I"⟩
abbrev cX9_nextAct : ByteArray := prog_11_method_25_code
def yX9_nextAct : MethodName := ⟨RX9, "nextAct", "()I"⟩
abbrev cX9_goNights : ByteArray := prog_11_method_26_code
def yX9_goNights : MethodName := ⟨RX9, "goNights", "()I"⟩
abbrev cX9_judge : ByteArray := prog_11_method_27_code
def yX9_judge : MethodName := ⟨RX9, "judge", "(I)I"⟩
abbrev cX9_barOfNights : ByteArray := prog_11_method_28_code
def yX9_barOfNights : MethodName := ⟨RX9, "barOfNights", "()I"⟩
abbrev cX9_done : ByteArray := prog_11_method_29_code
def yX9_done : MethodName := ⟨RX9, "done", "()I"⟩
abbrev cX9_behind : ByteArray := prog_11_method_30_code
def yX9_behind : MethodName := ⟨RX9, "behind", "(II)I"⟩
abbrev cX9_flies : ByteArray := prog_11_method_31_code
def yX9_flies : MethodName := ⟨RX9, "flies", "(II)I"⟩
abbrev cX9_countOf : ByteArray := prog_11_method_32_code
def yX9_countOf : MethodName := ⟨RX9, "countOf", "(I)I"⟩
abbrev cX9_then : ByteArray := prog_11_method_33_code
def yX9_then : MethodName := ⟨RX9, "then", "(I)I"⟩
abbrev cX9_layRoads : ByteArray := prog_11_method_34_code
def yX9_layRoads : MethodName := ⟨RX9, "layRoads", "(I)V"⟩
abbrev cX9_road : ByteArray := prog_11_method_35_code
def yX9_road : MethodName := ⟨RX9, "road", "(II)I"⟩
abbrev cX9_whole : ByteArray := prog_11_method_36_code
def yX9_whole : MethodName := ⟨RX9, "whole", "(III)I"⟩
abbrev cX9_isSafe : ByteArray := prog_11_method_37_code
def yX9_isSafe : MethodName := ⟨RX9, "isSafe", "(II)Z"⟩
abbrev cX9_bits : ByteArray := prog_11_method_38_code
def yX9_bits : MethodName := ⟨RX9, "bits", "(I)I"⟩
abbrev cX9_tryShut : ByteArray := prog_11_method_39_code
def yX9_tryShut : MethodName := ⟨RX9, "tryShut", "(III)I"⟩
abbrev cX9_camphored : ByteArray := prog_11_method_40_code
def yX9_camphored : MethodName := ⟨RX9, "camphored", "(II)I"⟩
abbrev cX9_darned : ByteArray := prog_11_method_41_code
def yX9_darned : MethodName := ⟨RX9, "darned", "(I)I"⟩
abbrev cX9_threadOf : ByteArray := prog_11_method_42_code
def yX9_threadOf : MethodName := ⟨RX9, "threadOf", "(III)I"⟩
abbrev cX9_canDarn : ByteArray := prog_11_method_43_code
def yX9_canDarn : MethodName := ⟨RX9, "canDarn", "(II)Z"⟩
abbrev cX9_sheet : ByteArray := prog_11_method_44_code
def yX9_sheet : MethodName := ⟨RX9, "sheet", "(II)I"⟩
abbrev cX9_seen : ByteArray := prog_11_method_45_code
def yX9_seen : MethodName := ⟨RX9, "seen", "(II)I"⟩
abbrev cX9_forget : ByteArray := prog_11_method_46_code
def yX9_forget : MethodName := ⟨RX9, "forget", "()I"⟩
abbrev cX9_cellAfter : ByteArray := prog_11_method_47_code
def yX9_cellAfter : MethodName := ⟨RX9, "cellAfter", "(II)I"⟩
abbrev cX9_isFit : ByteArray := prog_11_method_48_code
def yX9_isFit : MethodName := ⟨RX9, "isFit", "(I)Z"⟩
abbrev cX9_began : ByteArray := prog_11_method_49_code
def yX9_began : MethodName := ⟨RX9, "began", "(I)I"⟩
abbrev cX9_ask : ByteArray := prog_11_method_50_code
def yX9_ask : MethodName := ⟨RX9, "ask", "(I)I"⟩
abbrev cX9_folds : ByteArray := prog_11_method_51_code
def yX9_folds : MethodName := ⟨RX9, "folds", "(II)I"⟩
abbrev cX9_coffee : ByteArray := prog_11_method_52_code
def yX9_coffee : MethodName := ⟨RX9, "coffee", "(IIIIIII)J"⟩
abbrev cX9_year : ByteArray := prog_11_method_53_code
def yX9_year : MethodName := ⟨RX9, "year", "(III)I"⟩
abbrev cX9_image : ByteArray := prog_11_method_54_code
def yX9_image : MethodName := ⟨RX9, "image", "(I)I"⟩
abbrev cX9_restore : ByteArray := prog_11_method_55_code
def yX9_restore : MethodName := ⟨RX9, "restore", "(I)I"⟩
abbrev cX9_told : ByteArray := prog_11_method_56_code
def yX9_told : MethodName := ⟨RX9, "told", "(I)I"⟩
def RJ6 : String := "java/lang/Integer"
abbrev cJ6_lowestOneBit_0f7a4 : ByteArray := prog_12_method_46_code
def yJ6_lowestOneBit_0f7a4 : MethodName := ⟨RJ6, "lowestOneBit", "(I)I"⟩
abbrev cJ6_bitCount_0f7a4 : ByteArray := prog_12_method_49_code
def yJ6_bitCount_0f7a4 : MethodName := ⟨RJ6, "bitCount", "(I)I"⟩
def RJ9 : String := "java/lang/Math"
abbrev cJ9_max_7cf53 : ByteArray := prog_13_method_65_code
def yJ9_max_7cf53 : MethodName := ⟨RJ9, "max", "(II)I"⟩
abbrev cJ9_min_7cf53 : ByteArray := prog_13_method_69_code
def yJ9_min_7cf53 : MethodName := ⟨RJ9, "min", "(II)I"⟩
def RL : String := "EatenMapsLaw"
abbrev cL_law : ByteArray := code
def yL_law : MethodName := ⟨RL, "law", "([I)Z"⟩
abbrev vwCl : List vw_C := [(RX0, TX0, 7), (RX1, TX1, 11), (RX2, TX2, 3), (RX3, TX3, 4), (RX4, TX4, 6), (RX5, TX5, 2), (RX6, TX6, 2), (RX7, TX7, 8), (RX8, TX8, 11), (RX9, TX9, 21)]
