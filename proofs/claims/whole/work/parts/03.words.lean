/-! ===== BASE: the good words of the tables, one world of cells, calls in place ===== -/
def tbG : List Cond := lw_tbl.filter goodWord
theorem tb_in {w : Cond} (h : w ∈ lw_tbl) (g : goodWord w = true) : w ∈ tbG := List.mem_filter.mpr ⟨h, g⟩
theorem tb_good {w : Cond} (h : w ∈ tbG) : goodWord w = true := (List.mem_filter.mp h).2
theorem tb_GI {ws : List Cond} (h : ∀ w ∈ ws, w ∈ tbG) : GoodIn tbG ws := fun w hw => ⟨h w hw, good_of_word (tb_good (h w hw))⟩
theorem tb_cons {c : Cond} (hc : c ∈ tbG) : ∀ w ∈ c :: tbG, w ∈ tbG := fun w hw => (List.mem_cons.mp hw).elim (fun e => e ▸ hc) id
/-- nest mates' links -/
def nWq : List (String × Nat × MethodName × String) := [(RX8, 29, yX5_init, RX8), (RX8, 36, yX4_init, RX8), (RX8, 43, yX6_init, RX8), (RX8, 50, yX3_init, RX8), (RX8, 57, yX0_init, RX8), (RX7, 31, yX8_beside, RX8), (RX7, 35, yX8_isCell, RX8), (RX8, 71, yX2_init, RX8), (RX5, 40, yX8_isMoth, RX8), (RX5, 33, yX8_isCell, RX8), (RX5, 37, yX8_isThread, RX8), (RX1, 56, yX8_beside, RX8), (RX1, 60, yX8_isCell, RX8), (RX1, 67, yX8_isThread, RX8), (RX6, 28, yX8_isCell, RX8), (RX6, 36, yX8_beside, RX8), (RX3, 22, yX8_allBeside, RX8), (RX0, 22, yX8_allBeside, RX8), (RX7, 61, yX8_within, RX8)]
def nW (U : State) : Prop := ∀ q ∈ nWq, va_Nw (.methodLinkNest q.1 q.2.1 q.2.2.1 q.2.2.2) U
theorem nW.warm {s U : State} (hW : s.WarmedH U.vm) (h : nW s) : nW U := fun q hq => va_Nw.warmM hW (h q hq)
theorem nW.call {U V : State} (e : U.vm = V.vm) (h : nW U) : nW V := fun q hq => va_Nw.same rfl e (h q hq)
theorem wz_L : Cond.initialized RL ∈ tbG := tb_in (List.mem_append_right _ (List.mem_of_getElem? (i := 0) (by decide +kernel))) rfl
theorem wz_X8 : Cond.initialized RX8 ∈ tbG := tb_in (List.mem_append_right _ (List.mem_of_getElem? (i := 1) (by decide +kernel))) rfl
theorem wz_X1 : Cond.initialized RX1 ∈ tbG := tb_in (List.mem_append_right _ (List.mem_of_getElem? (i := 2) (by decide +kernel))) rfl
theorem wz_X5 : Cond.initialized RX5 ∈ tbG := tb_in (List.mem_append_right _ (List.mem_of_getElem? (i := 3) (by decide +kernel))) rfl
theorem wz_X4 : Cond.initialized RX4 ∈ tbG := tb_in (List.mem_append_right _ (List.mem_of_getElem? (i := 4) (by decide +kernel))) rfl
theorem wz_X6 : Cond.initialized RX6 ∈ tbG := tb_in (List.mem_append_right _ (List.mem_of_getElem? (i := 5) (by decide +kernel))) rfl
theorem wz_X3 : Cond.initialized RX3 ∈ tbG := tb_in (List.mem_append_right _ (List.mem_of_getElem? (i := 6) (by decide +kernel))) rfl
theorem wz_X0 : Cond.initialized RX0 ∈ tbG := tb_in (List.mem_append_right _ (List.mem_of_getElem? (i := 7) (by decide +kernel))) rfl
theorem wz_X7 : Cond.initialized RX7 ∈ tbG := tb_in (List.mem_append_right _ (List.mem_of_getElem? (i := 8) (by decide +kernel))) rfl
theorem wz_X2 : Cond.initialized RX2 ∈ tbG := tb_in (List.mem_append_right _ (List.mem_of_getElem? (i := 9) (by decide +kernel))) rfl
theorem wz_X9 : Cond.initialized RX9 ∈ tbG := tb_in (List.mem_append_right _ (List.mem_of_getElem? (i := 10) (by decide +kernel))) rfl
theorem wz_J6 : Cond.initialized RJ6 ∈ tbG := tb_in (List.mem_append_right _ (List.mem_of_getElem? (i := 11) (by decide +kernel))) rfl
theorem wz_J9 : Cond.initialized RJ9 ∈ tbG := tb_in (List.mem_append_right _ (List.mem_of_getElem? (i := 12) (by decide +kernel))) rfl
theorem wq_L_7 : Cond.classLink RL 7 RX8 ∈ tbG := tb_in (List.mem_append_right _ (List.mem_of_getElem? (i := 13) (by decide +kernel))) rfl
theorem wn_X8 : Cond.instantiable RX8 11 ∈ tbG := tb_in (List.mem_append_right _ (List.mem_of_getElem? (i := 14) (by decide +kernel))) rfl
theorem wm_L_9 : Cond.methodLink RL 9 yX8_init ∈ tbG := tb_in (List.mem_append_right _ (List.mem_of_getElem? (i := 15) (by decide +kernel))) rfl
theorem wi_X8_init : Cond.instanceMethod yX8_init ∈ tbG := tb_in (List.mem_append_right _ (List.mem_of_getElem? (i := 16) (by decide +kernel))) rfl
theorem wc_X8_init : Cond.code yX8_init cX8_init 2 none ∈ tbG := tb_in (List.mem_append_right _ (List.mem_of_getElem? (i := 17) (by decide +kernel))) rfl
theorem wm_X8_1 : Cond.methodLink RX8 1 objectInit ∈ tbG := tb_in (List.mem_append_right _ (List.mem_of_getElem? (i := 18) (by decide +kernel))) rfl
theorem wi_bjectInit : Cond.instanceMethod objectInit ∈ tbG := tb_in (List.mem_append_right _ (List.mem_of_getElem? (i := 19) (by decide +kernel))) rfl
theorem wc_objectInit : Cond.code objectInit ⟨#[0xb1]⟩ 1 none ∈ tbG := tb_in (List.mem_append_right _ (List.mem_of_getElem? (i := 20) (by decide +kernel))) rfl
theorem wq_X8_7 : Cond.classLink RX8 7 RX1 ∈ tbG := tb_in (List.mem_append_right _ (List.mem_of_getElem? (i := 21) (by decide +kernel))) rfl
theorem wn_X1 : Cond.instantiable RX1 11 ∈ tbG := tb_in (List.mem_append_right _ (List.mem_of_getElem? (i := 22) (by decide +kernel))) rfl
theorem wm_X8_9 : Cond.methodLink RX8 9 yX1_init ∈ tbG := tb_in (List.mem_append_right _ (List.mem_of_getElem? (i := 23) (by decide +kernel))) rfl
theorem wi_X1_init : Cond.instanceMethod yX1_init ∈ tbG := tb_in (List.mem_append_right _ (List.mem_of_getElem? (i := 24) (by decide +kernel))) rfl
theorem wc_X1_init : Cond.code yX1_init cX1_init 2 none ∈ tbG := tb_in (List.mem_append_right _ (List.mem_of_getElem? (i := 25) (by decide +kernel))) rfl
theorem wm_X1_3 : Cond.methodLink RX1 3 objectInit ∈ tbG := tb_in (List.mem_append_right _ (List.mem_of_getElem? (i := 26) (by decide +kernel))) rfl
theorem wf_X1_9 : Cond.fieldLink RX1 9 "EatenMaps$Duchy" "lands" "[I" ∈ tbG := tb_in (List.mem_append_right _ (List.mem_of_getElem? (i := 27) (by decide +kernel))) rfl
theorem wf_X8_84 : Cond.fieldLink RX8 84 "EatenMaps$Duchy" "lands" "[I" ∈ tbG := tb_in (List.mem_append_right _ (List.mem_of_getElem? (i := 28) (by decide +kernel))) rfl
theorem wf_X1_15 : Cond.fieldLink RX1 15 "EatenMaps$Duchy" "camphors" "[I" ∈ tbG := tb_in (List.mem_append_right _ (List.mem_of_getElem? (i := 29) (by decide +kernel))) rfl
theorem wf_X8_88 : Cond.fieldLink RX8 88 "EatenMaps$Duchy" "camphors" "[I" ∈ tbG := tb_in (List.mem_append_right _ (List.mem_of_getElem? (i := 30) (by decide +kernel))) rfl
theorem wf_X1_18 : Cond.fieldLink RX1 18 "EatenMaps$Duchy" "there" "[Z" ∈ tbG := tb_in (List.mem_append_right _ (List.mem_of_getElem? (i := 31) (by decide +kernel))) rfl
theorem wf_X8_97 : Cond.fieldLink RX8 97 "EatenMaps$Duchy" "there" "[Z" ∈ tbG := tb_in (List.mem_append_right _ (List.mem_of_getElem? (i := 32) (by decide +kernel))) rfl
theorem wf_X1_22 : Cond.fieldLink RX1 22 "EatenMaps$Duchy" "mothCells" "[I" ∈ tbG := tb_in (List.mem_append_right _ (List.mem_of_getElem? (i := 33) (by decide +kernel))) rfl
theorem wf_X8_100 : Cond.fieldLink RX8 100 "EatenMaps$Duchy" "mothCells" "[I" ∈ tbG := tb_in (List.mem_append_right _ (List.mem_of_getElem? (i := 34) (by decide +kernel))) rfl
theorem wf_X1_25 : Cond.fieldLink RX1 25 "EatenMaps$Duchy" "mothHeads" "[I" ∈ tbG := tb_in (List.mem_append_right _ (List.mem_of_getElem? (i := 35) (by decide +kernel))) rfl
theorem wf_X8_103 : Cond.fieldLink RX8 103 "EatenMaps$Duchy" "mothHeads" "[I" ∈ tbG := tb_in (List.mem_append_right _ (List.mem_of_getElem? (i := 36) (by decide +kernel))) rfl
theorem wf_X1_28 : Cond.fieldLink RX1 28 "EatenMaps$Duchy" "threads" "[I" ∈ tbG := tb_in (List.mem_append_right _ (List.mem_of_getElem? (i := 37) (by decide +kernel))) rfl
theorem wf_X8_119 : Cond.fieldLink RX8 119 "EatenMaps$Duchy" "threads" "[I" ∈ tbG := tb_in (List.mem_append_right _ (List.mem_of_getElem? (i := 38) (by decide +kernel))) rfl
theorem wf_X1_31 : Cond.fieldLink RX1 31 "EatenMaps$Duchy" "sightNights" "[I" ∈ tbG := tb_in (List.mem_append_right _ (List.mem_of_getElem? (i := 39) (by decide +kernel))) rfl
theorem wf_X7_55 : Cond.fieldLink RX7 55 "EatenMaps$Duchy" "sightNights" "[I" ∈ tbG := tb_in (List.mem_append_right _ (List.mem_of_getElem? (i := 40) (by decide +kernel))) rfl
theorem wf_X1_34 : Cond.fieldLink RX1 34 "EatenMaps$Duchy" "sightCells" "[I" ∈ tbG := tb_in (List.mem_append_right _ (List.mem_of_getElem? (i := 41) (by decide +kernel))) rfl
theorem wf_X7_58 : Cond.fieldLink RX7 58 "EatenMaps$Duchy" "sightCells" "[I" ∈ tbG := tb_in (List.mem_append_right _ (List.mem_of_getElem? (i := 42) (by decide +kernel))) rfl
theorem wf_X1_41 : Cond.fieldLink RX1 41 "EatenMaps$Duchy" "sights" "I" ∈ tbG := tb_in (List.mem_append_right _ (List.mem_of_getElem? (i := 43) (by decide +kernel))) rfl
theorem wf_X7_50 : Cond.fieldLink RX7 50 "EatenMaps$Duchy" "sights" "I" ∈ tbG := tb_in (List.mem_append_right _ (List.mem_of_getElem? (i := 44) (by decide +kernel))) rfl
theorem wf_X8_209 : Cond.fieldLink RX8 209 "EatenMaps$Duchy" "sights" "I" ∈ tbG := tb_in (List.mem_append_right _ (List.mem_of_getElem? (i := 45) (by decide +kernel))) rfl
theorem wf_X1_44 : Cond.fieldLink RX1 44 "EatenMaps$Duchy" "night" "I" ∈ tbG := tb_in (List.mem_append_right _ (List.mem_of_getElem? (i := 46) (by decide +kernel))) rfl
theorem wf_X8_165 : Cond.fieldLink RX8 165 "EatenMaps$Duchy" "night" "I" ∈ tbG := tb_in (List.mem_append_right _ (List.mem_of_getElem? (i := 47) (by decide +kernel))) rfl
theorem wf_X1_37 : Cond.fieldLink RX1 37 "EatenMaps$Duchy" "eaten" "I" ∈ tbG := tb_in (List.mem_append_right _ (List.mem_of_getElem? (i := 48) (by decide +kernel))) rfl
theorem wf_X4_81 : Cond.fieldLink RX4 81 "EatenMaps$Duchy" "eaten" "I" ∈ tbG := tb_in (List.mem_append_right _ (List.mem_of_getElem? (i := 49) (by decide +kernel))) rfl
theorem wa_int : Cond.arrayClass .int ∈ tbG := tb_in (List.mem_append_right _ (List.mem_of_getElem? (i := 73) (by decide +kernel))) rfl
theorem wa_boolean : Cond.arrayClass .boolean ∈ tbG := tb_in (List.mem_append_right _ (List.mem_of_getElem? (i := 74) (by decide +kernel))) rfl
theorem wq_X8_27 : Cond.classLink RX8 27 RX5 ∈ tbG := tb_in (List.mem_append_right _ (List.mem_of_getElem? (i := 76) (by decide +kernel))) rfl
theorem wn_X5 : Cond.instantiable RX5 2 ∈ tbG := tb_in (List.mem_append_right _ (List.mem_of_getElem? (i := 77) (by decide +kernel))) rfl
theorem wi_X5_init : Cond.instanceMethod yX5_init ∈ tbG := tb_in (List.mem_append_right _ (List.mem_of_getElem? (i := 79) (by decide +kernel))) rfl
theorem wc_X5_init : Cond.code yX5_init cX5_init 1 none ∈ tbG := tb_in (List.mem_append_right _ (List.mem_of_getElem? (i := 80) (by decide +kernel))) rfl
theorem wm_X5_3 : Cond.methodLink RX5 3 objectInit ∈ tbG := tb_in (List.mem_append_right _ (List.mem_of_getElem? (i := 81) (by decide +kernel))) rfl
theorem wf_X5_9 : Cond.fieldLink RX5 9 "EatenMaps$Pad" "signs" "[I" ∈ tbG := tb_in (List.mem_append_right _ (List.mem_of_getElem? (i := 82) (by decide +kernel))) rfl
theorem wf_X5_15 : Cond.fieldLink RX5 15 "EatenMaps$Pad" "size" "I" ∈ tbG := tb_in (List.mem_append_right _ (List.mem_of_getElem? (i := 83) (by decide +kernel))) rfl
theorem wf_X4_38 : Cond.fieldLink RX4 38 "EatenMaps$Pad" "size" "I" ∈ tbG := tb_in (List.mem_append_right _ (List.mem_of_getElem? (i := 84) (by decide +kernel))) rfl
theorem wf_X8_125 : Cond.fieldLink RX8 125 "EatenMaps$Pad" "size" "I" ∈ tbG := tb_in (List.mem_append_right _ (List.mem_of_getElem? (i := 85) (by decide +kernel))) rfl
theorem wq_X8_34 : Cond.classLink RX8 34 RX4 ∈ tbG := tb_in (List.mem_append_right _ (List.mem_of_getElem? (i := 91) (by decide +kernel))) rfl
theorem wn_X4 : Cond.instantiable RX4 6 ∈ tbG := tb_in (List.mem_append_right _ (List.mem_of_getElem? (i := 92) (by decide +kernel))) rfl
theorem wi_X4_init : Cond.instanceMethod yX4_init ∈ tbG := tb_in (List.mem_append_right _ (List.mem_of_getElem? (i := 94) (by decide +kernel))) rfl
theorem wc_X4_init : Cond.code yX4_init cX4_init 1 none ∈ tbG := tb_in (List.mem_append_right _ (List.mem_of_getElem? (i := 95) (by decide +kernel))) rfl
theorem wm_X4_3 : Cond.methodLink RX4 3 objectInit ∈ tbG := tb_in (List.mem_append_right _ (List.mem_of_getElem? (i := 96) (by decide +kernel))) rfl
theorem wq_X4_9 : Cond.classLink RX4 9 RX1 ∈ tbG := tb_in (List.mem_append_right _ (List.mem_of_getElem? (i := 97) (by decide +kernel))) rfl
theorem wm_X4_11 : Cond.methodLink RX4 11 yX1_init ∈ tbG := tb_in (List.mem_append_right _ (List.mem_of_getElem? (i := 98) (by decide +kernel))) rfl
theorem wf_X4_12 : Cond.fieldLink RX4 12 "EatenMaps$Nights" "after" "LEatenMaps$Duchy;" ∈ tbG := tb_in (List.mem_append_right _ (List.mem_of_getElem? (i := 99) (by decide +kernel))) rfl
theorem wf_X8_149 : Cond.fieldLink RX8 149 "EatenMaps$Nights" "after" "LEatenMaps$Duchy;" ∈ tbG := tb_in (List.mem_append_right _ (List.mem_of_getElem? (i := 100) (by decide +kernel))) rfl
theorem wf_X4_22 : Cond.fieldLink RX4 22 "EatenMaps$Nights" "acts" "I" ∈ tbG := tb_in (List.mem_append_right _ (List.mem_of_getElem? (i := 101) (by decide +kernel))) rfl
theorem wf_X8_142 : Cond.fieldLink RX8 142 "EatenMaps$Nights" "acts" "I" ∈ tbG := tb_in (List.mem_append_right _ (List.mem_of_getElem? (i := 102) (by decide +kernel))) rfl
theorem wf_X4_26 : Cond.fieldLink RX4 26 "EatenMaps$Nights" "why" "I" ∈ tbG := tb_in (List.mem_append_right _ (List.mem_of_getElem? (i := 103) (by decide +kernel))) rfl
theorem wf_X8_139 : Cond.fieldLink RX8 139 "EatenMaps$Nights" "why" "I" ∈ tbG := tb_in (List.mem_append_right _ (List.mem_of_getElem? (i := 104) (by decide +kernel))) rfl
theorem wf_X4_29 : Cond.fieldLink RX4 29 "EatenMaps$Nights" "passed" "I" ∈ tbG := tb_in (List.mem_append_right _ (List.mem_of_getElem? (i := 105) (by decide +kernel))) rfl
theorem wf_X4_32 : Cond.fieldLink RX4 32 "EatenMaps$Nights" "townNight" "I" ∈ tbG := tb_in (List.mem_append_right _ (List.mem_of_getElem? (i := 106) (by decide +kernel))) rfl
theorem wf_X8_168 : Cond.fieldLink RX8 168 "EatenMaps$Nights" "townNight" "I" ∈ tbG := tb_in (List.mem_append_right _ (List.mem_of_getElem? (i := 107) (by decide +kernel))) rfl
theorem wf_X4_35 : Cond.fieldLink RX4 35 "EatenMaps$Nights" "town" "I" ∈ tbG := tb_in (List.mem_append_right _ (List.mem_of_getElem? (i := 108) (by decide +kernel))) rfl
theorem wf_X8_171 : Cond.fieldLink RX8 171 "EatenMaps$Nights" "town" "I" ∈ tbG := tb_in (List.mem_append_right _ (List.mem_of_getElem? (i := 109) (by decide +kernel))) rfl
theorem wq_X8_41 : Cond.classLink RX8 41 RX6 ∈ tbG := tb_in (List.mem_append_right _ (List.mem_of_getElem? (i := 123) (by decide +kernel))) rfl
theorem wn_X6 : Cond.instantiable RX6 2 ∈ tbG := tb_in (List.mem_append_right _ (List.mem_of_getElem? (i := 124) (by decide +kernel))) rfl
theorem wi_X6_init : Cond.instanceMethod yX6_init ∈ tbG := tb_in (List.mem_append_right _ (List.mem_of_getElem? (i := 126) (by decide +kernel))) rfl
theorem wc_X6_init : Cond.code yX6_init cX6_init 1 none ∈ tbG := tb_in (List.mem_append_right _ (List.mem_of_getElem? (i := 127) (by decide +kernel))) rfl
theorem wm_X6_3 : Cond.methodLink RX6 3 objectInit ∈ tbG := tb_in (List.mem_append_right _ (List.mem_of_getElem? (i := 128) (by decide +kernel))) rfl
theorem wf_X6_9 : Cond.fieldLink RX6 9 "EatenMaps$Roads" "costs" "[I" ∈ tbG := tb_in (List.mem_append_right _ (List.mem_of_getElem? (i := 129) (by decide +kernel))) rfl
theorem wf_X6_15 : Cond.fieldLink RX6 15 "EatenMaps$Roads" "settled" "[Z" ∈ tbG := tb_in (List.mem_append_right _ (List.mem_of_getElem? (i := 130) (by decide +kernel))) rfl
theorem wq_X8_48 : Cond.classLink RX8 48 RX3 ∈ tbG := tb_in (List.mem_append_right _ (List.mem_of_getElem? (i := 136) (by decide +kernel))) rfl
theorem wn_X3 : Cond.instantiable RX3 4 ∈ tbG := tb_in (List.mem_append_right _ (List.mem_of_getElem? (i := 137) (by decide +kernel))) rfl
theorem wi_X3_init : Cond.instanceMethod yX3_init ∈ tbG := tb_in (List.mem_append_right _ (List.mem_of_getElem? (i := 139) (by decide +kernel))) rfl
theorem wc_X3_init : Cond.code yX3_init cX3_init 1 none ∈ tbG := tb_in (List.mem_append_right _ (List.mem_of_getElem? (i := 140) (by decide +kernel))) rfl
theorem wm_X3_3 : Cond.methodLink RX3 3 objectInit ∈ tbG := tb_in (List.mem_append_right _ (List.mem_of_getElem? (i := 141) (by decide +kernel))) rfl
theorem wf_X3_9 : Cond.fieldLink RX3 9 "EatenMaps$Ministry" "rings" "[I" ∈ tbG := tb_in (List.mem_append_right _ (List.mem_of_getElem? (i := 142) (by decide +kernel))) rfl
theorem wf_X3_15 : Cond.fieldLink RX3 15 "EatenMaps$Ministry" "moths" "I" ∈ tbG := tb_in (List.mem_append_right _ (List.mem_of_getElem? (i := 143) (by decide +kernel))) rfl
theorem wf_X3_19 : Cond.fieldLink RX3 19 "EatenMaps$Ministry" "harbour" "I" ∈ tbG := tb_in (List.mem_append_right _ (List.mem_of_getElem? (i := 144) (by decide +kernel))) rfl
theorem wf_X3_26 : Cond.fieldLink RX3 26 "EatenMaps$Ministry" "best" "I" ∈ tbG := tb_in (List.mem_append_right _ (List.mem_of_getElem? (i := 145) (by decide +kernel))) rfl
theorem wq_X8_55 : Cond.classLink RX8 55 RX0 ∈ tbG := tb_in (List.mem_append_right _ (List.mem_of_getElem? (i := 155) (by decide +kernel))) rfl
theorem wn_X0 : Cond.instantiable RX0 7 ∈ tbG := tb_in (List.mem_append_right _ (List.mem_of_getElem? (i := 156) (by decide +kernel))) rfl
theorem wi_X0_init : Cond.instanceMethod yX0_init ∈ tbG := tb_in (List.mem_append_right _ (List.mem_of_getElem? (i := 158) (by decide +kernel))) rfl
theorem wc_X0_init : Cond.code yX0_init cX0_init 1 none ∈ tbG := tb_in (List.mem_append_right _ (List.mem_of_getElem? (i := 159) (by decide +kernel))) rfl
theorem wm_X0_3 : Cond.methodLink RX0 3 objectInit ∈ tbG := tb_in (List.mem_append_right _ (List.mem_of_getElem? (i := 160) (by decide +kernel))) rfl
theorem wf_X0_9 : Cond.fieldLink RX0 9 "EatenMaps$Darner" "woven" "[I" ∈ tbG := tb_in (List.mem_append_right _ (List.mem_of_getElem? (i := 161) (by decide +kernel))) rfl
theorem wf_X0_15 : Cond.fieldLink RX0 15 "EatenMaps$Darner" "tied" "[I" ∈ tbG := tb_in (List.mem_append_right _ (List.mem_of_getElem? (i := 162) (by decide +kernel))) rfl
theorem wf_X0_42 : Cond.fieldLink RX0 42 "EatenMaps$Darner" "ties" "I" ∈ tbG := tb_in (List.mem_append_right _ (List.mem_of_getElem? (i := 163) (by decide +kernel))) rfl
theorem wf_X0_18 : Cond.fieldLink RX0 18 "EatenMaps$Darner" "holes" "I" ∈ tbG := tb_in (List.mem_append_right _ (List.mem_of_getElem? (i := 164) (by decide +kernel))) rfl
theorem wf_X0_26 : Cond.fieldLink RX0 26 "EatenMaps$Darner" "byTowns" "I" ∈ tbG := tb_in (List.mem_append_right _ (List.mem_of_getElem? (i := 165) (by decide +kernel))) rfl
theorem wf_X0_39 : Cond.fieldLink RX0 39 "EatenMaps$Darner" "ways" "I" ∈ tbG := tb_in (List.mem_append_right _ (List.mem_of_getElem? (i := 166) (by decide +kernel))) rfl
theorem wf_X8_193 : Cond.fieldLink RX8 193 "EatenMaps$Darner" "ways" "I" ∈ tbG := tb_in (List.mem_append_right _ (List.mem_of_getElem? (i := 167) (by decide +kernel))) rfl
theorem wf_X0_29 : Cond.fieldLink RX0 29 "EatenMaps$Darner" "first" "I" ∈ tbG := tb_in (List.mem_append_right _ (List.mem_of_getElem? (i := 168) (by decide +kernel))) rfl
theorem wf_X8_196 : Cond.fieldLink RX8 196 "EatenMaps$Darner" "first" "I" ∈ tbG := tb_in (List.mem_append_right _ (List.mem_of_getElem? (i := 169) (by decide +kernel))) rfl
theorem wq_X8_62 : Cond.classLink RX8 62 RX7 ∈ tbG := tb_in (List.mem_append_right _ (List.mem_of_getElem? (i := 185) (by decide +kernel))) rfl
theorem wn_X7 : Cond.instantiable RX7 8 ∈ tbG := tb_in (List.mem_append_right _ (List.mem_of_getElem? (i := 186) (by decide +kernel))) rfl
theorem wm_X8_64 : Cond.methodLink RX8 64 yX7_init ∈ tbG := tb_in (List.mem_append_right _ (List.mem_of_getElem? (i := 187) (by decide +kernel))) rfl
theorem wi_X7_init : Cond.instanceMethod yX7_init ∈ tbG := tb_in (List.mem_append_right _ (List.mem_of_getElem? (i := 188) (by decide +kernel))) rfl
theorem wc_X7_init : Cond.code yX7_init cX7_init 2 none ∈ tbG := tb_in (List.mem_append_right _ (List.mem_of_getElem? (i := 189) (by decide +kernel))) rfl
theorem wm_X7_3 : Cond.methodLink RX7 3 objectInit ∈ tbG := tb_in (List.mem_append_right _ (List.mem_of_getElem? (i := 190) (by decide +kernel))) rfl
theorem wm_X7_27 : Cond.methodLink RX7 27 yX7_standBehind ∈ tbG := tb_in (List.mem_append_right _ (List.mem_of_getElem? (i := 191) (by decide +kernel))) rfl
theorem wt_X7_standBehind : Cond.static yX7_standBehind ∈ tbG := tb_in (List.mem_append_right _ (List.mem_of_getElem? (i := 192) (by decide +kernel))) rfl
theorem wc_X7_standBehind : Cond.code yX7_standBehind cX7_standBehind 4 (some .int) ∈ tbG := tb_in (List.mem_append_right _ (List.mem_of_getElem? (i := 193) (by decide +kernel))) rfl
theorem wt_X8_beside : Cond.static yX8_beside ∈ tbG := tb_in (List.mem_append_right _ (List.mem_of_getElem? (i := 195) (by decide +kernel))) rfl
theorem wc_X8_beside : Cond.code yX8_beside cX8_beside 2 (some .int) ∈ tbG := tb_in (List.mem_append_right _ (List.mem_of_getElem? (i := 196) (by decide +kernel))) rfl
theorem wt_X8_isCell : Cond.static yX8_isCell ∈ tbG := tb_in (List.mem_append_right _ (List.mem_of_getElem? (i := 198) (by decide +kernel))) rfl
theorem wc_X8_isCell : Cond.code yX8_isCell cX8_isCell 1 (some .boolean) ∈ tbG := tb_in (List.mem_append_right _ (List.mem_of_getElem? (i := 199) (by decide +kernel))) rfl
theorem wf_X7_11 : Cond.fieldLink RX7 11 "EatenMaps$Tracker" "next" "[I" ∈ tbG := tb_in (List.mem_append_right _ (List.mem_of_getElem? (i := 200) (by decide +kernel))) rfl
theorem wf_X7_15 : Cond.fieldLink RX7 15 "EatenMaps$Tracker" "starts" "[I" ∈ tbG := tb_in (List.mem_append_right _ (List.mem_of_getElem? (i := 201) (by decide +kernel))) rfl
theorem wf_X7_18 : Cond.fieldLink RX7 18 "EatenMaps$Tracker" "stands" "[I" ∈ tbG := tb_in (List.mem_append_right _ (List.mem_of_getElem? (i := 202) (by decide +kernel))) rfl
theorem wf_X7_21 : Cond.fieldLink RX7 21 "EatenMaps$Tracker" "cellsSeen" "[I" ∈ tbG := tb_in (List.mem_append_right _ (List.mem_of_getElem? (i := 203) (by decide +kernel))) rfl
theorem wf_X7_24 : Cond.fieldLink RX7 24 "EatenMaps$Tracker" "inCell" "[I" ∈ tbG := tb_in (List.mem_append_right _ (List.mem_of_getElem? (i := 204) (by decide +kernel))) rfl
theorem wf_X7_43 : Cond.fieldLink RX7 43 "EatenMaps$Tracker" "fitting" "I" ∈ tbG := tb_in (List.mem_append_right _ (List.mem_of_getElem? (i := 205) (by decide +kernel))) rfl
theorem wf_X8_215 : Cond.fieldLink RX8 215 "EatenMaps$Tracker" "fitting" "I" ∈ tbG := tb_in (List.mem_append_right _ (List.mem_of_getElem? (i := 206) (by decide +kernel))) rfl
theorem wf_X7_65 : Cond.fieldLink RX7 65 "EatenMaps$Tracker" "bestNight" "I" ∈ tbG := tb_in (List.mem_append_right _ (List.mem_of_getElem? (i := 207) (by decide +kernel))) rfl
theorem wf_X8_224 : Cond.fieldLink RX8 224 "EatenMaps$Tracker" "bestNight" "I" ∈ tbG := tb_in (List.mem_append_right _ (List.mem_of_getElem? (i := 208) (by decide +kernel))) rfl
theorem wf_X7_68 : Cond.fieldLink RX7 68 "EatenMaps$Tracker" "mostLeft" "I" ∈ tbG := tb_in (List.mem_append_right _ (List.mem_of_getElem? (i := 209) (by decide +kernel))) rfl
theorem wf_X8_227 : Cond.fieldLink RX8 227 "EatenMaps$Tracker" "mostLeft" "I" ∈ tbG := tb_in (List.mem_append_right _ (List.mem_of_getElem? (i := 210) (by decide +kernel))) rfl
theorem wq_X8_69 : Cond.classLink RX8 69 RX2 ∈ tbG := tb_in (List.mem_append_right _ (List.mem_of_getElem? (i := 228) (by decide +kernel))) rfl
theorem wn_X2 : Cond.instantiable RX2 3 ∈ tbG := tb_in (List.mem_append_right _ (List.mem_of_getElem? (i := 229) (by decide +kernel))) rfl
theorem wi_X2_init : Cond.instanceMethod yX2_init ∈ tbG := tb_in (List.mem_append_right _ (List.mem_of_getElem? (i := 231) (by decide +kernel))) rfl
theorem wc_X2_init : Cond.code yX2_init cX2_init 1 none ∈ tbG := tb_in (List.mem_append_right _ (List.mem_of_getElem? (i := 232) (by decide +kernel))) rfl
theorem wm_X2_3 : Cond.methodLink RX2 3 objectInit ∈ tbG := tb_in (List.mem_append_right _ (List.mem_of_getElem? (i := 233) (by decide +kernel))) rfl
theorem wf_X2_9 : Cond.fieldLink RX2 9 "EatenMaps$Marsh" "shares" "[J" ∈ tbG := tb_in (List.mem_append_right _ (List.mem_of_getElem? (i := 234) (by decide +kernel))) rfl
theorem wf_X2_15 : Cond.fieldLink RX2 15 "EatenMaps$Marsh" "moved" "[J" ∈ tbG := tb_in (List.mem_append_right _ (List.mem_of_getElem? (i := 235) (by decide +kernel))) rfl
theorem wf_X2_18 : Cond.fieldLink RX2 18 "EatenMaps$Marsh" "parts" "J" ∈ tbG := tb_in (List.mem_append_right _ (List.mem_of_getElem? (i := 236) (by decide +kernel))) rfl
theorem wf_X8_247 : Cond.fieldLink RX8 247 "EatenMaps$Marsh" "parts" "J" ∈ tbG := tb_in (List.mem_append_right _ (List.mem_of_getElem? (i := 237) (by decide +kernel))) rfl
theorem wa_long : Cond.arrayClass .long ∈ tbG := tb_in (List.mem_append_right _ (List.mem_of_getElem? (i := 245) (by decide +kernel))) rfl
theorem wf_X8_10 : Cond.fieldLink RX8 10 "EatenMaps" "now" "LEatenMaps$Duchy;" ∈ tbG := tb_in (List.mem_append_right _ (List.mem_of_getElem? (i := 246) (by decide +kernel))) rfl
theorem wf_X8_16 : Cond.fieldLink RX8 16 "EatenMaps" "spare" "LEatenMaps$Duchy;" ∈ tbG := tb_in (List.mem_append_right _ (List.mem_of_getElem? (i := 247) (by decide +kernel))) rfl
theorem wf_X8_19 : Cond.fieldLink RX8 19 "EatenMaps" "images" "[LEatenMaps$Duchy;" ∈ tbG := tb_in (List.mem_append_right _ (List.mem_of_getElem? (i := 248) (by decide +kernel))) rfl
theorem wf_X8_23 : Cond.fieldLink RX8 23 "EatenMaps" "kept" "[Z" ∈ tbG := tb_in (List.mem_append_right _ (List.mem_of_getElem? (i := 249) (by decide +kernel))) rfl
theorem wf_X8_30 : Cond.fieldLink RX8 30 "EatenMaps" "pad" "LEatenMaps$Pad;" ∈ tbG := tb_in (List.mem_append_right _ (List.mem_of_getElem? (i := 250) (by decide +kernel))) rfl
theorem wf_X8_37 : Cond.fieldLink RX8 37 "EatenMaps" "outcome" "LEatenMaps$Nights;" ∈ tbG := tb_in (List.mem_append_right _ (List.mem_of_getElem? (i := 251) (by decide +kernel))) rfl
theorem wf_X8_44 : Cond.fieldLink RX8 44 "EatenMaps" "roads" "LEatenMaps$Roads;" ∈ tbG := tb_in (List.mem_append_right _ (List.mem_of_getElem? (i := 252) (by decide +kernel))) rfl
theorem wf_X8_51 : Cond.fieldLink RX8 51 "EatenMaps" "ministry" "LEatenMaps$Ministry;" ∈ tbG := tb_in (List.mem_append_right _ (List.mem_of_getElem? (i := 253) (by decide +kernel))) rfl
theorem wf_X8_58 : Cond.fieldLink RX8 58 "EatenMaps" "darner" "LEatenMaps$Darner;" ∈ tbG := tb_in (List.mem_append_right _ (List.mem_of_getElem? (i := 254) (by decide +kernel))) rfl
theorem wf_X8_65 : Cond.fieldLink RX8 65 "EatenMaps" "tracker" "LEatenMaps$Tracker;" ∈ tbG := tb_in (List.mem_append_right _ (List.mem_of_getElem? (i := 255) (by decide +kernel))) rfl
theorem wf_X8_72 : Cond.fieldLink RX8 72 "EatenMaps" "marsh" "LEatenMaps$Marsh;" ∈ tbG := tb_in (List.mem_append_right _ (List.mem_of_getElem? (i := 256) (by decide +kernel))) rfl
theorem wm_L_13 : Cond.methodLink RL 13 yX8_land ∈ tbG := tb_in (List.mem_append_right _ (List.mem_of_getElem? (i := 280) (by decide +kernel))) rfl
theorem wi_X8_land : Cond.instanceMethod yX8_land ∈ tbG := tb_in (List.mem_append_right _ (List.mem_of_getElem? (i := 281) (by decide +kernel))) rfl
theorem wl_X8_land : Cond.selects RX8 yX8_land yX8_land ∈ tbG := tb_in (List.mem_append_right _ (List.mem_of_getElem? (i := 282) (by decide +kernel))) rfl
theorem wc_X8_land : Cond.code yX8_land cX8_land 4 (some .int) ∈ tbG := tb_in (List.mem_append_right _ (List.mem_of_getElem? (i := 283) (by decide +kernel))) rfl
theorem wm_X8_76 : Cond.methodLink RX8 76 yX8_isCell ∈ tbG := tb_in (List.mem_append_right _ (List.mem_of_getElem? (i := 284) (by decide +kernel))) rfl
theorem wm_X8_80 : Cond.methodLink RX8 80 yX8_within ∈ tbG := tb_in (List.mem_append_right _ (List.mem_of_getElem? (i := 285) (by decide +kernel))) rfl
theorem wt_X8_within : Cond.static yX8_within ∈ tbG := tb_in (List.mem_append_right _ (List.mem_of_getElem? (i := 286) (by decide +kernel))) rfl
theorem wc_X8_within : Cond.code yX8_within cX8_within 3 (some .boolean) ∈ tbG := tb_in (List.mem_append_right _ (List.mem_of_getElem? (i := 287) (by decide +kernel))) rfl
theorem wm_L_18 : Cond.methodLink RL 18 yX8_camphor ∈ tbG := tb_in (List.mem_append_right _ (List.mem_of_getElem? (i := 288) (by decide +kernel))) rfl
theorem wi_X8_camphor : Cond.instanceMethod yX8_camphor ∈ tbG := tb_in (List.mem_append_right _ (List.mem_of_getElem? (i := 289) (by decide +kernel))) rfl
theorem wl_X8_camphor : Cond.selects RX8 yX8_camphor yX8_camphor ∈ tbG := tb_in (List.mem_append_right _ (List.mem_of_getElem? (i := 290) (by decide +kernel))) rfl
theorem wc_X8_camphor : Cond.code yX8_camphor cX8_camphor 4 (some .int) ∈ tbG := tb_in (List.mem_append_right _ (List.mem_of_getElem? (i := 291) (by decide +kernel))) rfl
theorem wm_L_22 : Cond.methodLink RL 22 yX8_moth ∈ tbG := tb_in (List.mem_append_right _ (List.mem_of_getElem? (i := 292) (by decide +kernel))) rfl
theorem wi_X8_moth : Cond.instanceMethod yX8_moth ∈ tbG := tb_in (List.mem_append_right _ (List.mem_of_getElem? (i := 293) (by decide +kernel))) rfl
theorem wl_X8_moth : Cond.selects RX8 yX8_moth yX8_moth ∈ tbG := tb_in (List.mem_append_right _ (List.mem_of_getElem? (i := 294) (by decide +kernel))) rfl
theorem wc_X8_moth : Cond.code yX8_moth cX8_moth 4 (some .int) ∈ tbG := tb_in (List.mem_append_right _ (List.mem_of_getElem? (i := 295) (by decide +kernel))) rfl
theorem wm_X8_91 : Cond.methodLink RX8 91 yX8_isMoth ∈ tbG := tb_in (List.mem_append_right _ (List.mem_of_getElem? (i := 296) (by decide +kernel))) rfl
theorem wt_X8_isMoth : Cond.static yX8_isMoth ∈ tbG := tb_in (List.mem_append_right _ (List.mem_of_getElem? (i := 297) (by decide +kernel))) rfl
theorem wc_X8_isMoth : Cond.code yX8_isMoth cX8_isMoth 1 (some .boolean) ∈ tbG := tb_in (List.mem_append_right _ (List.mem_of_getElem? (i := 298) (by decide +kernel))) rfl
theorem wm_X8_94 : Cond.methodLink RX8 94 yX8_isWay ∈ tbG := tb_in (List.mem_append_right _ (List.mem_of_getElem? (i := 299) (by decide +kernel))) rfl
theorem wt_X8_isWay : Cond.static yX8_isWay ∈ tbG := tb_in (List.mem_append_right _ (List.mem_of_getElem? (i := 300) (by decide +kernel))) rfl
theorem wc_X8_isWay : Cond.code yX8_isWay cX8_isWay 1 (some .boolean) ∈ tbG := tb_in (List.mem_append_right _ (List.mem_of_getElem? (i := 301) (by decide +kernel))) rfl
theorem wm_X8_106 : Cond.methodLink RX8 106 yX1_mothBits ∈ tbG := tb_in (List.mem_append_right _ (List.mem_of_getElem? (i := 302) (by decide +kernel))) rfl
theorem wi_X1_mothBits : Cond.instanceMethod yX1_mothBits ∈ tbG := tb_in (List.mem_append_right _ (List.mem_of_getElem? (i := 303) (by decide +kernel))) rfl
theorem wl_X1_mothBits : Cond.selects RX1 yX1_mothBits yX1_mothBits ∈ tbG := tb_in (List.mem_append_right _ (List.mem_of_getElem? (i := 304) (by decide +kernel))) rfl
theorem wc_X1_mothBits : Cond.code yX1_mothBits cX1_mothBits 3 (some .int) ∈ tbG := tb_in (List.mem_append_right _ (List.mem_of_getElem? (i := 305) (by decide +kernel))) rfl
theorem wm_X8_110 : Cond.methodLink RX8 110 yJ6_bitCount_0f7a4 ∈ tbG := tb_in (List.mem_append_right _ (List.mem_of_getElem? (i := 306) (by decide +kernel))) rfl
theorem wt_J6_bitCount_0f7a4 : Cond.static yJ6_bitCount_0f7a4 ∈ tbG := tb_in (List.mem_append_right _ (List.mem_of_getElem? (i := 307) (by decide +kernel))) rfl
theorem wc_J6_bitCount_0f7a4 : Cond.code yJ6_bitCount_0f7a4 cJ6_bitCount_0f7a4 1 (some .int) ∈ tbG := tb_in (List.mem_append_right _ (List.mem_of_getElem? (i := 308) (by decide +kernel))) rfl
theorem wk_J6_265 : Cond.constant RJ6 265 (1431655765) ∈ tbG := tb_in (List.mem_append_right _ (List.mem_of_getElem? (i := 309) (by decide +kernel))) rfl
theorem wk_J6_266 : Cond.constant RJ6 266 (858993459) ∈ tbG := tb_in (List.mem_append_right _ (List.mem_of_getElem? (i := 310) (by decide +kernel))) rfl
theorem wk_J6_267 : Cond.constant RJ6 267 (252645135) ∈ tbG := tb_in (List.mem_append_right _ (List.mem_of_getElem? (i := 311) (by decide +kernel))) rfl
theorem wm_L_27 : Cond.methodLink RL 27 yX8_spool ∈ tbG := tb_in (List.mem_append_right _ (List.mem_of_getElem? (i := 312) (by decide +kernel))) rfl
theorem wi_X8_spool : Cond.instanceMethod yX8_spool ∈ tbG := tb_in (List.mem_append_right _ (List.mem_of_getElem? (i := 313) (by decide +kernel))) rfl
theorem wl_X8_spool : Cond.selects RX8 yX8_spool yX8_spool ∈ tbG := tb_in (List.mem_append_right _ (List.mem_of_getElem? (i := 314) (by decide +kernel))) rfl
theorem wc_X8_spool : Cond.code yX8_spool cX8_spool 4 (some .int) ∈ tbG := tb_in (List.mem_append_right _ (List.mem_of_getElem? (i := 315) (by decide +kernel))) rfl
theorem wm_X8_116 : Cond.methodLink RX8 116 yX8_isThread ∈ tbG := tb_in (List.mem_append_right _ (List.mem_of_getElem? (i := 316) (by decide +kernel))) rfl
theorem wt_X8_isThread : Cond.static yX8_isThread ∈ tbG := tb_in (List.mem_append_right _ (List.mem_of_getElem? (i := 317) (by decide +kernel))) rfl
theorem wc_X8_isThread : Cond.code yX8_isThread cX8_isThread 1 (some .boolean) ∈ tbG := tb_in (List.mem_append_right _ (List.mem_of_getElem? (i := 318) (by decide +kernel))) rfl
theorem wm_L_31 : Cond.methodLink RL 31 yX8_say ∈ tbG := tb_in (List.mem_append_right _ (List.mem_of_getElem? (i := 319) (by decide +kernel))) rfl
theorem wi_X8_say : Cond.instanceMethod yX8_say ∈ tbG := tb_in (List.mem_append_right _ (List.mem_of_getElem? (i := 320) (by decide +kernel))) rfl
theorem wl_X8_say : Cond.selects RX8 yX8_say yX8_say ∈ tbG := tb_in (List.mem_append_right _ (List.mem_of_getElem? (i := 321) (by decide +kernel))) rfl
theorem wc_X8_say : Cond.code yX8_say cX8_say 2 (some .int) ∈ tbG := tb_in (List.mem_append_right _ (List.mem_of_getElem? (i := 322) (by decide +kernel))) rfl
theorem wm_X8_122 : Cond.methodLink RX8 122 yX5_append ∈ tbG := tb_in (List.mem_append_right _ (List.mem_of_getElem? (i := 323) (by decide +kernel))) rfl
theorem wi_X5_append : Cond.instanceMethod yX5_append ∈ tbG := tb_in (List.mem_append_right _ (List.mem_of_getElem? (i := 324) (by decide +kernel))) rfl
theorem wl_X5_append : Cond.selects RX5 yX5_append yX5_append ∈ tbG := tb_in (List.mem_append_right _ (List.mem_of_getElem? (i := 325) (by decide +kernel))) rfl
theorem wc_X5_append : Cond.code yX5_append cX5_append 2 (some .boolean) ∈ tbG := tb_in (List.mem_append_right _ (List.mem_of_getElem? (i := 326) (by decide +kernel))) rfl
theorem wm_L_36 : Cond.methodLink RL 36 yX8_wipe ∈ tbG := tb_in (List.mem_append_right _ (List.mem_of_getElem? (i := 327) (by decide +kernel))) rfl
theorem wi_X8_wipe : Cond.instanceMethod yX8_wipe ∈ tbG := tb_in (List.mem_append_right _ (List.mem_of_getElem? (i := 328) (by decide +kernel))) rfl
theorem wl_X8_wipe : Cond.selects RX8 yX8_wipe yX8_wipe ∈ tbG := tb_in (List.mem_append_right _ (List.mem_of_getElem? (i := 329) (by decide +kernel))) rfl
theorem wc_X8_wipe : Cond.code yX8_wipe cX8_wipe 1 (some .int) ∈ tbG := tb_in (List.mem_append_right _ (List.mem_of_getElem? (i := 330) (by decide +kernel))) rfl
theorem wm_X8_129 : Cond.methodLink RX8 129 yX5_clear ∈ tbG := tb_in (List.mem_append_right _ (List.mem_of_getElem? (i := 331) (by decide +kernel))) rfl
theorem wi_X5_clear : Cond.instanceMethod yX5_clear ∈ tbG := tb_in (List.mem_append_right _ (List.mem_of_getElem? (i := 332) (by decide +kernel))) rfl
theorem wl_X5_clear : Cond.selects RX5 yX5_clear yX5_clear ∈ tbG := tb_in (List.mem_append_right _ (List.mem_of_getElem? (i := 333) (by decide +kernel))) rfl
theorem wc_X5_clear : Cond.code yX5_clear cX5_clear 2 (some .int) ∈ tbG := tb_in (List.mem_append_right _ (List.mem_of_getElem? (i := 334) (by decide +kernel))) rfl
theorem wm_L_41 : Cond.methodLink RL 41 yX8_fault ∈ tbG := tb_in (List.mem_append_right _ (List.mem_of_getElem? (i := 335) (by decide +kernel))) rfl
theorem wi_X8_fault : Cond.instanceMethod yX8_fault ∈ tbG := tb_in (List.mem_append_right _ (List.mem_of_getElem? (i := 336) (by decide +kernel))) rfl
theorem wl_X8_fault : Cond.selects RX8 yX8_fault yX8_fault ∈ tbG := tb_in (List.mem_append_right _ (List.mem_of_getElem? (i := 337) (by decide +kernel))) rfl
theorem wc_X8_fault : Cond.code yX8_fault cX8_fault 1 (some .int) ∈ tbG := tb_in (List.mem_append_right _ (List.mem_of_getElem? (i := 338) (by decide +kernel))) rfl
theorem wm_X8_132 : Cond.methodLink RX8 132 yX5_firstWrong ∈ tbG := tb_in (List.mem_append_right _ (List.mem_of_getElem? (i := 339) (by decide +kernel))) rfl
theorem wi_X5_firstWrong : Cond.instanceMethod yX5_firstWrong ∈ tbG := tb_in (List.mem_append_right _ (List.mem_of_getElem? (i := 340) (by decide +kernel))) rfl
theorem wl_X5_firstWrong : Cond.selects RX5 yX5_firstWrong yX5_firstWrong ∈ tbG := tb_in (List.mem_append_right _ (List.mem_of_getElem? (i := 341) (by decide +kernel))) rfl
theorem wc_X5_firstWrong : Cond.code yX5_firstWrong cX5_firstWrong 3 (some .int) ∈ tbG := tb_in (List.mem_append_right _ (List.mem_of_getElem? (i := 342) (by decide +kernel))) rfl
theorem wm_X5_19 : Cond.methodLink RX5 19 yX5_signAt ∈ tbG := tb_in (List.mem_append_right _ (List.mem_of_getElem? (i := 343) (by decide +kernel))) rfl
theorem wi_X5_signAt : Cond.instanceMethod yX5_signAt ∈ tbG := tb_in (List.mem_append_right _ (List.mem_of_getElem? (i := 344) (by decide +kernel))) rfl
theorem wl_X5_signAt : Cond.selects RX5 yX5_signAt yX5_signAt ∈ tbG := tb_in (List.mem_append_right _ (List.mem_of_getElem? (i := 345) (by decide +kernel))) rfl
theorem wc_X5_signAt : Cond.code yX5_signAt cX5_signAt 2 (some .int) ∈ tbG := tb_in (List.mem_append_right _ (List.mem_of_getElem? (i := 346) (by decide +kernel))) rfl
theorem wm_X5_23 : Cond.methodLink RX5 23 yX5_dueBehind ∈ tbG := tb_in (List.mem_append_right _ (List.mem_of_getElem? (i := 347) (by decide +kernel))) rfl
theorem wt_X5_dueBehind : Cond.static yX5_dueBehind ∈ tbG := tb_in (List.mem_append_right _ (List.mem_of_getElem? (i := 348) (by decide +kernel))) rfl
theorem wc_X5_dueBehind : Cond.code yX5_dueBehind cX5_dueBehind 2 (some .int) ∈ tbG := tb_in (List.mem_append_right _ (List.mem_of_getElem? (i := 349) (by decide +kernel))) rfl
theorem wm_X5_27 : Cond.methodLink RX5 27 yX5_dueBehindFirst ∈ tbG := tb_in (List.mem_append_right _ (List.mem_of_getElem? (i := 350) (by decide +kernel))) rfl
theorem wt_X5_dueBehindFirst : Cond.static yX5_dueBehindFirst ∈ tbG := tb_in (List.mem_append_right _ (List.mem_of_getElem? (i := 351) (by decide +kernel))) rfl
theorem wc_X5_dueBehindFirst : Cond.code yX5_dueBehindFirst cX5_dueBehindFirst 1 (some .int) ∈ tbG := tb_in (List.mem_append_right _ (List.mem_of_getElem? (i := 352) (by decide +kernel))) rfl
theorem wm_X5_30 : Cond.methodLink RX5 30 yX5_headOf ∈ tbG := tb_in (List.mem_append_right _ (List.mem_of_getElem? (i := 354) (by decide +kernel))) rfl
theorem wt_X5_headOf : Cond.static yX5_headOf ∈ tbG := tb_in (List.mem_append_right _ (List.mem_of_getElem? (i := 355) (by decide +kernel))) rfl
theorem wc_X5_headOf : Cond.code yX5_headOf cX5_headOf 1 (some .int) ∈ tbG := tb_in (List.mem_append_right _ (List.mem_of_getElem? (i := 356) (by decide +kernel))) rfl
theorem wm_L_45 : Cond.methodLink RL 45 yX8_judge ∈ tbG := tb_in (List.mem_append_right _ (List.mem_of_getElem? (i := 359) (by decide +kernel))) rfl
theorem wi_X8_judge : Cond.instanceMethod yX8_judge ∈ tbG := tb_in (List.mem_append_right _ (List.mem_of_getElem? (i := 360) (by decide +kernel))) rfl
theorem wl_X8_judge : Cond.selects RX8 yX8_judge yX8_judge ∈ tbG := tb_in (List.mem_append_right _ (List.mem_of_getElem? (i := 361) (by decide +kernel))) rfl
theorem wc_X8_judge : Cond.code yX8_judge cX8_judge 2 (some .int) ∈ tbG := tb_in (List.mem_append_right _ (List.mem_of_getElem? (i := 362) (by decide +kernel))) rfl
theorem wm_X8_135 : Cond.methodLink RX8 135 yX4_tell ∈ tbG := tb_in (List.mem_append_right _ (List.mem_of_getElem? (i := 363) (by decide +kernel))) rfl
theorem wi_X4_tell : Cond.instanceMethod yX4_tell ∈ tbG := tb_in (List.mem_append_right _ (List.mem_of_getElem? (i := 364) (by decide +kernel))) rfl
theorem wl_X4_tell : Cond.selects RX4 yX4_tell yX4_tell ∈ tbG := tb_in (List.mem_append_right _ (List.mem_of_getElem? (i := 365) (by decide +kernel))) rfl
theorem wc_X4_tell : Cond.code yX4_tell cX4_tell 6 none ∈ tbG := tb_in (List.mem_append_right _ (List.mem_of_getElem? (i := 366) (by decide +kernel))) rfl
theorem wm_X4_18 : Cond.methodLink RX4 18 yX1_become ∈ tbG := tb_in (List.mem_append_right _ (List.mem_of_getElem? (i := 367) (by decide +kernel))) rfl
theorem wi_X1_become : Cond.instanceMethod yX1_become ∈ tbG := tb_in (List.mem_append_right _ (List.mem_of_getElem? (i := 368) (by decide +kernel))) rfl
theorem wl_X1_become : Cond.selects RX1 yX1_become yX1_become ∈ tbG := tb_in (List.mem_append_right _ (List.mem_of_getElem? (i := 369) (by decide +kernel))) rfl
theorem wc_X1_become : Cond.code yX1_become cX1_become 3 none ∈ tbG := tb_in (List.mem_append_right _ (List.mem_of_getElem? (i := 370) (by decide +kernel))) rfl
theorem wm_X4_43 : Cond.methodLink RX4 43 yX5_signAt ∈ tbG := tb_in (List.mem_append_right _ (List.mem_of_getElem? (i := 371) (by decide +kernel))) rfl
theorem wm_X4_47 : Cond.methodLink RX4 47 yX4_attempt ∈ tbG := tb_in (List.mem_append_right _ (List.mem_of_getElem? (i := 372) (by decide +kernel))) rfl
theorem wi_X4_attempt : Cond.instanceMethod yX4_attempt ∈ tbG := tb_in (List.mem_append_right _ (List.mem_of_getElem? (i := 374) (by decide +kernel))) rfl
theorem wc_X4_attempt : Cond.code yX4_attempt cX4_attempt 4 (some .int) ∈ tbG := tb_in (List.mem_append_right _ (List.mem_of_getElem? (i := 375) (by decide +kernel))) rfl
theorem wm_X4_58 : Cond.methodLink RX4 58 yX1_passNight ∈ tbG := tb_in (List.mem_append_right _ (List.mem_of_getElem? (i := 376) (by decide +kernel))) rfl
theorem wi_X1_passNight : Cond.instanceMethod yX1_passNight ∈ tbG := tb_in (List.mem_append_right _ (List.mem_of_getElem? (i := 377) (by decide +kernel))) rfl
theorem wl_X1_passNight : Cond.selects RX1 yX1_passNight yX1_passNight ∈ tbG := tb_in (List.mem_append_right _ (List.mem_of_getElem? (i := 378) (by decide +kernel))) rfl
theorem wc_X1_passNight : Cond.code yX1_passNight cX1_passNight 2 (some .int) ∈ tbG := tb_in (List.mem_append_right _ (List.mem_of_getElem? (i := 379) (by decide +kernel))) rfl
theorem wm_X1_73 : Cond.methodLink RX1 73 yX1_fly ∈ tbG := tb_in (List.mem_append_right _ (List.mem_of_getElem? (i := 380) (by decide +kernel))) rfl
theorem wi_X1_fly : Cond.instanceMethod yX1_fly ∈ tbG := tb_in (List.mem_append_right _ (List.mem_of_getElem? (i := 382) (by decide +kernel))) rfl
theorem wc_X1_fly : Cond.code yX1_fly cX1_fly 5 none ∈ tbG := tb_in (List.mem_append_right _ (List.mem_of_getElem? (i := 383) (by decide +kernel))) rfl
theorem wm_X1_82 : Cond.methodLink RX1 82 yX1_eat ∈ tbG := tb_in (List.mem_append_right _ (List.mem_of_getElem? (i := 386) (by decide +kernel))) rfl
theorem wi_X1_eat : Cond.instanceMethod yX1_eat ∈ tbG := tb_in (List.mem_append_right _ (List.mem_of_getElem? (i := 388) (by decide +kernel))) rfl
theorem wc_X1_eat : Cond.code yX1_eat cX1_eat 2 none ∈ tbG := tb_in (List.mem_append_right _ (List.mem_of_getElem? (i := 389) (by decide +kernel))) rfl
theorem wm_X1_77 : Cond.methodLink RX1 77 yJ9_max_7cf53 ∈ tbG := tb_in (List.mem_append_right _ (List.mem_of_getElem? (i := 390) (by decide +kernel))) rfl
theorem wt_J9_max_7cf53 : Cond.static yJ9_max_7cf53 ∈ tbG := tb_in (List.mem_append_right _ (List.mem_of_getElem? (i := 391) (by decide +kernel))) rfl
theorem wc_J9_max_7cf53 : Cond.code yJ9_max_7cf53 cJ9_max_7cf53 2 (some .int) ∈ tbG := tb_in (List.mem_append_right _ (List.mem_of_getElem? (i := 392) (by decide +kernel))) rfl
theorem wm_X4_62 : Cond.methodLink RX4 62 yX1_layCamphor ∈ tbG := tb_in (List.mem_append_right _ (List.mem_of_getElem? (i := 393) (by decide +kernel))) rfl
theorem wi_X1_layCamphor : Cond.instanceMethod yX1_layCamphor ∈ tbG := tb_in (List.mem_append_right _ (List.mem_of_getElem? (i := 394) (by decide +kernel))) rfl
theorem wl_X1_layCamphor : Cond.selects RX1 yX1_layCamphor yX1_layCamphor ∈ tbG := tb_in (List.mem_append_right _ (List.mem_of_getElem? (i := 395) (by decide +kernel))) rfl
theorem wc_X1_layCamphor : Cond.code yX1_layCamphor cX1_layCamphor 2 (some .int) ∈ tbG := tb_in (List.mem_append_right _ (List.mem_of_getElem? (i := 396) (by decide +kernel))) rfl
theorem wm_X4_65 : Cond.methodLink RX4 65 yX1_darn ∈ tbG := tb_in (List.mem_append_right _ (List.mem_of_getElem? (i := 397) (by decide +kernel))) rfl
theorem wi_X1_darn : Cond.instanceMethod yX1_darn ∈ tbG := tb_in (List.mem_append_right _ (List.mem_of_getElem? (i := 398) (by decide +kernel))) rfl
theorem wl_X1_darn : Cond.selects RX1 yX1_darn yX1_darn ∈ tbG := tb_in (List.mem_append_right _ (List.mem_of_getElem? (i := 399) (by decide +kernel))) rfl
theorem wc_X1_darn : Cond.code yX1_darn cX1_darn 3 (some .int) ∈ tbG := tb_in (List.mem_append_right _ (List.mem_of_getElem? (i := 400) (by decide +kernel))) rfl
theorem wm_X1_70 : Cond.methodLink RX1 70 yX1_landBy ∈ tbG := tb_in (List.mem_append_right _ (List.mem_of_getElem? (i := 402) (by decide +kernel))) rfl
theorem wt_X1_landBy : Cond.static yX1_landBy ∈ tbG := tb_in (List.mem_append_right _ (List.mem_of_getElem? (i := 403) (by decide +kernel))) rfl
theorem wc_X1_landBy : Cond.code yX1_landBy cX1_landBy 1 (some .int) ∈ tbG := tb_in (List.mem_append_right _ (List.mem_of_getElem? (i := 404) (by decide +kernel))) rfl
theorem wm_X4_69 : Cond.methodLink RX4 69 yX4_attemptDeed ∈ tbG := tb_in (List.mem_append_right _ (List.mem_of_getElem? (i := 405) (by decide +kernel))) rfl
theorem wi_X4_attemptDeed : Cond.instanceMethod yX4_attemptDeed ∈ tbG := tb_in (List.mem_append_right _ (List.mem_of_getElem? (i := 407) (by decide +kernel))) rfl
theorem wc_X4_attemptDeed : Cond.code yX4_attemptDeed cX4_attemptDeed 3 (some .int) ∈ tbG := tb_in (List.mem_append_right _ (List.mem_of_getElem? (i := 408) (by decide +kernel))) rfl
theorem wm_X4_72 : Cond.methodLink RX4 72 yX1_catchMoth ∈ tbG := tb_in (List.mem_append_right _ (List.mem_of_getElem? (i := 409) (by decide +kernel))) rfl
theorem wi_X1_catchMoth : Cond.instanceMethod yX1_catchMoth ∈ tbG := tb_in (List.mem_append_right _ (List.mem_of_getElem? (i := 410) (by decide +kernel))) rfl
theorem wl_X1_catchMoth : Cond.selects RX1 yX1_catchMoth yX1_catchMoth ∈ tbG := tb_in (List.mem_append_right _ (List.mem_of_getElem? (i := 411) (by decide +kernel))) rfl
theorem wc_X1_catchMoth : Cond.code yX1_catchMoth cX1_catchMoth 2 (some .int) ∈ tbG := tb_in (List.mem_append_right _ (List.mem_of_getElem? (i := 412) (by decide +kernel))) rfl
theorem wm_X1_64 : Cond.methodLink RX1 64 yX1_isThere ∈ tbG := tb_in (List.mem_append_right _ (List.mem_of_getElem? (i := 413) (by decide +kernel))) rfl
theorem wi_X1_isThere : Cond.instanceMethod yX1_isThere ∈ tbG := tb_in (List.mem_append_right _ (List.mem_of_getElem? (i := 414) (by decide +kernel))) rfl
theorem wl_X1_isThere : Cond.selects RX1 yX1_isThere yX1_isThere ∈ tbG := tb_in (List.mem_append_right _ (List.mem_of_getElem? (i := 415) (by decide +kernel))) rfl
theorem wc_X1_isThere : Cond.code yX1_isThere cX1_isThere 2 (some .boolean) ∈ tbG := tb_in (List.mem_append_right _ (List.mem_of_getElem? (i := 416) (by decide +kernel))) rfl
theorem wm_X4_75 : Cond.methodLink RX4 75 yX5_headOf ∈ tbG := tb_in (List.mem_append_right _ (List.mem_of_getElem? (i := 417) (by decide +kernel))) rfl
theorem wm_X4_78 : Cond.methodLink RX4 78 yX1_turn ∈ tbG := tb_in (List.mem_append_right _ (List.mem_of_getElem? (i := 418) (by decide +kernel))) rfl
theorem wi_X1_turn : Cond.instanceMethod yX1_turn ∈ tbG := tb_in (List.mem_append_right _ (List.mem_of_getElem? (i := 419) (by decide +kernel))) rfl
theorem wl_X1_turn : Cond.selects RX1 yX1_turn yX1_turn ∈ tbG := tb_in (List.mem_append_right _ (List.mem_of_getElem? (i := 420) (by decide +kernel))) rfl
theorem wc_X1_turn : Cond.code yX1_turn cX1_turn 3 (some .int) ∈ tbG := tb_in (List.mem_append_right _ (List.mem_of_getElem? (i := 421) (by decide +kernel))) rfl
theorem wm_X4_51 : Cond.methodLink RX4 51 yX4_note ∈ tbG := tb_in (List.mem_append_right _ (List.mem_of_getElem? (i := 422) (by decide +kernel))) rfl
theorem wi_X4_note : Cond.instanceMethod yX4_note ∈ tbG := tb_in (List.mem_append_right _ (List.mem_of_getElem? (i := 424) (by decide +kernel))) rfl
theorem wc_X4_note : Cond.code yX4_note cX4_note 2 none ∈ tbG := tb_in (List.mem_append_right _ (List.mem_of_getElem? (i := 425) (by decide +kernel))) rfl
theorem wm_X4_55 : Cond.methodLink RX4 55 yX5_actLength ∈ tbG := tb_in (List.mem_append_right _ (List.mem_of_getElem? (i := 426) (by decide +kernel))) rfl
theorem wt_X5_actLength : Cond.static yX5_actLength ∈ tbG := tb_in (List.mem_append_right _ (List.mem_of_getElem? (i := 427) (by decide +kernel))) rfl
theorem wc_X5_actLength : Cond.code yX5_actLength cX5_actLength 1 (some .int) ∈ tbG := tb_in (List.mem_append_right _ (List.mem_of_getElem? (i := 428) (by decide +kernel))) rfl
theorem wm_L_49 : Cond.methodLink RL 49 yX8_done ∈ tbG := tb_in (List.mem_append_right _ (List.mem_of_getElem? (i := 429) (by decide +kernel))) rfl
theorem wi_X8_done : Cond.instanceMethod yX8_done ∈ tbG := tb_in (List.mem_append_right _ (List.mem_of_getElem? (i := 430) (by decide +kernel))) rfl
theorem wl_X8_done : Cond.selects RX8 yX8_done yX8_done ∈ tbG := tb_in (List.mem_append_right _ (List.mem_of_getElem? (i := 431) (by decide +kernel))) rfl
theorem wc_X8_done : Cond.code yX8_done cX8_done 1 (some .int) ∈ tbG := tb_in (List.mem_append_right _ (List.mem_of_getElem? (i := 432) (by decide +kernel))) rfl
theorem wm_X8_145 : Cond.methodLink RX8 145 yX8_nightsCanBe ∈ tbG := tb_in (List.mem_append_right _ (List.mem_of_getElem? (i := 433) (by decide +kernel))) rfl
theorem wi_X8_nightsCanBe : Cond.instanceMethod yX8_nightsCanBe ∈ tbG := tb_in (List.mem_append_right _ (List.mem_of_getElem? (i := 435) (by decide +kernel))) rfl
theorem wc_X8_nightsCanBe : Cond.code yX8_nightsCanBe cX8_nightsCanBe 1 (some .boolean) ∈ tbG := tb_in (List.mem_append_right _ (List.mem_of_getElem? (i := 436) (by decide +kernel))) rfl
theorem wm_X8_152 : Cond.methodLink RX8 152 yX1_become ∈ tbG := tb_in (List.mem_append_right _ (List.mem_of_getElem? (i := 437) (by decide +kernel))) rfl
theorem wm_L_53 : Cond.methodLink RL 53 yX8_behind ∈ tbG := tb_in (List.mem_append_right _ (List.mem_of_getElem? (i := 438) (by decide +kernel))) rfl
theorem wi_X8_behind : Cond.instanceMethod yX8_behind ∈ tbG := tb_in (List.mem_append_right _ (List.mem_of_getElem? (i := 439) (by decide +kernel))) rfl
theorem wl_X8_behind : Cond.selects RX8 yX8_behind yX8_behind ∈ tbG := tb_in (List.mem_append_right _ (List.mem_of_getElem? (i := 440) (by decide +kernel))) rfl
theorem wc_X8_behind : Cond.code yX8_behind cX8_behind 3 (some .int) ∈ tbG := tb_in (List.mem_append_right _ (List.mem_of_getElem? (i := 441) (by decide +kernel))) rfl
theorem wm_L_57 : Cond.methodLink RL 57 yX8_flies ∈ tbG := tb_in (List.mem_append_right _ (List.mem_of_getElem? (i := 442) (by decide +kernel))) rfl
theorem wi_X8_flies : Cond.instanceMethod yX8_flies ∈ tbG := tb_in (List.mem_append_right _ (List.mem_of_getElem? (i := 443) (by decide +kernel))) rfl
theorem wl_X8_flies : Cond.selects RX8 yX8_flies yX8_flies ∈ tbG := tb_in (List.mem_append_right _ (List.mem_of_getElem? (i := 444) (by decide +kernel))) rfl
theorem wc_X8_flies : Cond.code yX8_flies cX8_flies 3 (some .int) ∈ tbG := tb_in (List.mem_append_right _ (List.mem_of_getElem? (i := 445) (by decide +kernel))) rfl
theorem wm_X8_156 : Cond.methodLink RX8 156 yX1_isThere ∈ tbG := tb_in (List.mem_append_right _ (List.mem_of_getElem? (i := 446) (by decide +kernel))) rfl
theorem wm_L_61 : Cond.methodLink RL 61 yX8_then ∈ tbG := tb_in (List.mem_append_right _ (List.mem_of_getElem? (i := 447) (by decide +kernel))) rfl
theorem wi_X8_then : Cond.instanceMethod yX8_then ∈ tbG := tb_in (List.mem_append_right _ (List.mem_of_getElem? (i := 448) (by decide +kernel))) rfl
theorem wl_X8_then : Cond.selects RX8 yX8_then yX8_then ∈ tbG := tb_in (List.mem_append_right _ (List.mem_of_getElem? (i := 449) (by decide +kernel))) rfl
theorem wc_X8_then : Cond.code yX8_then cX8_then 2 (some .int) ∈ tbG := tb_in (List.mem_append_right _ (List.mem_of_getElem? (i := 450) (by decide +kernel))) rfl
theorem wm_X8_159 : Cond.methodLink RX8 159 yX1_countOf ∈ tbG := tb_in (List.mem_append_right _ (List.mem_of_getElem? (i := 451) (by decide +kernel))) rfl
theorem wi_X1_countOf : Cond.instanceMethod yX1_countOf ∈ tbG := tb_in (List.mem_append_right _ (List.mem_of_getElem? (i := 452) (by decide +kernel))) rfl
theorem wl_X1_countOf : Cond.selects RX1 yX1_countOf yX1_countOf ∈ tbG := tb_in (List.mem_append_right _ (List.mem_of_getElem? (i := 453) (by decide +kernel))) rfl
theorem wc_X1_countOf : Cond.code yX1_countOf cX1_countOf 2 (some .int) ∈ tbG := tb_in (List.mem_append_right _ (List.mem_of_getElem? (i := 454) (by decide +kernel))) rfl
theorem wm_X1_47 : Cond.methodLink RX1 47 yX1_bitsOf ∈ tbG := tb_in (List.mem_append_right _ (List.mem_of_getElem? (i := 455) (by decide +kernel))) rfl
theorem wi_X1_bitsOf : Cond.instanceMethod yX1_bitsOf ∈ tbG := tb_in (List.mem_append_right _ (List.mem_of_getElem? (i := 456) (by decide +kernel))) rfl
theorem wl_X1_bitsOf : Cond.selects RX1 yX1_bitsOf yX1_bitsOf ∈ tbG := tb_in (List.mem_append_right _ (List.mem_of_getElem? (i := 457) (by decide +kernel))) rfl
theorem wc_X1_bitsOf : Cond.code yX1_bitsOf cX1_bitsOf 4 (some .int) ∈ tbG := tb_in (List.mem_append_right _ (List.mem_of_getElem? (i := 458) (by decide +kernel))) rfl
theorem wm_X1_51 : Cond.methodLink RX1 51 yJ6_bitCount_0f7a4 ∈ tbG := tb_in (List.mem_append_right _ (List.mem_of_getElem? (i := 459) (by decide +kernel))) rfl
theorem wm_X8_162 : Cond.methodLink RX8 162 yX1_threadsInAll ∈ tbG := tb_in (List.mem_append_right _ (List.mem_of_getElem? (i := 460) (by decide +kernel))) rfl
theorem wi_X1_threadsInAll : Cond.instanceMethod yX1_threadsInAll ∈ tbG := tb_in (List.mem_append_right _ (List.mem_of_getElem? (i := 461) (by decide +kernel))) rfl
theorem wl_X1_threadsInAll : Cond.selects RX1 yX1_threadsInAll yX1_threadsInAll ∈ tbG := tb_in (List.mem_append_right _ (List.mem_of_getElem? (i := 462) (by decide +kernel))) rfl
theorem wc_X1_threadsInAll : Cond.code yX1_threadsInAll cX1_threadsInAll 1 (some .int) ∈ tbG := tb_in (List.mem_append_right _ (List.mem_of_getElem? (i := 463) (by decide +kernel))) rfl
theorem wm_L_65 : Cond.methodLink RL 65 yX8_road ∈ tbG := tb_in (List.mem_append_right _ (List.mem_of_getElem? (i := 464) (by decide +kernel))) rfl
theorem wi_X8_road : Cond.instanceMethod yX8_road ∈ tbG := tb_in (List.mem_append_right _ (List.mem_of_getElem? (i := 465) (by decide +kernel))) rfl
theorem wl_X8_road : Cond.selects RX8 yX8_road yX8_road ∈ tbG := tb_in (List.mem_append_right _ (List.mem_of_getElem? (i := 466) (by decide +kernel))) rfl
theorem wc_X8_road : Cond.code yX8_road cX8_road 4 (some .int) ∈ tbG := tb_in (List.mem_append_right _ (List.mem_of_getElem? (i := 467) (by decide +kernel))) rfl
theorem wm_X8_174 : Cond.methodLink RX8 174 yX6_leastCost ∈ tbG := tb_in (List.mem_append_right _ (List.mem_of_getElem? (i := 468) (by decide +kernel))) rfl
theorem wi_X6_leastCost : Cond.instanceMethod yX6_leastCost ∈ tbG := tb_in (List.mem_append_right _ (List.mem_of_getElem? (i := 469) (by decide +kernel))) rfl
theorem wl_X6_leastCost : Cond.selects RX6 yX6_leastCost yX6_leastCost ∈ tbG := tb_in (List.mem_append_right _ (List.mem_of_getElem? (i := 470) (by decide +kernel))) rfl
theorem wc_X6_leastCost : Cond.code yX6_leastCost cX6_leastCost 6 (some .int) ∈ tbG := tb_in (List.mem_append_right _ (List.mem_of_getElem? (i := 471) (by decide +kernel))) rfl
theorem wk_X6_19 : Cond.constant RX6 19 (1000000) ∈ tbG := tb_in (List.mem_append_right _ (List.mem_of_getElem? (i := 472) (by decide +kernel))) rfl
theorem wm_X6_20 : Cond.methodLink RX6 20 yX6_costOfLand ∈ tbG := tb_in (List.mem_append_right _ (List.mem_of_getElem? (i := 473) (by decide +kernel))) rfl
theorem wt_X6_costOfLand : Cond.static yX6_costOfLand ∈ tbG := tb_in (List.mem_append_right _ (List.mem_of_getElem? (i := 474) (by decide +kernel))) rfl
theorem wc_X6_costOfLand : Cond.code yX6_costOfLand cX6_costOfLand 1 (some .int) ∈ tbG := tb_in (List.mem_append_right _ (List.mem_of_getElem? (i := 475) (by decide +kernel))) rfl
theorem wm_X6_24 : Cond.methodLink RX6 24 yX6_nearest ∈ tbG := tb_in (List.mem_append_right _ (List.mem_of_getElem? (i := 476) (by decide +kernel))) rfl
theorem wi_X6_nearest : Cond.instanceMethod yX6_nearest ∈ tbG := tb_in (List.mem_append_right _ (List.mem_of_getElem? (i := 478) (by decide +kernel))) rfl
theorem wc_X6_nearest : Cond.code yX6_nearest cX6_nearest 4 (some .int) ∈ tbG := tb_in (List.mem_append_right _ (List.mem_of_getElem? (i := 479) (by decide +kernel))) rfl
theorem wm_X6_32 : Cond.methodLink RX6 32 yX6_spreadFrom ∈ tbG := tb_in (List.mem_append_right _ (List.mem_of_getElem? (i := 481) (by decide +kernel))) rfl
theorem wi_X6_spreadFrom : Cond.instanceMethod yX6_spreadFrom ∈ tbG := tb_in (List.mem_append_right _ (List.mem_of_getElem? (i := 483) (by decide +kernel))) rfl
theorem wc_X6_spreadFrom : Cond.code yX6_spreadFrom cX6_spreadFrom 5 none ∈ tbG := tb_in (List.mem_append_right _ (List.mem_of_getElem? (i := 484) (by decide +kernel))) rfl
theorem wm_X6_40 : Cond.methodLink RX6 40 yJ9_min_7cf53 ∈ tbG := tb_in (List.mem_append_right _ (List.mem_of_getElem? (i := 486) (by decide +kernel))) rfl
theorem wt_J9_min_7cf53 : Cond.static yJ9_min_7cf53 ∈ tbG := tb_in (List.mem_append_right _ (List.mem_of_getElem? (i := 487) (by decide +kernel))) rfl
theorem wc_J9_min_7cf53 : Cond.code yJ9_min_7cf53 cJ9_min_7cf53 2 (some .int) ∈ tbG := tb_in (List.mem_append_right _ (List.mem_of_getElem? (i := 488) (by decide +kernel))) rfl
theorem wm_L_69 : Cond.methodLink RL 69 yX8_whole ∈ tbG := tb_in (List.mem_append_right _ (List.mem_of_getElem? (i := 489) (by decide +kernel))) rfl
theorem wi_X8_whole : Cond.instanceMethod yX8_whole ∈ tbG := tb_in (List.mem_append_right _ (List.mem_of_getElem? (i := 490) (by decide +kernel))) rfl
theorem wl_X8_whole : Cond.selects RX8 yX8_whole yX8_whole ∈ tbG := tb_in (List.mem_append_right _ (List.mem_of_getElem? (i := 491) (by decide +kernel))) rfl
theorem wc_X8_whole : Cond.code yX8_whole cX8_whole 5 (some .int) ∈ tbG := tb_in (List.mem_append_right _ (List.mem_of_getElem? (i := 492) (by decide +kernel))) rfl
theorem wk_X8_178 : Cond.constant RX8 178 (1000000) ∈ tbG := tb_in (List.mem_append_right _ (List.mem_of_getElem? (i := 493) (by decide +kernel))) rfl
theorem wm_L_73 : Cond.methodLink RL 73 yX8_camphored ∈ tbG := tb_in (List.mem_append_right _ (List.mem_of_getElem? (i := 494) (by decide +kernel))) rfl
theorem wi_X8_camphored : Cond.instanceMethod yX8_camphored ∈ tbG := tb_in (List.mem_append_right _ (List.mem_of_getElem? (i := 495) (by decide +kernel))) rfl
theorem wl_X8_camphored : Cond.selects RX8 yX8_camphored yX8_camphored ∈ tbG := tb_in (List.mem_append_right _ (List.mem_of_getElem? (i := 496) (by decide +kernel))) rfl
theorem wc_X8_camphored : Cond.code yX8_camphored cX8_camphored 4 (some .int) ∈ tbG := tb_in (List.mem_append_right _ (List.mem_of_getElem? (i := 497) (by decide +kernel))) rfl
theorem wm_X8_179 : Cond.methodLink RX8 179 yX1_mothCellBits ∈ tbG := tb_in (List.mem_append_right _ (List.mem_of_getElem? (i := 498) (by decide +kernel))) rfl
theorem wi_X1_mothCellBits : Cond.instanceMethod yX1_mothCellBits ∈ tbG := tb_in (List.mem_append_right _ (List.mem_of_getElem? (i := 499) (by decide +kernel))) rfl
theorem wl_X1_mothCellBits : Cond.selects RX1 yX1_mothCellBits yX1_mothCellBits ∈ tbG := tb_in (List.mem_append_right _ (List.mem_of_getElem? (i := 500) (by decide +kernel))) rfl
theorem wc_X1_mothCellBits : Cond.code yX1_mothCellBits cX1_mothCellBits 3 (some .int) ∈ tbG := tb_in (List.mem_append_right _ (List.mem_of_getElem? (i := 501) (by decide +kernel))) rfl
theorem wm_X8_182 : Cond.methodLink RX8 182 yX3_leastCells ∈ tbG := tb_in (List.mem_append_right _ (List.mem_of_getElem? (i := 502) (by decide +kernel))) rfl
theorem wi_X3_leastCells : Cond.instanceMethod yX3_leastCells ∈ tbG := tb_in (List.mem_append_right _ (List.mem_of_getElem? (i := 503) (by decide +kernel))) rfl
theorem wl_X3_leastCells : Cond.selects RX3 yX3_leastCells yX3_leastCells ∈ tbG := tb_in (List.mem_append_right _ (List.mem_of_getElem? (i := 504) (by decide +kernel))) rfl
theorem wc_X3_leastCells : Cond.code yX3_leastCells cX3_leastCells 4 (some .int) ∈ tbG := tb_in (List.mem_append_right _ (List.mem_of_getElem? (i := 505) (by decide +kernel))) rfl
theorem wt_X8_allBeside : Cond.static yX8_allBeside ∈ tbG := tb_in (List.mem_append_right _ (List.mem_of_getElem? (i := 507) (by decide +kernel))) rfl
theorem wc_X8_allBeside : Cond.code yX8_allBeside cX8_allBeside 4 (some .int) ∈ tbG := tb_in (List.mem_append_right _ (List.mem_of_getElem? (i := 508) (by decide +kernel))) rfl
theorem wk_X8_265 : Cond.constant RX8 265 (33554431) ∈ tbG := tb_in (List.mem_append_right _ (List.mem_of_getElem? (i := 509) (by decide +kernel))) rfl
theorem wk_X8_266 : Cond.constant RX8 266 (1082401) ∈ tbG := tb_in (List.mem_append_right _ (List.mem_of_getElem? (i := 510) (by decide +kernel))) rfl
theorem wm_X3_29 : Cond.methodLink RX3 29 yX3_search ∈ tbG := tb_in (List.mem_append_right _ (List.mem_of_getElem? (i := 511) (by decide +kernel))) rfl
theorem wi_X3_search : Cond.instanceMethod yX3_search ∈ tbG := tb_in (List.mem_append_right _ (List.mem_of_getElem? (i := 513) (by decide +kernel))) rfl
theorem wc_X3_search : Cond.code yX3_search cX3_search 8 none ∈ tbG := tb_in (List.mem_append_right _ (List.mem_of_getElem? (i := 514) (by decide +kernel))) rfl
theorem wm_X3_33 : Cond.methodLink RX3 33 yX3_openWay ∈ tbG := tb_in (List.mem_append_right _ (List.mem_of_getElem? (i := 515) (by decide +kernel))) rfl
theorem wi_X3_openWay : Cond.instanceMethod yX3_openWay ∈ tbG := tb_in (List.mem_append_right _ (List.mem_of_getElem? (i := 517) (by decide +kernel))) rfl
theorem wc_X3_openWay : Cond.code yX3_openWay cX3_openWay 5 (some .int) ∈ tbG := tb_in (List.mem_append_right _ (List.mem_of_getElem? (i := 518) (by decide +kernel))) rfl
theorem wm_X3_42 : Cond.methodLink RX3 42 yX3_wayBack ∈ tbG := tb_in (List.mem_append_right _ (List.mem_of_getElem? (i := 519) (by decide +kernel))) rfl
theorem wi_X3_wayBack : Cond.instanceMethod yX3_wayBack ∈ tbG := tb_in (List.mem_append_right _ (List.mem_of_getElem? (i := 521) (by decide +kernel))) rfl
theorem wc_X3_wayBack : Cond.code yX3_wayBack cX3_wayBack 5 (some .int) ∈ tbG := tb_in (List.mem_append_right _ (List.mem_of_getElem? (i := 522) (by decide +kernel))) rfl
theorem wm_X3_45 : Cond.methodLink RX3 45 yJ6_lowestOneBit_0f7a4 ∈ tbG := tb_in (List.mem_append_right _ (List.mem_of_getElem? (i := 523) (by decide +kernel))) rfl
theorem wt_J6_lowestOneBit_0f7a4 : Cond.static yJ6_lowestOneBit_0f7a4 ∈ tbG := tb_in (List.mem_append_right _ (List.mem_of_getElem? (i := 524) (by decide +kernel))) rfl
theorem wc_J6_lowestOneBit_0f7a4 : Cond.code yJ6_lowestOneBit_0f7a4 cJ6_lowestOneBit_0f7a4 1 (some .int) ∈ tbG := tb_in (List.mem_append_right _ (List.mem_of_getElem? (i := 525) (by decide +kernel))) rfl
theorem wm_X3_36 : Cond.methodLink RX3 36 yJ9_min_7cf53 ∈ tbG := tb_in (List.mem_append_right _ (List.mem_of_getElem? (i := 526) (by decide +kernel))) rfl
theorem wm_L_77 : Cond.methodLink RL 77 yX8_darned ∈ tbG := tb_in (List.mem_append_right _ (List.mem_of_getElem? (i := 527) (by decide +kernel))) rfl
theorem wi_X8_darned : Cond.instanceMethod yX8_darned ∈ tbG := tb_in (List.mem_append_right _ (List.mem_of_getElem? (i := 528) (by decide +kernel))) rfl
theorem wl_X8_darned : Cond.selects RX8 yX8_darned yX8_darned ∈ tbG := tb_in (List.mem_append_right _ (List.mem_of_getElem? (i := 529) (by decide +kernel))) rfl
theorem wc_X8_darned : Cond.code yX8_darned cX8_darned 2 (some .int) ∈ tbG := tb_in (List.mem_append_right _ (List.mem_of_getElem? (i := 530) (by decide +kernel))) rfl
theorem wm_X8_186 : Cond.methodLink RX8 186 yX1_bitsOf ∈ tbG := tb_in (List.mem_append_right _ (List.mem_of_getElem? (i := 531) (by decide +kernel))) rfl
theorem wm_X8_189 : Cond.methodLink RX8 189 yX0_darn ∈ tbG := tb_in (List.mem_append_right _ (List.mem_of_getElem? (i := 532) (by decide +kernel))) rfl
theorem wi_X0_darn : Cond.instanceMethod yX0_darn ∈ tbG := tb_in (List.mem_append_right _ (List.mem_of_getElem? (i := 533) (by decide +kernel))) rfl
theorem wl_X0_darn : Cond.selects RX0 yX0_darn yX0_darn ∈ tbG := tb_in (List.mem_append_right _ (List.mem_of_getElem? (i := 534) (by decide +kernel))) rfl
theorem wc_X0_darn : Cond.code yX0_darn cX0_darn 4 none ∈ tbG := tb_in (List.mem_append_right _ (List.mem_of_getElem? (i := 535) (by decide +kernel))) rfl
theorem wm_X0_32 : Cond.methodLink RX0 32 yX0_partHoles ∈ tbG := tb_in (List.mem_append_right _ (List.mem_of_getElem? (i := 537) (by decide +kernel))) rfl
theorem wi_X0_partHoles : Cond.instanceMethod yX0_partHoles ∈ tbG := tb_in (List.mem_append_right _ (List.mem_of_getElem? (i := 539) (by decide +kernel))) rfl
theorem wc_X0_partHoles : Cond.code yX0_partHoles cX0_partHoles 4 (some .int) ∈ tbG := tb_in (List.mem_append_right _ (List.mem_of_getElem? (i := 540) (by decide +kernel))) rfl
theorem wm_X0_36 : Cond.methodLink RX0 36 yX0_waysFrom ∈ tbG := tb_in (List.mem_append_right _ (List.mem_of_getElem? (i := 541) (by decide +kernel))) rfl
theorem wi_X0_waysFrom : Cond.instanceMethod yX0_waysFrom ∈ tbG := tb_in (List.mem_append_right _ (List.mem_of_getElem? (i := 543) (by decide +kernel))) rfl
theorem wc_X0_waysFrom : Cond.code yX0_waysFrom cX0_waysFrom 7 (some .int) ∈ tbG := tb_in (List.mem_append_right _ (List.mem_of_getElem? (i := 544) (by decide +kernel))) rfl
theorem wm_X0_45 : Cond.methodLink RX0 45 yX0_digits ∈ tbG := tb_in (List.mem_append_right _ (List.mem_of_getElem? (i := 545) (by decide +kernel))) rfl
theorem wi_X0_digits : Cond.instanceMethod yX0_digits ∈ tbG := tb_in (List.mem_append_right _ (List.mem_of_getElem? (i := 547) (by decide +kernel))) rfl
theorem wc_X0_digits : Cond.code yX0_digits cX0_digits 4 (some .int) ∈ tbG := tb_in (List.mem_append_right _ (List.mem_of_getElem? (i := 548) (by decide +kernel))) rfl
theorem wm_X0_48 : Cond.methodLink RX0 48 yX0_threadOf ∈ tbG := tb_in (List.mem_append_right _ (List.mem_of_getElem? (i := 549) (by decide +kernel))) rfl
theorem wi_X0_threadOf : Cond.instanceMethod yX0_threadOf ∈ tbG := tb_in (List.mem_append_right _ (List.mem_of_getElem? (i := 551) (by decide +kernel))) rfl
theorem wc_X0_threadOf : Cond.code yX0_threadOf cX0_threadOf 2 (some .int) ∈ tbG := tb_in (List.mem_append_right _ (List.mem_of_getElem? (i := 552) (by decide +kernel))) rfl
theorem wm_L_81 : Cond.methodLink RL 81 yX8_sheet ∈ tbG := tb_in (List.mem_append_right _ (List.mem_of_getElem? (i := 553) (by decide +kernel))) rfl
theorem wi_X8_sheet : Cond.instanceMethod yX8_sheet ∈ tbG := tb_in (List.mem_append_right _ (List.mem_of_getElem? (i := 554) (by decide +kernel))) rfl
theorem wl_X8_sheet : Cond.selects RX8 yX8_sheet yX8_sheet ∈ tbG := tb_in (List.mem_append_right _ (List.mem_of_getElem? (i := 555) (by decide +kernel))) rfl
theorem wc_X8_sheet : Cond.code yX8_sheet cX8_sheet 6 (some .int) ∈ tbG := tb_in (List.mem_append_right _ (List.mem_of_getElem? (i := 556) (by decide +kernel))) rfl
theorem wm_X8_199 : Cond.methodLink RX8 199 yX8_areFourLands ∈ tbG := tb_in (List.mem_append_right _ (List.mem_of_getElem? (i := 557) (by decide +kernel))) rfl
theorem wt_X8_areFourLands : Cond.static yX8_areFourLands ∈ tbG := tb_in (List.mem_append_right _ (List.mem_of_getElem? (i := 558) (by decide +kernel))) rfl
theorem wc_X8_areFourLands : Cond.code yX8_areFourLands cX8_areFourLands 1 (some .boolean) ∈ tbG := tb_in (List.mem_append_right _ (List.mem_of_getElem? (i := 559) (by decide +kernel))) rfl
theorem wm_X8_202 : Cond.methodLink RX8 202 yX1_fourLandsFrom ∈ tbG := tb_in (List.mem_append_right _ (List.mem_of_getElem? (i := 560) (by decide +kernel))) rfl
theorem wi_X1_fourLandsFrom : Cond.instanceMethod yX1_fourLandsFrom ∈ tbG := tb_in (List.mem_append_right _ (List.mem_of_getElem? (i := 561) (by decide +kernel))) rfl
theorem wl_X1_fourLandsFrom : Cond.selects RX1 yX1_fourLandsFrom yX1_fourLandsFrom ∈ tbG := tb_in (List.mem_append_right _ (List.mem_of_getElem? (i := 562) (by decide +kernel))) rfl
theorem wc_X1_fourLandsFrom : Cond.code yX1_fourLandsFrom cX1_fourLandsFrom 4 (some .int) ∈ tbG := tb_in (List.mem_append_right _ (List.mem_of_getElem? (i := 563) (by decide +kernel))) rfl
theorem wm_L_85 : Cond.methodLink RL 85 yX8_seen ∈ tbG := tb_in (List.mem_append_right _ (List.mem_of_getElem? (i := 564) (by decide +kernel))) rfl
theorem wi_X8_seen : Cond.instanceMethod yX8_seen ∈ tbG := tb_in (List.mem_append_right _ (List.mem_of_getElem? (i := 565) (by decide +kernel))) rfl
theorem wl_X8_seen : Cond.selects RX8 yX8_seen yX8_seen ∈ tbG := tb_in (List.mem_append_right _ (List.mem_of_getElem? (i := 566) (by decide +kernel))) rfl
theorem wc_X8_seen : Cond.code yX8_seen cX8_seen 3 (some .int) ∈ tbG := tb_in (List.mem_append_right _ (List.mem_of_getElem? (i := 567) (by decide +kernel))) rfl
theorem wm_X8_205 : Cond.methodLink RX8 205 yX1_addSight ∈ tbG := tb_in (List.mem_append_right _ (List.mem_of_getElem? (i := 568) (by decide +kernel))) rfl
theorem wi_X1_addSight : Cond.instanceMethod yX1_addSight ∈ tbG := tb_in (List.mem_append_right _ (List.mem_of_getElem? (i := 569) (by decide +kernel))) rfl
theorem wl_X1_addSight : Cond.selects RX1 yX1_addSight yX1_addSight ∈ tbG := tb_in (List.mem_append_right _ (List.mem_of_getElem? (i := 570) (by decide +kernel))) rfl
theorem wc_X1_addSight : Cond.code yX1_addSight cX1_addSight 3 (some .boolean) ∈ tbG := tb_in (List.mem_append_right _ (List.mem_of_getElem? (i := 571) (by decide +kernel))) rfl
theorem wm_L_89 : Cond.methodLink RL 89 yX8_forget ∈ tbG := tb_in (List.mem_append_right _ (List.mem_of_getElem? (i := 572) (by decide +kernel))) rfl
theorem wi_X8_forget : Cond.instanceMethod yX8_forget ∈ tbG := tb_in (List.mem_append_right _ (List.mem_of_getElem? (i := 573) (by decide +kernel))) rfl
theorem wl_X8_forget : Cond.selects RX8 yX8_forget yX8_forget ∈ tbG := tb_in (List.mem_append_right _ (List.mem_of_getElem? (i := 574) (by decide +kernel))) rfl
theorem wc_X8_forget : Cond.code yX8_forget cX8_forget 2 (some .int) ∈ tbG := tb_in (List.mem_append_right _ (List.mem_of_getElem? (i := 575) (by decide +kernel))) rfl
theorem wm_L_93 : Cond.methodLink RL 93 yX8_began ∈ tbG := tb_in (List.mem_append_right _ (List.mem_of_getElem? (i := 576) (by decide +kernel))) rfl
theorem wi_X8_began : Cond.instanceMethod yX8_began ∈ tbG := tb_in (List.mem_append_right _ (List.mem_of_getElem? (i := 577) (by decide +kernel))) rfl
theorem wl_X8_began : Cond.selects RX8 yX8_began yX8_began ∈ tbG := tb_in (List.mem_append_right _ (List.mem_of_getElem? (i := 578) (by decide +kernel))) rfl
theorem wc_X8_began : Cond.code yX8_began cX8_began 2 (some .int) ∈ tbG := tb_in (List.mem_append_right _ (List.mem_of_getElem? (i := 579) (by decide +kernel))) rfl
theorem wm_X8_212 : Cond.methodLink RX8 212 yX7_gather ∈ tbG := tb_in (List.mem_append_right _ (List.mem_of_getElem? (i := 580) (by decide +kernel))) rfl
theorem wi_X7_gather : Cond.instanceMethod yX7_gather ∈ tbG := tb_in (List.mem_append_right _ (List.mem_of_getElem? (i := 581) (by decide +kernel))) rfl
theorem wl_X7_gather : Cond.selects RX7 yX7_gather yX7_gather ∈ tbG := tb_in (List.mem_append_right _ (List.mem_of_getElem? (i := 582) (by decide +kernel))) rfl
theorem wc_X7_gather : Cond.code yX7_gather cX7_gather 3 none ∈ tbG := tb_in (List.mem_append_right _ (List.mem_of_getElem? (i := 583) (by decide +kernel))) rfl
theorem wm_X7_39 : Cond.methodLink RX7 39 yX7_readSights ∈ tbG := tb_in (List.mem_append_right _ (List.mem_of_getElem? (i := 584) (by decide +kernel))) rfl
theorem wi_X7_readSights : Cond.instanceMethod yX7_readSights ∈ tbG := tb_in (List.mem_append_right _ (List.mem_of_getElem? (i := 586) (by decide +kernel))) rfl
theorem wc_X7_readSights : Cond.code yX7_readSights cX7_readSights 6 none ∈ tbG := tb_in (List.mem_append_right _ (List.mem_of_getElem? (i := 587) (by decide +kernel))) rfl
theorem wm_X7_47 : Cond.methodLink RX7 47 yX7_fits ∈ tbG := tb_in (List.mem_append_right _ (List.mem_of_getElem? (i := 589) (by decide +kernel))) rfl
theorem wi_X7_fits : Cond.instanceMethod yX7_fits ∈ tbG := tb_in (List.mem_append_right _ (List.mem_of_getElem? (i := 591) (by decide +kernel))) rfl
theorem wc_X7_fits : Cond.code yX7_fits cX7_fits 4 (some .boolean) ∈ tbG := tb_in (List.mem_append_right _ (List.mem_of_getElem? (i := 592) (by decide +kernel))) rfl
theorem wm_X8_218 : Cond.methodLink RX8 218 yX7_toldStart ∈ tbG := tb_in (List.mem_append_right _ (List.mem_of_getElem? (i := 593) (by decide +kernel))) rfl
theorem wi_X7_toldStart : Cond.instanceMethod yX7_toldStart ∈ tbG := tb_in (List.mem_append_right _ (List.mem_of_getElem? (i := 594) (by decide +kernel))) rfl
theorem wl_X7_toldStart : Cond.selects RX7 yX7_toldStart yX7_toldStart ∈ tbG := tb_in (List.mem_append_right _ (List.mem_of_getElem? (i := 595) (by decide +kernel))) rfl
theorem wc_X7_toldStart : Cond.code yX7_toldStart cX7_toldStart 3 (some .int) ∈ tbG := tb_in (List.mem_append_right _ (List.mem_of_getElem? (i := 596) (by decide +kernel))) rfl
theorem wm_L_97 : Cond.methodLink RL 97 yX8_ask ∈ tbG := tb_in (List.mem_append_right _ (List.mem_of_getElem? (i := 597) (by decide +kernel))) rfl
theorem wi_X8_ask : Cond.instanceMethod yX8_ask ∈ tbG := tb_in (List.mem_append_right _ (List.mem_of_getElem? (i := 598) (by decide +kernel))) rfl
theorem wl_X8_ask : Cond.selects RX8 yX8_ask yX8_ask ∈ tbG := tb_in (List.mem_append_right _ (List.mem_of_getElem? (i := 599) (by decide +kernel))) rfl
theorem wc_X8_ask : Cond.code yX8_ask cX8_ask 2 (some .int) ∈ tbG := tb_in (List.mem_append_right _ (List.mem_of_getElem? (i := 600) (by decide +kernel))) rfl
theorem wm_X8_221 : Cond.methodLink RX8 221 yX7_chooseNight ∈ tbG := tb_in (List.mem_append_right _ (List.mem_of_getElem? (i := 601) (by decide +kernel))) rfl
theorem wi_X7_chooseNight : Cond.instanceMethod yX7_chooseNight ∈ tbG := tb_in (List.mem_append_right _ (List.mem_of_getElem? (i := 602) (by decide +kernel))) rfl
theorem wl_X7_chooseNight : Cond.selects RX7 yX7_chooseNight yX7_chooseNight ∈ tbG := tb_in (List.mem_append_right _ (List.mem_of_getElem? (i := 603) (by decide +kernel))) rfl
theorem wc_X7_chooseNight : Cond.code yX7_chooseNight cX7_chooseNight 4 none ∈ tbG := tb_in (List.mem_append_right _ (List.mem_of_getElem? (i := 604) (by decide +kernel))) rfl
theorem wm_X7_71 : Cond.methodLink RX7 71 yX7_mostInOneCell ∈ tbG := tb_in (List.mem_append_right _ (List.mem_of_getElem? (i := 605) (by decide +kernel))) rfl
theorem wi_X7_mostInOneCell : Cond.instanceMethod yX7_mostInOneCell ∈ tbG := tb_in (List.mem_append_right _ (List.mem_of_getElem? (i := 607) (by decide +kernel))) rfl
theorem wc_X7_mostInOneCell : Cond.code yX7_mostInOneCell cX7_mostInOneCell 4 (some .int) ∈ tbG := tb_in (List.mem_append_right _ (List.mem_of_getElem? (i := 608) (by decide +kernel))) rfl
theorem wm_X7_75 : Cond.methodLink RX7 75 yJ9_max_7cf53 ∈ tbG := tb_in (List.mem_append_right _ (List.mem_of_getElem? (i := 609) (by decide +kernel))) rfl
theorem wm_L_101 : Cond.methodLink RL 101 yX8_folds ∈ tbG := tb_in (List.mem_append_right _ (List.mem_of_getElem? (i := 610) (by decide +kernel))) rfl
theorem wi_X8_folds : Cond.instanceMethod yX8_folds ∈ tbG := tb_in (List.mem_append_right _ (List.mem_of_getElem? (i := 611) (by decide +kernel))) rfl
theorem wl_X8_folds : Cond.selects RX8 yX8_folds yX8_folds ∈ tbG := tb_in (List.mem_append_right _ (List.mem_of_getElem? (i := 612) (by decide +kernel))) rfl
theorem wc_X8_folds : Cond.code yX8_folds cX8_folds 4 (some .int) ∈ tbG := tb_in (List.mem_append_right _ (List.mem_of_getElem? (i := 613) (by decide +kernel))) rfl
theorem wm_X8_230 : Cond.methodLink RX8 230 yX8_winningPart ∈ tbG := tb_in (List.mem_append_right _ (List.mem_of_getElem? (i := 614) (by decide +kernel))) rfl
theorem wt_X8_winningPart : Cond.static yX8_winningPart ∈ tbG := tb_in (List.mem_append_right _ (List.mem_of_getElem? (i := 615) (by decide +kernel))) rfl
theorem wc_X8_winningPart : Cond.code yX8_winningPart cX8_winningPart 2 (some .int) ∈ tbG := tb_in (List.mem_append_right _ (List.mem_of_getElem? (i := 616) (by decide +kernel))) rfl
theorem wf_X8_262 : Cond.fieldLink RX8 262 "EatenMaps" "STRIPS" "[I" ∈ tbG := tb_in (List.mem_append_right _ (List.mem_of_getElem? (i := 617) (by decide +kernel))) rfl
theorem wm_L_105 : Cond.methodLink RL 105 yX8_coffee ∈ tbG := tb_in (List.mem_append_right _ (List.mem_of_getElem? (i := 619) (by decide +kernel))) rfl
theorem wi_X8_coffee : Cond.instanceMethod yX8_coffee ∈ tbG := tb_in (List.mem_append_right _ (List.mem_of_getElem? (i := 620) (by decide +kernel))) rfl
theorem wl_X8_coffee : Cond.selects RX8 yX8_coffee yX8_coffee ∈ tbG := tb_in (List.mem_append_right _ (List.mem_of_getElem? (i := 621) (by decide +kernel))) rfl
theorem wc_X8_coffee : Cond.code yX8_coffee cX8_coffee 14 (some .long) ∈ tbG := tb_in (List.mem_append_right _ (List.mem_of_getElem? (i := 622) (by decide +kernel))) rfl
theorem wk_X8_233 : Cond.constantLong RX8 233 (-1000000000000000002) ∈ tbG := tb_in (List.mem_append_right _ (List.mem_of_getElem? (i := 623) (by decide +kernel))) rfl
theorem wm_X8_235 : Cond.methodLink RX8 235 yX2_pour ∈ tbG := tb_in (List.mem_append_right _ (List.mem_of_getElem? (i := 624) (by decide +kernel))) rfl
theorem wi_X2_pour : Cond.instanceMethod yX2_pour ∈ tbG := tb_in (List.mem_append_right _ (List.mem_of_getElem? (i := 625) (by decide +kernel))) rfl
theorem wl_X2_pour : Cond.selects RX2 yX2_pour yX2_pour ∈ tbG := tb_in (List.mem_append_right _ (List.mem_of_getElem? (i := 626) (by decide +kernel))) rfl
theorem wc_X2_pour : Cond.code yX2_pour cX2_pour 3 none ∈ tbG := tb_in (List.mem_append_right _ (List.mem_of_getElem? (i := 627) (by decide +kernel))) rfl
theorem wm_X8_239 : Cond.methodLink RX8 239 yX2_move ∈ tbG := tb_in (List.mem_append_right _ (List.mem_of_getElem? (i := 628) (by decide +kernel))) rfl
theorem wi_X2_move : Cond.instanceMethod yX2_move ∈ tbG := tb_in (List.mem_append_right _ (List.mem_of_getElem? (i := 629) (by decide +kernel))) rfl
theorem wl_X2_move : Cond.selects RX2 yX2_move yX2_move ∈ tbG := tb_in (List.mem_append_right _ (List.mem_of_getElem? (i := 630) (by decide +kernel))) rfl
theorem wc_X2_move : Cond.code yX2_move cX2_move 5 none ∈ tbG := tb_in (List.mem_append_right _ (List.mem_of_getElem? (i := 631) (by decide +kernel))) rfl
theorem wm_X2_22 : Cond.methodLink RX2 22 yJ9_min_7cf53 ∈ tbG := tb_in (List.mem_append_right _ (List.mem_of_getElem? (i := 632) (by decide +kernel))) rfl
theorem wm_X2_28 : Cond.methodLink RX2 28 yJ9_max_7cf53 ∈ tbG := tb_in (List.mem_append_right _ (List.mem_of_getElem? (i := 633) (by decide +kernel))) rfl
theorem wk_X2_31 : Cond.constantLong RX2 31 (10) ∈ tbG := tb_in (List.mem_append_right _ (List.mem_of_getElem? (i := 634) (by decide +kernel))) rfl
theorem wm_X8_243 : Cond.methodLink RX8 243 yX2_share ∈ tbG := tb_in (List.mem_append_right _ (List.mem_of_getElem? (i := 635) (by decide +kernel))) rfl
theorem wi_X2_share : Cond.instanceMethod yX2_share ∈ tbG := tb_in (List.mem_append_right _ (List.mem_of_getElem? (i := 636) (by decide +kernel))) rfl
theorem wl_X2_share : Cond.selects RX2 yX2_share yX2_share ∈ tbG := tb_in (List.mem_append_right _ (List.mem_of_getElem? (i := 637) (by decide +kernel))) rfl
theorem wc_X2_share : Cond.code yX2_share cX2_share 2 (some .long) ∈ tbG := tb_in (List.mem_append_right _ (List.mem_of_getElem? (i := 638) (by decide +kernel))) rfl
theorem wm_X8_251 : Cond.methodLink RX8 251 yX8_greatestCommon ∈ tbG := tb_in (List.mem_append_right _ (List.mem_of_getElem? (i := 639) (by decide +kernel))) rfl
theorem wt_X8_greatestCommon : Cond.static yX8_greatestCommon ∈ tbG := tb_in (List.mem_append_right _ (List.mem_of_getElem? (i := 640) (by decide +kernel))) rfl
theorem wc_X8_greatestCommon : Cond.code yX8_greatestCommon cX8_greatestCommon 11 (some .long) ∈ tbG := tb_in (List.mem_append_right _ (List.mem_of_getElem? (i := 641) (by decide +kernel))) rfl
theorem wm_L_110 : Cond.methodLink RL 110 yX8_year ∈ tbG := tb_in (List.mem_append_right _ (List.mem_of_getElem? (i := 642) (by decide +kernel))) rfl
theorem wi_X8_year : Cond.instanceMethod yX8_year ∈ tbG := tb_in (List.mem_append_right _ (List.mem_of_getElem? (i := 643) (by decide +kernel))) rfl
theorem wl_X8_year : Cond.selects RX8 yX8_year yX8_year ∈ tbG := tb_in (List.mem_append_right _ (List.mem_of_getElem? (i := 644) (by decide +kernel))) rfl
theorem wc_X8_year : Cond.code yX8_year cX8_year 6 (some .int) ∈ tbG := tb_in (List.mem_append_right _ (List.mem_of_getElem? (i := 645) (by decide +kernel))) rfl
theorem wk_X8_255 : Cond.constant RX8 255 (65537) ∈ tbG := tb_in (List.mem_append_right _ (List.mem_of_getElem? (i := 646) (by decide +kernel))) rfl
theorem wm_X8_256 : Cond.methodLink RX8 256 yX1_draw ∈ tbG := tb_in (List.mem_append_right _ (List.mem_of_getElem? (i := 647) (by decide +kernel))) rfl
theorem wi_X1_draw : Cond.instanceMethod yX1_draw ∈ tbG := tb_in (List.mem_append_right _ (List.mem_of_getElem? (i := 648) (by decide +kernel))) rfl
theorem wl_X1_draw : Cond.selects RX1 yX1_draw yX1_draw ∈ tbG := tb_in (List.mem_append_right _ (List.mem_of_getElem? (i := 649) (by decide +kernel))) rfl
theorem wc_X1_draw : Cond.code yX1_draw cX1_draw 3 none ∈ tbG := tb_in (List.mem_append_right _ (List.mem_of_getElem? (i := 650) (by decide +kernel))) rfl
theorem wm_X1_85 : Cond.methodLink RX1 85 yX1_turn ∈ tbG := tb_in (List.mem_append_right _ (List.mem_of_getElem? (i := 651) (by decide +kernel))) rfl
theorem wm_X1_88 : Cond.methodLink RX1 88 yX1_layCamphor ∈ tbG := tb_in (List.mem_append_right _ (List.mem_of_getElem? (i := 652) (by decide +kernel))) rfl
theorem wm_X1_91 : Cond.methodLink RX1 91 yX1_darn ∈ tbG := tb_in (List.mem_append_right _ (List.mem_of_getElem? (i := 653) (by decide +kernel))) rfl
theorem wm_X1_94 : Cond.methodLink RX1 94 yX1_passNight ∈ tbG := tb_in (List.mem_append_right _ (List.mem_of_getElem? (i := 654) (by decide +kernel))) rfl
theorem wm_L_114 : Cond.methodLink RL 114 yX8_image ∈ tbG := tb_in (List.mem_append_right _ (List.mem_of_getElem? (i := 655) (by decide +kernel))) rfl
theorem wi_X8_image : Cond.instanceMethod yX8_image ∈ tbG := tb_in (List.mem_append_right _ (List.mem_of_getElem? (i := 656) (by decide +kernel))) rfl
theorem wl_X8_image : Cond.selects RX8 yX8_image yX8_image ∈ tbG := tb_in (List.mem_append_right _ (List.mem_of_getElem? (i := 657) (by decide +kernel))) rfl
theorem wc_X8_image : Cond.code yX8_image cX8_image 2 (some .int) ∈ tbG := tb_in (List.mem_append_right _ (List.mem_of_getElem? (i := 658) (by decide +kernel))) rfl
theorem wm_L_118 : Cond.methodLink RL 118 yX8_restore ∈ tbG := tb_in (List.mem_append_right _ (List.mem_of_getElem? (i := 659) (by decide +kernel))) rfl
theorem wi_X8_restore : Cond.instanceMethod yX8_restore ∈ tbG := tb_in (List.mem_append_right _ (List.mem_of_getElem? (i := 660) (by decide +kernel))) rfl
theorem wl_X8_restore : Cond.selects RX8 yX8_restore yX8_restore ∈ tbG := tb_in (List.mem_append_right _ (List.mem_of_getElem? (i := 661) (by decide +kernel))) rfl
theorem wc_X8_restore : Cond.code yX8_restore cX8_restore 2 (some .int) ∈ tbG := tb_in (List.mem_append_right _ (List.mem_of_getElem? (i := 662) (by decide +kernel))) rfl
theorem wm_L_122 : Cond.methodLink RL 122 yX8_told ∈ tbG := tb_in (List.mem_append_right _ (List.mem_of_getElem? (i := 663) (by decide +kernel))) rfl
theorem wi_X8_told : Cond.instanceMethod yX8_told ∈ tbG := tb_in (List.mem_append_right _ (List.mem_of_getElem? (i := 664) (by decide +kernel))) rfl
theorem wl_X8_told : Cond.selects RX8 yX8_told yX8_told ∈ tbG := tb_in (List.mem_append_right _ (List.mem_of_getElem? (i := 665) (by decide +kernel))) rfl
theorem wc_X8_told : Cond.code yX8_told cX8_told 2 (some .int) ∈ tbG := tb_in (List.mem_append_right _ (List.mem_of_getElem? (i := 666) (by decide +kernel))) rfl
theorem wm_X8_259 : Cond.methodLink RX8 259 yX8_toldOfOne ∈ tbG := tb_in (List.mem_append_right _ (List.mem_of_getElem? (i := 667) (by decide +kernel))) rfl
theorem wi_X8_toldOfOne : Cond.instanceMethod yX8_toldOfOne ∈ tbG := tb_in (List.mem_append_right _ (List.mem_of_getElem? (i := 669) (by decide +kernel))) rfl
theorem wc_X8_toldOfOne : Cond.code yX8_toldOfOne cX8_toldOfOne 2 (some .int) ∈ tbG := tb_in (List.mem_append_right _ (List.mem_of_getElem? (i := 670) (by decide +kernel))) rfl
theorem wq_L_10 : Cond.classLink RL 10 RX9 ∈ tbG := tb_in (List.mem_append_right _ (List.mem_of_getElem? (i := 671) (by decide +kernel))) rfl
theorem wn_X9 : Cond.instantiable RX9 21 ∈ tbG := tb_in (List.mem_append_right _ (List.mem_of_getElem? (i := 672) (by decide +kernel))) rfl
theorem wm_L_12 : Cond.methodLink RL 12 yX9_init ∈ tbG := tb_in (List.mem_append_right _ (List.mem_of_getElem? (i := 673) (by decide +kernel))) rfl
theorem wi_X9_init : Cond.instanceMethod yX9_init ∈ tbG := tb_in (List.mem_append_right _ (List.mem_of_getElem? (i := 674) (by decide +kernel))) rfl
theorem wc_X9_init : Cond.code yX9_init cX9_init 2 none ∈ tbG := tb_in (List.mem_append_right _ (List.mem_of_getElem? (i := 675) (by decide +kernel))) rfl
theorem wm_X9_1 : Cond.methodLink RX9 1 objectInit ∈ tbG := tb_in (List.mem_append_right _ (List.mem_of_getElem? (i := 676) (by decide +kernel))) rfl
theorem wf_X9_7 : Cond.fieldLink RX9 7 "EatenMapsModel" "book" "[I" ∈ tbG := tb_in (List.mem_append_right _ (List.mem_of_getElem? (i := 677) (by decide +kernel))) rfl
theorem wf_X9_13 : Cond.fieldLink RX9 13 "EatenMapsModel" "now" "[I" ∈ tbG := tb_in (List.mem_append_right _ (List.mem_of_getElem? (i := 678) (by decide +kernel))) rfl
theorem wf_X9_161 : Cond.fieldLink RX9 161 "EatenMapsModel" "sights" "I" ∈ tbG := tb_in (List.mem_append_right _ (List.mem_of_getElem? (i := 679) (by decide +kernel))) rfl
theorem wf_X9_16 : Cond.fieldLink RX9 16 "EatenMapsModel" "sight" "[I" ∈ tbG := tb_in (List.mem_append_right _ (List.mem_of_getElem? (i := 680) (by decide +kernel))) rfl
theorem wf_X9_63 : Cond.fieldLink RX9 63 "EatenMapsModel" "signs" "I" ∈ tbG := tb_in (List.mem_append_right _ (List.mem_of_getElem? (i := 681) (by decide +kernel))) rfl
theorem wf_X9_19 : Cond.fieldLink RX9 19 "EatenMapsModel" "pad" "[I" ∈ tbG := tb_in (List.mem_append_right _ (List.mem_of_getElem? (i := 682) (by decide +kernel))) rfl
theorem wf_X9_79 : Cond.fieldLink RX9 79 "EatenMapsModel" "nights" "I" ∈ tbG := tb_in (List.mem_append_right _ (List.mem_of_getElem? (i := 683) (by decide +kernel))) rfl
theorem wf_X9_82 : Cond.fieldLink RX9 82 "EatenMapsModel" "townAt" "I" ∈ tbG := tb_in (List.mem_append_right _ (List.mem_of_getElem? (i := 684) (by decide +kernel))) rfl
theorem wf_X9_85 : Cond.fieldLink RX9 85 "EatenMapsModel" "townCell" "I" ∈ tbG := tb_in (List.mem_append_right _ (List.mem_of_getElem? (i := 685) (by decide +kernel))) rfl
theorem wf_X9_125 : Cond.fieldLink RX9 125 "EatenMapsModel" "reason" "I" ∈ tbG := tb_in (List.mem_append_right _ (List.mem_of_getElem? (i := 686) (by decide +kernel))) rfl
theorem wf_X9_119 : Cond.fieldLink RX9 119 "EatenMapsModel" "acts" "I" ∈ tbG := tb_in (List.mem_append_right _ (List.mem_of_getElem? (i := 687) (by decide +kernel))) rfl
theorem wf_X9_98 : Cond.fieldLink RX9 98 "EatenMapsModel" "at" "I" ∈ tbG := tb_in (List.mem_append_right _ (List.mem_of_getElem? (i := 688) (by decide +kernel))) rfl
theorem wf_X9_22 : Cond.fieldLink RX9 22 "EatenMapsModel" "cost" "[I" ∈ tbG := tb_in (List.mem_append_right _ (List.mem_of_getElem? (i := 689) (by decide +kernel))) rfl
theorem wf_X9_25 : Cond.fieldLink RX9 25 "EatenMapsModel" "hole" "[I" ∈ tbG := tb_in (List.mem_append_right _ (List.mem_of_getElem? (i := 690) (by decide +kernel))) rfl
theorem wf_X9_28 : Cond.fieldLink RX9 28 "EatenMapsModel" "counts" "[I" ∈ tbG := tb_in (List.mem_append_right _ (List.mem_of_getElem? (i := 691) (by decide +kernel))) rfl
theorem wf_X9_31 : Cond.fieldLink RX9 31 "EatenMapsModel" "worth" "[I" ∈ tbG := tb_in (List.mem_append_right _ (List.mem_of_getElem? (i := 692) (by decide +kernel))) rfl
theorem wf_X9_34 : Cond.fieldLink RX9 34 "EatenMapsModel" "met" "[I" ∈ tbG := tb_in (List.mem_append_right _ (List.mem_of_getElem? (i := 693) (by decide +kernel))) rfl
theorem wf_X9_37 : Cond.fieldLink RX9 37 "EatenMapsModel" "ways" "[J" ∈ tbG := tb_in (List.mem_append_right _ (List.mem_of_getElem? (i := 694) (by decide +kernel))) rfl
theorem wf_X9_41 : Cond.fieldLink RX9 41 "EatenMapsModel" "nextWays" "[J" ∈ tbG := tb_in (List.mem_append_right _ (List.mem_of_getElem? (i := 695) (by decide +kernel))) rfl
theorem wf_X9_44 : Cond.fieldLink RX9 44 "EatenMapsModel" "image" "[I" ∈ tbG := tb_in (List.mem_append_right _ (List.mem_of_getElem? (i := 696) (by decide +kernel))) rfl
theorem wf_X9_47 : Cond.fieldLink RX9 47 "EatenMapsModel" "isKept" "[Z" ∈ tbG := tb_in (List.mem_append_right _ (List.mem_of_getElem? (i := 697) (by decide +kernel))) rfl
theorem wm_L_17 : Cond.methodLink RL 17 yX9_land ∈ tbG := tb_in (List.mem_append_right _ (List.mem_of_getElem? (i := 741) (by decide +kernel))) rfl
theorem wi_X9_land : Cond.instanceMethod yX9_land ∈ tbG := tb_in (List.mem_append_right _ (List.mem_of_getElem? (i := 742) (by decide +kernel))) rfl
theorem wl_X9_land : Cond.selects RX9 yX9_land yX9_land ∈ tbG := tb_in (List.mem_append_right _ (List.mem_of_getElem? (i := 743) (by decide +kernel))) rfl
theorem wc_X9_land : Cond.code yX9_land cX9_land 4 (some .int) ∈ tbG := tb_in (List.mem_append_right _ (List.mem_of_getElem? (i := 744) (by decide +kernel))) rfl
theorem wm_X9_59 : Cond.methodLink RX9 59 yX9_isCell ∈ tbG := tb_in (List.mem_append_right _ (List.mem_of_getElem? (i := 745) (by decide +kernel))) rfl
theorem wt_X9_isCell : Cond.static yX9_isCell ∈ tbG := tb_in (List.mem_append_right _ (List.mem_of_getElem? (i := 746) (by decide +kernel))) rfl
theorem wc_X9_isCell : Cond.code yX9_isCell cX9_isCell 1 (some .boolean) ∈ tbG := tb_in (List.mem_append_right _ (List.mem_of_getElem? (i := 747) (by decide +kernel))) rfl
theorem wm_X9_51 : Cond.methodLink RX9 51 yX9_in ∈ tbG := tb_in (List.mem_append_right _ (List.mem_of_getElem? (i := 748) (by decide +kernel))) rfl
theorem wt_X9_in : Cond.static yX9_in ∈ tbG := tb_in (List.mem_append_right _ (List.mem_of_getElem? (i := 749) (by decide +kernel))) rfl
theorem wc_X9_in : Cond.code yX9_in cX9_in 3 (some .boolean) ∈ tbG := tb_in (List.mem_append_right _ (List.mem_of_getElem? (i := 750) (by decide +kernel))) rfl
theorem wm_L_21 : Cond.methodLink RL 21 yX9_camphor ∈ tbG := tb_in (List.mem_append_right _ (List.mem_of_getElem? (i := 751) (by decide +kernel))) rfl
theorem wi_X9_camphor : Cond.instanceMethod yX9_camphor ∈ tbG := tb_in (List.mem_append_right _ (List.mem_of_getElem? (i := 752) (by decide +kernel))) rfl
theorem wl_X9_camphor : Cond.selects RX9 yX9_camphor yX9_camphor ∈ tbG := tb_in (List.mem_append_right _ (List.mem_of_getElem? (i := 753) (by decide +kernel))) rfl
theorem wc_X9_camphor : Cond.code yX9_camphor cX9_camphor 4 (some .int) ∈ tbG := tb_in (List.mem_append_right _ (List.mem_of_getElem? (i := 754) (by decide +kernel))) rfl
theorem wm_L_26 : Cond.methodLink RL 26 yX9_moth ∈ tbG := tb_in (List.mem_append_right _ (List.mem_of_getElem? (i := 755) (by decide +kernel))) rfl
theorem wi_X9_moth : Cond.instanceMethod yX9_moth ∈ tbG := tb_in (List.mem_append_right _ (List.mem_of_getElem? (i := 756) (by decide +kernel))) rfl
theorem wl_X9_moth : Cond.selects RX9 yX9_moth yX9_moth ∈ tbG := tb_in (List.mem_append_right _ (List.mem_of_getElem? (i := 757) (by decide +kernel))) rfl
theorem wc_X9_moth : Cond.code yX9_moth cX9_moth 6 (some .int) ∈ tbG := tb_in (List.mem_append_right _ (List.mem_of_getElem? (i := 758) (by decide +kernel))) rfl
theorem wm_L_30 : Cond.methodLink RL 30 yX9_spool ∈ tbG := tb_in (List.mem_append_right _ (List.mem_of_getElem? (i := 759) (by decide +kernel))) rfl
theorem wi_X9_spool : Cond.instanceMethod yX9_spool ∈ tbG := tb_in (List.mem_append_right _ (List.mem_of_getElem? (i := 760) (by decide +kernel))) rfl
theorem wl_X9_spool : Cond.selects RX9 yX9_spool yX9_spool ∈ tbG := tb_in (List.mem_append_right _ (List.mem_of_getElem? (i := 761) (by decide +kernel))) rfl
theorem wc_X9_spool : Cond.code yX9_spool cX9_spool 4 (some .int) ∈ tbG := tb_in (List.mem_append_right _ (List.mem_of_getElem? (i := 762) (by decide +kernel))) rfl
theorem wm_L_35 : Cond.methodLink RL 35 yX9_say ∈ tbG := tb_in (List.mem_append_right _ (List.mem_of_getElem? (i := 763) (by decide +kernel))) rfl
theorem wi_X9_say : Cond.instanceMethod yX9_say ∈ tbG := tb_in (List.mem_append_right _ (List.mem_of_getElem? (i := 764) (by decide +kernel))) rfl
theorem wl_X9_say : Cond.selects RX9 yX9_say yX9_say ∈ tbG := tb_in (List.mem_append_right _ (List.mem_of_getElem? (i := 765) (by decide +kernel))) rfl
theorem wc_X9_say : Cond.code yX9_say cX9_say 2 (some .int) ∈ tbG := tb_in (List.mem_append_right _ (List.mem_of_getElem? (i := 766) (by decide +kernel))) rfl
theorem wm_L_40 : Cond.methodLink RL 40 yX9_wipe ∈ tbG := tb_in (List.mem_append_right _ (List.mem_of_getElem? (i := 767) (by decide +kernel))) rfl
theorem wi_X9_wipe : Cond.instanceMethod yX9_wipe ∈ tbG := tb_in (List.mem_append_right _ (List.mem_of_getElem? (i := 768) (by decide +kernel))) rfl
theorem wl_X9_wipe : Cond.selects RX9 yX9_wipe yX9_wipe ∈ tbG := tb_in (List.mem_append_right _ (List.mem_of_getElem? (i := 769) (by decide +kernel))) rfl
theorem wc_X9_wipe : Cond.code yX9_wipe cX9_wipe 2 (some .int) ∈ tbG := tb_in (List.mem_append_right _ (List.mem_of_getElem? (i := 770) (by decide +kernel))) rfl
theorem wm_L_44 : Cond.methodLink RL 44 yX9_fault ∈ tbG := tb_in (List.mem_append_right _ (List.mem_of_getElem? (i := 771) (by decide +kernel))) rfl
theorem wi_X9_fault : Cond.instanceMethod yX9_fault ∈ tbG := tb_in (List.mem_append_right _ (List.mem_of_getElem? (i := 772) (by decide +kernel))) rfl
theorem wl_X9_fault : Cond.selects RX9 yX9_fault yX9_fault ∈ tbG := tb_in (List.mem_append_right _ (List.mem_of_getElem? (i := 773) (by decide +kernel))) rfl
theorem wc_X9_fault : Cond.code yX9_fault cX9_fault 1 (some .int) ∈ tbG := tb_in (List.mem_append_right _ (List.mem_of_getElem? (i := 774) (by decide +kernel))) rfl
theorem wm_X9_75 : Cond.methodLink RX9 75 yX9_faultOf ∈ tbG := tb_in (List.mem_append_right _ (List.mem_of_getElem? (i := 775) (by decide +kernel))) rfl
theorem wi_X9_faultOf : Cond.instanceMethod yX9_faultOf ∈ tbG := tb_in (List.mem_append_right _ (List.mem_of_getElem? (i := 777) (by decide +kernel))) rfl
theorem wc_X9_faultOf : Cond.code yX9_faultOf cX9_faultOf 3 (some .int) ∈ tbG := tb_in (List.mem_append_right _ (List.mem_of_getElem? (i := 778) (by decide +kernel))) rfl
theorem wm_X9_71 : Cond.methodLink RX9 71 yX9_step ∈ tbG := tb_in (List.mem_append_right _ (List.mem_of_getElem? (i := 779) (by decide +kernel))) rfl
theorem wt_X9_step : Cond.static yX9_step ∈ tbG := tb_in (List.mem_append_right _ (List.mem_of_getElem? (i := 780) (by decide +kernel))) rfl
theorem wc_X9_step : Cond.code yX9_step cX9_step 2 (some .int) ∈ tbG := tb_in (List.mem_append_right _ (List.mem_of_getElem? (i := 781) (by decide +kernel))) rfl
theorem wm_X9_67 : Cond.methodLink RX9 67 yX9_wayOf ∈ tbG := tb_in (List.mem_append_right _ (List.mem_of_getElem? (i := 782) (by decide +kernel))) rfl
theorem wt_X9_wayOf : Cond.static yX9_wayOf ∈ tbG := tb_in (List.mem_append_right _ (List.mem_of_getElem? (i := 783) (by decide +kernel))) rfl
theorem wc_X9_wayOf : Cond.code yX9_wayOf cX9_wayOf 1 (some .int) ∈ tbG := tb_in (List.mem_append_right _ (List.mem_of_getElem? (i := 784) (by decide +kernel))) rfl
theorem wm_L_48 : Cond.methodLink RL 48 yX9_judge ∈ tbG := tb_in (List.mem_append_right _ (List.mem_of_getElem? (i := 785) (by decide +kernel))) rfl
theorem wi_X9_judge : Cond.instanceMethod yX9_judge ∈ tbG := tb_in (List.mem_append_right _ (List.mem_of_getElem? (i := 786) (by decide +kernel))) rfl
theorem wl_X9_judge : Cond.selects RX9 yX9_judge yX9_judge ∈ tbG := tb_in (List.mem_append_right _ (List.mem_of_getElem? (i := 787) (by decide +kernel))) rfl
theorem wc_X9_judge : Cond.code yX9_judge cX9_judge 3 (some .int) ∈ tbG := tb_in (List.mem_append_right _ (List.mem_of_getElem? (i := 788) (by decide +kernel))) rfl
theorem wm_X9_128 : Cond.methodLink RX9 128 yX9_goNights ∈ tbG := tb_in (List.mem_append_right _ (List.mem_of_getElem? (i := 789) (by decide +kernel))) rfl
theorem wi_X9_goNights : Cond.instanceMethod yX9_goNights ∈ tbG := tb_in (List.mem_append_right _ (List.mem_of_getElem? (i := 791) (by decide +kernel))) rfl
theorem wc_X9_goNights : Cond.code yX9_goNights cX9_goNights 1 (some .int) ∈ tbG := tb_in (List.mem_append_right _ (List.mem_of_getElem? (i := 792) (by decide +kernel))) rfl
theorem wm_X9_116 : Cond.methodLink RX9 116 yX9_asNow ∈ tbG := tb_in (List.mem_append_right _ (List.mem_of_getElem? (i := 793) (by decide +kernel))) rfl
theorem wi_X9_asNow : Cond.instanceMethod yX9_asNow ∈ tbG := tb_in (List.mem_append_right _ (List.mem_of_getElem? (i := 795) (by decide +kernel))) rfl
theorem wc_X9_asNow : Cond.code yX9_asNow cX9_asNow 2 none ∈ tbG := tb_in (List.mem_append_right _ (List.mem_of_getElem? (i := 796) (by decide +kernel))) rfl
theorem wm_X9_122 : Cond.methodLink RX9 122 yX9_nextAct ∈ tbG := tb_in (List.mem_append_right _ (List.mem_of_getElem? (i := 797) (by decide +kernel))) rfl
theorem wi_X9_nextAct : Cond.instanceMethod yX9_nextAct ∈ tbG := tb_in (List.mem_append_right _ (List.mem_of_getElem? (i := 799) (by decide +kernel))) rfl
theorem wc_X9_nextAct : Cond.code yX9_nextAct cX9_nextAct 3 (some .int) ∈ tbG := tb_in (List.mem_append_right _ (List.mem_of_getElem? (i := 800) (by decide +kernel))) rfl
theorem wm_X9_101 : Cond.methodLink RX9 101 yX9_endNight ∈ tbG := tb_in (List.mem_append_right _ (List.mem_of_getElem? (i := 801) (by decide +kernel))) rfl
theorem wi_X9_endNight : Cond.instanceMethod yX9_endNight ∈ tbG := tb_in (List.mem_append_right _ (List.mem_of_getElem? (i := 803) (by decide +kernel))) rfl
theorem wc_X9_endNight : Cond.code yX9_endNight cX9_endNight 2 (some .int) ∈ tbG := tb_in (List.mem_append_right _ (List.mem_of_getElem? (i := 804) (by decide +kernel))) rfl
theorem wm_X9_88 : Cond.methodLink RX9 88 yX9_flying ∈ tbG := tb_in (List.mem_append_right _ (List.mem_of_getElem? (i := 805) (by decide +kernel))) rfl
theorem wi_X9_flying : Cond.instanceMethod yX9_flying ∈ tbG := tb_in (List.mem_append_right _ (List.mem_of_getElem? (i := 807) (by decide +kernel))) rfl
theorem wc_X9_flying : Cond.code yX9_flying cX9_flying 2 (some .boolean) ∈ tbG := tb_in (List.mem_append_right _ (List.mem_of_getElem? (i := 808) (by decide +kernel))) rfl
theorem wm_X9_55 : Cond.methodLink RX9 55 yX9_has ∈ tbG := tb_in (List.mem_append_right _ (List.mem_of_getElem? (i := 809) (by decide +kernel))) rfl
theorem wt_X9_has : Cond.static yX9_has ∈ tbG := tb_in (List.mem_append_right _ (List.mem_of_getElem? (i := 810) (by decide +kernel))) rfl
theorem wc_X9_has : Cond.code yX9_has cX9_has 2 (some .boolean) ∈ tbG := tb_in (List.mem_append_right _ (List.mem_of_getElem? (i := 811) (by decide +kernel))) rfl
theorem wm_X9_94 : Cond.methodLink RX9 94 yX9_fly ∈ tbG := tb_in (List.mem_append_right _ (List.mem_of_getElem? (i := 812) (by decide +kernel))) rfl
theorem wi_X9_fly : Cond.instanceMethod yX9_fly ∈ tbG := tb_in (List.mem_append_right _ (List.mem_of_getElem? (i := 814) (by decide +kernel))) rfl
theorem wc_X9_fly : Cond.code yX9_fly cX9_fly 5 none ∈ tbG := tb_in (List.mem_append_right _ (List.mem_of_getElem? (i := 815) (by decide +kernel))) rfl
theorem wm_X9_91 : Cond.methodLink RX9 91 yX9_beside ∈ tbG := tb_in (List.mem_append_right _ (List.mem_of_getElem? (i := 816) (by decide +kernel))) rfl
theorem wt_X9_beside : Cond.static yX9_beside ∈ tbG := tb_in (List.mem_append_right _ (List.mem_of_getElem? (i := 817) (by decide +kernel))) rfl
theorem wc_X9_beside : Cond.code yX9_beside cX9_beside 4 (some .int) ∈ tbG := tb_in (List.mem_append_right _ (List.mem_of_getElem? (i := 818) (by decide +kernel))) rfl
theorem wm_X9_104 : Cond.methodLink RX9 104 yX9_darn ∈ tbG := tb_in (List.mem_append_right _ (List.mem_of_getElem? (i := 819) (by decide +kernel))) rfl
theorem wi_X9_darn : Cond.instanceMethod yX9_darn ∈ tbG := tb_in (List.mem_append_right _ (List.mem_of_getElem? (i := 821) (by decide +kernel))) rfl
theorem wc_X9_darn : Cond.code yX9_darn cX9_darn 3 (some .int) ∈ tbG := tb_in (List.mem_append_right _ (List.mem_of_getElem? (i := 822) (by decide +kernel))) rfl
theorem wm_X9_107 : Cond.methodLink RX9 107 yX9_strew ∈ tbG := tb_in (List.mem_append_right _ (List.mem_of_getElem? (i := 823) (by decide +kernel))) rfl
theorem wi_X9_strew : Cond.instanceMethod yX9_strew ∈ tbG := tb_in (List.mem_append_right _ (List.mem_of_getElem? (i := 825) (by decide +kernel))) rfl
theorem wc_X9_strew : Cond.code yX9_strew cX9_strew 2 (some .int) ∈ tbG := tb_in (List.mem_append_right _ (List.mem_of_getElem? (i := 826) (by decide +kernel))) rfl
theorem wm_X9_110 : Cond.methodLink RX9 110 yX9_catchIt ∈ tbG := tb_in (List.mem_append_right _ (List.mem_of_getElem? (i := 827) (by decide +kernel))) rfl
theorem wi_X9_catchIt : Cond.instanceMethod yX9_catchIt ∈ tbG := tb_in (List.mem_append_right _ (List.mem_of_getElem? (i := 829) (by decide +kernel))) rfl
theorem wc_X9_catchIt : Cond.code yX9_catchIt cX9_catchIt 2 (some .int) ∈ tbG := tb_in (List.mem_append_right _ (List.mem_of_getElem? (i := 830) (by decide +kernel))) rfl
theorem wm_X9_113 : Cond.methodLink RX9 113 yX9_turn ∈ tbG := tb_in (List.mem_append_right _ (List.mem_of_getElem? (i := 831) (by decide +kernel))) rfl
theorem wi_X9_turn : Cond.instanceMethod yX9_turn ∈ tbG := tb_in (List.mem_append_right _ (List.mem_of_getElem? (i := 833) (by decide +kernel))) rfl
theorem wc_X9_turn : Cond.code yX9_turn cX9_turn 3 (some .int) ∈ tbG := tb_in (List.mem_append_right _ (List.mem_of_getElem? (i := 834) (by decide +kernel))) rfl
theorem wm_L_52 : Cond.methodLink RL 52 yX9_done ∈ tbG := tb_in (List.mem_append_right _ (List.mem_of_getElem? (i := 835) (by decide +kernel))) rfl
theorem wi_X9_done : Cond.instanceMethod yX9_done ∈ tbG := tb_in (List.mem_append_right _ (List.mem_of_getElem? (i := 836) (by decide +kernel))) rfl
theorem wl_X9_done : Cond.selects RX9 yX9_done yX9_done ∈ tbG := tb_in (List.mem_append_right _ (List.mem_of_getElem? (i := 837) (by decide +kernel))) rfl
theorem wc_X9_done : Cond.code yX9_done cX9_done 2 (some .int) ∈ tbG := tb_in (List.mem_append_right _ (List.mem_of_getElem? (i := 838) (by decide +kernel))) rfl
theorem wm_X9_131 : Cond.methodLink RX9 131 yX9_barOfNights ∈ tbG := tb_in (List.mem_append_right _ (List.mem_of_getElem? (i := 839) (by decide +kernel))) rfl
theorem wi_X9_barOfNights : Cond.instanceMethod yX9_barOfNights ∈ tbG := tb_in (List.mem_append_right _ (List.mem_of_getElem? (i := 841) (by decide +kernel))) rfl
theorem wc_X9_barOfNights : Cond.code yX9_barOfNights cX9_barOfNights 1 (some .int) ∈ tbG := tb_in (List.mem_append_right _ (List.mem_of_getElem? (i := 842) (by decide +kernel))) rfl
theorem wm_L_56 : Cond.methodLink RL 56 yX9_behind ∈ tbG := tb_in (List.mem_append_right _ (List.mem_of_getElem? (i := 843) (by decide +kernel))) rfl
theorem wi_X9_behind : Cond.instanceMethod yX9_behind ∈ tbG := tb_in (List.mem_append_right _ (List.mem_of_getElem? (i := 844) (by decide +kernel))) rfl
theorem wl_X9_behind : Cond.selects RX9 yX9_behind yX9_behind ∈ tbG := tb_in (List.mem_append_right _ (List.mem_of_getElem? (i := 845) (by decide +kernel))) rfl
theorem wc_X9_behind : Cond.code yX9_behind cX9_behind 3 (some .int) ∈ tbG := tb_in (List.mem_append_right _ (List.mem_of_getElem? (i := 846) (by decide +kernel))) rfl
theorem wm_L_60 : Cond.methodLink RL 60 yX9_flies ∈ tbG := tb_in (List.mem_append_right _ (List.mem_of_getElem? (i := 847) (by decide +kernel))) rfl
theorem wi_X9_flies : Cond.instanceMethod yX9_flies ∈ tbG := tb_in (List.mem_append_right _ (List.mem_of_getElem? (i := 848) (by decide +kernel))) rfl
theorem wl_X9_flies : Cond.selects RX9 yX9_flies yX9_flies ∈ tbG := tb_in (List.mem_append_right _ (List.mem_of_getElem? (i := 849) (by decide +kernel))) rfl
theorem wc_X9_flies : Cond.code yX9_flies cX9_flies 3 (some .int) ∈ tbG := tb_in (List.mem_append_right _ (List.mem_of_getElem? (i := 850) (by decide +kernel))) rfl
theorem wm_X9_134 : Cond.methodLink RX9 134 yX9_isThere ∈ tbG := tb_in (List.mem_append_right _ (List.mem_of_getElem? (i := 851) (by decide +kernel))) rfl
theorem wi_X9_isThere : Cond.instanceMethod yX9_isThere ∈ tbG := tb_in (List.mem_append_right _ (List.mem_of_getElem? (i := 853) (by decide +kernel))) rfl
theorem wc_X9_isThere : Cond.code yX9_isThere cX9_isThere 2 (some .boolean) ∈ tbG := tb_in (List.mem_append_right _ (List.mem_of_getElem? (i := 854) (by decide +kernel))) rfl
theorem wm_L_64 : Cond.methodLink RL 64 yX9_then ∈ tbG := tb_in (List.mem_append_right _ (List.mem_of_getElem? (i := 855) (by decide +kernel))) rfl
theorem wi_X9_then : Cond.instanceMethod yX9_then ∈ tbG := tb_in (List.mem_append_right _ (List.mem_of_getElem? (i := 856) (by decide +kernel))) rfl
theorem wl_X9_then : Cond.selects RX9 yX9_then yX9_then ∈ tbG := tb_in (List.mem_append_right _ (List.mem_of_getElem? (i := 857) (by decide +kernel))) rfl
theorem wc_X9_then : Cond.code yX9_then cX9_then 2 (some .int) ∈ tbG := tb_in (List.mem_append_right _ (List.mem_of_getElem? (i := 858) (by decide +kernel))) rfl
theorem wm_X9_137 : Cond.methodLink RX9 137 yX9_countOf ∈ tbG := tb_in (List.mem_append_right _ (List.mem_of_getElem? (i := 859) (by decide +kernel))) rfl
theorem wi_X9_countOf : Cond.instanceMethod yX9_countOf ∈ tbG := tb_in (List.mem_append_right _ (List.mem_of_getElem? (i := 861) (by decide +kernel))) rfl
theorem wc_X9_countOf : Cond.code yX9_countOf cX9_countOf 4 (some .int) ∈ tbG := tb_in (List.mem_append_right _ (List.mem_of_getElem? (i := 862) (by decide +kernel))) rfl
theorem wm_L_68 : Cond.methodLink RL 68 yX9_road ∈ tbG := tb_in (List.mem_append_right _ (List.mem_of_getElem? (i := 863) (by decide +kernel))) rfl
theorem wi_X9_road : Cond.instanceMethod yX9_road ∈ tbG := tb_in (List.mem_append_right _ (List.mem_of_getElem? (i := 864) (by decide +kernel))) rfl
theorem wl_X9_road : Cond.selects RX9 yX9_road yX9_road ∈ tbG := tb_in (List.mem_append_right _ (List.mem_of_getElem? (i := 865) (by decide +kernel))) rfl
theorem wc_X9_road : Cond.code yX9_road cX9_road 3 (some .int) ∈ tbG := tb_in (List.mem_append_right _ (List.mem_of_getElem? (i := 866) (by decide +kernel))) rfl
theorem wm_X9_141 : Cond.methodLink RX9 141 yX9_layRoads ∈ tbG := tb_in (List.mem_append_right _ (List.mem_of_getElem? (i := 867) (by decide +kernel))) rfl
theorem wi_X9_layRoads : Cond.instanceMethod yX9_layRoads ∈ tbG := tb_in (List.mem_append_right _ (List.mem_of_getElem? (i := 869) (by decide +kernel))) rfl
theorem wc_X9_layRoads : Cond.code yX9_layRoads cX9_layRoads 7 none ∈ tbG := tb_in (List.mem_append_right _ (List.mem_of_getElem? (i := 870) (by decide +kernel))) rfl
theorem wk_X9_140 : Cond.constant RX9 140 (1000000) ∈ tbG := tb_in (List.mem_append_right _ (List.mem_of_getElem? (i := 871) (by decide +kernel))) rfl
theorem wm_L_72 : Cond.methodLink RL 72 yX9_whole ∈ tbG := tb_in (List.mem_append_right _ (List.mem_of_getElem? (i := 872) (by decide +kernel))) rfl
theorem wi_X9_whole : Cond.instanceMethod yX9_whole ∈ tbG := tb_in (List.mem_append_right _ (List.mem_of_getElem? (i := 873) (by decide +kernel))) rfl
theorem wl_X9_whole : Cond.selects RX9 yX9_whole yX9_whole ∈ tbG := tb_in (List.mem_append_right _ (List.mem_of_getElem? (i := 874) (by decide +kernel))) rfl
theorem wc_X9_whole : Cond.code yX9_whole cX9_whole 4 (some .int) ∈ tbG := tb_in (List.mem_append_right _ (List.mem_of_getElem? (i := 875) (by decide +kernel))) rfl
theorem wm_L_76 : Cond.methodLink RL 76 yX9_camphored ∈ tbG := tb_in (List.mem_append_right _ (List.mem_of_getElem? (i := 876) (by decide +kernel))) rfl
theorem wi_X9_camphored : Cond.instanceMethod yX9_camphored ∈ tbG := tb_in (List.mem_append_right _ (List.mem_of_getElem? (i := 877) (by decide +kernel))) rfl
theorem wl_X9_camphored : Cond.selects RX9 yX9_camphored yX9_camphored ∈ tbG := tb_in (List.mem_append_right _ (List.mem_of_getElem? (i := 878) (by decide +kernel))) rfl
theorem wc_X9_camphored : Cond.code yX9_camphored cX9_camphored 6 (some .int) ∈ tbG := tb_in (List.mem_append_right _ (List.mem_of_getElem? (i := 879) (by decide +kernel))) rfl
theorem wk_X9_147 : Cond.constant RX9 147 (33554431) ∈ tbG := tb_in (List.mem_append_right _ (List.mem_of_getElem? (i := 880) (by decide +kernel))) rfl
theorem wm_X9_144 : Cond.methodLink RX9 144 yX9_isSafe ∈ tbG := tb_in (List.mem_append_right _ (List.mem_of_getElem? (i := 881) (by decide +kernel))) rfl
theorem wi_X9_isSafe : Cond.instanceMethod yX9_isSafe ∈ tbG := tb_in (List.mem_append_right _ (List.mem_of_getElem? (i := 883) (by decide +kernel))) rfl
theorem wc_X9_isSafe : Cond.code yX9_isSafe cX9_isSafe 8 (some .boolean) ∈ tbG := tb_in (List.mem_append_right _ (List.mem_of_getElem? (i := 884) (by decide +kernel))) rfl
theorem wm_X9_148 : Cond.methodLink RX9 148 yX9_tryShut ∈ tbG := tb_in (List.mem_append_right _ (List.mem_of_getElem? (i := 885) (by decide +kernel))) rfl
theorem wi_X9_tryShut : Cond.instanceMethod yX9_tryShut ∈ tbG := tb_in (List.mem_append_right _ (List.mem_of_getElem? (i := 887) (by decide +kernel))) rfl
theorem wc_X9_tryShut : Cond.code yX9_tryShut cX9_tryShut 10 (some .int) ∈ tbG := tb_in (List.mem_append_right _ (List.mem_of_getElem? (i := 888) (by decide +kernel))) rfl
theorem wm_X9_152 : Cond.methodLink RX9 152 yX9_bits ∈ tbG := tb_in (List.mem_append_right _ (List.mem_of_getElem? (i := 889) (by decide +kernel))) rfl
theorem wt_X9_bits : Cond.static yX9_bits ∈ tbG := tb_in (List.mem_append_right _ (List.mem_of_getElem? (i := 890) (by decide +kernel))) rfl
theorem wc_X9_bits : Cond.code yX9_bits cX9_bits 3 (some .int) ∈ tbG := tb_in (List.mem_append_right _ (List.mem_of_getElem? (i := 891) (by decide +kernel))) rfl
theorem wm_L_80 : Cond.methodLink RL 80 yX9_darned ∈ tbG := tb_in (List.mem_append_right _ (List.mem_of_getElem? (i := 892) (by decide +kernel))) rfl
theorem wi_X9_darned : Cond.instanceMethod yX9_darned ∈ tbG := tb_in (List.mem_append_right _ (List.mem_of_getElem? (i := 893) (by decide +kernel))) rfl
theorem wl_X9_darned : Cond.selects RX9 yX9_darned yX9_darned ∈ tbG := tb_in (List.mem_append_right _ (List.mem_of_getElem? (i := 894) (by decide +kernel))) rfl
theorem wc_X9_darned : Cond.code yX9_darned cX9_darned 8 (some .int) ∈ tbG := tb_in (List.mem_append_right _ (List.mem_of_getElem? (i := 895) (by decide +kernel))) rfl
theorem wm_X9_155 : Cond.methodLink RX9 155 yX9_canDarn ∈ tbG := tb_in (List.mem_append_right _ (List.mem_of_getElem? (i := 896) (by decide +kernel))) rfl
theorem wi_X9_canDarn : Cond.instanceMethod yX9_canDarn ∈ tbG := tb_in (List.mem_append_right _ (List.mem_of_getElem? (i := 898) (by decide +kernel))) rfl
theorem wc_X9_canDarn : Cond.code yX9_canDarn cX9_canDarn 9 (some .boolean) ∈ tbG := tb_in (List.mem_append_right _ (List.mem_of_getElem? (i := 899) (by decide +kernel))) rfl
theorem wm_X9_158 : Cond.methodLink RX9 158 yX9_threadOf ∈ tbG := tb_in (List.mem_append_right _ (List.mem_of_getElem? (i := 900) (by decide +kernel))) rfl
theorem wt_X9_threadOf : Cond.static yX9_threadOf ∈ tbG := tb_in (List.mem_append_right _ (List.mem_of_getElem? (i := 901) (by decide +kernel))) rfl
theorem wc_X9_threadOf : Cond.code yX9_threadOf cX9_threadOf 5 (some .int) ∈ tbG := tb_in (List.mem_append_right _ (List.mem_of_getElem? (i := 902) (by decide +kernel))) rfl
theorem wm_L_84 : Cond.methodLink RL 84 yX9_sheet ∈ tbG := tb_in (List.mem_append_right _ (List.mem_of_getElem? (i := 903) (by decide +kernel))) rfl
theorem wi_X9_sheet : Cond.instanceMethod yX9_sheet ∈ tbG := tb_in (List.mem_append_right _ (List.mem_of_getElem? (i := 904) (by decide +kernel))) rfl
theorem wl_X9_sheet : Cond.selects RX9 yX9_sheet yX9_sheet ∈ tbG := tb_in (List.mem_append_right _ (List.mem_of_getElem? (i := 905) (by decide +kernel))) rfl
theorem wc_X9_sheet : Cond.code yX9_sheet cX9_sheet 9 (some .int) ∈ tbG := tb_in (List.mem_append_right _ (List.mem_of_getElem? (i := 906) (by decide +kernel))) rfl
theorem wm_L_88 : Cond.methodLink RL 88 yX9_seen ∈ tbG := tb_in (List.mem_append_right _ (List.mem_of_getElem? (i := 907) (by decide +kernel))) rfl
theorem wi_X9_seen : Cond.instanceMethod yX9_seen ∈ tbG := tb_in (List.mem_append_right _ (List.mem_of_getElem? (i := 908) (by decide +kernel))) rfl
theorem wl_X9_seen : Cond.selects RX9 yX9_seen yX9_seen ∈ tbG := tb_in (List.mem_append_right _ (List.mem_of_getElem? (i := 909) (by decide +kernel))) rfl
theorem wc_X9_seen : Cond.code yX9_seen cX9_seen 3 (some .int) ∈ tbG := tb_in (List.mem_append_right _ (List.mem_of_getElem? (i := 910) (by decide +kernel))) rfl
theorem wm_L_92 : Cond.methodLink RL 92 yX9_forget ∈ tbG := tb_in (List.mem_append_right _ (List.mem_of_getElem? (i := 911) (by decide +kernel))) rfl
theorem wi_X9_forget : Cond.instanceMethod yX9_forget ∈ tbG := tb_in (List.mem_append_right _ (List.mem_of_getElem? (i := 912) (by decide +kernel))) rfl
theorem wl_X9_forget : Cond.selects RX9 yX9_forget yX9_forget ∈ tbG := tb_in (List.mem_append_right _ (List.mem_of_getElem? (i := 913) (by decide +kernel))) rfl
theorem wc_X9_forget : Cond.code yX9_forget cX9_forget 2 (some .int) ∈ tbG := tb_in (List.mem_append_right _ (List.mem_of_getElem? (i := 914) (by decide +kernel))) rfl
theorem wm_L_96 : Cond.methodLink RL 96 yX9_began ∈ tbG := tb_in (List.mem_append_right _ (List.mem_of_getElem? (i := 915) (by decide +kernel))) rfl
theorem wi_X9_began : Cond.instanceMethod yX9_began ∈ tbG := tb_in (List.mem_append_right _ (List.mem_of_getElem? (i := 916) (by decide +kernel))) rfl
theorem wl_X9_began : Cond.selects RX9 yX9_began yX9_began ∈ tbG := tb_in (List.mem_append_right _ (List.mem_of_getElem? (i := 917) (by decide +kernel))) rfl
theorem wc_X9_began : Cond.code yX9_began cX9_began 4 (some .int) ∈ tbG := tb_in (List.mem_append_right _ (List.mem_of_getElem? (i := 918) (by decide +kernel))) rfl
theorem wm_X9_167 : Cond.methodLink RX9 167 yX9_isFit ∈ tbG := tb_in (List.mem_append_right _ (List.mem_of_getElem? (i := 919) (by decide +kernel))) rfl
theorem wi_X9_isFit : Cond.instanceMethod yX9_isFit ∈ tbG := tb_in (List.mem_append_right _ (List.mem_of_getElem? (i := 921) (by decide +kernel))) rfl
theorem wc_X9_isFit : Cond.code yX9_isFit cX9_isFit 4 (some .boolean) ∈ tbG := tb_in (List.mem_append_right _ (List.mem_of_getElem? (i := 922) (by decide +kernel))) rfl
theorem wm_X9_164 : Cond.methodLink RX9 164 yX9_cellAfter ∈ tbG := tb_in (List.mem_append_right _ (List.mem_of_getElem? (i := 923) (by decide +kernel))) rfl
theorem wt_X9_cellAfter : Cond.static yX9_cellAfter ∈ tbG := tb_in (List.mem_append_right _ (List.mem_of_getElem? (i := 924) (by decide +kernel))) rfl
theorem wc_X9_cellAfter : Cond.code yX9_cellAfter cX9_cellAfter 5 (some .int) ∈ tbG := tb_in (List.mem_append_right _ (List.mem_of_getElem? (i := 925) (by decide +kernel))) rfl
theorem wm_L_100 : Cond.methodLink RL 100 yX9_ask ∈ tbG := tb_in (List.mem_append_right _ (List.mem_of_getElem? (i := 926) (by decide +kernel))) rfl
theorem wi_X9_ask : Cond.instanceMethod yX9_ask ∈ tbG := tb_in (List.mem_append_right _ (List.mem_of_getElem? (i := 927) (by decide +kernel))) rfl
theorem wl_X9_ask : Cond.selects RX9 yX9_ask yX9_ask ∈ tbG := tb_in (List.mem_append_right _ (List.mem_of_getElem? (i := 928) (by decide +kernel))) rfl
theorem wc_X9_ask : Cond.code yX9_ask cX9_ask 8 (some .int) ∈ tbG := tb_in (List.mem_append_right _ (List.mem_of_getElem? (i := 929) (by decide +kernel))) rfl
theorem wm_L_104 : Cond.methodLink RL 104 yX9_folds ∈ tbG := tb_in (List.mem_append_right _ (List.mem_of_getElem? (i := 930) (by decide +kernel))) rfl
theorem wi_X9_folds : Cond.instanceMethod yX9_folds ∈ tbG := tb_in (List.mem_append_right _ (List.mem_of_getElem? (i := 931) (by decide +kernel))) rfl
theorem wl_X9_folds : Cond.selects RX9 yX9_folds yX9_folds ∈ tbG := tb_in (List.mem_append_right _ (List.mem_of_getElem? (i := 932) (by decide +kernel))) rfl
theorem wc_X9_folds : Cond.code yX9_folds cX9_folds 5 (some .int) ∈ tbG := tb_in (List.mem_append_right _ (List.mem_of_getElem? (i := 933) (by decide +kernel))) rfl
theorem wm_L_109 : Cond.methodLink RL 109 yX9_coffee ∈ tbG := tb_in (List.mem_append_right _ (List.mem_of_getElem? (i := 934) (by decide +kernel))) rfl
theorem wi_X9_coffee : Cond.instanceMethod yX9_coffee ∈ tbG := tb_in (List.mem_append_right _ (List.mem_of_getElem? (i := 935) (by decide +kernel))) rfl
theorem wl_X9_coffee : Cond.selects RX9 yX9_coffee yX9_coffee ∈ tbG := tb_in (List.mem_append_right _ (List.mem_of_getElem? (i := 936) (by decide +kernel))) rfl
theorem wc_X9_coffee : Cond.code yX9_coffee cX9_coffee 16 (some .long) ∈ tbG := tb_in (List.mem_append_right _ (List.mem_of_getElem? (i := 937) (by decide +kernel))) rfl
theorem wk_X9_170 : Cond.constantLong RX9 170 (-1000000000000000002) ∈ tbG := tb_in (List.mem_append_right _ (List.mem_of_getElem? (i := 938) (by decide +kernel))) rfl
theorem wk_X9_172 : Cond.constantLong RX9 172 (10) ∈ tbG := tb_in (List.mem_append_right _ (List.mem_of_getElem? (i := 939) (by decide +kernel))) rfl
theorem wm_L_113 : Cond.methodLink RL 113 yX9_year ∈ tbG := tb_in (List.mem_append_right _ (List.mem_of_getElem? (i := 940) (by decide +kernel))) rfl
theorem wi_X9_year : Cond.instanceMethod yX9_year ∈ tbG := tb_in (List.mem_append_right _ (List.mem_of_getElem? (i := 941) (by decide +kernel))) rfl
theorem wl_X9_year : Cond.selects RX9 yX9_year yX9_year ∈ tbG := tb_in (List.mem_append_right _ (List.mem_of_getElem? (i := 942) (by decide +kernel))) rfl
theorem wc_X9_year : Cond.code yX9_year cX9_year 8 (some .int) ∈ tbG := tb_in (List.mem_append_right _ (List.mem_of_getElem? (i := 943) (by decide +kernel))) rfl
theorem wk_X9_174 : Cond.constant RX9 174 (65537) ∈ tbG := tb_in (List.mem_append_right _ (List.mem_of_getElem? (i := 944) (by decide +kernel))) rfl
theorem wm_L_117 : Cond.methodLink RL 117 yX9_image ∈ tbG := tb_in (List.mem_append_right _ (List.mem_of_getElem? (i := 945) (by decide +kernel))) rfl
theorem wi_X9_image : Cond.instanceMethod yX9_image ∈ tbG := tb_in (List.mem_append_right _ (List.mem_of_getElem? (i := 946) (by decide +kernel))) rfl
theorem wl_X9_image : Cond.selects RX9 yX9_image yX9_image ∈ tbG := tb_in (List.mem_append_right _ (List.mem_of_getElem? (i := 947) (by decide +kernel))) rfl
theorem wc_X9_image : Cond.code yX9_image cX9_image 4 (some .int) ∈ tbG := tb_in (List.mem_append_right _ (List.mem_of_getElem? (i := 948) (by decide +kernel))) rfl
theorem wm_L_121 : Cond.methodLink RL 121 yX9_restore ∈ tbG := tb_in (List.mem_append_right _ (List.mem_of_getElem? (i := 949) (by decide +kernel))) rfl
theorem wi_X9_restore : Cond.instanceMethod yX9_restore ∈ tbG := tb_in (List.mem_append_right _ (List.mem_of_getElem? (i := 950) (by decide +kernel))) rfl
theorem wl_X9_restore : Cond.selects RX9 yX9_restore yX9_restore ∈ tbG := tb_in (List.mem_append_right _ (List.mem_of_getElem? (i := 951) (by decide +kernel))) rfl
theorem wc_X9_restore : Cond.code yX9_restore cX9_restore 4 (some .int) ∈ tbG := tb_in (List.mem_append_right _ (List.mem_of_getElem? (i := 952) (by decide +kernel))) rfl
theorem wm_L_125 : Cond.methodLink RL 125 yX9_told ∈ tbG := tb_in (List.mem_append_right _ (List.mem_of_getElem? (i := 953) (by decide +kernel))) rfl
theorem wi_X9_told : Cond.instanceMethod yX9_told ∈ tbG := tb_in (List.mem_append_right _ (List.mem_of_getElem? (i := 954) (by decide +kernel))) rfl
theorem wl_X9_told : Cond.selects RX9 yX9_told yX9_told ∈ tbG := tb_in (List.mem_append_right _ (List.mem_of_getElem? (i := 955) (by decide +kernel))) rfl
theorem wc_X9_told : Cond.code yX9_told cX9_told 2 (some .int) ∈ tbG := tb_in (List.mem_append_right _ (List.mem_of_getElem? (i := 956) (by decide +kernel))) rfl
theorem wl_X4_attempt : Cond.selects RX4 yX4_attempt yX4_attempt ∈ tbG := tb_in (List.mem_append_left _ (List.mem_of_getElem? (i := 0) (by decide +kernel))) rfl
theorem wl_X1_fly : Cond.selects RX1 yX1_fly yX1_fly ∈ tbG := tb_in (List.mem_append_left _ (List.mem_of_getElem? (i := 1) (by decide +kernel))) rfl
theorem wl_X1_eat : Cond.selects RX1 yX1_eat yX1_eat ∈ tbG := tb_in (List.mem_append_left _ (List.mem_of_getElem? (i := 2) (by decide +kernel))) rfl
theorem wl_X4_attemptDeed : Cond.selects RX4 yX4_attemptDeed yX4_attemptDeed ∈ tbG := tb_in (List.mem_append_left _ (List.mem_of_getElem? (i := 3) (by decide +kernel))) rfl
theorem wl_X4_note : Cond.selects RX4 yX4_note yX4_note ∈ tbG := tb_in (List.mem_append_left _ (List.mem_of_getElem? (i := 4) (by decide +kernel))) rfl
theorem wl_X8_nightsCanBe : Cond.selects RX8 yX8_nightsCanBe yX8_nightsCanBe ∈ tbG := tb_in (List.mem_append_left _ (List.mem_of_getElem? (i := 5) (by decide +kernel))) rfl
theorem wl_X6_nearest : Cond.selects RX6 yX6_nearest yX6_nearest ∈ tbG := tb_in (List.mem_append_left _ (List.mem_of_getElem? (i := 6) (by decide +kernel))) rfl
theorem wl_X6_spreadFrom : Cond.selects RX6 yX6_spreadFrom yX6_spreadFrom ∈ tbG := tb_in (List.mem_append_left _ (List.mem_of_getElem? (i := 7) (by decide +kernel))) rfl
theorem wl_X3_search : Cond.selects RX3 yX3_search yX3_search ∈ tbG := tb_in (List.mem_append_left _ (List.mem_of_getElem? (i := 8) (by decide +kernel))) rfl
theorem wl_X3_openWay : Cond.selects RX3 yX3_openWay yX3_openWay ∈ tbG := tb_in (List.mem_append_left _ (List.mem_of_getElem? (i := 9) (by decide +kernel))) rfl
theorem wl_X3_wayBack : Cond.selects RX3 yX3_wayBack yX3_wayBack ∈ tbG := tb_in (List.mem_append_left _ (List.mem_of_getElem? (i := 10) (by decide +kernel))) rfl
theorem wl_X0_partHoles : Cond.selects RX0 yX0_partHoles yX0_partHoles ∈ tbG := tb_in (List.mem_append_left _ (List.mem_of_getElem? (i := 11) (by decide +kernel))) rfl
theorem wl_X0_waysFrom : Cond.selects RX0 yX0_waysFrom yX0_waysFrom ∈ tbG := tb_in (List.mem_append_left _ (List.mem_of_getElem? (i := 12) (by decide +kernel))) rfl
theorem wl_X0_digits : Cond.selects RX0 yX0_digits yX0_digits ∈ tbG := tb_in (List.mem_append_left _ (List.mem_of_getElem? (i := 13) (by decide +kernel))) rfl
theorem wl_X0_threadOf : Cond.selects RX0 yX0_threadOf yX0_threadOf ∈ tbG := tb_in (List.mem_append_left _ (List.mem_of_getElem? (i := 14) (by decide +kernel))) rfl
theorem wl_X7_readSights : Cond.selects RX7 yX7_readSights yX7_readSights ∈ tbG := tb_in (List.mem_append_left _ (List.mem_of_getElem? (i := 15) (by decide +kernel))) rfl
theorem wl_X7_fits : Cond.selects RX7 yX7_fits yX7_fits ∈ tbG := tb_in (List.mem_append_left _ (List.mem_of_getElem? (i := 16) (by decide +kernel))) rfl
theorem wl_X7_mostInOneCell : Cond.selects RX7 yX7_mostInOneCell yX7_mostInOneCell ∈ tbG := tb_in (List.mem_append_left _ (List.mem_of_getElem? (i := 17) (by decide +kernel))) rfl
theorem wl_X8_toldOfOne : Cond.selects RX8 yX8_toldOfOne yX8_toldOfOne ∈ tbG := tb_in (List.mem_append_left _ (List.mem_of_getElem? (i := 18) (by decide +kernel))) rfl
theorem wl_X9_faultOf : Cond.selects RX9 yX9_faultOf yX9_faultOf ∈ tbG := tb_in (List.mem_append_left _ (List.mem_of_getElem? (i := 19) (by decide +kernel))) rfl
theorem wl_X9_goNights : Cond.selects RX9 yX9_goNights yX9_goNights ∈ tbG := tb_in (List.mem_append_left _ (List.mem_of_getElem? (i := 20) (by decide +kernel))) rfl
theorem wl_X9_asNow : Cond.selects RX9 yX9_asNow yX9_asNow ∈ tbG := tb_in (List.mem_append_left _ (List.mem_of_getElem? (i := 21) (by decide +kernel))) rfl
theorem wl_X9_nextAct : Cond.selects RX9 yX9_nextAct yX9_nextAct ∈ tbG := tb_in (List.mem_append_left _ (List.mem_of_getElem? (i := 22) (by decide +kernel))) rfl
theorem wl_X9_endNight : Cond.selects RX9 yX9_endNight yX9_endNight ∈ tbG := tb_in (List.mem_append_left _ (List.mem_of_getElem? (i := 23) (by decide +kernel))) rfl
theorem wl_X9_flying : Cond.selects RX9 yX9_flying yX9_flying ∈ tbG := tb_in (List.mem_append_left _ (List.mem_of_getElem? (i := 24) (by decide +kernel))) rfl
theorem wl_X9_fly : Cond.selects RX9 yX9_fly yX9_fly ∈ tbG := tb_in (List.mem_append_left _ (List.mem_of_getElem? (i := 25) (by decide +kernel))) rfl
theorem wl_X9_darn : Cond.selects RX9 yX9_darn yX9_darn ∈ tbG := tb_in (List.mem_append_left _ (List.mem_of_getElem? (i := 26) (by decide +kernel))) rfl
theorem wl_X9_strew : Cond.selects RX9 yX9_strew yX9_strew ∈ tbG := tb_in (List.mem_append_left _ (List.mem_of_getElem? (i := 27) (by decide +kernel))) rfl
theorem wl_X9_catchIt : Cond.selects RX9 yX9_catchIt yX9_catchIt ∈ tbG := tb_in (List.mem_append_left _ (List.mem_of_getElem? (i := 28) (by decide +kernel))) rfl
theorem wl_X9_turn : Cond.selects RX9 yX9_turn yX9_turn ∈ tbG := tb_in (List.mem_append_left _ (List.mem_of_getElem? (i := 29) (by decide +kernel))) rfl
theorem wl_X9_barOfNights : Cond.selects RX9 yX9_barOfNights yX9_barOfNights ∈ tbG := tb_in (List.mem_append_left _ (List.mem_of_getElem? (i := 30) (by decide +kernel))) rfl
theorem wl_X9_isThere : Cond.selects RX9 yX9_isThere yX9_isThere ∈ tbG := tb_in (List.mem_append_left _ (List.mem_of_getElem? (i := 31) (by decide +kernel))) rfl
theorem wl_X9_countOf : Cond.selects RX9 yX9_countOf yX9_countOf ∈ tbG := tb_in (List.mem_append_left _ (List.mem_of_getElem? (i := 32) (by decide +kernel))) rfl
theorem wl_X9_layRoads : Cond.selects RX9 yX9_layRoads yX9_layRoads ∈ tbG := tb_in (List.mem_append_left _ (List.mem_of_getElem? (i := 33) (by decide +kernel))) rfl
theorem wl_X9_isSafe : Cond.selects RX9 yX9_isSafe yX9_isSafe ∈ tbG := tb_in (List.mem_append_left _ (List.mem_of_getElem? (i := 34) (by decide +kernel))) rfl
theorem wl_X9_tryShut : Cond.selects RX9 yX9_tryShut yX9_tryShut ∈ tbG := tb_in (List.mem_append_left _ (List.mem_of_getElem? (i := 35) (by decide +kernel))) rfl
theorem wl_X9_canDarn : Cond.selects RX9 yX9_canDarn yX9_canDarn ∈ tbG := tb_in (List.mem_append_left _ (List.mem_of_getElem? (i := 36) (by decide +kernel))) rfl
theorem wl_X9_isFit : Cond.selects RX9 yX9_isFit yX9_isFit ∈ tbG := tb_in (List.mem_append_left _ (List.mem_of_getElem? (i := 37) (by decide +kernel))) rfl
theorem hin_X0 : ∀ w ∈ u_ws RX0 TX0 7, w ∈ tbG := by decide +kernel
theorem hin_X1 : ∀ w ∈ u_ws RX1 TX1 11, w ∈ tbG := by decide +kernel
theorem hin_X2 : ∀ w ∈ u_ws RX2 TX2 3, w ∈ tbG := by decide +kernel
theorem hin_X3 : ∀ w ∈ u_ws RX3 TX3 4, w ∈ tbG := by decide +kernel
theorem hin_X4 : ∀ w ∈ u_ws RX4 TX4 6, w ∈ tbG := by decide +kernel
theorem hin_X5 : ∀ w ∈ u_ws RX5 TX5 2, w ∈ tbG := by decide +kernel
theorem hin_X6 : ∀ w ∈ u_ws RX6 TX6 2, w ∈ tbG := by decide +kernel
theorem hin_X7 : ∀ w ∈ u_ws RX7 TX7 8, w ∈ tbG := by decide +kernel
theorem hin_X8 : ∀ w ∈ u_ws RX8 TX8 11, w ∈ tbG := by decide +kernel
theorem hin_X9 : ∀ w ∈ u_ws RX9 TX9 21, w ∈ tbG := by decide +kernel
