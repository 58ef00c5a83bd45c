abbrev y_Fill_7 : MethodName := ⟨"java/util/Arrays", "fill", "([II)V"⟩
abbrev y_Fill_4 : MethodName := ⟨"java/util/Arrays", "fill", "([II)V"⟩
abbrev y_Fill_8 : MethodName := ⟨"java/util/Arrays", "fill", "([II)V"⟩
abbrev y_Fill_9 : MethodName := ⟨"java/util/Arrays", "fill", "([II)V"⟩
abbrev y_Fill_6 : MethodName := ⟨"java/util/Arrays", "fill", "([II)V"⟩
abbrev y_Fill_23 : MethodName := ⟨"java/util/Arrays", "fill", "([II)V"⟩
abbrev y_Fill_24 : MethodName := ⟨"java/util/Arrays", "fill", "([II)V"⟩
abbrev y_Fill_v4 : MethodName := ⟨"java/util/Arrays", "fill", "([II)V"⟩
abbrev y_Fill_v5 : MethodName := ⟨"java/util/Arrays", "fill", "([II)V"⟩
theorem w_483 : Cond.constant "java/lang/Integer" 264 (65536 : Int32) ∈ pv_TB := pv_mem (i := 483) (by decide +kernel) (by decide +kernel)
abbrev y_In_numberOfTrailingZeros : MethodName := ⟨"java/lang/Integer", "numberOfTrailingZeros", "(I)I"⟩
theorem w_577 : Cond.fieldLink "PatchVoices$Kinds" 7 "PatchVoices$Kinds" "INPUTS" "[I" ∈ pv_TB := pv_mem (i := 577) (by decide +kernel) (by decide +kernel)
abbrev y_Kd_inputsOf : MethodName := ⟨"PatchVoices$Kinds", "inputsOf", "(I)I"⟩
abbrev y_Kd_withLetter : MethodName := ⟨"PatchVoices$Kinds", "withLetter", "(IC)I"⟩
abbrev y_Kd_isPlain : MethodName := ⟨"PatchVoices$Kinds", "isPlain", "(I)Z"⟩
abbrev y_Kd_hasMemory : MethodName := ⟨"PatchVoices$Kinds", "hasMemory", "(I)Z"⟩
abbrev y_Kd_inputsMaySwap : MethodName := ⟨"PatchVoices$Kinds", "inputsMaySwap", "(I)Z"⟩
theorem w_640 : Cond.constantLong "PatchVoices$Kinds" 30 (-2147483648 : Int64) ∈ pv_TB := pv_mem (i := 640) (by decide +kernel) (by decide +kernel)
theorem w_641 : Cond.constantLong "PatchVoices$Kinds" 32 (2147483647 : Int64) ∈ pv_TB := pv_mem (i := 641) (by decide +kernel) (by decide +kernel)
theorem w_642 : Cond.methodLink "PatchVoices$Kinds" 34 ⟨"java/lang/Math", "min", "(JJ)J"⟩ ∈ pv_TB := pv_mem (i := 642) (by decide +kernel) (by decide +kernel)
theorem w_643 : Cond.static ⟨"java/lang/Math", "min", "(JJ)J"⟩ ∈ pv_TB := pv_mem (i := 643) (by decide +kernel) (by decide +kernel)
theorem w_123 : Cond.initialized "java/lang/Math" ∈ pv_TB := pv_mem (i := 123) (by decide +kernel) (by decide +kernel)
theorem w_644 : Cond.code ⟨"java/lang/Math", "min", "(JJ)J"⟩ prog_15_method_70_code 4 (Option.some .long) ∈ pv_TB := pv_mem (i := 644) (by decide +kernel) (by decide +kernel)
theorem w_645 : Cond.methodLink "PatchVoices$Kinds" 40 ⟨"java/lang/Math", "max", "(JJ)J"⟩ ∈ pv_TB := pv_mem (i := 645) (by decide +kernel) (by decide +kernel)
theorem w_646 : Cond.static ⟨"java/lang/Math", "max", "(JJ)J"⟩ ∈ pv_TB := pv_mem (i := 646) (by decide +kernel) (by decide +kernel)
theorem w_647 : Cond.code ⟨"java/lang/Math", "max", "(JJ)J"⟩ prog_15_method_66_code 4 (Option.some .long) ∈ pv_TB := pv_mem (i := 647) (by decide +kernel) (by decide +kernel)
abbrev y_Kd_stopped : MethodName := ⟨"PatchVoices$Kinds", "stopped", "(J)I"⟩
abbrev y_Kd_scaled : MethodName := ⟨"PatchVoices$Kinds", "scaled", "(JI)J"⟩
theorem w_637 : Cond.methodLink "PatchVoices$Kinds" 21 ⟨"PatchVoices$Kinds", "stopped", "(J)I"⟩ ∈ pv_TB := pv_mem (i := 637) (by decide +kernel) (by decide +kernel)
theorem w_638 : Cond.static ⟨"PatchVoices$Kinds", "stopped", "(J)I"⟩ ∈ pv_TB := pv_mem (i := 638) (by decide +kernel) (by decide +kernel)
theorem w_117 : Cond.initialized "PatchVoices$Kinds" ∈ pv_TB := pv_mem (i := 117) (by decide +kernel) (by decide +kernel)
theorem w_639 : Cond.code ⟨"PatchVoices$Kinds", "stopped", "(J)I"⟩ prog_2_method_9_code 2 (Option.some .int) ∈ pv_TB := pv_mem (i := 639) (by decide +kernel) (by decide +kernel)
theorem cs_Kd_21 : pv_CS pv_TB "PatchVoices$Kinds" 21 y_Kd_stopped prog_2_method_9_code 2 (some .int) 1 := ⟨⟨by decide +kernel, by decide +kernel, by decide +kernel⟩, w_637, w_638, w_117, w_639⟩
theorem w_648 : Cond.methodLink "PatchVoices$Kinds" 25 ⟨"PatchVoices$Kinds", "scaled", "(JI)J"⟩ ∈ pv_TB := pv_mem (i := 648) (by decide +kernel) (by decide +kernel)
theorem w_649 : Cond.static ⟨"PatchVoices$Kinds", "scaled", "(JI)J"⟩ ∈ pv_TB := pv_mem (i := 649) (by decide +kernel) (by decide +kernel)
theorem w_650 : Cond.code ⟨"PatchVoices$Kinds", "scaled", "(JI)J"⟩ prog_2_method_8_code 3 (Option.some .long) ∈ pv_TB := pv_mem (i := 650) (by decide +kernel) (by decide +kernel)
theorem cs_Kd_25 : pv_CS pv_TB "PatchVoices$Kinds" 25 y_Kd_scaled prog_2_method_8_code 3 (some .long) 2 := ⟨⟨by decide +kernel, by decide +kernel, by decide +kernel⟩, w_648, w_649, w_117, w_650⟩
theorem w_651 : Cond.constant "PatchVoices$Kinds" 29 (65536 : Int32) ∈ pv_TB := pv_mem (i := 651) (by decide +kernel) (by decide +kernel)
abbrev y_Kd_plainValue : MethodName := ⟨"PatchVoices$Kinds", "plainValue", "(IIII)I"⟩
theorem w_972 : Cond.constant "PatchVoices$Kinds" 43 (32768 : Int32) ∈ pv_TB := pv_mem (i := 972) (by decide +kernel) (by decide +kernel)
theorem w_973 : Cond.methodLink "PatchVoices$Kinds" 44 ⟨"java/lang/Math", "abs", "(I)I"⟩ ∈ pv_TB := pv_mem (i := 973) (by decide +kernel) (by decide +kernel)
theorem w_974 : Cond.static ⟨"java/lang/Math", "abs", "(I)I"⟩ ∈ pv_TB := pv_mem (i := 974) (by decide +kernel) (by decide +kernel)
theorem w_975 : Cond.code ⟨"java/lang/Math", "abs", "(I)I"⟩ prog_15_method_59_code 1 (Option.some .int) ∈ pv_TB := pv_mem (i := 975) (by decide +kernel) (by decide +kernel)
abbrev y_Kd_waveValue : MethodName := ⟨"PatchVoices$Kinds", "waveValue", "(II)I"⟩
theorem w_152 : Cond.fieldLink "PatchVoices$Patch" 36 "PatchVoices$Patch" "modules" "I" ∈ pv_TB := pv_mem (i := 152) (by decide +kernel) (by decide +kernel)
theorem w_165 : Cond.lays "PatchVoices$Patch" "PatchVoices$Patch" "modules" "I" ∈ pv_TB := pv_mem (i := 165) (by decide +kernel) (by decide +kernel)
theorem w_167 : Cond.laysFinal "PatchVoices$Patch" "PatchVoices$Patch" "kind" "[I" ∈ pv_TB := pv_mem (i := 167) (by decide +kernel) (by decide +kernel)
theorem w_169 : Cond.laysFinal "PatchVoices$Patch" "PatchVoices$Patch" "from" "[I" ∈ pv_TB := pv_mem (i := 169) (by decide +kernel) (by decide +kernel)
theorem w_171 : Cond.laysFinal "PatchVoices$Patch" "PatchVoices$Patch" "number" "[I" ∈ pv_TB := pv_mem (i := 171) (by decide +kernel) (by decide +kernel)
theorem w_173 : Cond.laysFinal "PatchVoices$Patch" "PatchVoices$Patch" "name" "[I" ∈ pv_TB := pv_mem (i := 173) (by decide +kernel) (by decide +kernel)
theorem w_175 : Cond.laysFinal "PatchVoices$Patch" "PatchVoices$Patch" "inputs" "[I" ∈ pv_TB := pv_mem (i := 175) (by decide +kernel) (by decide +kernel)
theorem w_177 : Cond.laysFinal "PatchVoices$Patch" "PatchVoices$Patch" "cord" "[I" ∈ pv_TB := pv_mem (i := 177) (by decide +kernel) (by decide +kernel)
theorem w_179 : Cond.laysFinal "PatchVoices$Patch" "PatchVoices$Patch" "behind" "[J" ∈ pv_TB := pv_mem (i := 179) (by decide +kernel) (by decide +kernel)
theorem in_Pt : ∀ w ∈ u_ws R_Pt F_Pt 8, w ∈ pv_TB := by
  intro w hw
  have hw : w ∈ [u_lay R_Pt F_Pt 0, u_lay R_Pt F_Pt 1, u_lay R_Pt F_Pt 2, u_lay R_Pt F_Pt 3, u_lay R_Pt F_Pt 4, u_lay R_Pt F_Pt 5, u_lay R_Pt F_Pt 6, u_lay R_Pt F_Pt 7] := hw
  simp only [List.mem_cons, List.not_mem_nil, or_false] at hw
  rcases hw with rfl | rfl | rfl | rfl | rfl | rfl | rfl | rfl
  · exact w_165
  · exact w_167
  · exact w_169
  · exact w_171
  · exact w_173
  · exact w_175
  · exact w_177
  · exact w_179
theorem fw_Pt_36 : pv_FW pv_TB pv_cl "PatchVoices$Patch" 36 2 0 .int := ⟨R_Pt, F_Pt, 8, t_Pt, rfl, by decide, in_Pt, w_152, o_Pt, n_Pt, rfl, by decide +kernel⟩
theorem w_161 : Cond.fieldLink "PatchVoices$Patch" 23 "PatchVoices$Patch" "name" "[I" ∈ pv_TB := pv_mem (i := 161) (by decide +kernel) (by decide +kernel)
theorem fl_Pt_23 : pv_FL pv_TB pv_cl "PatchVoices$Patch" 23 2 4 := ⟨R_Pt, F_Pt, 8, rfl, by decide, in_Pt, w_161⟩
theorem w_405 : Cond.methodLink "PatchVoices$Patch" 40 ⟨"java/util/Arrays", "fill", "([II)V"⟩ ∈ pv_TB := pv_mem (i := 405) (by decide +kernel) (by decide +kernel)
theorem w_406 : Cond.static ⟨"java/util/Arrays", "fill", "([II)V"⟩ ∈ pv_TB := pv_mem (i := 406) (by decide +kernel) (by decide +kernel)
theorem w_116 : Cond.initialized "java/util/Arrays" ∈ pv_TB := pv_mem (i := 116) (by decide +kernel) (by decide +kernel)
theorem w_407 : Cond.code ⟨"java/util/Arrays", "fill", "([II)V"⟩ prog_22_method_103_code 4 (Option.none : Option Jvm.ClassFile.FieldType) ∈ pv_TB := pv_mem (i := 407) (by decide +kernel) (by decide +kernel)
theorem cs_Pt_40 : pv_CS pv_TB "PatchVoices$Patch" 40 y_Fill_7 prog_22_method_103_code 4 none 2 := ⟨⟨by decide +kernel, by decide +kernel, by decide +kernel⟩, w_405, w_406, w_116, w_407⟩
theorem w_155 : Cond.fieldLink "PatchVoices$Patch" 11 "PatchVoices$Patch" "kind" "[I" ∈ pv_TB := pv_mem (i := 155) (by decide +kernel) (by decide +kernel)
theorem fl_Pt_11 : pv_FL pv_TB pv_cl "PatchVoices$Patch" 11 2 1 := ⟨R_Pt, F_Pt, 8, rfl, by decide, in_Pt, w_155⟩
theorem w_162 : Cond.fieldLink "PatchVoices$Patch" 26 "PatchVoices$Patch" "inputs" "[I" ∈ pv_TB := pv_mem (i := 162) (by decide +kernel) (by decide +kernel)
theorem fl_Pt_26 : pv_FL pv_TB pv_cl "PatchVoices$Patch" 26 2 5 := ⟨R_Pt, F_Pt, 8, rfl, by decide, in_Pt, w_162⟩
theorem w_163 : Cond.fieldLink "PatchVoices$Patch" 29 "PatchVoices$Patch" "cord" "[I" ∈ pv_TB := pv_mem (i := 163) (by decide +kernel) (by decide +kernel)
theorem fl_Pt_29 : pv_FL pv_TB pv_cl "PatchVoices$Patch" 29 2 6 := ⟨R_Pt, F_Pt, 8, rfl, by decide, in_Pt, w_163⟩
theorem w_159 : Cond.fieldLink "PatchVoices$Patch" 20 "PatchVoices$Patch" "number" "[I" ∈ pv_TB := pv_mem (i := 159) (by decide +kernel) (by decide +kernel)
theorem fl_Pt_20 : pv_FL pv_TB pv_cl "PatchVoices$Patch" 20 2 3 := ⟨R_Pt, F_Pt, 8, rfl, by decide, in_Pt, w_159⟩
abbrev y_Pt_clear : MethodName := ⟨"PatchVoices$Patch", "clear", "()V"⟩
theorem fl_Pt_36 : pv_FL pv_TB pv_cl "PatchVoices$Patch" 36 2 0 := ⟨R_Pt, F_Pt, 8, rfl, by decide, in_Pt, w_152⟩
abbrev y_Pt_addModule : MethodName := ⟨"PatchVoices$Patch", "addModule", "()V"⟩
abbrev y_Pt_longerName : MethodName := ⟨"PatchVoices$Patch", "longerName", "(IC)I"⟩
theorem w_428 : Cond.methodLink "PatchVoices$Patch" 46 ⟨"PatchVoices$Patch", "longerName", "(IC)I"⟩ ∈ pv_TB := pv_mem (i := 428) (by decide +kernel) (by decide +kernel)
theorem w_429 : Cond.static ⟨"PatchVoices$Patch", "longerName", "(IC)I"⟩ ∈ pv_TB := pv_mem (i := 429) (by decide +kernel) (by decide +kernel)
theorem w_111 : Cond.initialized "PatchVoices$Patch" ∈ pv_TB := pv_mem (i := 111) (by decide +kernel) (by decide +kernel)
theorem w_430 : Cond.code ⟨"PatchVoices$Patch", "longerName", "(IC)I"⟩ prog_3_method_11_code 2 (Option.some .int) ∈ pv_TB := pv_mem (i := 430) (by decide +kernel) (by decide +kernel)
theorem cs_Pt_46 : pv_CS pv_TB "PatchVoices$Patch" 46 y_Pt_longerName prog_3_method_11_code 2 (some .int) 2 := ⟨⟨by decide +kernel, by decide +kernel, by decide +kernel⟩, w_428, w_429, w_111, w_430⟩
abbrev y_Pt_addToName : MethodName := ⟨"PatchVoices$Patch", "addToName", "(C)V"⟩
abbrev y_Pt_setKind : MethodName := ⟨"PatchVoices$Patch", "setKind", "(I)V"⟩
abbrev y_Pt_hasRoomForInput : MethodName := ⟨"PatchVoices$Patch", "hasRoomForInput", "()Z"⟩
abbrev y_Pt_addInput : MethodName := ⟨"PatchVoices$Patch", "addInput", "()V"⟩
abbrev y_Pt_latestInput : MethodName := ⟨"PatchVoices$Patch", "latestInput", "()I"⟩
theorem w_500 : Cond.methodLink "PatchVoices$Patch" 50 ⟨"PatchVoices$Patch", "latestInput", "()I"⟩ ∈ pv_TB := pv_mem (i := 500) (by decide +kernel) (by decide +kernel)
theorem w_502 : Cond.instanceMethod ⟨"PatchVoices$Patch", "latestInput", "()I"⟩ ∈ pv_TB := pv_mem (i := 502) (by decide +kernel) (by decide +kernel)
theorem w_5 : Cond.selects "PatchVoices$Patch" ⟨"PatchVoices$Patch", "latestInput", "()I"⟩ ⟨"PatchVoices$Patch", "latestInput", "()I"⟩ ∈ pv_TB := pv_mem (i := 5) (by decide +kernel) (by decide +kernel)
theorem w_503 : Cond.code ⟨"PatchVoices$Patch", "latestInput", "()I"⟩ prog_3_method_10_code 1 (Option.some .int) ∈ pv_TB := pv_mem (i := 503) (by decide +kernel) (by decide +kernel)
theorem cv_Pt_50 : pv_CV pv_TB "PatchVoices$Patch" "PatchVoices$Patch" 50 y_Pt_latestInput prog_3_method_10_code 1 (some .int) 0 := ⟨⟨rfl, by decide +kernel, by decide +kernel, by decide +kernel⟩, w_500, w_502, w_5, w_111, w_503⟩
abbrev y_Pt_addToCord : MethodName := ⟨"PatchVoices$Patch", "addToCord", "(C)V"⟩
abbrev y_Pt_addToNumber : MethodName := ⟨"PatchVoices$Patch", "addToNumber", "(I)V"⟩
abbrev y_Pt_moduleNamed : MethodName := ⟨"PatchVoices$Patch", "moduleNamed", "(I)I"⟩
theorem w_164 : Cond.fieldLink "PatchVoices$Patch" 32 "PatchVoices$Patch" "behind" "[J" ∈ pv_TB := pv_mem (i := 164) (by decide +kernel) (by decide +kernel)
theorem fl_Pt_32 : pv_FL pv_TB pv_cl "PatchVoices$Patch" 32 2 7 := ⟨R_Pt, F_Pt, 8, rfl, by decide, in_Pt, w_164⟩
abbrev y_Pt_isBehind : MethodName := ⟨"PatchVoices$Patch", "isBehind", "(II)Z"⟩
theorem w_157 : Cond.fieldLink "PatchVoices$Patch" 17 "PatchVoices$Patch" "from" "[I" ∈ pv_TB := pv_mem (i := 157) (by decide +kernel) (by decide +kernel)
theorem fl_Pt_17 : pv_FL pv_TB pv_cl "PatchVoices$Patch" 17 2 2 := ⟨R_Pt, F_Pt, 8, rfl, by decide, in_Pt, w_157⟩
theorem w_548 : Cond.methodLink "PatchVoices$Patch" 61 ⟨"PatchVoices$Patch", "isBehind", "(II)Z"⟩ ∈ pv_TB := pv_mem (i := 548) (by decide +kernel) (by decide +kernel)
theorem w_550 : Cond.instanceMethod ⟨"PatchVoices$Patch", "isBehind", "(II)Z"⟩ ∈ pv_TB := pv_mem (i := 550) (by decide +kernel) (by decide +kernel)
theorem w_14 : Cond.selects "PatchVoices$Patch" ⟨"PatchVoices$Patch", "isBehind", "(II)Z"⟩ ⟨"PatchVoices$Patch", "isBehind", "(II)Z"⟩ ∈ pv_TB := pv_mem (i := 14) (by decide +kernel) (by decide +kernel)
theorem w_551 : Cond.code ⟨"PatchVoices$Patch", "isBehind", "(II)Z"⟩ prog_3_method_15_code 3 (Option.some .boolean) ∈ pv_TB := pv_mem (i := 551) (by decide +kernel) (by decide +kernel)
theorem cv_Pt_61 : pv_CV pv_TB "PatchVoices$Patch" "PatchVoices$Patch" 61 y_Pt_isBehind prog_3_method_15_code 3 (some .boolean) 2 := ⟨⟨rfl, by decide +kernel, by decide +kernel, by decide +kernel⟩, w_548, w_550, w_14, w_111, w_551⟩
abbrev y_Pt_followCords : MethodName := ⟨"PatchVoices$Patch", "followCords", "()V"⟩
theorem w_544 : Cond.methodLink "PatchVoices$Patch" 58 ⟨"PatchVoices$Patch", "followCords", "()V"⟩ ∈ pv_TB := pv_mem (i := 544) (by decide +kernel) (by decide +kernel)
theorem w_546 : Cond.instanceMethod ⟨"PatchVoices$Patch", "followCords", "()V"⟩ ∈ pv_TB := pv_mem (i := 546) (by decide +kernel) (by decide +kernel)
theorem w_13 : Cond.selects "PatchVoices$Patch" ⟨"PatchVoices$Patch", "followCords", "()V"⟩ ⟨"PatchVoices$Patch", "followCords", "()V"⟩ ∈ pv_TB := pv_mem (i := 13) (by decide +kernel) (by decide +kernel)
theorem w_547 : Cond.code ⟨"PatchVoices$Patch", "followCords", "()V"⟩ prog_3_method_14_code 4 (Option.none : Option Jvm.ClassFile.FieldType) ∈ pv_TB := pv_mem (i := 547) (by decide +kernel) (by decide +kernel)
theorem cv_Pt_58 : pv_CV pv_TB "PatchVoices$Patch" "PatchVoices$Patch" 58 y_Pt_followCords prog_3_method_14_code 4 none 0 := ⟨⟨rfl, by decide +kernel, by decide +kernel, by decide +kernel⟩, w_544, w_546, w_13, w_111, w_547⟩
theorem w_540 : Cond.methodLink "PatchVoices$Patch" 54 ⟨"PatchVoices$Patch", "moduleNamed", "(I)I"⟩ ∈ pv_TB := pv_mem (i := 540) (by decide +kernel) (by decide +kernel)
theorem w_542 : Cond.instanceMethod ⟨"PatchVoices$Patch", "moduleNamed", "(I)I"⟩ ∈ pv_TB := pv_mem (i := 542) (by decide +kernel) (by decide +kernel)
theorem w_12 : Cond.selects "PatchVoices$Patch" ⟨"PatchVoices$Patch", "moduleNamed", "(I)I"⟩ ⟨"PatchVoices$Patch", "moduleNamed", "(I)I"⟩ ∈ pv_TB := pv_mem (i := 12) (by decide +kernel) (by decide +kernel)
theorem w_543 : Cond.code ⟨"PatchVoices$Patch", "moduleNamed", "(I)I"⟩ prog_3_method_13_code 3 (Option.some .int) ∈ pv_TB := pv_mem (i := 543) (by decide +kernel) (by decide +kernel)
theorem cv_Pt_54 : pv_CV pv_TB "PatchVoices$Patch" "PatchVoices$Patch" 54 y_Pt_moduleNamed prog_3_method_13_code 3 (some .int) 1 := ⟨⟨rfl, by decide +kernel, by decide +kernel, by decide +kernel⟩, w_540, w_542, w_12, w_111, w_543⟩
abbrev y_Pt_tieCords : MethodName := ⟨"PatchVoices$Patch", "tieCords", "()V"⟩
abbrev y_Pt_hasLooseCord : MethodName := ⟨"PatchVoices$Patch", "hasLooseCord", "(I)Z"⟩
abbrev y_Pt_isNumberWithin : MethodName := ⟨"PatchVoices$Patch", "isNumberWithin", "(III)Z"⟩
theorem w_574 : Cond.methodLink "PatchVoices$Patch" 84 ⟨"PatchVoices$Kinds", "inputsOf", "(I)I"⟩ ∈ pv_TB := pv_mem (i := 574) (by decide +kernel) (by decide +kernel)
theorem w_575 : Cond.static ⟨"PatchVoices$Kinds", "inputsOf", "(I)I"⟩ ∈ pv_TB := pv_mem (i := 575) (by decide +kernel) (by decide +kernel)
theorem w_576 : Cond.code ⟨"PatchVoices$Kinds", "inputsOf", "(I)I"⟩ prog_2_method_2_code 1 (Option.some .int) ∈ pv_TB := pv_mem (i := 576) (by decide +kernel) (by decide +kernel)
theorem cs_Pt_84 : pv_CS pv_TB "PatchVoices$Patch" 84 y_Kd_inputsOf prog_2_method_2_code 1 (some .int) 1 := ⟨⟨by decide +kernel, by decide +kernel, by decide +kernel⟩, w_574, w_575, w_117, w_576⟩
theorem w_579 : Cond.methodLink "PatchVoices$Patch" 87 ⟨"PatchVoices$Patch", "isNumberWithin", "(III)Z"⟩ ∈ pv_TB := pv_mem (i := 579) (by decide +kernel) (by decide +kernel)
theorem w_581 : Cond.instanceMethod ⟨"PatchVoices$Patch", "isNumberWithin", "(III)Z"⟩ ∈ pv_TB := pv_mem (i := 581) (by decide +kernel) (by decide +kernel)
theorem w_18 : Cond.selects "PatchVoices$Patch" ⟨"PatchVoices$Patch", "isNumberWithin", "(III)Z"⟩ ⟨"PatchVoices$Patch", "isNumberWithin", "(III)Z"⟩ ∈ pv_TB := pv_mem (i := 18) (by decide +kernel) (by decide +kernel)
theorem w_582 : Cond.code ⟨"PatchVoices$Patch", "isNumberWithin", "(III)Z"⟩ prog_3_method_21_code 4 (Option.some .boolean) ∈ pv_TB := pv_mem (i := 582) (by decide +kernel) (by decide +kernel)
theorem cv_Pt_87 : pv_CV pv_TB "PatchVoices$Patch" "PatchVoices$Patch" 87 y_Pt_isNumberWithin prog_3_method_21_code 4 (some .boolean) 3 := ⟨⟨rfl, by decide +kernel, by decide +kernel, by decide +kernel⟩, w_579, w_581, w_18, w_111, w_582⟩
abbrev y_Pt_hasWrongInputs : MethodName := ⟨"PatchVoices$Patch", "hasWrongInputs", "(I)Z"⟩
abbrev y_Pt_delaysUpTo : MethodName := ⟨"PatchVoices$Patch", "delaysUpTo", "(I)I"⟩
theorem w_566 : Cond.methodLink "PatchVoices$Patch" 74 ⟨"PatchVoices$Patch", "hasLooseCord", "(I)Z"⟩ ∈ pv_TB := pv_mem (i := 566) (by decide +kernel) (by decide +kernel)
theorem w_568 : Cond.instanceMethod ⟨"PatchVoices$Patch", "hasLooseCord", "(I)Z"⟩ ∈ pv_TB := pv_mem (i := 568) (by decide +kernel) (by decide +kernel)
theorem w_16 : Cond.selects "PatchVoices$Patch" ⟨"PatchVoices$Patch", "hasLooseCord", "(I)Z"⟩ ⟨"PatchVoices$Patch", "hasLooseCord", "(I)Z"⟩ ∈ pv_TB := pv_mem (i := 16) (by decide +kernel) (by decide +kernel)
theorem w_569 : Cond.code ⟨"PatchVoices$Patch", "hasLooseCord", "(I)Z"⟩ prog_3_method_19_code 4 (Option.some .boolean) ∈ pv_TB := pv_mem (i := 569) (by decide +kernel) (by decide +kernel)
theorem cv_Pt_74 : pv_CV pv_TB "PatchVoices$Patch" "PatchVoices$Patch" 74 y_Pt_hasLooseCord prog_3_method_19_code 4 (some .boolean) 1 := ⟨⟨rfl, by decide +kernel, by decide +kernel, by decide +kernel⟩, w_566, w_568, w_16, w_111, w_569⟩
theorem w_570 : Cond.methodLink "PatchVoices$Patch" 78 ⟨"PatchVoices$Patch", "hasWrongInputs", "(I)Z"⟩ ∈ pv_TB := pv_mem (i := 570) (by decide +kernel) (by decide +kernel)
theorem w_572 : Cond.instanceMethod ⟨"PatchVoices$Patch", "hasWrongInputs", "(I)Z"⟩ ∈ pv_TB := pv_mem (i := 572) (by decide +kernel) (by decide +kernel)
theorem w_17 : Cond.selects "PatchVoices$Patch" ⟨"PatchVoices$Patch", "hasWrongInputs", "(I)Z"⟩ ⟨"PatchVoices$Patch", "hasWrongInputs", "(I)Z"⟩ ∈ pv_TB := pv_mem (i := 17) (by decide +kernel) (by decide +kernel)
theorem w_573 : Cond.code ⟨"PatchVoices$Patch", "hasWrongInputs", "(I)Z"⟩ prog_3_method_20_code 3 (Option.some .boolean) ∈ pv_TB := pv_mem (i := 573) (by decide +kernel) (by decide +kernel)
theorem cv_Pt_78 : pv_CV pv_TB "PatchVoices$Patch" "PatchVoices$Patch" 78 y_Pt_hasWrongInputs prog_3_method_20_code 3 (some .boolean) 1 := ⟨⟨rfl, by decide +kernel, by decide +kernel, by decide +kernel⟩, w_570, w_572, w_17, w_111, w_573⟩
theorem w_583 : Cond.methodLink "PatchVoices$Patch" 81 ⟨"PatchVoices$Patch", "delaysUpTo", "(I)I"⟩ ∈ pv_TB := pv_mem (i := 583) (by decide +kernel) (by decide +kernel)
theorem w_585 : Cond.instanceMethod ⟨"PatchVoices$Patch", "delaysUpTo", "(I)I"⟩ ∈ pv_TB := pv_mem (i := 585) (by decide +kernel) (by decide +kernel)
theorem w_19 : Cond.selects "PatchVoices$Patch" ⟨"PatchVoices$Patch", "delaysUpTo", "(I)I"⟩ ⟨"PatchVoices$Patch", "delaysUpTo", "(I)I"⟩ ∈ pv_TB := pv_mem (i := 19) (by decide +kernel) (by decide +kernel)
theorem w_586 : Cond.code ⟨"PatchVoices$Patch", "delaysUpTo", "(I)I"⟩ prog_3_method_22_code 4 (Option.some .int) ∈ pv_TB := pv_mem (i := 586) (by decide +kernel) (by decide +kernel)
theorem cv_Pt_81 : pv_CV pv_TB "PatchVoices$Patch" "PatchVoices$Patch" 81 y_Pt_delaysUpTo prog_3_method_22_code 4 (some .int) 1 := ⟨⟨rfl, by decide +kernel, by decide +kernel, by decide +kernel⟩, w_583, w_585, w_19, w_111, w_586⟩
abbrev y_Pt_has : MethodName := ⟨"PatchVoices$Patch", "has", "(II)Z"⟩
theorem w_562 : Cond.methodLink "PatchVoices$Patch" 71 ⟨"PatchVoices$Patch", "has", "(II)Z"⟩ ∈ pv_TB := pv_mem (i := 562) (by decide +kernel) (by decide +kernel)
theorem w_564 : Cond.instanceMethod ⟨"PatchVoices$Patch", "has", "(II)Z"⟩ ∈ pv_TB := pv_mem (i := 564) (by decide +kernel) (by decide +kernel)
theorem w_15 : Cond.selects "PatchVoices$Patch" ⟨"PatchVoices$Patch", "has", "(II)Z"⟩ ⟨"PatchVoices$Patch", "has", "(II)Z"⟩ ∈ pv_TB := pv_mem (i := 15) (by decide +kernel) (by decide +kernel)
theorem w_565 : Cond.code ⟨"PatchVoices$Patch", "has", "(II)Z"⟩ prog_3_method_18_code 3 (Option.some .boolean) ∈ pv_TB := pv_mem (i := 565) (by decide +kernel) (by decide +kernel)
theorem cv_Pt_71 : pv_CV pv_TB "PatchVoices$Patch" "PatchVoices$Patch" 71 y_Pt_has prog_3_method_18_code 3 (some .boolean) 2 := ⟨⟨rfl, by decide +kernel, by decide +kernel, by decide +kernel⟩, w_562, w_564, w_15, w_111, w_565⟩
abbrev y_Pt_leastWith : MethodName := ⟨"PatchVoices$Patch", "leastWith", "(I)I"⟩
theorem w_556 : Cond.fieldLink "PatchVoices$Patch" 65 "PatchVoices$Patch" "FAULTS_IN_TURN" "[I" ∈ pv_TB := pv_mem (i := 556) (by decide +kernel) (by decide +kernel)
theorem w_558 : Cond.methodLink "PatchVoices$Patch" 68 ⟨"PatchVoices$Patch", "leastWith", "(I)I"⟩ ∈ pv_TB := pv_mem (i := 558) (by decide +kernel) (by decide +kernel)
theorem w_559 : Cond.instanceMethod ⟨"PatchVoices$Patch", "leastWith", "(I)I"⟩ ∈ pv_TB := pv_mem (i := 559) (by decide +kernel) (by decide +kernel)
theorem w_560 : Cond.selects "PatchVoices$Patch" ⟨"PatchVoices$Patch", "leastWith", "(I)I"⟩ ⟨"PatchVoices$Patch", "leastWith", "(I)I"⟩ ∈ pv_TB := pv_mem (i := 560) (by decide +kernel) (by decide +kernel)
theorem w_561 : Cond.code ⟨"PatchVoices$Patch", "leastWith", "(I)I"⟩ prog_3_method_17_code 3 (Option.some .int) ∈ pv_TB := pv_mem (i := 561) (by decide +kernel) (by decide +kernel)
theorem cv_Pt_68 : pv_CV pv_TB "PatchVoices$Patch" "PatchVoices$Patch" 68 y_Pt_leastWith prog_3_method_17_code 3 (some .int) 1 := ⟨⟨rfl, by decide +kernel, by decide +kernel, by decide +kernel⟩, w_558, w_559, w_560, w_111, w_561⟩
abbrev y_Pt_firstFault : MethodName := ⟨"PatchVoices$Patch", "firstFault", "()I"⟩
theorem w_185 : Cond.fieldLink "PatchVoices$Reader" 12 "PatchVoices$Reader" "patch" "LPatchVoices$Patch;" ∈ pv_TB := pv_mem (i := 185) (by decide +kernel) (by decide +kernel)
theorem w_191 : Cond.laysFinal "PatchVoices$Reader" "PatchVoices$Reader" "patch" "LPatchVoices$Patch;" ∈ pv_TB := pv_mem (i := 191) (by decide +kernel) (by decide +kernel)
theorem w_193 : Cond.lays "PatchVoices$Reader" "PatchVoices$Reader" "state" "I" ∈ pv_TB := pv_mem (i := 193) (by decide +kernel) (by decide +kernel)
theorem w_195 : Cond.lays "PatchVoices$Reader" "PatchVoices$Reader" "size" "I" ∈ pv_TB := pv_mem (i := 195) (by decide +kernel) (by decide +kernel)
theorem w_197 : Cond.lays "PatchVoices$Reader" "PatchVoices$Reader" "kinds" "I" ∈ pv_TB := pv_mem (i := 197) (by decide +kernel) (by decide +kernel)
theorem w_199 : Cond.lays "PatchVoices$Reader" "PatchVoices$Reader" "sign" "I" ∈ pv_TB := pv_mem (i := 199) (by decide +kernel) (by decide +kernel)
theorem in_Rd : ∀ w ∈ u_ws R_Rd F_Rd 5, w ∈ pv_TB := by
  intro w hw
  have hw : w ∈ [u_lay R_Rd F_Rd 0, u_lay R_Rd F_Rd 1, u_lay R_Rd F_Rd 2, u_lay R_Rd F_Rd 3, u_lay R_Rd F_Rd 4] := hw
  simp only [List.mem_cons, List.not_mem_nil, or_false] at hw
  rcases hw with rfl | rfl | rfl | rfl | rfl
  · exact w_191
  · exact w_193
  · exact w_195
  · exact w_197
  · exact w_199
theorem fl_Rd_12 : pv_FL pv_TB pv_cl "PatchVoices$Reader" 12 1 0 := ⟨R_Rd, F_Rd, 5, rfl, by decide, in_Rd, w_185⟩
theorem w_424 : Cond.methodLink "PatchVoices$Reader" 80 ⟨"PatchVoices$Patch", "addToName", "(C)V"⟩ ∈ pv_TB := pv_mem (i := 424) (by decide +kernel) (by decide +kernel)
theorem w_425 : Cond.instanceMethod ⟨"PatchVoices$Patch", "addToName", "(C)V"⟩ ∈ pv_TB := pv_mem (i := 425) (by decide +kernel) (by decide +kernel)
theorem w_426 : Cond.selects "PatchVoices$Patch" ⟨"PatchVoices$Patch", "addToName", "(C)V"⟩ ⟨"PatchVoices$Patch", "addToName", "(C)V"⟩ ∈ pv_TB := pv_mem (i := 426) (by decide +kernel) (by decide +kernel)
theorem w_427 : Cond.code ⟨"PatchVoices$Patch", "addToName", "(C)V"⟩ prog_3_method_4_code 2 (Option.none : Option Jvm.ClassFile.FieldType) ∈ pv_TB := pv_mem (i := 427) (by decide +kernel) (by decide +kernel)
theorem cv_Rd_80 : pv_CV pv_TB "PatchVoices$Reader" "PatchVoices$Patch" 80 y_Pt_addToName prog_3_method_4_code 2 none 1 := ⟨⟨rfl, by decide +kernel, by decide +kernel, by decide +kernel⟩, w_424, w_425, w_426, w_111, w_427⟩
theorem w_188 : Cond.fieldLink "PatchVoices$Reader" 59 "PatchVoices$Reader" "size" "I" ∈ pv_TB := pv_mem (i := 188) (by decide +kernel) (by decide +kernel)
theorem fl_Rd_59 : pv_FL pv_TB pv_cl "PatchVoices$Reader" 59 1 2 := ⟨R_Rd, F_Rd, 5, rfl, by decide, in_Rd, w_188⟩
theorem fw_Rd_59 : pv_FW pv_TB pv_cl "PatchVoices$Reader" 59 1 2 .int := ⟨R_Rd, F_Rd, 5, t_Rd, rfl, by decide, in_Rd, w_188, o_Rd, n_Rd, rfl, by decide +kernel⟩
abbrev y_Rd_stateInName : MethodName := ⟨"PatchVoices$Reader", "stateInName", "(C)I"⟩
theorem w_189 : Cond.fieldLink "PatchVoices$Reader" 68 "PatchVoices$Reader" "kinds" "I" ∈ pv_TB := pv_mem (i := 189) (by decide +kernel) (by decide +kernel)
theorem fl_Rd_68 : pv_FL pv_TB pv_cl "PatchVoices$Reader" 68 1 3 := ⟨R_Rd, F_Rd, 5, rfl, by decide, in_Rd, w_189⟩
theorem w_436 : Cond.methodLink "PatchVoices$Reader" 87 ⟨"PatchVoices$Kinds", "withLetter", "(IC)I"⟩ ∈ pv_TB := pv_mem (i := 436) (by decide +kernel) (by decide +kernel)
theorem w_437 : Cond.static ⟨"PatchVoices$Kinds", "withLetter", "(IC)I"⟩ ∈ pv_TB := pv_mem (i := 437) (by decide +kernel) (by decide +kernel)
theorem w_438 : Cond.code ⟨"PatchVoices$Kinds", "withLetter", "(IC)I"⟩ prog_2_method_3_code 4 (Option.some .int) ∈ pv_TB := pv_mem (i := 438) (by decide +kernel) (by decide +kernel)
theorem cs_Rd_87 : pv_CS pv_TB "PatchVoices$Reader" 87 y_Kd_withLetter prog_2_method_3_code 4 (some .int) 2 := ⟨⟨by decide +kernel, by decide +kernel, by decide +kernel⟩, w_436, w_437, w_117, w_438⟩
theorem fw_Rd_68 : pv_FW pv_TB pv_cl "PatchVoices$Reader" 68 1 3 .int := ⟨R_Rd, F_Rd, 5, t_Rd, rfl, by decide, in_Rd, w_189, o_Rd, n_Rd, rfl, by decide +kernel⟩
theorem w_480 : Cond.methodLink "PatchVoices$Reader" 91 ⟨"java/lang/Integer", "numberOfTrailingZeros", "(I)I"⟩ ∈ pv_TB := pv_mem (i := 480) (by decide +kernel) (by decide +kernel)
theorem w_481 : Cond.static ⟨"java/lang/Integer", "numberOfTrailingZeros", "(I)I"⟩ ∈ pv_TB := pv_mem (i := 481) (by decide +kernel) (by decide +kernel)
theorem w_122 : Cond.initialized "java/lang/Integer" ∈ pv_TB := pv_mem (i := 122) (by decide +kernel) (by decide +kernel)
theorem w_482 : Cond.code ⟨"java/lang/Integer", "numberOfTrailingZeros", "(I)I"⟩ prog_14_method_48_code 2 (Option.some .int) ∈ pv_TB := pv_mem (i := 482) (by decide +kernel) (by decide +kernel)
theorem cs_Rd_91 : pv_CS pv_TB "PatchVoices$Reader" 91 y_In_numberOfTrailingZeros prog_14_method_48_code 2 (some .int) 1 := ⟨⟨by decide +kernel, by decide +kernel, by decide +kernel⟩, w_480, w_481, w_122, w_482⟩
theorem w_484 : Cond.methodLink "PatchVoices$Reader" 96 ⟨"PatchVoices$Patch", "setKind", "(I)V"⟩ ∈ pv_TB := pv_mem (i := 484) (by decide +kernel) (by decide +kernel)
theorem w_485 : Cond.instanceMethod ⟨"PatchVoices$Patch", "setKind", "(I)V"⟩ ∈ pv_TB := pv_mem (i := 485) (by decide +kernel) (by decide +kernel)
theorem w_486 : Cond.selects "PatchVoices$Patch" ⟨"PatchVoices$Patch", "setKind", "(I)V"⟩ ⟨"PatchVoices$Patch", "setKind", "(I)V"⟩ ∈ pv_TB := pv_mem (i := 486) (by decide +kernel) (by decide +kernel)
theorem w_487 : Cond.code ⟨"PatchVoices$Patch", "setKind", "(I)V"⟩ prog_3_method_5_code 2 (Option.none : Option Jvm.ClassFile.FieldType) ∈ pv_TB := pv_mem (i := 487) (by decide +kernel) (by decide +kernel)
theorem cv_Rd_96 : pv_CV pv_TB "PatchVoices$Reader" "PatchVoices$Patch" 96 y_Pt_setKind prog_3_method_5_code 2 none 1 := ⟨⟨rfl, by decide +kernel, by decide +kernel, by decide +kernel⟩, w_484, w_485, w_486, w_111, w_487⟩
abbrev y_Rd_stateInWord : MethodName := ⟨"PatchVoices$Reader", "stateInWord", "(C)I"⟩
theorem w_496 : Cond.methodLink "PatchVoices$Reader" 84 ⟨"PatchVoices$Patch", "addToCord", "(C)V"⟩ ∈ pv_TB := pv_mem (i := 496) (by decide +kernel) (by decide +kernel)
theorem w_497 : Cond.instanceMethod ⟨"PatchVoices$Patch", "addToCord", "(C)V"⟩ ∈ pv_TB := pv_mem (i := 497) (by decide +kernel) (by decide +kernel)
theorem w_498 : Cond.selects "PatchVoices$Patch" ⟨"PatchVoices$Patch", "addToCord", "(C)V"⟩ ⟨"PatchVoices$Patch", "addToCord", "(C)V"⟩ ∈ pv_TB := pv_mem (i := 498) (by decide +kernel) (by decide +kernel)
theorem w_499 : Cond.code ⟨"PatchVoices$Patch", "addToCord", "(C)V"⟩ prog_3_method_8_code 3 (Option.none : Option Jvm.ClassFile.FieldType) ∈ pv_TB := pv_mem (i := 499) (by decide +kernel) (by decide +kernel)
theorem cv_Rd_84 : pv_CV pv_TB "PatchVoices$Reader" "PatchVoices$Patch" 84 y_Pt_addToCord prog_3_method_8_code 3 none 1 := ⟨⟨rfl, by decide +kernel, by decide +kernel, by decide +kernel⟩, w_496, w_497, w_498, w_111, w_499⟩
abbrev y_Rd_stateInCord : MethodName := ⟨"PatchVoices$Reader", "stateInCord", "(C)I"⟩
theorem w_187 : Cond.fieldLink "PatchVoices$Reader" 21 "PatchVoices$Reader" "state" "I" ∈ pv_TB := pv_mem (i := 187) (by decide +kernel) (by decide +kernel)
theorem fl_Rd_21 : pv_FL pv_TB pv_cl "PatchVoices$Reader" 21 1 1 := ⟨R_Rd, F_Rd, 5, rfl, by decide, in_Rd, w_187⟩
theorem w_416 : Cond.methodLink "PatchVoices$Reader" 56 ⟨"PatchVoices$Patch", "addModule", "()V"⟩ ∈ pv_TB := pv_mem (i := 416) (by decide +kernel) (by decide +kernel)
theorem w_417 : Cond.instanceMethod ⟨"PatchVoices$Patch", "addModule", "()V"⟩ ∈ pv_TB := pv_mem (i := 417) (by decide +kernel) (by decide +kernel)
theorem w_418 : Cond.selects "PatchVoices$Patch" ⟨"PatchVoices$Patch", "addModule", "()V"⟩ ⟨"PatchVoices$Patch", "addModule", "()V"⟩ ∈ pv_TB := pv_mem (i := 418) (by decide +kernel) (by decide +kernel)
theorem w_419 : Cond.code ⟨"PatchVoices$Patch", "addModule", "()V"⟩ prog_3_method_3_code 1 (Option.none : Option Jvm.ClassFile.FieldType) ∈ pv_TB := pv_mem (i := 419) (by decide +kernel) (by decide +kernel)
theorem cv_Rd_56 : pv_CV pv_TB "PatchVoices$Reader" "PatchVoices$Patch" 56 y_Pt_addModule prog_3_method_3_code 1 none 0 := ⟨⟨rfl, by decide +kernel, by decide +kernel, by decide +kernel⟩, w_416, w_417, w_418, w_111, w_419⟩
theorem w_420 : Cond.methodLink "PatchVoices$Reader" 62 ⟨"PatchVoices$Reader", "stateInName", "(C)I"⟩ ∈ pv_TB := pv_mem (i := 420) (by decide +kernel) (by decide +kernel)
theorem w_422 : Cond.instanceMethod ⟨"PatchVoices$Reader", "stateInName", "(C)I"⟩ ∈ pv_TB := pv_mem (i := 422) (by decide +kernel) (by decide +kernel)
theorem w_2 : Cond.selects "PatchVoices$Reader" ⟨"PatchVoices$Reader", "stateInName", "(C)I"⟩ ⟨"PatchVoices$Reader", "stateInName", "(C)I"⟩ ∈ pv_TB := pv_mem (i := 2) (by decide +kernel) (by decide +kernel)
theorem w_110 : Cond.initialized "PatchVoices$Reader" ∈ pv_TB := pv_mem (i := 110) (by decide +kernel) (by decide +kernel)
theorem w_423 : Cond.code ⟨"PatchVoices$Reader", "stateInName", "(C)I"⟩ prog_5_method_5_code 2 (Option.some .int) ∈ pv_TB := pv_mem (i := 423) (by decide +kernel) (by decide +kernel)
theorem cv_Rd_62 : pv_CV pv_TB "PatchVoices$Reader" "PatchVoices$Reader" 62 y_Rd_stateInName prog_5_method_5_code 2 (some .int) 1 := ⟨⟨rfl, by decide +kernel, by decide +kernel, by decide +kernel⟩, w_420, w_422, w_2, w_110, w_423⟩
theorem w_431 : Cond.constant "PatchVoices$Reader" 67 (1048575 : Int32) ∈ pv_TB := pv_mem (i := 431) (by decide +kernel) (by decide +kernel)
theorem w_432 : Cond.methodLink "PatchVoices$Reader" 71 ⟨"PatchVoices$Reader", "stateInWord", "(C)I"⟩ ∈ pv_TB := pv_mem (i := 432) (by decide +kernel) (by decide +kernel)
theorem w_434 : Cond.instanceMethod ⟨"PatchVoices$Reader", "stateInWord", "(C)I"⟩ ∈ pv_TB := pv_mem (i := 434) (by decide +kernel) (by decide +kernel)
theorem w_3 : Cond.selects "PatchVoices$Reader" ⟨"PatchVoices$Reader", "stateInWord", "(C)I"⟩ ⟨"PatchVoices$Reader", "stateInWord", "(C)I"⟩ ∈ pv_TB := pv_mem (i := 3) (by decide +kernel) (by decide +kernel)
theorem w_435 : Cond.code ⟨"PatchVoices$Reader", "stateInWord", "(C)I"⟩ prog_5_method_7_code 2 (Option.some .int) ∈ pv_TB := pv_mem (i := 435) (by decide +kernel) (by decide +kernel)
theorem cv_Rd_71 : pv_CV pv_TB "PatchVoices$Reader" "PatchVoices$Reader" 71 y_Rd_stateInWord prog_5_method_7_code 2 (some .int) 1 := ⟨⟨rfl, by decide +kernel, by decide +kernel, by decide +kernel⟩, w_432, w_434, w_3, w_110, w_435⟩
theorem w_488 : Cond.methodLink "PatchVoices$Reader" 74 ⟨"PatchVoices$Patch", "addInput", "()V"⟩ ∈ pv_TB := pv_mem (i := 488) (by decide +kernel) (by decide +kernel)
theorem w_489 : Cond.instanceMethod ⟨"PatchVoices$Patch", "addInput", "()V"⟩ ∈ pv_TB := pv_mem (i := 489) (by decide +kernel) (by decide +kernel)
theorem w_490 : Cond.selects "PatchVoices$Patch" ⟨"PatchVoices$Patch", "addInput", "()V"⟩ ⟨"PatchVoices$Patch", "addInput", "()V"⟩ ∈ pv_TB := pv_mem (i := 490) (by decide +kernel) (by decide +kernel)
theorem w_491 : Cond.code ⟨"PatchVoices$Patch", "addInput", "()V"⟩ prog_3_method_7_code 1 (Option.none : Option Jvm.ClassFile.FieldType) ∈ pv_TB := pv_mem (i := 491) (by decide +kernel) (by decide +kernel)
theorem cv_Rd_74 : pv_CV pv_TB "PatchVoices$Reader" "PatchVoices$Patch" 74 y_Pt_addInput prog_3_method_7_code 1 none 0 := ⟨⟨rfl, by decide +kernel, by decide +kernel, by decide +kernel⟩, w_488, w_489, w_490, w_111, w_491⟩
theorem w_492 : Cond.methodLink "PatchVoices$Reader" 77 ⟨"PatchVoices$Reader", "stateInCord", "(C)I"⟩ ∈ pv_TB := pv_mem (i := 492) (by decide +kernel) (by decide +kernel)
theorem w_494 : Cond.instanceMethod ⟨"PatchVoices$Reader", "stateInCord", "(C)I"⟩ ∈ pv_TB := pv_mem (i := 494) (by decide +kernel) (by decide +kernel)
theorem w_4 : Cond.selects "PatchVoices$Reader" ⟨"PatchVoices$Reader", "stateInCord", "(C)I"⟩ ⟨"PatchVoices$Reader", "stateInCord", "(C)I"⟩ ∈ pv_TB := pv_mem (i := 4) (by decide +kernel) (by decide +kernel)
theorem w_495 : Cond.code ⟨"PatchVoices$Reader", "stateInCord", "(C)I"⟩ prog_5_method_6_code 2 (Option.some .int) ∈ pv_TB := pv_mem (i := 495) (by decide +kernel) (by decide +kernel)
theorem cv_Rd_77 : pv_CV pv_TB "PatchVoices$Reader" "PatchVoices$Reader" 77 y_Rd_stateInCord prog_5_method_6_code 2 (some .int) 1 := ⟨⟨rfl, by decide +kernel, by decide +kernel, by decide +kernel⟩, w_492, w_494, w_4, w_110, w_495⟩
abbrev y_Rd_stateAfterLetter : MethodName := ⟨"PatchVoices$Reader", "stateAfterLetter", "(C)I"⟩
theorem w_190 : Cond.fieldLink "PatchVoices$Reader" 100 "PatchVoices$Reader" "sign" "I" ∈ pv_TB := pv_mem (i := 190) (by decide +kernel) (by decide +kernel)
theorem fl_Rd_100 : pv_FL pv_TB pv_cl "PatchVoices$Reader" 100 1 4 := ⟨R_Rd, F_Rd, 5, rfl, by decide, in_Rd, w_190⟩
theorem w_512 : Cond.methodLink "PatchVoices$Reader" 106 ⟨"PatchVoices$Patch", "addToNumber", "(I)V"⟩ ∈ pv_TB := pv_mem (i := 512) (by decide +kernel) (by decide +kernel)
theorem w_513 : Cond.instanceMethod ⟨"PatchVoices$Patch", "addToNumber", "(I)V"⟩ ∈ pv_TB := pv_mem (i := 513) (by decide +kernel) (by decide +kernel)
theorem w_514 : Cond.selects "PatchVoices$Patch" ⟨"PatchVoices$Patch", "addToNumber", "(I)V"⟩ ⟨"PatchVoices$Patch", "addToNumber", "(I)V"⟩ ∈ pv_TB := pv_mem (i := 514) (by decide +kernel) (by decide +kernel)
theorem w_515 : Cond.code ⟨"PatchVoices$Patch", "addToNumber", "(I)V"⟩ prog_3_method_9_code 3 (Option.none : Option Jvm.ClassFile.FieldType) ∈ pv_TB := pv_mem (i := 515) (by decide +kernel) (by decide +kernel)
theorem cv_Rd_106 : pv_CV pv_TB "PatchVoices$Reader" "PatchVoices$Patch" 106 y_Pt_addToNumber prog_3_method_9_code 3 none 1 := ⟨⟨rfl, by decide +kernel, by decide +kernel, by decide +kernel⟩, w_512, w_513, w_514, w_111, w_515⟩
abbrev y_Rd_stateInNumber : MethodName := ⟨"PatchVoices$Reader", "stateInNumber", "(I)I"⟩
theorem fw_Rd_100 : pv_FW pv_TB pv_cl "PatchVoices$Reader" 100 1 4 .int := ⟨R_Rd, F_Rd, 5, t_Rd, rfl, by decide, in_Rd, w_190, o_Rd, n_Rd, rfl, by decide +kernel⟩
theorem w_508 : Cond.methodLink "PatchVoices$Reader" 103 ⟨"PatchVoices$Reader", "stateInNumber", "(I)I"⟩ ∈ pv_TB := pv_mem (i := 508) (by decide +kernel) (by decide +kernel)
theorem w_510 : Cond.instanceMethod ⟨"PatchVoices$Reader", "stateInNumber", "(I)I"⟩ ∈ pv_TB := pv_mem (i := 510) (by decide +kernel) (by decide +kernel)
theorem w_7 : Cond.selects "PatchVoices$Reader" ⟨"PatchVoices$Reader", "stateInNumber", "(I)I"⟩ ⟨"PatchVoices$Reader", "stateInNumber", "(I)I"⟩ ∈ pv_TB := pv_mem (i := 7) (by decide +kernel) (by decide +kernel)
theorem w_511 : Cond.code ⟨"PatchVoices$Reader", "stateInNumber", "(I)I"⟩ prog_5_method_9_code 2 (Option.some .int) ∈ pv_TB := pv_mem (i := 511) (by decide +kernel) (by decide +kernel)
theorem cv_Rd_103 : pv_CV pv_TB "PatchVoices$Reader" "PatchVoices$Reader" 103 y_Rd_stateInNumber prog_5_method_9_code 2 (some .int) 1 := ⟨⟨rfl, by decide +kernel, by decide +kernel, by decide +kernel⟩, w_508, w_510, w_7, w_110, w_511⟩
abbrev y_Rd_stateAfterDigit : MethodName := ⟨"PatchVoices$Reader", "stateAfterDigit", "(I)I"⟩
abbrev y_Rd_stateAfterBlank : MethodName := ⟨"PatchVoices$Reader", "stateAfterBlank", "()I"⟩
abbrev y_Rd_stateAfterEquals : MethodName := ⟨"PatchVoices$Reader", "stateAfterEquals", "()I"⟩
abbrev y_Rd_stateAfterMinus : MethodName := ⟨"PatchVoices$Reader", "stateAfterMinus", "()I"⟩
abbrev y_Rd_hasInputBehind : MethodName := ⟨"PatchVoices$Reader", "hasInputBehind", "()Z"⟩
theorem w_412 : Cond.methodLink "PatchVoices$Reader" 32 ⟨"PatchVoices$Reader", "stateAfterLetter", "(C)I"⟩ ∈ pv_TB := pv_mem (i := 412) (by decide +kernel) (by decide +kernel)
theorem w_414 : Cond.instanceMethod ⟨"PatchVoices$Reader", "stateAfterLetter", "(C)I"⟩ ∈ pv_TB := pv_mem (i := 414) (by decide +kernel) (by decide +kernel)
theorem w_1 : Cond.selects "PatchVoices$Reader" ⟨"PatchVoices$Reader", "stateAfterLetter", "(C)I"⟩ ⟨"PatchVoices$Reader", "stateAfterLetter", "(C)I"⟩ ∈ pv_TB := pv_mem (i := 1) (by decide +kernel) (by decide +kernel)
theorem w_415 : Cond.code ⟨"PatchVoices$Reader", "stateAfterLetter", "(C)I"⟩ prog_5_method_4_code 2 (Option.some .int) ∈ pv_TB := pv_mem (i := 415) (by decide +kernel) (by decide +kernel)
theorem cv_Rd_32 : pv_CV pv_TB "PatchVoices$Reader" "PatchVoices$Reader" 32 y_Rd_stateAfterLetter prog_5_method_4_code 2 (some .int) 1 := ⟨⟨rfl, by decide +kernel, by decide +kernel, by decide +kernel⟩, w_412, w_414, w_1, w_110, w_415⟩
theorem w_504 : Cond.methodLink "PatchVoices$Reader" 35 ⟨"PatchVoices$Reader", "stateAfterDigit", "(I)I"⟩ ∈ pv_TB := pv_mem (i := 504) (by decide +kernel) (by decide +kernel)
theorem w_506 : Cond.instanceMethod ⟨"PatchVoices$Reader", "stateAfterDigit", "(I)I"⟩ ∈ pv_TB := pv_mem (i := 506) (by decide +kernel) (by decide +kernel)
theorem w_6 : Cond.selects "PatchVoices$Reader" ⟨"PatchVoices$Reader", "stateAfterDigit", "(I)I"⟩ ⟨"PatchVoices$Reader", "stateAfterDigit", "(I)I"⟩ ∈ pv_TB := pv_mem (i := 6) (by decide +kernel) (by decide +kernel)
theorem w_507 : Cond.code ⟨"PatchVoices$Reader", "stateAfterDigit", "(I)I"⟩ prog_5_method_8_code 2 (Option.some .int) ∈ pv_TB := pv_mem (i := 507) (by decide +kernel) (by decide +kernel)
theorem cv_Rd_35 : pv_CV pv_TB "PatchVoices$Reader" "PatchVoices$Reader" 35 y_Rd_stateAfterDigit prog_5_method_8_code 2 (some .int) 1 := ⟨⟨rfl, by decide +kernel, by decide +kernel, by decide +kernel⟩, w_504, w_506, w_6, w_110, w_507⟩
theorem w_516 : Cond.methodLink "PatchVoices$Reader" 39 ⟨"PatchVoices$Reader", "stateAfterBlank", "()I"⟩ ∈ pv_TB := pv_mem (i := 516) (by decide +kernel) (by decide +kernel)
theorem w_518 : Cond.instanceMethod ⟨"PatchVoices$Reader", "stateAfterBlank", "()I"⟩ ∈ pv_TB := pv_mem (i := 518) (by decide +kernel) (by decide +kernel)
theorem w_8 : Cond.selects "PatchVoices$Reader" ⟨"PatchVoices$Reader", "stateAfterBlank", "()I"⟩ ⟨"PatchVoices$Reader", "stateAfterBlank", "()I"⟩ ∈ pv_TB := pv_mem (i := 8) (by decide +kernel) (by decide +kernel)
theorem w_519 : Cond.code ⟨"PatchVoices$Reader", "stateAfterBlank", "()I"⟩ prog_5_method_11_code 1 (Option.some .int) ∈ pv_TB := pv_mem (i := 519) (by decide +kernel) (by decide +kernel)
theorem cv_Rd_39 : pv_CV pv_TB "PatchVoices$Reader" "PatchVoices$Reader" 39 y_Rd_stateAfterBlank prog_5_method_11_code 1 (some .int) 0 := ⟨⟨rfl, by decide +kernel, by decide +kernel, by decide +kernel⟩, w_516, w_518, w_8, w_110, w_519⟩
theorem w_528 : Cond.methodLink "PatchVoices$Reader" 49 ⟨"PatchVoices$Reader", "hasInputBehind", "()Z"⟩ ∈ pv_TB := pv_mem (i := 528) (by decide +kernel) (by decide +kernel)
theorem w_530 : Cond.instanceMethod ⟨"PatchVoices$Reader", "hasInputBehind", "()Z"⟩ ∈ pv_TB := pv_mem (i := 530) (by decide +kernel) (by decide +kernel)
theorem w_11 : Cond.selects "PatchVoices$Reader" ⟨"PatchVoices$Reader", "hasInputBehind", "()Z"⟩ ⟨"PatchVoices$Reader", "hasInputBehind", "()Z"⟩ ∈ pv_TB := pv_mem (i := 11) (by decide +kernel) (by decide +kernel)
theorem w_531 : Cond.code ⟨"PatchVoices$Reader", "hasInputBehind", "()Z"⟩ prog_5_method_13_code 1 (Option.some .boolean) ∈ pv_TB := pv_mem (i := 531) (by decide +kernel) (by decide +kernel)
theorem cv_Rd_49 : pv_CV pv_TB "PatchVoices$Reader" "PatchVoices$Reader" 49 y_Rd_hasInputBehind prog_5_method_13_code 1 (some .boolean) 0 := ⟨⟨rfl, by decide +kernel, by decide +kernel, by decide +kernel⟩, w_528, w_530, w_11, w_110, w_531⟩
theorem w_532 : Cond.methodLink "PatchVoices$Reader" 53 ⟨"PatchVoices$Patch", "hasRoomForInput", "()Z"⟩ ∈ pv_TB := pv_mem (i := 532) (by decide +kernel) (by decide +kernel)
theorem w_533 : Cond.instanceMethod ⟨"PatchVoices$Patch", "hasRoomForInput", "()Z"⟩ ∈ pv_TB := pv_mem (i := 533) (by decide +kernel) (by decide +kernel)
theorem w_534 : Cond.selects "PatchVoices$Patch" ⟨"PatchVoices$Patch", "hasRoomForInput", "()Z"⟩ ⟨"PatchVoices$Patch", "hasRoomForInput", "()Z"⟩ ∈ pv_TB := pv_mem (i := 534) (by decide +kernel) (by decide +kernel)
theorem w_535 : Cond.code ⟨"PatchVoices$Patch", "hasRoomForInput", "()Z"⟩ prog_3_method_6_code 1 (Option.some .boolean) ∈ pv_TB := pv_mem (i := 535) (by decide +kernel) (by decide +kernel)
theorem cv_Rd_53 : pv_CV pv_TB "PatchVoices$Reader" "PatchVoices$Patch" 53 y_Pt_hasRoomForInput prog_3_method_6_code 1 (some .boolean) 0 := ⟨⟨rfl, by decide +kernel, by decide +kernel, by decide +kernel⟩, w_532, w_533, w_534, w_111, w_535⟩
theorem w_524 : Cond.methodLink "PatchVoices$Reader" 46 ⟨"PatchVoices$Reader", "stateAfterMinus", "()I"⟩ ∈ pv_TB := pv_mem (i := 524) (by decide +kernel) (by decide +kernel)
theorem w_526 : Cond.instanceMethod ⟨"PatchVoices$Reader", "stateAfterMinus", "()I"⟩ ∈ pv_TB := pv_mem (i := 526) (by decide +kernel) (by decide +kernel)
theorem w_10 : Cond.selects "PatchVoices$Reader" ⟨"PatchVoices$Reader", "stateAfterMinus", "()I"⟩ ⟨"PatchVoices$Reader", "stateAfterMinus", "()I"⟩ ∈ pv_TB := pv_mem (i := 10) (by decide +kernel) (by decide +kernel)
theorem w_527 : Cond.code ⟨"PatchVoices$Reader", "stateAfterMinus", "()I"⟩ prog_5_method_10_code 1 (Option.some .int) ∈ pv_TB := pv_mem (i := 527) (by decide +kernel) (by decide +kernel)
theorem cv_Rd_46 : pv_CV pv_TB "PatchVoices$Reader" "PatchVoices$Reader" 46 y_Rd_stateAfterMinus prog_5_method_10_code 1 (some .int) 0 := ⟨⟨rfl, by decide +kernel, by decide +kernel, by decide +kernel⟩, w_524, w_526, w_10, w_110, w_527⟩
theorem w_520 : Cond.methodLink "PatchVoices$Reader" 43 ⟨"PatchVoices$Reader", "stateAfterEquals", "()I"⟩ ∈ pv_TB := pv_mem (i := 520) (by decide +kernel) (by decide +kernel)
theorem w_522 : Cond.instanceMethod ⟨"PatchVoices$Reader", "stateAfterEquals", "()I"⟩ ∈ pv_TB := pv_mem (i := 522) (by decide +kernel) (by decide +kernel)
theorem w_9 : Cond.selects "PatchVoices$Reader" ⟨"PatchVoices$Reader", "stateAfterEquals", "()I"⟩ ⟨"PatchVoices$Reader", "stateAfterEquals", "()I"⟩ ∈ pv_TB := pv_mem (i := 9) (by decide +kernel) (by decide +kernel)
theorem w_523 : Cond.code ⟨"PatchVoices$Reader", "stateAfterEquals", "()I"⟩ prog_5_method_12_code 1 (Option.some .int) ∈ pv_TB := pv_mem (i := 523) (by decide +kernel) (by decide +kernel)
theorem cv_Rd_43 : pv_CV pv_TB "PatchVoices$Reader" "PatchVoices$Reader" 43 y_Rd_stateAfterEquals prog_5_method_12_code 1 (some .int) 0 := ⟨⟨rfl, by decide +kernel, by decide +kernel, by decide +kernel⟩, w_520, w_522, w_9, w_110, w_523⟩
abbrev y_Rd_stateAfter : MethodName := ⟨"PatchVoices$Reader", "stateAfter", "(C)I"⟩
theorem w_401 : Cond.methodLink "PatchVoices$Reader" 18 ⟨"PatchVoices$Patch", "clear", "()V"⟩ ∈ pv_TB := pv_mem (i := 401) (by decide +kernel) (by decide +kernel)
theorem w_402 : Cond.instanceMethod ⟨"PatchVoices$Patch", "clear", "()V"⟩ ∈ pv_TB := pv_mem (i := 402) (by decide +kernel) (by decide +kernel)
theorem w_403 : Cond.selects "PatchVoices$Patch" ⟨"PatchVoices$Patch", "clear", "()V"⟩ ⟨"PatchVoices$Patch", "clear", "()V"⟩ ∈ pv_TB := pv_mem (i := 403) (by decide +kernel) (by decide +kernel)
theorem w_404 : Cond.code ⟨"PatchVoices$Patch", "clear", "()V"⟩ prog_3_method_2_code 1 (Option.none : Option Jvm.ClassFile.FieldType) ∈ pv_TB := pv_mem (i := 404) (by decide +kernel) (by decide +kernel)
theorem cv_Rd_18 : pv_CV pv_TB "PatchVoices$Reader" "PatchVoices$Patch" 18 y_Pt_clear prog_3_method_2_code 1 none 0 := ⟨⟨rfl, by decide +kernel, by decide +kernel, by decide +kernel⟩, w_401, w_402, w_403, w_111, w_404⟩
theorem fw_Rd_21 : pv_FW pv_TB pv_cl "PatchVoices$Reader" 21 1 1 .int := ⟨R_Rd, F_Rd, 5, t_Rd, rfl, by decide, in_Rd, w_187, o_Rd, n_Rd, rfl, by decide +kernel⟩
theorem w_154 : Cond.fieldLink "PatchVoices$Reader" 29 "PatchVoices$Patch" "modules" "I" ∈ pv_TB := pv_mem (i := 154) (by decide +kernel) (by decide +kernel)
theorem fl_Rd_29 : pv_FL pv_TB pv_cl "PatchVoices$Reader" 29 2 0 := ⟨R_Pt, F_Pt, 8, rfl, by decide, in_Pt, w_154⟩
theorem w_408 : Cond.methodLink "PatchVoices$Reader" 25 ⟨"PatchVoices$Reader", "stateAfter", "(C)I"⟩ ∈ pv_TB := pv_mem (i := 408) (by decide +kernel) (by decide +kernel)
theorem w_410 : Cond.instanceMethod ⟨"PatchVoices$Reader", "stateAfter", "(C)I"⟩ ∈ pv_TB := pv_mem (i := 410) (by decide +kernel) (by decide +kernel)
theorem w_0 : Cond.selects "PatchVoices$Reader" ⟨"PatchVoices$Reader", "stateAfter", "(C)I"⟩ ⟨"PatchVoices$Reader", "stateAfter", "(C)I"⟩ ∈ pv_TB := pv_mem (i := 0) (by decide +kernel) (by decide +kernel)
theorem w_411 : Cond.code ⟨"PatchVoices$Reader", "stateAfter", "(C)I"⟩ prog_5_method_3_code 2 (Option.some .int) ∈ pv_TB := pv_mem (i := 411) (by decide +kernel) (by decide +kernel)
theorem cv_Rd_25 : pv_CV pv_TB "PatchVoices$Reader" "PatchVoices$Reader" 25 y_Rd_stateAfter prog_5_method_3_code 2 (some .int) 1 := ⟨⟨rfl, by decide +kernel, by decide +kernel, by decide +kernel⟩, w_408, w_410, w_0, w_110, w_411⟩
abbrev y_Rd_read : MethodName := ⟨"PatchVoices$Reader", "read", "([CI)I"⟩
theorem w_218 : Cond.fieldLink "PatchVoices$Wiring" 11 "PatchVoices$Wiring" "kind" "[I" ∈ pv_TB := pv_mem (i := 218) (by decide +kernel) (by decide +kernel)
theorem w_234 : Cond.lays "PatchVoices$Wiring" "PatchVoices$Wiring" "modules" "I" ∈ pv_TB := pv_mem (i := 234) (by decide +kernel) (by decide +kernel)
theorem w_236 : Cond.laysFinal "PatchVoices$Wiring" "PatchVoices$Wiring" "kind" "[I" ∈ pv_TB := pv_mem (i := 236) (by decide +kernel) (by decide +kernel)
theorem w_238 : Cond.laysFinal "PatchVoices$Wiring" "PatchVoices$Wiring" "from" "[I" ∈ pv_TB := pv_mem (i := 238) (by decide +kernel) (by decide +kernel)
theorem w_240 : Cond.laysFinal "PatchVoices$Wiring" "PatchVoices$Wiring" "number" "[I" ∈ pv_TB := pv_mem (i := 240) (by decide +kernel) (by decide +kernel)
theorem w_242 : Cond.laysFinal "PatchVoices$Wiring" "PatchVoices$Wiring" "order" "[I" ∈ pv_TB := pv_mem (i := 242) (by decide +kernel) (by decide +kernel)
theorem w_244 : Cond.laysFinal "PatchVoices$Wiring" "PatchVoices$Wiring" "kept" "[Z" ∈ pv_TB := pv_mem (i := 244) (by decide +kernel) (by decide +kernel)
theorem w_246 : Cond.laysFinal "PatchVoices$Wiring" "PatchVoices$Wiring" "stand" "[I" ∈ pv_TB := pv_mem (i := 246) (by decide +kernel) (by decide +kernel)
theorem w_248 : Cond.laysFinal "PatchVoices$Wiring" "PatchVoices$Wiring" "standNumber" "[I" ∈ pv_TB := pv_mem (i := 248) (by decide +kernel) (by decide +kernel)
theorem in_Wr : ∀ w ∈ u_ws R_Wr F_Wr 8, w ∈ pv_TB := by
  intro w hw
  have hw : w ∈ [u_lay R_Wr F_Wr 0, u_lay R_Wr F_Wr 1, u_lay R_Wr F_Wr 2, u_lay R_Wr F_Wr 3, u_lay R_Wr F_Wr 4, u_lay R_Wr F_Wr 5, u_lay R_Wr F_Wr 6, u_lay R_Wr F_Wr 7] := hw
  simp only [List.mem_cons, List.not_mem_nil, or_false] at hw
  rcases hw with rfl | rfl | rfl | rfl | rfl | rfl | rfl | rfl
  · exact w_234
  · exact w_236
  · exact w_238
  · exact w_240
  · exact w_242
  · exact w_244
  · exact w_246
  · exact w_248
theorem fl_Wr_11 : pv_FL pv_TB pv_cl "PatchVoices$Wiring" 11 4 1 := ⟨R_Wr, F_Wr, 8, rfl, by decide, in_Wr, w_218⟩
theorem w_614 : Cond.methodLink "PatchVoices$Wiring" 75 ⟨"PatchVoices$Kinds", "inputsOf", "(I)I"⟩ ∈ pv_TB := pv_mem (i := 614) (by decide +kernel) (by decide +kernel)
theorem cs_Wr_75 : pv_CS pv_TB "PatchVoices$Wiring" 75 y_Kd_inputsOf prog_2_method_2_code 1 (some .int) 1 := ⟨⟨by decide +kernel, by decide +kernel, by decide +kernel⟩, w_614, w_575, w_117, w_576⟩
theorem w_221 : Cond.fieldLink "PatchVoices$Wiring" 19 "PatchVoices$Wiring" "from" "[I" ∈ pv_TB := pv_mem (i := 221) (by decide +kernel) (by decide +kernel)
theorem fl_Wr_19 : pv_FL pv_TB pv_cl "PatchVoices$Wiring" 19 4 2 := ⟨R_Wr, F_Wr, 8, rfl, by decide, in_Wr, w_221⟩
abbrev y_Wr_isReady : MethodName := ⟨"PatchVoices$Wiring", "isReady", "(II)Z"⟩
theorem w_215 : Cond.fieldLink "PatchVoices$Wiring" 48 "PatchVoices$Wiring" "modules" "I" ∈ pv_TB := pv_mem (i := 215) (by decide +kernel) (by decide +kernel)
theorem fl_Wr_48 : pv_FL pv_TB pv_cl "PatchVoices$Wiring" 48 4 0 := ⟨R_Wr, F_Wr, 8, rfl, by decide, in_Wr, w_215⟩
theorem w_610 : Cond.methodLink "PatchVoices$Wiring" 71 ⟨"PatchVoices$Wiring", "isReady", "(II)Z"⟩ ∈ pv_TB := pv_mem (i := 610) (by decide +kernel) (by decide +kernel)
theorem w_612 : Cond.instanceMethod ⟨"PatchVoices$Wiring", "isReady", "(II)Z"⟩ ∈ pv_TB := pv_mem (i := 612) (by decide +kernel) (by decide +kernel)
theorem w_22 : Cond.selects "PatchVoices$Wiring" ⟨"PatchVoices$Wiring", "isReady", "(II)Z"⟩ ⟨"PatchVoices$Wiring", "isReady", "(II)Z"⟩ ∈ pv_TB := pv_mem (i := 22) (by decide +kernel) (by decide +kernel)
theorem w_113 : Cond.initialized "PatchVoices$Wiring" ∈ pv_TB := pv_mem (i := 113) (by decide +kernel) (by decide +kernel)
theorem w_613 : Cond.code ⟨"PatchVoices$Wiring", "isReady", "(II)Z"⟩ prog_7_method_7_code 5 (Option.some .boolean) ∈ pv_TB := pv_mem (i := 613) (by decide +kernel) (by decide +kernel)
theorem cv_Wr_71 : pv_CV pv_TB "PatchVoices$Wiring" "PatchVoices$Wiring" 71 y_Wr_isReady prog_7_method_7_code 5 (some .boolean) 2 := ⟨⟨rfl, by decide +kernel, by decide +kernel, by decide +kernel⟩, w_610, w_612, w_22, w_113, w_613⟩
abbrev y_Wr_leastReady : MethodName := ⟨"PatchVoices$Wiring", "leastReady", "(I)I"⟩
theorem w_227 : Cond.fieldLink "PatchVoices$Wiring" 25 "PatchVoices$Wiring" "order" "[I" ∈ pv_TB := pv_mem (i := 227) (by decide +kernel) (by decide +kernel)
theorem fl_Wr_25 : pv_FL pv_TB pv_cl "PatchVoices$Wiring" 25 4 4 := ⟨R_Wr, F_Wr, 8, rfl, by decide, in_Wr, w_227⟩
theorem w_606 : Cond.methodLink "PatchVoices$Wiring" 67 ⟨"PatchVoices$Wiring", "leastReady", "(I)I"⟩ ∈ pv_TB := pv_mem (i := 606) (by decide +kernel) (by decide +kernel)
theorem w_608 : Cond.instanceMethod ⟨"PatchVoices$Wiring", "leastReady", "(I)I"⟩ ∈ pv_TB := pv_mem (i := 608) (by decide +kernel) (by decide +kernel)
theorem w_21 : Cond.selects "PatchVoices$Wiring" ⟨"PatchVoices$Wiring", "leastReady", "(I)I"⟩ ⟨"PatchVoices$Wiring", "leastReady", "(I)I"⟩ ∈ pv_TB := pv_mem (i := 21) (by decide +kernel) (by decide +kernel)
theorem w_609 : Cond.code ⟨"PatchVoices$Wiring", "leastReady", "(I)I"⟩ prog_7_method_6_code 3 (Option.some .int) ∈ pv_TB := pv_mem (i := 609) (by decide +kernel) (by decide +kernel)
theorem cv_Wr_67 : pv_CV pv_TB "PatchVoices$Wiring" "PatchVoices$Wiring" 67 y_Wr_leastReady prog_7_method_6_code 3 (some .int) 1 := ⟨⟨rfl, by decide +kernel, by decide +kernel, by decide +kernel⟩, w_606, w_608, w_21, w_113, w_609⟩
abbrev y_Wr_putInOrder : MethodName := ⟨"PatchVoices$Wiring", "putInOrder", "()V"⟩
theorem w_232 : Cond.fieldLink "PatchVoices$Wiring" 32 "PatchVoices$Wiring" "stand" "[I" ∈ pv_TB := pv_mem (i := 232) (by decide +kernel) (by decide +kernel)
theorem fl_Wr_32 : pv_FL pv_TB pv_cl "PatchVoices$Wiring" 32 4 6 := ⟨R_Wr, F_Wr, 8, rfl, by decide, in_Wr, w_232⟩
theorem w_224 : Cond.fieldLink "PatchVoices$Wiring" 22 "PatchVoices$Wiring" "number" "[I" ∈ pv_TB := pv_mem (i := 224) (by decide +kernel) (by decide +kernel)
theorem fl_Wr_22 : pv_FL pv_TB pv_cl "PatchVoices$Wiring" 22 4 3 := ⟨R_Wr, F_Wr, 8, rfl, by decide, in_Wr, w_224⟩
theorem w_233 : Cond.fieldLink "PatchVoices$Wiring" 35 "PatchVoices$Wiring" "standNumber" "[I" ∈ pv_TB := pv_mem (i := 233) (by decide +kernel) (by decide +kernel)
theorem fl_Wr_35 : pv_FL pv_TB pv_cl "PatchVoices$Wiring" 35 4 7 := ⟨R_Wr, F_Wr, 8, rfl, by decide, in_Wr, w_233⟩
abbrev y_Wr_readStands : MethodName := ⟨"PatchVoices$Wiring", "readStands", "(I)V"⟩
abbrev y_Wr_hasNumbersAlone : MethodName := ⟨"PatchVoices$Wiring", "hasNumbersAlone", "(I)Z"⟩
abbrev y_Wr_isSameInput : MethodName := ⟨"PatchVoices$Wiring", "isSameInput", "(IIII)Z"⟩
theorem w_667 : Cond.methodLink "PatchVoices$Wiring" 109 ⟨"PatchVoices$Kinds", "inputsMaySwap", "(I)Z"⟩ ∈ pv_TB := pv_mem (i := 667) (by decide +kernel) (by decide +kernel)
theorem w_668 : Cond.static ⟨"PatchVoices$Kinds", "inputsMaySwap", "(I)Z"⟩ ∈ pv_TB := pv_mem (i := 668) (by decide +kernel) (by decide +kernel)
theorem w_669 : Cond.code ⟨"PatchVoices$Kinds", "inputsMaySwap", "(I)Z"⟩ prog_2_method_6_code 1 (Option.some .boolean) ∈ pv_TB := pv_mem (i := 669) (by decide +kernel) (by decide +kernel)
theorem cs_Wr_109 : pv_CS pv_TB "PatchVoices$Wiring" 109 y_Kd_inputsMaySwap prog_2_method_6_code 1 (some .boolean) 1 := ⟨⟨by decide +kernel, by decide +kernel, by decide +kernel⟩, w_667, w_668, w_117, w_669⟩
theorem w_663 : Cond.methodLink "PatchVoices$Wiring" 105 ⟨"PatchVoices$Wiring", "isSameInput", "(IIII)Z"⟩ ∈ pv_TB := pv_mem (i := 663) (by decide +kernel) (by decide +kernel)
theorem w_665 : Cond.instanceMethod ⟨"PatchVoices$Wiring", "isSameInput", "(IIII)Z"⟩ ∈ pv_TB := pv_mem (i := 665) (by decide +kernel) (by decide +kernel)
theorem w_29 : Cond.selects "PatchVoices$Wiring" ⟨"PatchVoices$Wiring", "isSameInput", "(IIII)Z"⟩ ⟨"PatchVoices$Wiring", "isSameInput", "(IIII)Z"⟩ ∈ pv_TB := pv_mem (i := 29) (by decide +kernel) (by decide +kernel)
theorem w_666 : Cond.code ⟨"PatchVoices$Wiring", "isSameInput", "(IIII)Z"⟩ prog_7_method_14_code 7 (Option.some .boolean) ∈ pv_TB := pv_mem (i := 666) (by decide +kernel) (by decide +kernel)
theorem cv_Wr_105 : pv_CV pv_TB "PatchVoices$Wiring" "PatchVoices$Wiring" 105 y_Wr_isSameInput prog_7_method_14_code 7 (some .boolean) 4 := ⟨⟨rfl, by decide +kernel, by decide +kernel, by decide +kernel⟩, w_663, w_665, w_29, w_113, w_666⟩
abbrev y_Wr_areAlike : MethodName := ⟨"PatchVoices$Wiring", "areAlike", "(II)Z"⟩
theorem w_659 : Cond.methodLink "PatchVoices$Wiring" 102 ⟨"PatchVoices$Wiring", "areAlike", "(II)Z"⟩ ∈ pv_TB := pv_mem (i := 659) (by decide +kernel) (by decide +kernel)
theorem w_661 : Cond.instanceMethod ⟨"PatchVoices$Wiring", "areAlike", "(II)Z"⟩ ∈ pv_TB := pv_mem (i := 661) (by decide +kernel) (by decide +kernel)
theorem w_28 : Cond.selects "PatchVoices$Wiring" ⟨"PatchVoices$Wiring", "areAlike", "(II)Z"⟩ ⟨"PatchVoices$Wiring", "areAlike", "(II)Z"⟩ ∈ pv_TB := pv_mem (i := 28) (by decide +kernel) (by decide +kernel)
theorem w_662 : Cond.code ⟨"PatchVoices$Wiring", "areAlike", "(II)Z"⟩ prog_7_method_13_code 5 (Option.some .boolean) ∈ pv_TB := pv_mem (i := 662) (by decide +kernel) (by decide +kernel)
theorem cv_Wr_102 : pv_CV pv_TB "PatchVoices$Wiring" "PatchVoices$Wiring" 102 y_Wr_areAlike prog_7_method_13_code 5 (some .boolean) 2 := ⟨⟨rfl, by decide +kernel, by decide +kernel, by decide +kernel⟩, w_659, w_661, w_28, w_113, w_662⟩
abbrev y_Wr_earliestAlike : MethodName := ⟨"PatchVoices$Wiring", "earliestAlike", "(I)I"⟩
theorem w_627 : Cond.methodLink "PatchVoices$Wiring" 85 ⟨"PatchVoices$Kinds", "isPlain", "(I)Z"⟩ ∈ pv_TB := pv_mem (i := 627) (by decide +kernel) (by decide +kernel)
theorem w_628 : Cond.static ⟨"PatchVoices$Kinds", "isPlain", "(I)Z"⟩ ∈ pv_TB := pv_mem (i := 628) (by decide +kernel) (by decide +kernel)
theorem w_629 : Cond.code ⟨"PatchVoices$Kinds", "isPlain", "(I)Z"⟩ prog_2_method_4_code 1 (Option.some .boolean) ∈ pv_TB := pv_mem (i := 629) (by decide +kernel) (by decide +kernel)
theorem cs_Wr_85 : pv_CS pv_TB "PatchVoices$Wiring" 85 y_Kd_isPlain prog_2_method_4_code 1 (some .boolean) 1 := ⟨⟨by decide +kernel, by decide +kernel, by decide +kernel⟩, w_627, w_628, w_117, w_629⟩
theorem w_630 : Cond.methodLink "PatchVoices$Wiring" 89 ⟨"PatchVoices$Wiring", "hasNumbersAlone", "(I)Z"⟩ ∈ pv_TB := pv_mem (i := 630) (by decide +kernel) (by decide +kernel)
theorem w_632 : Cond.instanceMethod ⟨"PatchVoices$Wiring", "hasNumbersAlone", "(I)Z"⟩ ∈ pv_TB := pv_mem (i := 632) (by decide +kernel) (by decide +kernel)
theorem w_26 : Cond.selects "PatchVoices$Wiring" ⟨"PatchVoices$Wiring", "hasNumbersAlone", "(I)Z"⟩ ⟨"PatchVoices$Wiring", "hasNumbersAlone", "(I)Z"⟩ ∈ pv_TB := pv_mem (i := 26) (by decide +kernel) (by decide +kernel)
theorem w_633 : Cond.code ⟨"PatchVoices$Wiring", "hasNumbersAlone", "(I)Z"⟩ prog_7_method_11_code 3 (Option.some .boolean) ∈ pv_TB := pv_mem (i := 633) (by decide +kernel) (by decide +kernel)
theorem cv_Wr_89 : pv_CV pv_TB "PatchVoices$Wiring" "PatchVoices$Wiring" 89 y_Wr_hasNumbersAlone prog_7_method_11_code 3 (some .boolean) 1 := ⟨⟨rfl, by decide +kernel, by decide +kernel, by decide +kernel⟩, w_630, w_632, w_26, w_113, w_633⟩
theorem w_634 : Cond.methodLink "PatchVoices$Wiring" 92 ⟨"PatchVoices$Kinds", "plainValue", "(IIII)I"⟩ ∈ pv_TB := pv_mem (i := 634) (by decide +kernel) (by decide +kernel)
theorem w_635 : Cond.static ⟨"PatchVoices$Kinds", "plainValue", "(IIII)I"⟩ ∈ pv_TB := pv_mem (i := 635) (by decide +kernel) (by decide +kernel)
theorem w_636 : Cond.code ⟨"PatchVoices$Kinds", "plainValue", "(IIII)I"⟩ prog_2_method_7_code 4 (Option.some .int) ∈ pv_TB := pv_mem (i := 636) (by decide +kernel) (by decide +kernel)
theorem cs_Wr_92 : pv_CS pv_TB "PatchVoices$Wiring" 92 y_Kd_plainValue prog_2_method_7_code 4 (some .int) 4 := ⟨⟨by decide +kernel, by decide +kernel, by decide +kernel⟩, w_634, w_635, w_117, w_636⟩
theorem w_652 : Cond.methodLink "PatchVoices$Wiring" 96 ⟨"PatchVoices$Kinds", "hasMemory", "(I)Z"⟩ ∈ pv_TB := pv_mem (i := 652) (by decide +kernel) (by decide +kernel)
theorem w_653 : Cond.static ⟨"PatchVoices$Kinds", "hasMemory", "(I)Z"⟩ ∈ pv_TB := pv_mem (i := 653) (by decide +kernel) (by decide +kernel)
theorem w_654 : Cond.code ⟨"PatchVoices$Kinds", "hasMemory", "(I)Z"⟩ prog_2_method_5_code 1 (Option.some .boolean) ∈ pv_TB := pv_mem (i := 654) (by decide +kernel) (by decide +kernel)
theorem cs_Wr_96 : pv_CS pv_TB "PatchVoices$Wiring" 96 y_Kd_hasMemory prog_2_method_5_code 1 (some .boolean) 1 := ⟨⟨by decide +kernel, by decide +kernel, by decide +kernel⟩, w_652, w_653, w_117, w_654⟩
theorem w_655 : Cond.methodLink "PatchVoices$Wiring" 99 ⟨"PatchVoices$Wiring", "earliestAlike", "(I)I"⟩ ∈ pv_TB := pv_mem (i := 655) (by decide +kernel) (by decide +kernel)
theorem w_657 : Cond.instanceMethod ⟨"PatchVoices$Wiring", "earliestAlike", "(I)I"⟩ ∈ pv_TB := pv_mem (i := 657) (by decide +kernel) (by decide +kernel)
theorem w_27 : Cond.selects "PatchVoices$Wiring" ⟨"PatchVoices$Wiring", "earliestAlike", "(I)I"⟩ ⟨"PatchVoices$Wiring", "earliestAlike", "(I)I"⟩ ∈ pv_TB := pv_mem (i := 27) (by decide +kernel) (by decide +kernel)
theorem w_658 : Cond.code ⟨"PatchVoices$Wiring", "earliestAlike", "(I)I"⟩ prog_7_method_12_code 5 (Option.some .int) ∈ pv_TB := pv_mem (i := 658) (by decide +kernel) (by decide +kernel)
theorem cv_Wr_99 : pv_CV pv_TB "PatchVoices$Wiring" "PatchVoices$Wiring" 99 y_Wr_earliestAlike prog_7_method_12_code 5 (some .int) 1 := ⟨⟨rfl, by decide +kernel, by decide +kernel, by decide +kernel⟩, w_655, w_657, w_27, w_113, w_658⟩
abbrev y_Wr_findStand : MethodName := ⟨"PatchVoices$Wiring", "findStand", "(I)V"⟩
theorem w_619 : Cond.methodLink "PatchVoices$Wiring" 78 ⟨"PatchVoices$Wiring", "readStands", "(I)V"⟩ ∈ pv_TB := pv_mem (i := 619) (by decide +kernel) (by decide +kernel)
theorem w_621 : Cond.instanceMethod ⟨"PatchVoices$Wiring", "readStands", "(I)V"⟩ ∈ pv_TB := pv_mem (i := 621) (by decide +kernel) (by decide +kernel)
theorem w_24 : Cond.selects "PatchVoices$Wiring" ⟨"PatchVoices$Wiring", "readStands", "(I)V"⟩ ⟨"PatchVoices$Wiring", "readStands", "(I)V"⟩ ∈ pv_TB := pv_mem (i := 24) (by decide +kernel) (by decide +kernel)
theorem w_622 : Cond.code ⟨"PatchVoices$Wiring", "readStands", "(I)V"⟩ prog_7_method_9_code 5 (Option.none : Option Jvm.ClassFile.FieldType) ∈ pv_TB := pv_mem (i := 622) (by decide +kernel) (by decide +kernel)
theorem cv_Wr_78 : pv_CV pv_TB "PatchVoices$Wiring" "PatchVoices$Wiring" 78 y_Wr_readStands prog_7_method_9_code 5 none 1 := ⟨⟨rfl, by decide +kernel, by decide +kernel, by decide +kernel⟩, w_619, w_621, w_24, w_113, w_622⟩
theorem w_623 : Cond.methodLink "PatchVoices$Wiring" 82 ⟨"PatchVoices$Wiring", "findStand", "(I)V"⟩ ∈ pv_TB := pv_mem (i := 623) (by decide +kernel) (by decide +kernel)
theorem w_625 : Cond.instanceMethod ⟨"PatchVoices$Wiring", "findStand", "(I)V"⟩ ∈ pv_TB := pv_mem (i := 625) (by decide +kernel) (by decide +kernel)
theorem w_25 : Cond.selects "PatchVoices$Wiring" ⟨"PatchVoices$Wiring", "findStand", "(I)V"⟩ ⟨"PatchVoices$Wiring", "findStand", "(I)V"⟩ ∈ pv_TB := pv_mem (i := 25) (by decide +kernel) (by decide +kernel)
theorem w_626 : Cond.code ⟨"PatchVoices$Wiring", "findStand", "(I)V"⟩ prog_7_method_10_code 4 (Option.none : Option Jvm.ClassFile.FieldType) ∈ pv_TB := pv_mem (i := 626) (by decide +kernel) (by decide +kernel)
theorem cv_Wr_82 : pv_CV pv_TB "PatchVoices$Wiring" "PatchVoices$Wiring" 82 y_Wr_findStand prog_7_method_10_code 4 none 1 := ⟨⟨rfl, by decide +kernel, by decide +kernel, by decide +kernel⟩, w_623, w_625, w_25, w_113, w_626⟩
abbrev y_Wr_findStands : MethodName := ⟨"PatchVoices$Wiring", "findStands", "()V"⟩
abbrev y_Wr_outputModule : MethodName := ⟨"PatchVoices$Wiring", "outputModule", "()I"⟩
theorem w_229 : Cond.fieldLink "PatchVoices$Wiring" 28 "PatchVoices$Wiring" "kept" "[Z" ∈ pv_TB := pv_mem (i := 229) (by decide +kernel) (by decide +kernel)
theorem fl_Wr_28 : pv_FL pv_TB pv_cl "PatchVoices$Wiring" 28 4 5 := ⟨R_Wr, F_Wr, 8, rfl, by decide, in_Wr, w_229⟩
abbrev y_Wr_keepSources : MethodName := ⟨"PatchVoices$Wiring", "keepSources", "(I)V"⟩
theorem w_674 : Cond.methodLink "PatchVoices$Wiring" 112 ⟨"PatchVoices$Wiring", "outputModule", "()I"⟩ ∈ pv_TB := pv_mem (i := 674) (by decide +kernel) (by decide +kernel)
theorem w_675 : Cond.instanceMethod ⟨"PatchVoices$Wiring", "outputModule", "()I"⟩ ∈ pv_TB := pv_mem (i := 675) (by decide +kernel) (by decide +kernel)
theorem w_676 : Cond.selects "PatchVoices$Wiring" ⟨"PatchVoices$Wiring", "outputModule", "()I"⟩ ⟨"PatchVoices$Wiring", "outputModule", "()I"⟩ ∈ pv_TB := pv_mem (i := 676) (by decide +kernel) (by decide +kernel)
theorem w_677 : Cond.code ⟨"PatchVoices$Wiring", "outputModule", "()I"⟩ prog_7_method_3_code 1 (Option.some .int) ∈ pv_TB := pv_mem (i := 677) (by decide +kernel) (by decide +kernel)
theorem cv_Wr_112 : pv_CV pv_TB "PatchVoices$Wiring" "PatchVoices$Wiring" 112 y_Wr_outputModule prog_7_method_3_code 1 (some .int) 0 := ⟨⟨rfl, by decide +kernel, by decide +kernel, by decide +kernel⟩, w_674, w_675, w_676, w_113, w_677⟩
theorem w_678 : Cond.methodLink "PatchVoices$Wiring" 116 ⟨"PatchVoices$Wiring", "keepSources", "(I)V"⟩ ∈ pv_TB := pv_mem (i := 678) (by decide +kernel) (by decide +kernel)
theorem w_680 : Cond.instanceMethod ⟨"PatchVoices$Wiring", "keepSources", "(I)V"⟩ ∈ pv_TB := pv_mem (i := 680) (by decide +kernel) (by decide +kernel)
theorem w_31 : Cond.selects "PatchVoices$Wiring" ⟨"PatchVoices$Wiring", "keepSources", "(I)V"⟩ ⟨"PatchVoices$Wiring", "keepSources", "(I)V"⟩ ∈ pv_TB := pv_mem (i := 31) (by decide +kernel) (by decide +kernel)
theorem w_681 : Cond.code ⟨"PatchVoices$Wiring", "keepSources", "(I)V"⟩ prog_7_method_16_code 4 (Option.none : Option Jvm.ClassFile.FieldType) ∈ pv_TB := pv_mem (i := 681) (by decide +kernel) (by decide +kernel)
theorem cv_Wr_116 : pv_CV pv_TB "PatchVoices$Wiring" "PatchVoices$Wiring" 116 y_Wr_keepSources prog_7_method_16_code 4 none 1 := ⟨⟨rfl, by decide +kernel, by decide +kernel, by decide +kernel⟩, w_678, w_680, w_31, w_113, w_681⟩
abbrev y_Wr_keepNeeded : MethodName := ⟨"PatchVoices$Wiring", "keepNeeded", "()V"⟩
theorem w_153 : Cond.fieldLink "PatchVoices$Wiring" 38 "PatchVoices$Patch" "modules" "I" ∈ pv_TB := pv_mem (i := 153) (by decide +kernel) (by decide +kernel)
theorem fl_Wr_38 : pv_FL pv_TB pv_cl "PatchVoices$Wiring" 38 2 0 := ⟨R_Pt, F_Pt, 8, rfl, by decide, in_Pt, w_153⟩
theorem w_596 : Cond.methodLink "PatchVoices$Wiring" 42 ⟨"java/lang/Math", "min", "(II)I"⟩ ∈ pv_TB := pv_mem (i := 596) (by decide +kernel) (by decide +kernel)
theorem w_597 : Cond.static ⟨"java/lang/Math", "min", "(II)I"⟩ ∈ pv_TB := pv_mem (i := 597) (by decide +kernel) (by decide +kernel)
theorem w_598 : Cond.code ⟨"java/lang/Math", "min", "(II)I"⟩ prog_15_method_69_code 2 (Option.some .int) ∈ pv_TB := pv_mem (i := 598) (by decide +kernel) (by decide +kernel)
theorem fw_Wr_48 : pv_FW pv_TB pv_cl "PatchVoices$Wiring" 48 4 0 .int := ⟨R_Wr, F_Wr, 8, t_Wr, rfl, by decide, in_Wr, w_215, o_Wr, n_Wr, rfl, by decide +kernel⟩
theorem w_156 : Cond.fieldLink "PatchVoices$Wiring" 49 "PatchVoices$Patch" "kind" "[I" ∈ pv_TB := pv_mem (i := 156) (by decide +kernel) (by decide +kernel)
theorem fl_Wr_49 : pv_FL pv_TB pv_cl "PatchVoices$Wiring" 49 2 1 := ⟨R_Pt, F_Pt, 8, rfl, by decide, in_Pt, w_156⟩
theorem w_599 : Cond.methodLink "PatchVoices$Wiring" 50 ⟨"java/lang/System", "arraycopy", "(Ljava/lang/Object;ILjava/lang/Object;II)V"⟩ ∈ pv_TB := pv_mem (i := 599) (by decide +kernel) (by decide +kernel)
theorem w_601 : Cond.native ⟨"java/lang/System", "arraycopy", "(Ljava/lang/Object;ILjava/lang/Object;II)V"⟩ ∈ pv_TB := pv_mem (i := 601) (by decide +kernel) (by decide +kernel)
theorem w_600 : Cond.static ⟨"java/lang/System", "arraycopy", "(Ljava/lang/Object;ILjava/lang/Object;II)V"⟩ ∈ pv_TB := pv_mem (i := 600) (by decide +kernel) (by decide +kernel)
theorem w_124 : Cond.initialized "java/lang/System" ∈ pv_TB := pv_mem (i := 124) (by decide +kernel) (by decide +kernel)
theorem w_158 : Cond.fieldLink "PatchVoices$Wiring" 56 "PatchVoices$Patch" "from" "[I" ∈ pv_TB := pv_mem (i := 158) (by decide +kernel) (by decide +kernel)
theorem fl_Wr_56 : pv_FL pv_TB pv_cl "PatchVoices$Wiring" 56 2 2 := ⟨R_Pt, F_Pt, 8, rfl, by decide, in_Pt, w_158⟩
theorem w_160 : Cond.fieldLink "PatchVoices$Wiring" 57 "PatchVoices$Patch" "number" "[I" ∈ pv_TB := pv_mem (i := 160) (by decide +kernel) (by decide +kernel)
theorem fl_Wr_57 : pv_FL pv_TB pv_cl "PatchVoices$Wiring" 57 2 3 := ⟨R_Pt, F_Pt, 8, rfl, by decide, in_Pt, w_160⟩
theorem w_602 : Cond.methodLink "PatchVoices$Wiring" 58 ⟨"PatchVoices$Wiring", "putInOrder", "()V"⟩ ∈ pv_TB := pv_mem (i := 602) (by decide +kernel) (by decide +kernel)
theorem w_604 : Cond.instanceMethod ⟨"PatchVoices$Wiring", "putInOrder", "()V"⟩ ∈ pv_TB := pv_mem (i := 604) (by decide +kernel) (by decide +kernel)
theorem w_20 : Cond.selects "PatchVoices$Wiring" ⟨"PatchVoices$Wiring", "putInOrder", "()V"⟩ ⟨"PatchVoices$Wiring", "putInOrder", "()V"⟩ ∈ pv_TB := pv_mem (i := 20) (by decide +kernel) (by decide +kernel)
theorem w_605 : Cond.code ⟨"PatchVoices$Wiring", "putInOrder", "()V"⟩ prog_7_method_5_code 3 (Option.none : Option Jvm.ClassFile.FieldType) ∈ pv_TB := pv_mem (i := 605) (by decide +kernel) (by decide +kernel)
theorem cv_Wr_58 : pv_CV pv_TB "PatchVoices$Wiring" "PatchVoices$Wiring" 58 y_Wr_putInOrder prog_7_method_5_code 3 none 0 := ⟨⟨rfl, by decide +kernel, by decide +kernel, by decide +kernel⟩, w_602, w_604, w_20, w_113, w_605⟩
theorem w_615 : Cond.methodLink "PatchVoices$Wiring" 61 ⟨"PatchVoices$Wiring", "findStands", "()V"⟩ ∈ pv_TB := pv_mem (i := 615) (by decide +kernel) (by decide +kernel)
theorem w_617 : Cond.instanceMethod ⟨"PatchVoices$Wiring", "findStands", "()V"⟩ ∈ pv_TB := pv_mem (i := 617) (by decide +kernel) (by decide +kernel)
theorem w_23 : Cond.selects "PatchVoices$Wiring" ⟨"PatchVoices$Wiring", "findStands", "()V"⟩ ⟨"PatchVoices$Wiring", "findStands", "()V"⟩ ∈ pv_TB := pv_mem (i := 23) (by decide +kernel) (by decide +kernel)
theorem w_618 : Cond.code ⟨"PatchVoices$Wiring", "findStands", "()V"⟩ prog_7_method_8_code 3 (Option.none : Option Jvm.ClassFile.FieldType) ∈ pv_TB := pv_mem (i := 618) (by decide +kernel) (by decide +kernel)
theorem cv_Wr_61 : pv_CV pv_TB "PatchVoices$Wiring" "PatchVoices$Wiring" 61 y_Wr_findStands prog_7_method_8_code 3 none 0 := ⟨⟨rfl, by decide +kernel, by decide +kernel, by decide +kernel⟩, w_615, w_617, w_23, w_113, w_618⟩
theorem w_670 : Cond.methodLink "PatchVoices$Wiring" 64 ⟨"PatchVoices$Wiring", "keepNeeded", "()V"⟩ ∈ pv_TB := pv_mem (i := 670) (by decide +kernel) (by decide +kernel)
theorem w_672 : Cond.instanceMethod ⟨"PatchVoices$Wiring", "keepNeeded", "()V"⟩ ∈ pv_TB := pv_mem (i := 672) (by decide +kernel) (by decide +kernel)
theorem w_30 : Cond.selects "PatchVoices$Wiring" ⟨"PatchVoices$Wiring", "keepNeeded", "()V"⟩ ⟨"PatchVoices$Wiring", "keepNeeded", "()V"⟩ ∈ pv_TB := pv_mem (i := 30) (by decide +kernel) (by decide +kernel)
theorem w_673 : Cond.code ⟨"PatchVoices$Wiring", "keepNeeded", "()V"⟩ prog_7_method_15_code 3 (Option.none : Option Jvm.ClassFile.FieldType) ∈ pv_TB := pv_mem (i := 673) (by decide +kernel) (by decide +kernel)
theorem cv_Wr_64 : pv_CV pv_TB "PatchVoices$Wiring" "PatchVoices$Wiring" 64 y_Wr_keepNeeded prog_7_method_15_code 3 none 0 := ⟨⟨rfl, by decide +kernel, by decide +kernel, by decide +kernel⟩, w_670, w_672, w_30, w_113, w_673⟩
abbrev y_Wr_make : MethodName := ⟨"PatchVoices$Wiring", "make", "(LPatchVoices$Patch;Z)V"⟩
abbrev y_Wr_outputNumber : MethodName := ⟨"PatchVoices$Wiring", "outputNumber", "()I"⟩
theorem w_252 : Cond.fieldLink "PatchVoices$Program" 12 "PatchVoices$Program" "wiring" "LPatchVoices$Wiring;" ∈ pv_TB := pv_mem (i := 252) (by decide +kernel) (by decide +kernel)
theorem w_269 : Cond.laysFinal "PatchVoices$Program" "PatchVoices$Program" "wiring" "LPatchVoices$Wiring;" ∈ pv_TB := pv_mem (i := 269) (by decide +kernel) (by decide +kernel)
theorem w_271 : Cond.lays "PatchVoices$Program" "PatchVoices$Program" "stepCount" "I" ∈ pv_TB := pv_mem (i := 271) (by decide +kernel) (by decide +kernel)
theorem w_273 : Cond.lays "PatchVoices$Program" "PatchVoices$Program" "firstPut" "I" ∈ pv_TB := pv_mem (i := 273) (by decide +kernel) (by decide +kernel)
theorem w_275 : Cond.laysFinal "PatchVoices$Program" "PatchVoices$Program" "stepModule" "[I" ∈ pv_TB := pv_mem (i := 275) (by decide +kernel) (by decide +kernel)
theorem w_277 : Cond.lays "PatchVoices$Program" "PatchVoices$Program" "slotCount" "I" ∈ pv_TB := pv_mem (i := 277) (by decide +kernel) (by decide +kernel)
theorem w_279 : Cond.laysFinal "PatchVoices$Program" "PatchVoices$Program" "lineStart" "[I" ∈ pv_TB := pv_mem (i := 279) (by decide +kernel) (by decide +kernel)
theorem w_281 : Cond.laysFinal "PatchVoices$Program" "PatchVoices$Program" "slot" "[I" ∈ pv_TB := pv_mem (i := 281) (by decide +kernel) (by decide +kernel)
theorem w_283 : Cond.laysFinal "PatchVoices$Program" "PatchVoices$Program" "lastReader" "[I" ∈ pv_TB := pv_mem (i := 283) (by decide +kernel) (by decide +kernel)
theorem w_285 : Cond.laysFinal "PatchVoices$Program" "PatchVoices$Program" "busyUntil" "[I" ∈ pv_TB := pv_mem (i := 285) (by decide +kernel) (by decide +kernel)
theorem in_Pg : ∀ w ∈ u_ws R_Pg F_Pg 9, w ∈ pv_TB := by
  intro w hw
  have hw : w ∈ [u_lay R_Pg F_Pg 0, u_lay R_Pg F_Pg 1, u_lay R_Pg F_Pg 2, u_lay R_Pg F_Pg 3, u_lay R_Pg F_Pg 4, u_lay R_Pg F_Pg 5, u_lay R_Pg F_Pg 6, u_lay R_Pg F_Pg 7, u_lay R_Pg F_Pg 8] := hw
  simp only [List.mem_cons, List.not_mem_nil, or_false] at hw
  rcases hw with rfl | rfl | rfl | rfl | rfl | rfl | rfl | rfl | rfl
  · exact w_269
  · exact w_271
  · exact w_273
  · exact w_275
  · exact w_277
  · exact w_279
  · exact w_281
  · exact w_283
  · exact w_285
theorem fl_Pg_12 : pv_FL pv_TB pv_cl "PatchVoices$Program" 12 3 0 := ⟨R_Pg, F_Pg, 9, rfl, by decide, in_Pg, w_252⟩
theorem w_214 : Cond.fieldLink "PatchVoices$Program" 36 "PatchVoices$Wiring" "modules" "I" ∈ pv_TB := pv_mem (i := 214) (by decide +kernel) (by decide +kernel)
theorem fl_Pg_36 : pv_FL pv_TB pv_cl "PatchVoices$Program" 36 4 0 := ⟨R_Wr, F_Wr, 8, rfl, by decide, in_Wr, w_214⟩
abbrev y_Pg_isNone : MethodName := ⟨"PatchVoices$Program", "isNone", "()Z"⟩
theorem w_255 : Cond.fieldLink "PatchVoices$Program" 56 "PatchVoices$Program" "stepCount" "I" ∈ pv_TB := pv_mem (i := 255) (by decide +kernel) (by decide +kernel)
theorem fw_Pg_56 : pv_FW pv_TB pv_cl "PatchVoices$Program" 56 3 1 .int := ⟨R_Pg, F_Pg, 9, t_Pg, rfl, by decide, in_Pg, w_255, o_Pg, n_Pg, rfl, by decide +kernel⟩
theorem fl_Pg_56 : pv_FL pv_TB pv_cl "PatchVoices$Program" 56 3 1 := ⟨R_Pg, F_Pg, 9, rfl, by decide, in_Pg, w_255⟩
theorem w_258 : Cond.fieldLink "PatchVoices$Program" 66 "PatchVoices$Program" "firstPut" "I" ∈ pv_TB := pv_mem (i := 258) (by decide +kernel) (by decide +kernel)
theorem fw_Pg_66 : pv_FW pv_TB pv_cl "PatchVoices$Program" 66 3 2 .int := ⟨R_Pg, F_Pg, 9, t_Pg, rfl, by decide, in_Pg, w_258, o_Pg, n_Pg, rfl, by decide +kernel⟩
theorem w_230 : Cond.fieldLink "PatchVoices$Program" 59 "PatchVoices$Wiring" "kept" "[Z" ∈ pv_TB := pv_mem (i := 230) (by decide +kernel) (by decide +kernel)
theorem fl_Pg_59 : pv_FL pv_TB pv_cl "PatchVoices$Program" 59 4 5 := ⟨R_Wr, F_Wr, 8, rfl, by decide, in_Wr, w_230⟩
theorem w_228 : Cond.fieldLink "PatchVoices$Program" 63 "PatchVoices$Wiring" "order" "[I" ∈ pv_TB := pv_mem (i := 228) (by decide +kernel) (by decide +kernel)
theorem fl_Pg_63 : pv_FL pv_TB pv_cl "PatchVoices$Program" 63 4 4 := ⟨R_Wr, F_Wr, 8, rfl, by decide, in_Wr, w_228⟩
theorem w_260 : Cond.fieldLink "PatchVoices$Program" 20 "PatchVoices$Program" "stepModule" "[I" ∈ pv_TB := pv_mem (i := 260) (by decide +kernel) (by decide +kernel)
theorem fl_Pg_20 : pv_FL pv_TB pv_cl "PatchVoices$Program" 20 3 3 := ⟨R_Pg, F_Pg, 9, rfl, by decide, in_Pg, w_260⟩
theorem fl_Pg_66 : pv_FL pv_TB pv_cl "PatchVoices$Program" 66 3 2 := ⟨R_Pg, F_Pg, 9, rfl, by decide, in_Pg, w_258⟩
theorem w_220 : Cond.fieldLink "PatchVoices$Program" 69 "PatchVoices$Wiring" "kind" "[I" ∈ pv_TB := pv_mem (i := 220) (by decide +kernel) (by decide +kernel)
theorem fl_Pg_69 : pv_FL pv_TB pv_cl "PatchVoices$Program" 69 4 1 := ⟨R_Wr, F_Wr, 8, rfl, by decide, in_Wr, w_220⟩
abbrev y_Pg_listSteps : MethodName := ⟨"PatchVoices$Program", "listSteps", "()V"⟩
theorem w_264 : Cond.fieldLink "PatchVoices$Program" 24 "PatchVoices$Program" "lineStart" "[I" ∈ pv_TB := pv_mem (i := 264) (by decide +kernel) (by decide +kernel)
theorem fl_Pg_24 : pv_FL pv_TB pv_cl "PatchVoices$Program" 24 3 5 := ⟨R_Pg, F_Pg, 9, rfl, by decide, in_Pg, w_264⟩
theorem w_225 : Cond.fieldLink "PatchVoices$Program" 74 "PatchVoices$Wiring" "number" "[I" ∈ pv_TB := pv_mem (i := 225) (by decide +kernel) (by decide +kernel)
theorem fl_Pg_74 : pv_FL pv_TB pv_cl "PatchVoices$Program" 74 4 3 := ⟨R_Wr, F_Wr, 8, rfl, by decide, in_Wr, w_225⟩
abbrev y_Pg_layLines : MethodName := ⟨"PatchVoices$Program", "layLines", "()V"⟩
abbrev y_Pg_kindOf : MethodName := ⟨"PatchVoices$Program", "kindOf", "(I)I"⟩
theorem w_703 : Cond.methodLink "PatchVoices$Program" 103 ⟨"PatchVoices$Program", "kindOf", "(I)I"⟩ ∈ pv_TB := pv_mem (i := 703) (by decide +kernel) (by decide +kernel)
theorem w_705 : Cond.instanceMethod ⟨"PatchVoices$Program", "kindOf", "(I)I"⟩ ∈ pv_TB := pv_mem (i := 705) (by decide +kernel) (by decide +kernel)
theorem w_37 : Cond.selects "PatchVoices$Program" ⟨"PatchVoices$Program", "kindOf", "(I)I"⟩ ⟨"PatchVoices$Program", "kindOf", "(I)I"⟩ ∈ pv_TB := pv_mem (i := 37) (by decide +kernel) (by decide +kernel)
theorem w_112 : Cond.initialized "PatchVoices$Program" ∈ pv_TB := pv_mem (i := 112) (by decide +kernel) (by decide +kernel)
theorem w_706 : Cond.code ⟨"PatchVoices$Program", "kindOf", "(I)I"⟩ prog_4_method_10_code 2 (Option.some .int) ∈ pv_TB := pv_mem (i := 706) (by decide +kernel) (by decide +kernel)
theorem cv_Pg_103 : pv_CV pv_TB "PatchVoices$Program" "PatchVoices$Program" 103 y_Pg_kindOf prog_4_method_10_code 2 (some .int) 1 := ⟨⟨rfl, by decide +kernel, by decide +kernel, by decide +kernel⟩, w_703, w_705, w_37, w_112, w_706⟩
theorem w_707 : Cond.methodLink "PatchVoices$Program" 106 ⟨"PatchVoices$Kinds", "inputsOf", "(I)I"⟩ ∈ pv_TB := pv_mem (i := 707) (by decide +kernel) (by decide +kernel)
theorem cs_Pg_106 : pv_CS pv_TB "PatchVoices$Program" 106 y_Kd_inputsOf prog_2_method_2_code 1 (some .int) 1 := ⟨⟨by decide +kernel, by decide +kernel, by decide +kernel⟩, w_707, w_575, w_117, w_576⟩
abbrev y_Pg_reads : MethodName := ⟨"PatchVoices$Program", "reads", "(II)Z"⟩
theorem w_699 : Cond.methodLink "PatchVoices$Program" 109 ⟨"PatchVoices$Program", "reads", "(II)Z"⟩ ∈ pv_TB := pv_mem (i := 699) (by decide +kernel) (by decide +kernel)
theorem w_701 : Cond.instanceMethod ⟨"PatchVoices$Program", "reads", "(II)Z"⟩ ∈ pv_TB := pv_mem (i := 701) (by decide +kernel) (by decide +kernel)
theorem w_36 : Cond.selects "PatchVoices$Program" ⟨"PatchVoices$Program", "reads", "(II)Z"⟩ ⟨"PatchVoices$Program", "reads", "(II)Z"⟩ ∈ pv_TB := pv_mem (i := 36) (by decide +kernel) (by decide +kernel)
theorem w_702 : Cond.code ⟨"PatchVoices$Program", "reads", "(II)Z"⟩ prog_4_method_9_code 4 (Option.some .boolean) ∈ pv_TB := pv_mem (i := 702) (by decide +kernel) (by decide +kernel)
theorem cv_Pg_109 : pv_CV pv_TB "PatchVoices$Program" "PatchVoices$Program" 109 y_Pg_reads prog_4_method_9_code 4 (some .boolean) 2 := ⟨⟨rfl, by decide +kernel, by decide +kernel, by decide +kernel⟩, w_699, w_701, w_36, w_112, w_702⟩
theorem w_223 : Cond.fieldLink "PatchVoices$Program" 113 "PatchVoices$Wiring" "from" "[I" ∈ pv_TB := pv_mem (i := 223) (by decide +kernel) (by decide +kernel)
theorem fl_Pg_113 : pv_FL pv_TB pv_cl "PatchVoices$Program" 113 4 2 := ⟨R_Wr, F_Wr, 8, rfl, by decide, in_Wr, w_223⟩
abbrev y_Pg_sourceOf : MethodName := ⟨"PatchVoices$Program", "sourceOf", "(II)I"⟩
theorem w_267 : Cond.fieldLink "PatchVoices$Program" 30 "PatchVoices$Program" "lastReader" "[I" ∈ pv_TB := pv_mem (i := 267) (by decide +kernel) (by decide +kernel)
theorem fl_Pg_30 : pv_FL pv_TB pv_cl "PatchVoices$Program" 30 3 7 := ⟨R_Pg, F_Pg, 9, rfl, by decide, in_Pg, w_267⟩
theorem w_694 : Cond.methodLink "PatchVoices$Program" 77 ⟨"java/util/Arrays", "fill", "([II)V"⟩ ∈ pv_TB := pv_mem (i := 694) (by decide +kernel) (by decide +kernel)
theorem cs_Pg_77 : pv_CS pv_TB "PatchVoices$Program" 77 y_Fill_23 prog_22_method_103_code 4 none 2 := ⟨⟨by decide +kernel, by decide +kernel, by decide +kernel⟩, w_694, w_406, w_116, w_407⟩
theorem w_708 : Cond.methodLink "PatchVoices$Program" 87 ⟨"PatchVoices$Wiring", "outputModule", "()I"⟩ ∈ pv_TB := pv_mem (i := 708) (by decide +kernel) (by decide +kernel)
theorem cv_Pg_87 : pv_CV pv_TB "PatchVoices$Program" "PatchVoices$Wiring" 87 y_Wr_outputModule prog_7_method_3_code 1 (some .int) 0 := ⟨⟨rfl, by decide +kernel, by decide +kernel, by decide +kernel⟩, w_708, w_675, w_676, w_113, w_677⟩
theorem w_695 : Cond.methodLink "PatchVoices$Program" 83 ⟨"PatchVoices$Program", "sourceOf", "(II)I"⟩ ∈ pv_TB := pv_mem (i := 695) (by decide +kernel) (by decide +kernel)
theorem w_697 : Cond.instanceMethod ⟨"PatchVoices$Program", "sourceOf", "(II)I"⟩ ∈ pv_TB := pv_mem (i := 697) (by decide +kernel) (by decide +kernel)
theorem w_35 : Cond.selects "PatchVoices$Program" ⟨"PatchVoices$Program", "sourceOf", "(II)I"⟩ ⟨"PatchVoices$Program", "sourceOf", "(II)I"⟩ ∈ pv_TB := pv_mem (i := 35) (by decide +kernel) (by decide +kernel)
theorem w_698 : Cond.code ⟨"PatchVoices$Program", "sourceOf", "(II)I"⟩ prog_4_method_11_code 3 (Option.some .int) ∈ pv_TB := pv_mem (i := 698) (by decide +kernel) (by decide +kernel)
theorem cv_Pg_83 : pv_CV pv_TB "PatchVoices$Program" "PatchVoices$Program" 83 y_Pg_sourceOf prog_4_method_11_code 3 (some .int) 2 := ⟨⟨rfl, by decide +kernel, by decide +kernel, by decide +kernel⟩, w_695, w_697, w_35, w_112, w_698⟩
abbrev y_Pg_findLastReaders : MethodName := ⟨"PatchVoices$Program", "findLastReaders", "()V"⟩
theorem w_268 : Cond.fieldLink "PatchVoices$Program" 33 "PatchVoices$Program" "busyUntil" "[I" ∈ pv_TB := pv_mem (i := 268) (by decide +kernel) (by decide +kernel)
theorem fl_Pg_33 : pv_FL pv_TB pv_cl "PatchVoices$Program" 33 3 8 := ⟨R_Pg, F_Pg, 9, rfl, by decide, in_Pg, w_268⟩
abbrev y_Pg_leastFreeSlot : MethodName := ⟨"PatchVoices$Program", "leastFreeSlot", "(I)I"⟩
theorem w_262 : Cond.fieldLink "PatchVoices$Program" 91 "PatchVoices$Program" "slotCount" "I" ∈ pv_TB := pv_mem (i := 262) (by decide +kernel) (by decide +kernel)
theorem fw_Pg_91 : pv_FW pv_TB pv_cl "PatchVoices$Program" 91 3 4 .int := ⟨R_Pg, F_Pg, 9, t_Pg, rfl, by decide, in_Pg, w_262, o_Pg, n_Pg, rfl, by decide +kernel⟩
theorem w_266 : Cond.fieldLink "PatchVoices$Program" 27 "PatchVoices$Program" "slot" "[I" ∈ pv_TB := pv_mem (i := 266) (by decide +kernel) (by decide +kernel)
theorem fl_Pg_27 : pv_FL pv_TB pv_cl "PatchVoices$Program" 27 3 6 := ⟨R_Pg, F_Pg, 9, rfl, by decide, in_Pg, w_266⟩
theorem w_713 : Cond.methodLink "PatchVoices$Program" 94 ⟨"PatchVoices$Program", "leastFreeSlot", "(I)I"⟩ ∈ pv_TB := pv_mem (i := 713) (by decide +kernel) (by decide +kernel)
theorem w_715 : Cond.instanceMethod ⟨"PatchVoices$Program", "leastFreeSlot", "(I)I"⟩ ∈ pv_TB := pv_mem (i := 715) (by decide +kernel) (by decide +kernel)
theorem w_39 : Cond.selects "PatchVoices$Program" ⟨"PatchVoices$Program", "leastFreeSlot", "(I)I"⟩ ⟨"PatchVoices$Program", "leastFreeSlot", "(I)I"⟩ ∈ pv_TB := pv_mem (i := 39) (by decide +kernel) (by decide +kernel)
theorem w_716 : Cond.code ⟨"PatchVoices$Program", "leastFreeSlot", "(I)I"⟩ prog_4_method_8_code 3 (Option.some .int) ∈ pv_TB := pv_mem (i := 716) (by decide +kernel) (by decide +kernel)
theorem cv_Pg_94 : pv_CV pv_TB "PatchVoices$Program" "PatchVoices$Program" 94 y_Pg_leastFreeSlot prog_4_method_8_code 3 (some .int) 1 := ⟨⟨rfl, by decide +kernel, by decide +kernel, by decide +kernel⟩, w_713, w_715, w_39, w_112, w_716⟩
theorem fl_Pg_91 : pv_FL pv_TB pv_cl "PatchVoices$Program" 91 3 4 := ⟨R_Pg, F_Pg, 9, rfl, by decide, in_Pg, w_262⟩
theorem w_717 : Cond.methodLink "PatchVoices$Program" 98 ⟨"java/lang/Math", "max", "(II)I"⟩ ∈ pv_TB := pv_mem (i := 717) (by decide +kernel) (by decide +kernel)
theorem w_718 : Cond.static ⟨"java/lang/Math", "max", "(II)I"⟩ ∈ pv_TB := pv_mem (i := 718) (by decide +kernel) (by decide +kernel)
theorem w_719 : Cond.code ⟨"java/lang/Math", "max", "(II)I"⟩ prog_15_method_65_code 2 (Option.some .int) ∈ pv_TB := pv_mem (i := 719) (by decide +kernel) (by decide +kernel)
abbrev y_Pg_giveSlots : MethodName := ⟨"PatchVoices$Program", "giveSlots", "()V"⟩
theorem w_592 : Cond.methodLink "PatchVoices$Program" 40 ⟨"PatchVoices$Wiring", "make", "(LPatchVoices$Patch;Z)V"⟩ ∈ pv_TB := pv_mem (i := 592) (by decide +kernel) (by decide +kernel)
theorem w_593 : Cond.instanceMethod ⟨"PatchVoices$Wiring", "make", "(LPatchVoices$Patch;Z)V"⟩ ∈ pv_TB := pv_mem (i := 593) (by decide +kernel) (by decide +kernel)
theorem w_594 : Cond.selects "PatchVoices$Wiring" ⟨"PatchVoices$Wiring", "make", "(LPatchVoices$Patch;Z)V"⟩ ⟨"PatchVoices$Wiring", "make", "(LPatchVoices$Patch;Z)V"⟩ ∈ pv_TB := pv_mem (i := 594) (by decide +kernel) (by decide +kernel)
theorem w_595 : Cond.code ⟨"PatchVoices$Wiring", "make", "(LPatchVoices$Patch;Z)V"⟩ prog_7_method_2_code 4 (Option.none : Option Jvm.ClassFile.FieldType) ∈ pv_TB := pv_mem (i := 595) (by decide +kernel) (by decide +kernel)
theorem cv_Pg_40 : pv_CV pv_TB "PatchVoices$Program" "PatchVoices$Wiring" 40 y_Wr_make prog_7_method_2_code 4 none 2 := ⟨⟨rfl, by decide +kernel, by decide +kernel, by decide +kernel⟩, w_592, w_593, w_594, w_113, w_595⟩
theorem w_682 : Cond.methodLink "PatchVoices$Program" 44 ⟨"PatchVoices$Program", "listSteps", "()V"⟩ ∈ pv_TB := pv_mem (i := 682) (by decide +kernel) (by decide +kernel)
theorem w_684 : Cond.instanceMethod ⟨"PatchVoices$Program", "listSteps", "()V"⟩ ∈ pv_TB := pv_mem (i := 684) (by decide +kernel) (by decide +kernel)
theorem w_32 : Cond.selects "PatchVoices$Program" ⟨"PatchVoices$Program", "listSteps", "()V"⟩ ⟨"PatchVoices$Program", "listSteps", "()V"⟩ ∈ pv_TB := pv_mem (i := 32) (by decide +kernel) (by decide +kernel)
theorem w_685 : Cond.code ⟨"PatchVoices$Program", "listSteps", "()V"⟩ prog_4_method_4_code 2 (Option.none : Option Jvm.ClassFile.FieldType) ∈ pv_TB := pv_mem (i := 685) (by decide +kernel) (by decide +kernel)
theorem cv_Pg_44 : pv_CV pv_TB "PatchVoices$Program" "PatchVoices$Program" 44 y_Pg_listSteps prog_4_method_4_code 2 none 0 := ⟨⟨rfl, by decide +kernel, by decide +kernel, by decide +kernel⟩, w_682, w_684, w_32, w_112, w_685⟩
theorem w_686 : Cond.methodLink "PatchVoices$Program" 47 ⟨"PatchVoices$Program", "layLines", "()V"⟩ ∈ pv_TB := pv_mem (i := 686) (by decide +kernel) (by decide +kernel)
theorem w_688 : Cond.instanceMethod ⟨"PatchVoices$Program", "layLines", "()V"⟩ ∈ pv_TB := pv_mem (i := 688) (by decide +kernel) (by decide +kernel)
theorem w_33 : Cond.selects "PatchVoices$Program" ⟨"PatchVoices$Program", "layLines", "()V"⟩ ⟨"PatchVoices$Program", "layLines", "()V"⟩ ∈ pv_TB := pv_mem (i := 33) (by decide +kernel) (by decide +kernel)
theorem w_689 : Cond.code ⟨"PatchVoices$Program", "layLines", "()V"⟩ prog_4_method_5_code 3 (Option.none : Option Jvm.ClassFile.FieldType) ∈ pv_TB := pv_mem (i := 689) (by decide +kernel) (by decide +kernel)
theorem cv_Pg_47 : pv_CV pv_TB "PatchVoices$Program" "PatchVoices$Program" 47 y_Pg_layLines prog_4_method_5_code 3 none 0 := ⟨⟨rfl, by decide +kernel, by decide +kernel, by decide +kernel⟩, w_686, w_688, w_33, w_112, w_689⟩
theorem w_690 : Cond.methodLink "PatchVoices$Program" 50 ⟨"PatchVoices$Program", "findLastReaders", "()V"⟩ ∈ pv_TB := pv_mem (i := 690) (by decide +kernel) (by decide +kernel)
theorem w_692 : Cond.instanceMethod ⟨"PatchVoices$Program", "findLastReaders", "()V"⟩ ∈ pv_TB := pv_mem (i := 692) (by decide +kernel) (by decide +kernel)
theorem w_34 : Cond.selects "PatchVoices$Program" ⟨"PatchVoices$Program", "findLastReaders", "()V"⟩ ⟨"PatchVoices$Program", "findLastReaders", "()V"⟩ ∈ pv_TB := pv_mem (i := 34) (by decide +kernel) (by decide +kernel)
theorem w_693 : Cond.code ⟨"PatchVoices$Program", "findLastReaders", "()V"⟩ prog_4_method_6_code 4 (Option.none : Option Jvm.ClassFile.FieldType) ∈ pv_TB := pv_mem (i := 693) (by decide +kernel) (by decide +kernel)
theorem cv_Pg_50 : pv_CV pv_TB "PatchVoices$Program" "PatchVoices$Program" 50 y_Pg_findLastReaders prog_4_method_6_code 4 none 0 := ⟨⟨rfl, by decide +kernel, by decide +kernel, by decide +kernel⟩, w_690, w_692, w_34, w_112, w_693⟩
theorem w_709 : Cond.methodLink "PatchVoices$Program" 53 ⟨"PatchVoices$Program", "giveSlots", "()V"⟩ ∈ pv_TB := pv_mem (i := 709) (by decide +kernel) (by decide +kernel)
theorem w_711 : Cond.instanceMethod ⟨"PatchVoices$Program", "giveSlots", "()V"⟩ ∈ pv_TB := pv_mem (i := 711) (by decide +kernel) (by decide +kernel)
theorem w_38 : Cond.selects "PatchVoices$Program" ⟨"PatchVoices$Program", "giveSlots", "()V"⟩ ⟨"PatchVoices$Program", "giveSlots", "()V"⟩ ∈ pv_TB := pv_mem (i := 38) (by decide +kernel) (by decide +kernel)
theorem w_712 : Cond.code ⟨"PatchVoices$Program", "giveSlots", "()V"⟩ prog_4_method_7_code 3 (Option.none : Option Jvm.ClassFile.FieldType) ∈ pv_TB := pv_mem (i := 712) (by decide +kernel) (by decide +kernel)
theorem cv_Pg_53 : pv_CV pv_TB "PatchVoices$Program" "PatchVoices$Program" 53 y_Pg_giveSlots prog_4_method_7_code 3 none 0 := ⟨⟨rfl, by decide +kernel, by decide +kernel, by decide +kernel⟩, w_709, w_711, w_38, w_112, w_712⟩
abbrev y_Pg_make : MethodName := ⟨"PatchVoices$Program", "make", "(LPatchVoices$Patch;Z)V"⟩
abbrev y_Pg_slotRead : MethodName := ⟨"PatchVoices$Program", "slotRead", "(II)I"⟩
abbrev y_Pg_numberRead : MethodName := ⟨"PatchVoices$Program", "numberRead", "(II)I"⟩
theorem w_850 : Cond.methodLink "PatchVoices$Program" 119 ⟨"PatchVoices$Program", "numberRead", "(II)I"⟩ ∈ pv_TB := pv_mem (i := 850) (by decide +kernel) (by decide +kernel)
theorem w_852 : Cond.instanceMethod ⟨"PatchVoices$Program", "numberRead", "(II)I"⟩ ∈ pv_TB := pv_mem (i := 852) (by decide +kernel) (by decide +kernel)
theorem w_43 : Cond.selects "PatchVoices$Program" ⟨"PatchVoices$Program", "numberRead", "(II)I"⟩ ⟨"PatchVoices$Program", "numberRead", "(II)I"⟩ ∈ pv_TB := pv_mem (i := 43) (by decide +kernel) (by decide +kernel)
theorem w_853 : Cond.code ⟨"PatchVoices$Program", "numberRead", "(II)I"⟩ prog_4_method_14_code 4 (Option.some .int) ∈ pv_TB := pv_mem (i := 853) (by decide +kernel) (by decide +kernel)
theorem cv_Pg_119 : pv_CV pv_TB "PatchVoices$Program" "PatchVoices$Program" 119 y_Pg_numberRead prog_4_method_14_code 4 (some .int) 2 := ⟨⟨rfl, by decide +kernel, by decide +kernel, by decide +kernel⟩, w_850, w_852, w_43, w_112, w_853⟩
theorem w_846 : Cond.methodLink "PatchVoices$Program" 116 ⟨"PatchVoices$Program", "slotRead", "(II)I"⟩ ∈ pv_TB := pv_mem (i := 846) (by decide +kernel) (by decide +kernel)
theorem w_848 : Cond.instanceMethod ⟨"PatchVoices$Program", "slotRead", "(II)I"⟩ ∈ pv_TB := pv_mem (i := 848) (by decide +kernel) (by decide +kernel)
theorem w_42 : Cond.selects "PatchVoices$Program" ⟨"PatchVoices$Program", "slotRead", "(II)I"⟩ ⟨"PatchVoices$Program", "slotRead", "(II)I"⟩ ∈ pv_TB := pv_mem (i := 42) (by decide +kernel) (by decide +kernel)
theorem w_849 : Cond.code ⟨"PatchVoices$Program", "slotRead", "(II)I"⟩ prog_4_method_13_code 4 (Option.some .int) ∈ pv_TB := pv_mem (i := 849) (by decide +kernel) (by decide +kernel)
theorem cv_Pg_116 : pv_CV pv_TB "PatchVoices$Program" "PatchVoices$Program" 116 y_Pg_slotRead prog_4_method_13_code 4 (some .int) 2 := ⟨⟨rfl, by decide +kernel, by decide +kernel, by decide +kernel⟩, w_846, w_848, w_42, w_112, w_849⟩
abbrev y_Pg_tell : MethodName := ⟨"PatchVoices$Program", "tell", "(II)I"⟩
theorem w_295 : Cond.fieldLink "PatchVoices$Voice" 31 "PatchVoices$Voice" "taken" "Z" ∈ pv_TB := pv_mem (i := 295) (by decide +kernel) (by decide +kernel)
theorem w_316 : Cond.lays "PatchVoices$Voice" "PatchVoices$Voice" "taken" "Z" ∈ pv_TB := pv_mem (i := 316) (by decide +kernel) (by decide +kernel)
theorem w_318 : Cond.lays "PatchVoices$Voice" "PatchVoices$Voice" "gate" "Z" ∈ pv_TB := pv_mem (i := 318) (by decide +kernel) (by decide +kernel)
theorem w_320 : Cond.lays "PatchVoices$Voice" "PatchVoices$Voice" "sounding" "Z" ∈ pv_TB := pv_mem (i := 320) (by decide +kernel) (by decide +kernel)
theorem w_322 : Cond.lays "PatchVoices$Voice" "PatchVoices$Voice" "played" "Z" ∈ pv_TB := pv_mem (i := 322) (by decide +kernel) (by decide +kernel)
theorem w_324 : Cond.lays "PatchVoices$Voice" "PatchVoices$Voice" "quiet" "I" ∈ pv_TB := pv_mem (i := 324) (by decide +kernel) (by decide +kernel)
theorem w_326 : Cond.lays "PatchVoices$Voice" "PatchVoices$Voice" "taking" "J" ∈ pv_TB := pv_mem (i := 326) (by decide +kernel) (by decide +kernel)
theorem w_328 : Cond.laysFinal "PatchVoices$Voice" "PatchVoices$Voice" "values" "[I" ∈ pv_TB := pv_mem (i := 328) (by decide +kernel) (by decide +kernel)
theorem w_330 : Cond.lays "PatchVoices$Voice" "PatchVoices$Voice" "pitch" "I" ∈ pv_TB := pv_mem (i := 330) (by decide +kernel) (by decide +kernel)
theorem w_332 : Cond.lays "PatchVoices$Voice" "PatchVoices$Voice" "strength" "I" ∈ pv_TB := pv_mem (i := 332) (by decide +kernel) (by decide +kernel)
theorem w_334 : Cond.lays "PatchVoices$Voice" "PatchVoices$Voice" "zeros" "I" ∈ pv_TB := pv_mem (i := 334) (by decide +kernel) (by decide +kernel)
theorem w_336 : Cond.laysFinal "PatchVoices$Voice" "PatchVoices$Voice" "in" "[I" ∈ pv_TB := pv_mem (i := 336) (by decide +kernel) (by decide +kernel)
theorem w_338 : Cond.laysFinal "PatchVoices$Voice" "PatchVoices$Voice" "memory" "[I" ∈ pv_TB := pv_mem (i := 338) (by decide +kernel) (by decide +kernel)
theorem w_340 : Cond.laysFinal "PatchVoices$Voice" "PatchVoices$Voice" "memoryToo" "[I" ∈ pv_TB := pv_mem (i := 340) (by decide +kernel) (by decide +kernel)
theorem w_342 : Cond.laysFinal "PatchVoices$Voice" "PatchVoices$Voice" "lines" "[I" ∈ pv_TB := pv_mem (i := 342) (by decide +kernel) (by decide +kernel)
theorem in_Vc : ∀ w ∈ u_ws R_Vc F_Vc 14, w ∈ pv_TB := by
  intro w hw
  have hw : w ∈ [u_lay R_Vc F_Vc 0, u_lay R_Vc F_Vc 1, u_lay R_Vc F_Vc 2, u_lay R_Vc F_Vc 3, u_lay R_Vc F_Vc 4, u_lay R_Vc F_Vc 5, u_lay R_Vc F_Vc 6, u_lay R_Vc F_Vc 7, u_lay R_Vc F_Vc 8, u_lay R_Vc F_Vc 9, u_lay R_Vc F_Vc 10, u_lay R_Vc F_Vc 11, u_lay R_Vc F_Vc 12, u_lay R_Vc F_Vc 13] := hw
  simp only [List.mem_cons, List.not_mem_nil, or_false] at hw
  rcases hw with rfl | rfl | rfl | rfl | rfl | rfl | rfl | rfl | rfl | rfl | rfl | rfl | rfl | rfl
  · exact w_316
  · exact w_318
  · exact w_320
  · exact w_322
  · exact w_324
  · exact w_326
  · exact w_328
  · exact w_330
  · exact w_332
  · exact w_334
  · exact w_336
  · exact w_338
  · exact w_340
  · exact w_342
theorem fw_Vc_31 : pv_FW pv_TB pv_cl "PatchVoices$Voice" 31 5 0 .boolean := ⟨R_Vc, F_Vc, 14, t_Vc, rfl, by decide, in_Vc, w_295, o_Vc, n_Vc, rfl, by decide +kernel⟩
theorem w_297 : Cond.fieldLink "PatchVoices$Voice" 35 "PatchVoices$Voice" "gate" "Z" ∈ pv_TB := pv_mem (i := 297) (by decide +kernel) (by decide +kernel)
theorem fw_Vc_35 : pv_FW pv_TB pv_cl "PatchVoices$Voice" 35 5 1 .boolean := ⟨R_Vc, F_Vc, 14, t_Vc, rfl, by decide, in_Vc, w_297, o_Vc, n_Vc, rfl, by decide +kernel⟩
theorem w_299 : Cond.fieldLink "PatchVoices$Voice" 38 "PatchVoices$Voice" "sounding" "Z" ∈ pv_TB := pv_mem (i := 299) (by decide +kernel) (by decide +kernel)
theorem fw_Vc_38 : pv_FW pv_TB pv_cl "PatchVoices$Voice" 38 5 2 .boolean := ⟨R_Vc, F_Vc, 14, t_Vc, rfl, by decide, in_Vc, w_299, o_Vc, n_Vc, rfl, by decide +kernel⟩
theorem w_301 : Cond.fieldLink "PatchVoices$Voice" 41 "PatchVoices$Voice" "played" "Z" ∈ pv_TB := pv_mem (i := 301) (by decide +kernel) (by decide +kernel)
theorem fw_Vc_41 : pv_FW pv_TB pv_cl "PatchVoices$Voice" 41 5 3 .boolean := ⟨R_Vc, F_Vc, 14, t_Vc, rfl, by decide, in_Vc, w_301, o_Vc, n_Vc, rfl, by decide +kernel⟩
abbrev y_Vc_release : MethodName := ⟨"PatchVoices$Voice", "release", "()V"⟩
theorem w_216 : Cond.fieldLink "PatchVoices$Voice" 71 "PatchVoices$Wiring" "modules" "I" ∈ pv_TB := pv_mem (i := 216) (by decide +kernel) (by decide +kernel)
theorem fl_Vc_71 : pv_FL pv_TB pv_cl "PatchVoices$Voice" 71 4 0 := ⟨R_Wr, F_Wr, 8, rfl, by decide, in_Wr, w_216⟩
theorem w_314 : Cond.fieldLink "PatchVoices$Voice" 25 "PatchVoices$Voice" "memoryToo" "[I" ∈ pv_TB := pv_mem (i := 314) (by decide +kernel) (by decide +kernel)
theorem fl_Vc_25 : pv_FL pv_TB pv_cl "PatchVoices$Voice" 25 5 12 := ⟨R_Vc, F_Vc, 14, rfl, by decide, in_Vc, w_314⟩
theorem w_890 : Cond.methodLink "PatchVoices$Voice" 79 ⟨"java/util/Arrays", "fill", "([II)V"⟩ ∈ pv_TB := pv_mem (i := 890) (by decide +kernel) (by decide +kernel)
theorem cs_Vc_79 : pv_CS pv_TB "PatchVoices$Voice" 79 y_Fill_v4 prog_22_method_103_code 4 none 2 := ⟨⟨by decide +kernel, by decide +kernel, by decide +kernel⟩, w_890, w_406, w_116, w_407⟩
theorem w_315 : Cond.fieldLink "PatchVoices$Voice" 28 "PatchVoices$Voice" "lines" "[I" ∈ pv_TB := pv_mem (i := 315) (by decide +kernel) (by decide +kernel)
theorem fl_Vc_28 : pv_FL pv_TB pv_cl "PatchVoices$Voice" 28 5 13 := ⟨R_Vc, F_Vc, 14, rfl, by decide, in_Vc, w_315⟩
theorem w_313 : Cond.fieldLink "PatchVoices$Voice" 22 "PatchVoices$Voice" "memory" "[I" ∈ pv_TB := pv_mem (i := 313) (by decide +kernel) (by decide +kernel)
theorem fl_Vc_22 : pv_FL pv_TB pv_cl "PatchVoices$Voice" 22 5 11 := ⟨R_Vc, F_Vc, 14, rfl, by decide, in_Vc, w_313⟩
theorem w_219 : Cond.fieldLink "PatchVoices$Voice" 76 "PatchVoices$Wiring" "kind" "[I" ∈ pv_TB := pv_mem (i := 219) (by decide +kernel) (by decide +kernel)
theorem fl_Vc_76 : pv_FL pv_TB pv_cl "PatchVoices$Voice" 76 4 1 := ⟨R_Wr, F_Wr, 8, rfl, by decide, in_Wr, w_219⟩
abbrev y_Vc_forget : MethodName := ⟨"PatchVoices$Voice", "forget", "(LPatchVoices$Wiring;)V"⟩
theorem w_303 : Cond.fieldLink "PatchVoices$Voice" 44 "PatchVoices$Voice" "quiet" "I" ∈ pv_TB := pv_mem (i := 303) (by decide +kernel) (by decide +kernel)
theorem fw_Vc_44 : pv_FW pv_TB pv_cl "PatchVoices$Voice" 44 5 4 .int := ⟨R_Vc, F_Vc, 14, t_Vc, rfl, by decide, in_Vc, w_303, o_Vc, n_Vc, rfl, by decide +kernel⟩
theorem w_311 : Cond.fieldLink "PatchVoices$Voice" 48 "PatchVoices$Voice" "zeros" "I" ∈ pv_TB := pv_mem (i := 311) (by decide +kernel) (by decide +kernel)
theorem fw_Vc_48 : pv_FW pv_TB pv_cl "PatchVoices$Voice" 48 5 9 .int := ⟨R_Vc, F_Vc, 14, t_Vc, rfl, by decide, in_Vc, w_311, o_Vc, n_Vc, rfl, by decide +kernel⟩
theorem w_309 : Cond.fieldLink "PatchVoices$Voice" 51 "PatchVoices$Voice" "pitch" "I" ∈ pv_TB := pv_mem (i := 309) (by decide +kernel) (by decide +kernel)
theorem fw_Vc_51 : pv_FW pv_TB pv_cl "PatchVoices$Voice" 51 5 7 .int := ⟨R_Vc, F_Vc, 14, t_Vc, rfl, by decide, in_Vc, w_309, o_Vc, n_Vc, rfl, by decide +kernel⟩
theorem w_310 : Cond.fieldLink "PatchVoices$Voice" 54 "PatchVoices$Voice" "strength" "I" ∈ pv_TB := pv_mem (i := 310) (by decide +kernel) (by decide +kernel)
theorem fw_Vc_54 : pv_FW pv_TB pv_cl "PatchVoices$Voice" 54 5 8 .int := ⟨R_Vc, F_Vc, 14, t_Vc, rfl, by decide, in_Vc, w_310, o_Vc, n_Vc, rfl, by decide +kernel⟩
theorem w_305 : Cond.fieldLink "PatchVoices$Voice" 57 "PatchVoices$Voice" "taking" "J" ∈ pv_TB := pv_mem (i := 305) (by decide +kernel) (by decide +kernel)
theorem fw_Vc_57 : pv_FW pv_TB pv_cl "PatchVoices$Voice" 57 5 5 .long := ⟨R_Vc, F_Vc, 14, t_Vc, rfl, by decide, in_Vc, w_305, o_Vc, n_Vc, rfl, by decide +kernel⟩
theorem w_253 : Cond.fieldLink "PatchVoices$Voice" 61 "PatchVoices$Program" "wiring" "LPatchVoices$Wiring;" ∈ pv_TB := pv_mem (i := 253) (by decide +kernel) (by decide +kernel)
theorem fl_Vc_61 : pv_FL pv_TB pv_cl "PatchVoices$Voice" 61 3 0 := ⟨R_Pg, F_Pg, 9, rfl, by decide, in_Pg, w_253⟩
theorem w_886 : Cond.methodLink "PatchVoices$Voice" 67 ⟨"PatchVoices$Voice", "forget", "(LPatchVoices$Wiring;)V"⟩ ∈ pv_TB := pv_mem (i := 886) (by decide +kernel) (by decide +kernel)
theorem w_888 : Cond.instanceMethod ⟨"PatchVoices$Voice", "forget", "(LPatchVoices$Wiring;)V"⟩ ∈ pv_TB := pv_mem (i := 888) (by decide +kernel) (by decide +kernel)
theorem w_47 : Cond.selects "PatchVoices$Voice" ⟨"PatchVoices$Voice", "forget", "(LPatchVoices$Wiring;)V"⟩ ⟨"PatchVoices$Voice", "forget", "(LPatchVoices$Wiring;)V"⟩ ∈ pv_TB := pv_mem (i := 47) (by decide +kernel) (by decide +kernel)
theorem w_114 : Cond.initialized "PatchVoices$Voice" ∈ pv_TB := pv_mem (i := 114) (by decide +kernel) (by decide +kernel)
theorem w_889 : Cond.code ⟨"PatchVoices$Voice", "forget", "(LPatchVoices$Wiring;)V"⟩ prog_6_method_4_code 3 (Option.none : Option Jvm.ClassFile.FieldType) ∈ pv_TB := pv_mem (i := 889) (by decide +kernel) (by decide +kernel)
theorem cv_Vc_67 : pv_CV pv_TB "PatchVoices$Voice" "PatchVoices$Voice" 67 y_Vc_forget prog_6_method_4_code 3 none 1 := ⟨⟨rfl, by decide +kernel, by decide +kernel, by decide +kernel⟩, w_886, w_888, w_47, w_114, w_889⟩
abbrev y_Vc_take : MethodName := ⟨"PatchVoices$Voice", "take", "(LPatchVoices$Program;IIJ)V"⟩
theorem w_222 : Cond.fieldLink "PatchVoices$Voice" 124 "PatchVoices$Wiring" "from" "[I" ∈ pv_TB := pv_mem (i := 222) (by decide +kernel) (by decide +kernel)
theorem fl_Vc_124 : pv_FL pv_TB pv_cl "PatchVoices$Voice" 124 4 2 := ⟨R_Wr, F_Wr, 8, rfl, by decide, in_Wr, w_222⟩
theorem w_307 : Cond.fieldLink "PatchVoices$Voice" 11 "PatchVoices$Voice" "values" "[I" ∈ pv_TB := pv_mem (i := 307) (by decide +kernel) (by decide +kernel)
theorem fl_Vc_11 : pv_FL pv_TB pv_cl "PatchVoices$Voice" 11 5 6 := ⟨R_Vc, F_Vc, 14, rfl, by decide, in_Vc, w_307⟩
theorem w_226 : Cond.fieldLink "PatchVoices$Voice" 127 "PatchVoices$Wiring" "number" "[I" ∈ pv_TB := pv_mem (i := 226) (by decide +kernel) (by decide +kernel)
theorem fl_Vc_127 : pv_FL pv_TB pv_cl "PatchVoices$Voice" 127 4 3 := ⟨R_Wr, F_Wr, 8, rfl, by decide, in_Wr, w_226⟩
abbrev y_Vc_valueRead : MethodName := ⟨"PatchVoices$Voice", "valueRead", "(LPatchVoices$Wiring;I)I"⟩
theorem w_312 : Cond.fieldLink "PatchVoices$Voice" 19 "PatchVoices$Voice" "in" "[I" ∈ pv_TB := pv_mem (i := 312) (by decide +kernel) (by decide +kernel)
theorem fl_Vc_19 : pv_FL pv_TB pv_cl "PatchVoices$Voice" 19 5 10 := ⟨R_Vc, F_Vc, 14, rfl, by decide, in_Vc, w_312⟩
theorem w_960 : Cond.methodLink "PatchVoices$Voice" 120 ⟨"PatchVoices$Voice", "valueRead", "(LPatchVoices$Wiring;I)I"⟩ ∈ pv_TB := pv_mem (i := 960) (by decide +kernel) (by decide +kernel)
theorem w_962 : Cond.instanceMethod ⟨"PatchVoices$Voice", "valueRead", "(LPatchVoices$Wiring;I)I"⟩ ∈ pv_TB := pv_mem (i := 962) (by decide +kernel) (by decide +kernel)
theorem w_51 : Cond.selects "PatchVoices$Voice" ⟨"PatchVoices$Voice", "valueRead", "(LPatchVoices$Wiring;I)I"⟩ ⟨"PatchVoices$Voice", "valueRead", "(LPatchVoices$Wiring;I)I"⟩ ∈ pv_TB := pv_mem (i := 51) (by decide +kernel) (by decide +kernel)
theorem w_963 : Cond.code ⟨"PatchVoices$Voice", "valueRead", "(LPatchVoices$Wiring;I)I"⟩ prog_6_method_7_code 3 (Option.some .int) ∈ pv_TB := pv_mem (i := 963) (by decide +kernel) (by decide +kernel)
theorem cv_Vc_120 : pv_CV pv_TB "PatchVoices$Voice" "PatchVoices$Voice" 120 y_Vc_valueRead prog_6_method_7_code 3 (some .int) 2 := ⟨⟨rfl, by decide +kernel, by decide +kernel, by decide +kernel⟩, w_960, w_962, w_51, w_114, w_963⟩
abbrev y_Vc_readInputs : MethodName := ⟨"PatchVoices$Voice", "readInputs", "(LPatchVoices$Wiring;I)V"⟩
theorem w_980 : Cond.constant "PatchVoices$Voice" 152 (-1262693540 : Int32) ∈ pv_TB := pv_mem (i := 980) (by decide +kernel) (by decide +kernel)
abbrev y_Vc_nextNoise : MethodName := ⟨"PatchVoices$Voice", "nextNoise", "(I)I"⟩
abbrev y_Vc_turnStage : MethodName := ⟨"PatchVoices$Voice", "turnStage", "(IZ)V"⟩
abbrev y_Vc_levelAt : MethodName := ⟨"PatchVoices$Voice", "levelAt", "(IJI)I"⟩
theorem w_985 : Cond.methodLink "PatchVoices$Voice" 153 ⟨"PatchVoices$Voice", "turnStage", "(IZ)V"⟩ ∈ pv_TB := pv_mem (i := 985) (by decide +kernel) (by decide +kernel)
theorem w_987 : Cond.instanceMethod ⟨"PatchVoices$Voice", "turnStage", "(IZ)V"⟩ ∈ pv_TB := pv_mem (i := 987) (by decide +kernel) (by decide +kernel)
theorem w_55 : Cond.selects "PatchVoices$Voice" ⟨"PatchVoices$Voice", "turnStage", "(IZ)V"⟩ ⟨"PatchVoices$Voice", "turnStage", "(IZ)V"⟩ ∈ pv_TB := pv_mem (i := 55) (by decide +kernel) (by decide +kernel)
theorem w_988 : Cond.code ⟨"PatchVoices$Voice", "turnStage", "(IZ)V"⟩ prog_6_method_13_code 4 (Option.none : Option Jvm.ClassFile.FieldType) ∈ pv_TB := pv_mem (i := 988) (by decide +kernel) (by decide +kernel)
theorem cv_Vc_153 : pv_CV pv_TB "PatchVoices$Voice" "PatchVoices$Voice" 153 y_Vc_turnStage prog_6_method_13_code 4 none 2 := ⟨⟨rfl, by decide +kernel, by decide +kernel, by decide +kernel⟩, w_985, w_987, w_55, w_114, w_988⟩
theorem w_989 : Cond.constantLong "PatchVoices$Voice" 157 (65536 : Int64) ∈ pv_TB := pv_mem (i := 989) (by decide +kernel) (by decide +kernel)
theorem w_990 : Cond.methodLink "PatchVoices$Voice" 159 ⟨"java/lang/Math", "max", "(II)I"⟩ ∈ pv_TB := pv_mem (i := 990) (by decide +kernel) (by decide +kernel)
theorem w_991 : Cond.methodLink "PatchVoices$Voice" 164 ⟨"java/lang/Math", "min", "(JJ)J"⟩ ∈ pv_TB := pv_mem (i := 991) (by decide +kernel) (by decide +kernel)
theorem w_968 : Cond.constant "PatchVoices$Voice" 130 (65536 : Int32) ∈ pv_TB := pv_mem (i := 968) (by decide +kernel) (by decide +kernel)
theorem w_992 : Cond.methodLink "PatchVoices$Voice" 168 ⟨"PatchVoices$Voice", "levelAt", "(IJI)I"⟩ ∈ pv_TB := pv_mem (i := 992) (by decide +kernel) (by decide +kernel)
theorem w_994 : Cond.instanceMethod ⟨"PatchVoices$Voice", "levelAt", "(IJI)I"⟩ ∈ pv_TB := pv_mem (i := 994) (by decide +kernel) (by decide +kernel)
theorem w_56 : Cond.selects "PatchVoices$Voice" ⟨"PatchVoices$Voice", "levelAt", "(IJI)I"⟩ ⟨"PatchVoices$Voice", "levelAt", "(IJI)I"⟩ ∈ pv_TB := pv_mem (i := 56) (by decide +kernel) (by decide +kernel)
theorem w_995 : Cond.code ⟨"PatchVoices$Voice", "levelAt", "(IJI)I"⟩ prog_6_method_14_code 5 (Option.some .int) ∈ pv_TB := pv_mem (i := 995) (by decide +kernel) (by decide +kernel)
theorem cv_Vc_168 : pv_CV pv_TB "PatchVoices$Voice" "PatchVoices$Voice" 168 y_Vc_levelAt prog_6_method_14_code 5 (some .int) 3 := ⟨⟨rfl, by decide +kernel, by decide +kernel, by decide +kernel⟩, w_992, w_994, w_56, w_114, w_995⟩
theorem w_996 : Cond.constantLong "PatchVoices$Voice" 172 (32768 : Int64) ∈ pv_TB := pv_mem (i := 996) (by decide +kernel) (by decide +kernel)
theorem w_997 : Cond.methodLink "PatchVoices$Voice" 174 ⟨"java/lang/Math", "max", "(JJ)J"⟩ ∈ pv_TB := pv_mem (i := 997) (by decide +kernel) (by decide +kernel)
theorem w_998 : Cond.constant "PatchVoices$Voice" 176 (32768 : Int32) ∈ pv_TB := pv_mem (i := 998) (by decide +kernel) (by decide +kernel)
abbrev y_Vc_nextLevel : MethodName := ⟨"PatchVoices$Voice", "nextLevel", "(I)I"⟩
theorem w_1003 : Cond.methodLink "PatchVoices$Voice" 177 ⟨"PatchVoices$Kinds", "scaled", "(JI)J"⟩ ∈ pv_TB := pv_mem (i := 1003) (by decide +kernel) (by decide +kernel)
theorem cs_Vc_177 : pv_CS pv_TB "PatchVoices$Voice" 177 y_Kd_scaled prog_2_method_8_code 3 (some .long) 2 := ⟨⟨by decide +kernel, by decide +kernel, by decide +kernel⟩, w_1003, w_649, w_117, w_650⟩
theorem w_1004 : Cond.methodLink "PatchVoices$Voice" 181 ⟨"PatchVoices$Kinds", "stopped", "(J)I"⟩ ∈ pv_TB := pv_mem (i := 1004) (by decide +kernel) (by decide +kernel)
theorem cs_Vc_181 : pv_CS pv_TB "PatchVoices$Voice" 181 y_Kd_stopped prog_2_method_9_code 2 (some .int) 1 := ⟨⟨by decide +kernel, by decide +kernel, by decide +kernel⟩, w_1004, w_638, w_117, w_639⟩
abbrev y_Vc_nextLow : MethodName := ⟨"PatchVoices$Voice", "nextLow", "(I)I"⟩
abbrev y_Vc_nextHeld : MethodName := ⟨"PatchVoices$Voice", "nextHeld", "(I)I"⟩
theorem fl_Vc_51 : pv_FL pv_TB pv_cl "PatchVoices$Voice" 51 5 7 := ⟨R_Vc, F_Vc, 14, rfl, by decide, in_Vc, w_309⟩
theorem fl_Vc_35 : pv_FL pv_TB pv_cl "PatchVoices$Voice" 35 5 1 := ⟨R_Vc, F_Vc, 14, rfl, by decide, in_Vc, w_297⟩
theorem fl_Vc_54 : pv_FL pv_TB pv_cl "PatchVoices$Voice" 54 5 8 := ⟨R_Vc, F_Vc, 14, rfl, by decide, in_Vc, w_310⟩
theorem w_969 : Cond.methodLink "PatchVoices$Voice" 131 ⟨"PatchVoices$Kinds", "waveValue", "(II)I"⟩ ∈ pv_TB := pv_mem (i := 969) (by decide +kernel) (by decide +kernel)
theorem w_970 : Cond.static ⟨"PatchVoices$Kinds", "waveValue", "(II)I"⟩ ∈ pv_TB := pv_mem (i := 970) (by decide +kernel) (by decide +kernel)
theorem w_971 : Cond.code ⟨"PatchVoices$Kinds", "waveValue", "(II)I"⟩ prog_2_method_10_code 3 (Option.some .int) ∈ pv_TB := pv_mem (i := 971) (by decide +kernel) (by decide +kernel)
theorem cs_Vc_131 : pv_CS pv_TB "PatchVoices$Voice" 131 y_Kd_waveValue prog_2_method_10_code 3 (some .int) 2 := ⟨⟨by decide +kernel, by decide +kernel, by decide +kernel⟩, w_969, w_970, w_117, w_971⟩
theorem w_976 : Cond.methodLink "PatchVoices$Voice" 135 ⟨"PatchVoices$Voice", "nextNoise", "(I)I"⟩ ∈ pv_TB := pv_mem (i := 976) (by decide +kernel) (by decide +kernel)
theorem w_978 : Cond.instanceMethod ⟨"PatchVoices$Voice", "nextNoise", "(I)I"⟩ ∈ pv_TB := pv_mem (i := 978) (by decide +kernel) (by decide +kernel)
theorem w_53 : Cond.selects "PatchVoices$Voice" ⟨"PatchVoices$Voice", "nextNoise", "(I)I"⟩ ⟨"PatchVoices$Voice", "nextNoise", "(I)I"⟩ ∈ pv_TB := pv_mem (i := 53) (by decide +kernel) (by decide +kernel)
theorem w_979 : Cond.code ⟨"PatchVoices$Voice", "nextNoise", "(I)I"⟩ prog_6_method_11_code 3 (Option.some .int) ∈ pv_TB := pv_mem (i := 979) (by decide +kernel) (by decide +kernel)
theorem cv_Vc_135 : pv_CV pv_TB "PatchVoices$Voice" "PatchVoices$Voice" 135 y_Vc_nextNoise prog_6_method_11_code 3 (some .int) 1 := ⟨⟨rfl, by decide +kernel, by decide +kernel, by decide +kernel⟩, w_976, w_978, w_53, w_114, w_979⟩
theorem w_981 : Cond.methodLink "PatchVoices$Voice" 139 ⟨"PatchVoices$Voice", "nextLevel", "(I)I"⟩ ∈ pv_TB := pv_mem (i := 981) (by decide +kernel) (by decide +kernel)
theorem w_983 : Cond.instanceMethod ⟨"PatchVoices$Voice", "nextLevel", "(I)I"⟩ ∈ pv_TB := pv_mem (i := 983) (by decide +kernel) (by decide +kernel)
theorem w_54 : Cond.selects "PatchVoices$Voice" ⟨"PatchVoices$Voice", "nextLevel", "(I)I"⟩ ⟨"PatchVoices$Voice", "nextLevel", "(I)I"⟩ ∈ pv_TB := pv_mem (i := 54) (by decide +kernel) (by decide +kernel)
theorem w_984 : Cond.code ⟨"PatchVoices$Voice", "nextLevel", "(I)I"⟩ prog_6_method_12_code 4 (Option.some .int) ∈ pv_TB := pv_mem (i := 984) (by decide +kernel) (by decide +kernel)
theorem cv_Vc_139 : pv_CV pv_TB "PatchVoices$Voice" "PatchVoices$Voice" 139 y_Vc_nextLevel prog_6_method_12_code 4 (some .int) 1 := ⟨⟨rfl, by decide +kernel, by decide +kernel, by decide +kernel⟩, w_981, w_983, w_54, w_114, w_984⟩
theorem w_999 : Cond.methodLink "PatchVoices$Voice" 142 ⟨"PatchVoices$Voice", "nextLow", "(I)I"⟩ ∈ pv_TB := pv_mem (i := 999) (by decide +kernel) (by decide +kernel)
theorem w_1001 : Cond.instanceMethod ⟨"PatchVoices$Voice", "nextLow", "(I)I"⟩ ∈ pv_TB := pv_mem (i := 1001) (by decide +kernel) (by decide +kernel)
theorem w_57 : Cond.selects "PatchVoices$Voice" ⟨"PatchVoices$Voice", "nextLow", "(I)I"⟩ ⟨"PatchVoices$Voice", "nextLow", "(I)I"⟩ ∈ pv_TB := pv_mem (i := 57) (by decide +kernel) (by decide +kernel)
theorem w_1002 : Cond.code ⟨"PatchVoices$Voice", "nextLow", "(I)I"⟩ prog_6_method_15_code 6 (Option.some .int) ∈ pv_TB := pv_mem (i := 1002) (by decide +kernel) (by decide +kernel)
theorem cv_Vc_142 : pv_CV pv_TB "PatchVoices$Voice" "PatchVoices$Voice" 142 y_Vc_nextLow prog_6_method_15_code 6 (some .int) 1 := ⟨⟨rfl, by decide +kernel, by decide +kernel, by decide +kernel⟩, w_999, w_1001, w_57, w_114, w_1002⟩
theorem w_1009 : Cond.methodLink "PatchVoices$Voice" 148 ⟨"PatchVoices$Kinds", "plainValue", "(IIII)I"⟩ ∈ pv_TB := pv_mem (i := 1009) (by decide +kernel) (by decide +kernel)
theorem cs_Vc_148 : pv_CS pv_TB "PatchVoices$Voice" 148 y_Kd_plainValue prog_2_method_7_code 4 (some .int) 4 := ⟨⟨by decide +kernel, by decide +kernel, by decide +kernel⟩, w_1009, w_635, w_117, w_636⟩
theorem w_1005 : Cond.methodLink "PatchVoices$Voice" 145 ⟨"PatchVoices$Voice", "nextHeld", "(I)I"⟩ ∈ pv_TB := pv_mem (i := 1005) (by decide +kernel) (by decide +kernel)
theorem w_1007 : Cond.instanceMethod ⟨"PatchVoices$Voice", "nextHeld", "(I)I"⟩ ∈ pv_TB := pv_mem (i := 1007) (by decide +kernel) (by decide +kernel)
theorem w_58 : Cond.selects "PatchVoices$Voice" ⟨"PatchVoices$Voice", "nextHeld", "(I)I"⟩ ⟨"PatchVoices$Voice", "nextHeld", "(I)I"⟩ ∈ pv_TB := pv_mem (i := 58) (by decide +kernel) (by decide +kernel)
theorem w_1008 : Cond.code ⟨"PatchVoices$Voice", "nextHeld", "(I)I"⟩ prog_6_method_16_code 3 (Option.some .int) ∈ pv_TB := pv_mem (i := 1008) (by decide +kernel) (by decide +kernel)
theorem cv_Vc_145 : pv_CV pv_TB "PatchVoices$Voice" "PatchVoices$Voice" 145 y_Vc_nextHeld prog_6_method_16_code 3 (some .int) 1 := ⟨⟨rfl, by decide +kernel, by decide +kernel, by decide +kernel⟩, w_1005, w_1007, w_58, w_114, w_1008⟩
abbrev y_Vc_nextValue : MethodName := ⟨"PatchVoices$Voice", "nextValue", "(II[I)I"⟩
theorem w_265 : Cond.fieldLink "PatchVoices$Voice" 91 "PatchVoices$Program" "lineStart" "[I" ∈ pv_TB := pv_mem (i := 265) (by decide +kernel) (by decide +kernel)
theorem fl_Vc_91 : pv_FL pv_TB pv_cl "PatchVoices$Voice" 91 3 5 := ⟨R_Pg, F_Pg, 9, rfl, by decide, in_Pg, w_265⟩
abbrev y_Vc_put : MethodName := ⟨"PatchVoices$Voice", "put", "(LPatchVoices$Program;I)V"⟩
theorem fl_Vc_38 : pv_FL pv_TB pv_cl "PatchVoices$Voice" 38 5 2 := ⟨R_Vc, F_Vc, 14, rfl, by decide, in_Vc, w_299⟩
theorem fl_Vc_48 : pv_FL pv_TB pv_cl "PatchVoices$Voice" 48 5 9 := ⟨R_Vc, F_Vc, 14, rfl, by decide, in_Vc, w_311⟩
theorem fl_Vc_44 : pv_FL pv_TB pv_cl "PatchVoices$Voice" 44 5 4 := ⟨R_Vc, F_Vc, 14, rfl, by decide, in_Vc, w_303⟩
abbrev y_Vc_listen : MethodName := ⟨"PatchVoices$Voice", "listen", "(I)V"⟩
theorem w_259 : Cond.fieldLink "PatchVoices$Voice" 85 "PatchVoices$Program" "firstPut" "I" ∈ pv_TB := pv_mem (i := 259) (by decide +kernel) (by decide +kernel)
theorem fl_Vc_85 : pv_FL pv_TB pv_cl "PatchVoices$Voice" 85 3 2 := ⟨R_Pg, F_Pg, 9, rfl, by decide, in_Pg, w_259⟩
theorem w_261 : Cond.fieldLink "PatchVoices$Voice" 88 "PatchVoices$Program" "stepModule" "[I" ∈ pv_TB := pv_mem (i := 261) (by decide +kernel) (by decide +kernel)
theorem fl_Vc_88 : pv_FL pv_TB pv_cl "PatchVoices$Voice" 88 3 3 := ⟨R_Pg, F_Pg, 9, rfl, by decide, in_Pg, w_261⟩
theorem w_956 : Cond.methodLink "PatchVoices$Voice" 94 ⟨"PatchVoices$Voice", "readInputs", "(LPatchVoices$Wiring;I)V"⟩ ∈ pv_TB := pv_mem (i := 956) (by decide +kernel) (by decide +kernel)
theorem w_958 : Cond.instanceMethod ⟨"PatchVoices$Voice", "readInputs", "(LPatchVoices$Wiring;I)V"⟩ ∈ pv_TB := pv_mem (i := 958) (by decide +kernel) (by decide +kernel)
theorem w_50 : Cond.selects "PatchVoices$Voice" ⟨"PatchVoices$Voice", "readInputs", "(LPatchVoices$Wiring;I)V"⟩ ⟨"PatchVoices$Voice", "readInputs", "(LPatchVoices$Wiring;I)V"⟩ ∈ pv_TB := pv_mem (i := 50) (by decide +kernel) (by decide +kernel)
theorem w_959 : Cond.code ⟨"PatchVoices$Voice", "readInputs", "(LPatchVoices$Wiring;I)V"⟩ prog_6_method_6_code 4 (Option.none : Option Jvm.ClassFile.FieldType) ∈ pv_TB := pv_mem (i := 959) (by decide +kernel) (by decide +kernel)
theorem cv_Vc_94 : pv_CV pv_TB "PatchVoices$Voice" "PatchVoices$Voice" 94 y_Vc_readInputs prog_6_method_6_code 4 none 2 := ⟨⟨rfl, by decide +kernel, by decide +kernel, by decide +kernel⟩, w_956, w_958, w_50, w_114, w_959⟩
theorem w_964 : Cond.methodLink "PatchVoices$Voice" 98 ⟨"PatchVoices$Voice", "nextValue", "(II[I)I"⟩ ∈ pv_TB := pv_mem (i := 964) (by decide +kernel) (by decide +kernel)
theorem w_966 : Cond.instanceMethod ⟨"PatchVoices$Voice", "nextValue", "(II[I)I"⟩ ∈ pv_TB := pv_mem (i := 966) (by decide +kernel) (by decide +kernel)
theorem w_52 : Cond.selects "PatchVoices$Voice" ⟨"PatchVoices$Voice", "nextValue", "(II[I)I"⟩ ⟨"PatchVoices$Voice", "nextValue", "(II[I)I"⟩ ∈ pv_TB := pv_mem (i := 52) (by decide +kernel) (by decide +kernel)
theorem w_967 : Cond.code ⟨"PatchVoices$Voice", "nextValue", "(II[I)I"⟩ prog_6_method_10_code 4 (Option.some .int) ∈ pv_TB := pv_mem (i := 967) (by decide +kernel) (by decide +kernel)
theorem cv_Vc_98 : pv_CV pv_TB "PatchVoices$Voice" "PatchVoices$Voice" 98 y_Vc_nextValue prog_6_method_10_code 4 (some .int) 3 := ⟨⟨rfl, by decide +kernel, by decide +kernel, by decide +kernel⟩, w_964, w_966, w_52, w_114, w_967⟩
theorem w_256 : Cond.fieldLink "PatchVoices$Voice" 102 "PatchVoices$Program" "stepCount" "I" ∈ pv_TB := pv_mem (i := 256) (by decide +kernel) (by decide +kernel)
theorem fl_Vc_102 : pv_FL pv_TB pv_cl "PatchVoices$Voice" 102 3 1 := ⟨R_Pg, F_Pg, 9, rfl, by decide, in_Pg, w_256⟩
theorem w_1014 : Cond.methodLink "PatchVoices$Voice" 109 ⟨"PatchVoices$Wiring", "outputModule", "()I"⟩ ∈ pv_TB := pv_mem (i := 1014) (by decide +kernel) (by decide +kernel)
theorem cv_Vc_109 : pv_CV pv_TB "PatchVoices$Voice" "PatchVoices$Wiring" 109 y_Wr_outputModule prog_7_method_3_code 1 (some .int) 0 := ⟨⟨rfl, by decide +kernel, by decide +kernel, by decide +kernel⟩, w_1014, w_675, w_676, w_113, w_677⟩
theorem w_1015 : Cond.methodLink "PatchVoices$Voice" 113 ⟨"PatchVoices$Wiring", "outputNumber", "()I"⟩ ∈ pv_TB := pv_mem (i := 1015) (by decide +kernel) (by decide +kernel)
theorem w_1016 : Cond.instanceMethod ⟨"PatchVoices$Wiring", "outputNumber", "()I"⟩ ∈ pv_TB := pv_mem (i := 1016) (by decide +kernel) (by decide +kernel)
theorem w_1017 : Cond.selects "PatchVoices$Wiring" ⟨"PatchVoices$Wiring", "outputNumber", "()I"⟩ ⟨"PatchVoices$Wiring", "outputNumber", "()I"⟩ ∈ pv_TB := pv_mem (i := 1017) (by decide +kernel) (by decide +kernel)
theorem w_1018 : Cond.code ⟨"PatchVoices$Wiring", "outputNumber", "()I"⟩ prog_7_method_4_code 1 (Option.some .int) ∈ pv_TB := pv_mem (i := 1018) (by decide +kernel) (by decide +kernel)
theorem cv_Vc_113 : pv_CV pv_TB "PatchVoices$Voice" "PatchVoices$Wiring" 113 y_Wr_outputNumber prog_7_method_4_code 1 (some .int) 0 := ⟨⟨rfl, by decide +kernel, by decide +kernel, by decide +kernel⟩, w_1015, w_1016, w_1017, w_113, w_1018⟩
theorem w_1010 : Cond.methodLink "PatchVoices$Voice" 105 ⟨"PatchVoices$Voice", "put", "(LPatchVoices$Program;I)V"⟩ ∈ pv_TB := pv_mem (i := 1010) (by decide +kernel) (by decide +kernel)
theorem w_1012 : Cond.instanceMethod ⟨"PatchVoices$Voice", "put", "(LPatchVoices$Program;I)V"⟩ ∈ pv_TB := pv_mem (i := 1012) (by decide +kernel) (by decide +kernel)
theorem w_59 : Cond.selects "PatchVoices$Voice" ⟨"PatchVoices$Voice", "put", "(LPatchVoices$Program;I)V"⟩ ⟨"PatchVoices$Voice", "put", "(LPatchVoices$Program;I)V"⟩ ∈ pv_TB := pv_mem (i := 59) (by decide +kernel) (by decide +kernel)
theorem w_1013 : Cond.code ⟨"PatchVoices$Voice", "put", "(LPatchVoices$Program;I)V"⟩ prog_6_method_8_code 5 (Option.none : Option Jvm.ClassFile.FieldType) ∈ pv_TB := pv_mem (i := 1013) (by decide +kernel) (by decide +kernel)
theorem cv_Vc_105 : pv_CV pv_TB "PatchVoices$Voice" "PatchVoices$Voice" 105 y_Vc_put prog_6_method_8_code 5 none 2 := ⟨⟨rfl, by decide +kernel, by decide +kernel, by decide +kernel⟩, w_1010, w_1012, w_59, w_114, w_1013⟩
theorem w_1019 : Cond.methodLink "PatchVoices$Voice" 116 ⟨"PatchVoices$Voice", "listen", "(I)V"⟩ ∈ pv_TB := pv_mem (i := 1019) (by decide +kernel) (by decide +kernel)
theorem w_1021 : Cond.instanceMethod ⟨"PatchVoices$Voice", "listen", "(I)V"⟩ ∈ pv_TB := pv_mem (i := 1021) (by decide +kernel) (by decide +kernel)
theorem w_60 : Cond.selects "PatchVoices$Voice" ⟨"PatchVoices$Voice", "listen", "(I)V"⟩ ⟨"PatchVoices$Voice", "listen", "(I)V"⟩ ∈ pv_TB := pv_mem (i := 60) (by decide +kernel) (by decide +kernel)
theorem w_1022 : Cond.code ⟨"PatchVoices$Voice", "listen", "(I)V"⟩ prog_6_method_9_code 2 (Option.none : Option Jvm.ClassFile.FieldType) ∈ pv_TB := pv_mem (i := 1022) (by decide +kernel) (by decide +kernel)
theorem cv_Vc_116 : pv_CV pv_TB "PatchVoices$Voice" "PatchVoices$Voice" 116 y_Vc_listen prog_6_method_9_code 2 none 1 := ⟨⟨rfl, by decide +kernel, by decide +kernel, by decide +kernel⟩, w_1019, w_1021, w_60, w_114, w_1022⟩
abbrev y_Vc_play : MethodName := ⟨"PatchVoices$Voice", "play", "(LPatchVoices$Program;[I)I"⟩
abbrev y_PV_byteOf : MethodName := ⟨"PatchVoices", "byteOf", "(JI)I"⟩
theorem w_346 : Cond.fieldLink "PatchVoices" 48 "PatchVoices" "length" "I" ∈ pv_TB := pv_mem (i := 346) (by decide +kernel) (by decide +kernel)
theorem w_357 : Cond.laysFinal "PatchVoices" "PatchVoices" "text" "[C" ∈ pv_TB := pv_mem (i := 357) (by decide +kernel) (by decide +kernel)
theorem w_359 : Cond.lays "PatchVoices" "PatchVoices" "length" "I" ∈ pv_TB := pv_mem (i := 359) (by decide +kernel) (by decide +kernel)
theorem w_361 : Cond.laysFinal "PatchVoices" "PatchVoices" "reader" "LPatchVoices$Reader;" ∈ pv_TB := pv_mem (i := 361) (by decide +kernel) (by decide +kernel)
theorem w_363 : Cond.laysFinal "PatchVoices" "PatchVoices" "program" "LPatchVoices$Program;" ∈ pv_TB := pv_mem (i := 363) (by decide +kernel) (by decide +kernel)
theorem w_365 : Cond.lays "PatchVoices" "PatchVoices" "optimising" "Z" ∈ pv_TB := pv_mem (i := 365) (by decide +kernel) (by decide +kernel)
theorem w_367 : Cond.lays "PatchVoices" "PatchVoices" "faulty" "I" ∈ pv_TB := pv_mem (i := 367) (by decide +kernel) (by decide +kernel)
theorem w_369 : Cond.laysFinal "PatchVoices" "PatchVoices" "desk" "[LPatchVoices$Voice;" ∈ pv_TB := pv_mem (i := 369) (by decide +kernel) (by decide +kernel)
theorem w_371 : Cond.lays "PatchVoices" "PatchVoices" "voiceCount" "I" ∈ pv_TB := pv_mem (i := 371) (by decide +kernel) (by decide +kernel)
theorem w_373 : Cond.lays "PatchVoices" "PatchVoices" "takings" "J" ∈ pv_TB := pv_mem (i := 373) (by decide +kernel) (by decide +kernel)
theorem w_375 : Cond.laysFinal "PatchVoices" "PatchVoices" "knobs" "[I" ∈ pv_TB := pv_mem (i := 375) (by decide +kernel) (by decide +kernel)
theorem w_377 : Cond.laysFinal "PatchVoices" "PatchVoices" "samples" "[I" ∈ pv_TB := pv_mem (i := 377) (by decide +kernel) (by decide +kernel)
theorem w_379 : Cond.lays "PatchVoices" "PatchVoices" "sampleCount" "I" ∈ pv_TB := pv_mem (i := 379) (by decide +kernel) (by decide +kernel)
theorem in_PV : ∀ w ∈ u_ws R_PV F_PV 12, w ∈ pv_TB := by
  intro w hw
  have hw : w ∈ [u_lay R_PV F_PV 0, u_lay R_PV F_PV 1, u_lay R_PV F_PV 2, u_lay R_PV F_PV 3, u_lay R_PV F_PV 4, u_lay R_PV F_PV 5, u_lay R_PV F_PV 6, u_lay R_PV F_PV 7, u_lay R_PV F_PV 8, u_lay R_PV F_PV 9, u_lay R_PV F_PV 10, u_lay R_PV F_PV 11] := hw
  simp only [List.mem_cons, List.not_mem_nil, or_false] at hw
  rcases hw with rfl | rfl | rfl | rfl | rfl | rfl | rfl | rfl | rfl | rfl | rfl | rfl
  · exact w_357
  · exact w_359
  · exact w_361
  · exact w_363
  · exact w_365
  · exact w_367
  · exact w_369
  · exact w_371
  · exact w_373
  · exact w_375
  · exact w_377
  · exact w_379
theorem fl_PV_48 : pv_FL pv_TB pv_cl "PatchVoices" 48 0 1 := ⟨R_PV, F_PV, 12, rfl, by decide, in_PV, w_346⟩
theorem w_386 : Cond.methodLink "PatchVoices" 51 ⟨"PatchVoices", "byteOf", "(JI)I"⟩ ∈ pv_TB := pv_mem (i := 386) (by decide +kernel) (by decide +kernel)
theorem w_387 : Cond.static ⟨"PatchVoices", "byteOf", "(JI)I"⟩ ∈ pv_TB := pv_mem (i := 387) (by decide +kernel) (by decide +kernel)
theorem w_109 : Cond.initialized "PatchVoices" ∈ pv_TB := pv_mem (i := 109) (by decide +kernel) (by decide +kernel)
theorem w_388 : Cond.code ⟨"PatchVoices", "byteOf", "(JI)I"⟩ prog_1_method_3_code 3 (Option.some .int) ∈ pv_TB := pv_mem (i := 388) (by decide +kernel) (by decide +kernel)
theorem cs_PV_51 : pv_CS pv_TB "PatchVoices" 51 y_PV_byteOf prog_1_method_3_code 3 (some .int) 2 := ⟨⟨by decide +kernel, by decide +kernel, by decide +kernel⟩, w_386, w_387, w_109, w_388⟩
theorem w_345 : Cond.fieldLink "PatchVoices" 9 "PatchVoices" "text" "[C" ∈ pv_TB := pv_mem (i := 345) (by decide +kernel) (by decide +kernel)
theorem fl_PV_9 : pv_FL pv_TB pv_cl "PatchVoices" 9 0 0 := ⟨R_PV, F_PV, 12, rfl, by decide, in_PV, w_345⟩
theorem fw_PV_48 : pv_FW pv_TB pv_cl "PatchVoices" 48 0 1 .int := ⟨R_PV, F_PV, 12, t_PV, rfl, by decide, in_PV, w_346, o_PV, n_PV, rfl, by decide +kernel⟩
abbrev y_PV_type : MethodName := ⟨"PatchVoices", "type", "(JI)I"⟩
abbrev y_PV_erase : MethodName := ⟨"PatchVoices", "erase", "()I"⟩
theorem w_356 : Cond.fieldLink "PatchVoices" 169 "PatchVoices" "sampleCount" "I" ∈ pv_TB := pv_mem (i := 356) (by decide +kernel) (by decide +kernel)
theorem fw_PV_169 : pv_FW pv_TB pv_cl "PatchVoices" 169 0 11 .int := ⟨R_PV, F_PV, 12, t_PV, rfl, by decide, in_PV, w_356, o_PV, n_PV, rfl, by decide +kernel⟩
theorem w_351 : Cond.fieldLink "PatchVoices" 33 "PatchVoices" "desk" "[LPatchVoices$Voice;" ∈ pv_TB := pv_mem (i := 351) (by decide +kernel) (by decide +kernel)
theorem fl_PV_33 : pv_FL pv_TB pv_cl "PatchVoices" 33 0 6 := ⟨R_PV, F_PV, 12, rfl, by decide, in_PV, w_351⟩
theorem w_724 : Cond.methodLink "PatchVoices" 217 ⟨"PatchVoices$Voice", "release", "()V"⟩ ∈ pv_TB := pv_mem (i := 724) (by decide +kernel) (by decide +kernel)
theorem w_725 : Cond.instanceMethod ⟨"PatchVoices$Voice", "release", "()V"⟩ ∈ pv_TB := pv_mem (i := 725) (by decide +kernel) (by decide +kernel)
theorem w_726 : Cond.selects "PatchVoices$Voice" ⟨"PatchVoices$Voice", "release", "()V"⟩ ⟨"PatchVoices$Voice", "release", "()V"⟩ ∈ pv_TB := pv_mem (i := 726) (by decide +kernel) (by decide +kernel)
theorem w_727 : Cond.code ⟨"PatchVoices$Voice", "release", "()V"⟩ prog_6_method_2_code 1 (Option.none : Option Jvm.ClassFile.FieldType) ∈ pv_TB := pv_mem (i := 727) (by decide +kernel) (by decide +kernel)
theorem cv_PV_217 : pv_CV pv_TB "PatchVoices" "PatchVoices$Voice" 217 y_Vc_release prog_6_method_2_code 1 none 0 := ⟨⟨rfl, by decide +kernel, by decide +kernel, by decide +kernel⟩, w_724, w_725, w_726, w_114, w_727⟩
abbrev y_PV_fallSilent : MethodName := ⟨"PatchVoices", "fallSilent", "()V"⟩
theorem w_350 : Cond.fieldLink "PatchVoices" 27 "PatchVoices" "faulty" "I" ∈ pv_TB := pv_mem (i := 350) (by decide +kernel) (by decide +kernel)
theorem fw_PV_27 : pv_FW pv_TB pv_cl "PatchVoices" 27 0 5 .int := ⟨R_PV, F_PV, 12, t_PV, rfl, by decide, in_PV, w_350, o_PV, n_PV, rfl, by decide +kernel⟩
theorem w_347 : Cond.fieldLink "PatchVoices" 16 "PatchVoices" "reader" "LPatchVoices$Reader;" ∈ pv_TB := pv_mem (i := 347) (by decide +kernel) (by decide +kernel)
theorem fl_PV_16 : pv_FL pv_TB pv_cl "PatchVoices" 16 0 2 := ⟨R_PV, F_PV, 12, rfl, by decide, in_PV, w_347⟩
theorem w_397 : Cond.methodLink "PatchVoices" 55 ⟨"PatchVoices$Reader", "read", "([CI)I"⟩ ∈ pv_TB := pv_mem (i := 397) (by decide +kernel) (by decide +kernel)
theorem w_398 : Cond.instanceMethod ⟨"PatchVoices$Reader", "read", "([CI)I"⟩ ∈ pv_TB := pv_mem (i := 398) (by decide +kernel) (by decide +kernel)
theorem w_399 : Cond.selects "PatchVoices$Reader" ⟨"PatchVoices$Reader", "read", "([CI)I"⟩ ⟨"PatchVoices$Reader", "read", "([CI)I"⟩ ∈ pv_TB := pv_mem (i := 399) (by decide +kernel) (by decide +kernel)
theorem w_400 : Cond.code ⟨"PatchVoices$Reader", "read", "([CI)I"⟩ prog_5_method_2_code 5 (Option.some .int) ∈ pv_TB := pv_mem (i := 400) (by decide +kernel) (by decide +kernel)
theorem cv_PV_55 : pv_CV pv_TB "PatchVoices" "PatchVoices$Reader" 55 y_Rd_read prog_5_method_2_code 5 (some .int) 2 := ⟨⟨rfl, by decide +kernel, by decide +kernel, by decide +kernel⟩, w_397, w_398, w_399, w_110, w_400⟩
theorem w_186 : Cond.fieldLink "PatchVoices" 59 "PatchVoices$Reader" "patch" "LPatchVoices$Patch;" ∈ pv_TB := pv_mem (i := 186) (by decide +kernel) (by decide +kernel)
theorem fl_PV_59 : pv_FL pv_TB pv_cl "PatchVoices" 59 1 0 := ⟨R_Rd, F_Rd, 5, rfl, by decide, in_Rd, w_186⟩
theorem w_536 : Cond.methodLink "PatchVoices" 63 ⟨"PatchVoices$Patch", "tieCords", "()V"⟩ ∈ pv_TB := pv_mem (i := 536) (by decide +kernel) (by decide +kernel)
theorem w_537 : Cond.instanceMethod ⟨"PatchVoices$Patch", "tieCords", "()V"⟩ ∈ pv_TB := pv_mem (i := 537) (by decide +kernel) (by decide +kernel)
theorem w_538 : Cond.selects "PatchVoices$Patch" ⟨"PatchVoices$Patch", "tieCords", "()V"⟩ ⟨"PatchVoices$Patch", "tieCords", "()V"⟩ ∈ pv_TB := pv_mem (i := 538) (by decide +kernel) (by decide +kernel)
theorem w_539 : Cond.code ⟨"PatchVoices$Patch", "tieCords", "()V"⟩ prog_3_method_12_code 2 (Option.none : Option Jvm.ClassFile.FieldType) ∈ pv_TB := pv_mem (i := 539) (by decide +kernel) (by decide +kernel)
theorem cv_PV_63 : pv_CV pv_TB "PatchVoices" "PatchVoices$Patch" 63 y_Pt_tieCords prog_3_method_12_code 2 none 0 := ⟨⟨rfl, by decide +kernel, by decide +kernel, by decide +kernel⟩, w_536, w_537, w_538, w_111, w_539⟩
theorem w_552 : Cond.methodLink "PatchVoices" 68 ⟨"PatchVoices$Patch", "firstFault", "()I"⟩ ∈ pv_TB := pv_mem (i := 552) (by decide +kernel) (by decide +kernel)
theorem w_553 : Cond.instanceMethod ⟨"PatchVoices$Patch", "firstFault", "()I"⟩ ∈ pv_TB := pv_mem (i := 553) (by decide +kernel) (by decide +kernel)
theorem w_554 : Cond.selects "PatchVoices$Patch" ⟨"PatchVoices$Patch", "firstFault", "()I"⟩ ⟨"PatchVoices$Patch", "firstFault", "()I"⟩ ∈ pv_TB := pv_mem (i := 554) (by decide +kernel) (by decide +kernel)
theorem w_555 : Cond.code ⟨"PatchVoices$Patch", "firstFault", "()I"⟩ prog_3_method_16_code 2 (Option.some .int) ∈ pv_TB := pv_mem (i := 555) (by decide +kernel) (by decide +kernel)
theorem cv_PV_68 : pv_CV pv_TB "PatchVoices" "PatchVoices$Patch" 68 y_Pt_firstFault prog_3_method_16_code 2 (some .int) 0 := ⟨⟨rfl, by decide +kernel, by decide +kernel, by decide +kernel⟩, w_552, w_553, w_554, w_111, w_555⟩
theorem w_348 : Cond.fieldLink "PatchVoices" 23 "PatchVoices" "program" "LPatchVoices$Program;" ∈ pv_TB := pv_mem (i := 348) (by decide +kernel) (by decide +kernel)
theorem fl_PV_23 : pv_FL pv_TB pv_cl "PatchVoices" 23 0 3 := ⟨R_PV, F_PV, 12, rfl, by decide, in_PV, w_348⟩
theorem w_349 : Cond.fieldLink "PatchVoices" 76 "PatchVoices" "optimising" "Z" ∈ pv_TB := pv_mem (i := 349) (by decide +kernel) (by decide +kernel)
theorem fl_PV_76 : pv_FL pv_TB pv_cl "PatchVoices" 76 0 4 := ⟨R_PV, F_PV, 12, rfl, by decide, in_PV, w_349⟩
theorem w_588 : Cond.methodLink "PatchVoices" 80 ⟨"PatchVoices$Program", "make", "(LPatchVoices$Patch;Z)V"⟩ ∈ pv_TB := pv_mem (i := 588) (by decide +kernel) (by decide +kernel)
theorem w_589 : Cond.instanceMethod ⟨"PatchVoices$Program", "make", "(LPatchVoices$Patch;Z)V"⟩ ∈ pv_TB := pv_mem (i := 589) (by decide +kernel) (by decide +kernel)
theorem w_590 : Cond.selects "PatchVoices$Program" ⟨"PatchVoices$Program", "make", "(LPatchVoices$Patch;Z)V"⟩ ⟨"PatchVoices$Program", "make", "(LPatchVoices$Patch;Z)V"⟩ ∈ pv_TB := pv_mem (i := 590) (by decide +kernel) (by decide +kernel)
theorem w_591 : Cond.code ⟨"PatchVoices$Program", "make", "(LPatchVoices$Patch;Z)V"⟩ prog_4_method_3_code 3 (Option.none : Option Jvm.ClassFile.FieldType) ∈ pv_TB := pv_mem (i := 591) (by decide +kernel) (by decide +kernel)
theorem cv_PV_80 : pv_CV pv_TB "PatchVoices" "PatchVoices$Program" 80 y_Pg_make prog_4_method_3_code 3 none 2 := ⟨⟨rfl, by decide +kernel, by decide +kernel, by decide +kernel⟩, w_588, w_589, w_590, w_112, w_591⟩
theorem w_720 : Cond.methodLink "PatchVoices" 84 ⟨"PatchVoices", "fallSilent", "()V"⟩ ∈ pv_TB := pv_mem (i := 720) (by decide +kernel) (by decide +kernel)
theorem w_722 : Cond.instanceMethod ⟨"PatchVoices", "fallSilent", "()V"⟩ ∈ pv_TB := pv_mem (i := 722) (by decide +kernel) (by decide +kernel)
theorem w_40 : Cond.selects "PatchVoices" ⟨"PatchVoices", "fallSilent", "()V"⟩ ⟨"PatchVoices", "fallSilent", "()V"⟩ ∈ pv_TB := pv_mem (i := 40) (by decide +kernel) (by decide +kernel)
theorem w_723 : Cond.code ⟨"PatchVoices", "fallSilent", "()V"⟩ prog_1_method_25_code 2 (Option.none : Option Jvm.ClassFile.FieldType) ∈ pv_TB := pv_mem (i := 723) (by decide +kernel) (by decide +kernel)
theorem cv_PV_84 : pv_CV pv_TB "PatchVoices" "PatchVoices" 84 y_PV_fallSilent prog_1_method_25_code 2 none 0 := ⟨⟨rfl, by decide +kernel, by decide +kernel, by decide +kernel⟩, w_720, w_722, w_40, w_109, w_723⟩
theorem w_587 : Cond.methodLink "PatchVoices" 72 ⟨"PatchVoices$Patch", "leastWith", "(I)I"⟩ ∈ pv_TB := pv_mem (i := 587) (by decide +kernel) (by decide +kernel)
theorem cv_PV_72 : pv_CV pv_TB "PatchVoices" "PatchVoices$Patch" 72 y_Pt_leastWith prog_3_method_17_code 3 (some .int) 1 := ⟨⟨rfl, by decide +kernel, by decide +kernel, by decide +kernel⟩, w_587, w_559, w_560, w_111, w_561⟩
abbrev y_PV_compile : MethodName := ⟨"PatchVoices", "compile", "()I"⟩
theorem fl_PV_27 : pv_FL pv_TB pv_cl "PatchVoices" 27 0 5 := ⟨R_PV, F_PV, 12, rfl, by decide, in_PV, w_350⟩
abbrev y_PV_named : MethodName := ⟨"PatchVoices", "named", "()I"⟩
theorem fw_PV_76 : pv_FW pv_TB pv_cl "PatchVoices" 76 0 4 .boolean := ⟨R_PV, F_PV, 12, t_PV, rfl, by decide, in_PV, w_349, o_PV, n_PV, rfl, by decide +kernel⟩
abbrev y_PV_optimise : MethodName := ⟨"PatchVoices", "optimise", "(Z)V"⟩
theorem w_257 : Cond.fieldLink "PatchVoices" 87 "PatchVoices$Program" "stepCount" "I" ∈ pv_TB := pv_mem (i := 257) (by decide +kernel) (by decide +kernel)
theorem fl_PV_87 : pv_FL pv_TB pv_cl "PatchVoices" 87 3 1 := ⟨R_Pg, F_Pg, 9, rfl, by decide, in_Pg, w_257⟩
abbrev y_PV_steps : MethodName := ⟨"PatchVoices", "steps", "()I"⟩
theorem w_758 : Cond.classLink "PatchVoices" 90 "java/lang/IndexOutOfBoundsException" ∈ pv_TB := pv_mem (i := 758) (by decide +kernel) (by decide +kernel)
theorem w_759 : Cond.instantiable "java/lang/IndexOutOfBoundsException" 6 ∈ pv_TB := pv_mem (i := 759) (by decide +kernel) (by decide +kernel)
theorem w_128 : Cond.initialized "java/lang/IndexOutOfBoundsException" ∈ pv_TB := pv_mem (i := 128) (by decide +kernel) (by decide +kernel)
theorem w_826 : Cond.classLink "PatchVoices" 97 "java/lang/IllegalArgumentException" ∈ pv_TB := pv_mem (i := 826) (by decide +kernel) (by decide +kernel)
theorem w_827 : Cond.instantiable "java/lang/IllegalArgumentException" 6 ∈ pv_TB := pv_mem (i := 827) (by decide +kernel) (by decide +kernel)
theorem w_129 : Cond.initialized "java/lang/IllegalArgumentException" ∈ pv_TB := pv_mem (i := 129) (by decide +kernel) (by decide +kernel)
theorem w_842 : Cond.methodLink "PatchVoices" 102 ⟨"PatchVoices$Program", "tell", "(II)I"⟩ ∈ pv_TB := pv_mem (i := 842) (by decide +kernel) (by decide +kernel)
theorem w_843 : Cond.instanceMethod ⟨"PatchVoices$Program", "tell", "(II)I"⟩ ∈ pv_TB := pv_mem (i := 843) (by decide +kernel) (by decide +kernel)
theorem w_844 : Cond.selects "PatchVoices$Program" ⟨"PatchVoices$Program", "tell", "(II)I"⟩ ⟨"PatchVoices$Program", "tell", "(II)I"⟩ ∈ pv_TB := pv_mem (i := 844) (by decide +kernel) (by decide +kernel)
theorem w_845 : Cond.code ⟨"PatchVoices$Program", "tell", "(II)I"⟩ prog_4_method_12_code 3 (Option.some .int) ∈ pv_TB := pv_mem (i := 845) (by decide +kernel) (by decide +kernel)
theorem cv_PV_102 : pv_CV pv_TB "PatchVoices" "PatchVoices$Program" 102 y_Pg_tell prog_4_method_12_code 3 (some .int) 2 := ⟨⟨rfl, by decide +kernel, by decide +kernel, by decide +kernel⟩, w_842, w_843, w_844, w_112, w_845⟩
abbrev y_PV_step : MethodName := ⟨"PatchVoices", "step", "(II)I"⟩
theorem w_263 : Cond.fieldLink "PatchVoices" 106 "PatchVoices$Program" "slotCount" "I" ∈ pv_TB := pv_mem (i := 263) (by decide +kernel) (by decide +kernel)
theorem fl_PV_106 : pv_FL pv_TB pv_cl "PatchVoices" 106 3 4 := ⟨R_Pg, F_Pg, 9, rfl, by decide, in_Pg, w_263⟩
abbrev y_PV_slots : MethodName := ⟨"PatchVoices", "slots", "()I"⟩
theorem w_352 : Cond.fieldLink "PatchVoices" 37 "PatchVoices" "voiceCount" "I" ∈ pv_TB := pv_mem (i := 352) (by decide +kernel) (by decide +kernel)
theorem fw_PV_37 : pv_FW pv_TB pv_cl "PatchVoices" 37 0 7 .int := ⟨R_PV, F_PV, 12, t_PV, rfl, by decide, in_PV, w_352, o_PV, n_PV, rfl, by decide +kernel⟩
abbrev y_PV_voices : MethodName := ⟨"PatchVoices", "voices", "(I)V"⟩
theorem fl_PV_37 : pv_FL pv_TB pv_cl "PatchVoices" 37 0 7 := ⟨R_PV, F_PV, 12, rfl, by decide, in_PV, w_352⟩
theorem w_300 : Cond.fieldLink "PatchVoices" 133 "PatchVoices$Voice" "sounding" "Z" ∈ pv_TB := pv_mem (i := 300) (by decide +kernel) (by decide +kernel)
theorem fl_PV_133 : pv_FL pv_TB pv_cl "PatchVoices" 133 5 2 := ⟨R_Vc, F_Vc, 14, rfl, by decide, in_Vc, w_300⟩
theorem w_304 : Cond.fieldLink "PatchVoices" 136 "PatchVoices$Voice" "quiet" "I" ∈ pv_TB := pv_mem (i := 304) (by decide +kernel) (by decide +kernel)
theorem fl_PV_136 : pv_FL pv_TB pv_cl "PatchVoices" 136 5 4 := ⟨R_Vc, F_Vc, 14, rfl, by decide, in_Vc, w_304⟩
abbrev y_PV_longestQuiet : MethodName := ⟨"PatchVoices", "longestQuiet", "()I"⟩
theorem w_306 : Cond.fieldLink "PatchVoices" 139 "PatchVoices$Voice" "taking" "J" ∈ pv_TB := pv_mem (i := 306) (by decide +kernel) (by decide +kernel)
theorem fl_PV_139 : pv_FL pv_TB pv_cl "PatchVoices" 139 5 5 := ⟨R_Vc, F_Vc, 14, rfl, by decide, in_Vc, w_306⟩
abbrev y_PV_longestTaken : MethodName := ⟨"PatchVoices", "longestTaken", "()I"⟩
theorem w_874 : Cond.methodLink "PatchVoices" 127 ⟨"PatchVoices", "longestQuiet", "()I"⟩ ∈ pv_TB := pv_mem (i := 874) (by decide +kernel) (by decide +kernel)
theorem w_876 : Cond.instanceMethod ⟨"PatchVoices", "longestQuiet", "()I"⟩ ∈ pv_TB := pv_mem (i := 876) (by decide +kernel) (by decide +kernel)
theorem w_45 : Cond.selects "PatchVoices" ⟨"PatchVoices", "longestQuiet", "()I"⟩ ⟨"PatchVoices", "longestQuiet", "()I"⟩ ∈ pv_TB := pv_mem (i := 45) (by decide +kernel) (by decide +kernel)
theorem w_877 : Cond.code ⟨"PatchVoices", "longestQuiet", "()I"⟩ prog_1_method_14_code 3 (Option.some .int) ∈ pv_TB := pv_mem (i := 877) (by decide +kernel) (by decide +kernel)
theorem cv_PV_127 : pv_CV pv_TB "PatchVoices" "PatchVoices" 127 y_PV_longestQuiet prog_1_method_14_code 3 (some .int) 0 := ⟨⟨rfl, by decide +kernel, by decide +kernel, by decide +kernel⟩, w_874, w_876, w_45, w_109, w_877⟩
theorem w_878 : Cond.methodLink "PatchVoices" 130 ⟨"PatchVoices", "longestTaken", "()I"⟩ ∈ pv_TB := pv_mem (i := 878) (by decide +kernel) (by decide +kernel)
theorem w_880 : Cond.instanceMethod ⟨"PatchVoices", "longestTaken", "()I"⟩ ∈ pv_TB := pv_mem (i := 880) (by decide +kernel) (by decide +kernel)
theorem w_46 : Cond.selects "PatchVoices" ⟨"PatchVoices", "longestTaken", "()I"⟩ ⟨"PatchVoices", "longestTaken", "()I"⟩ ∈ pv_TB := pv_mem (i := 46) (by decide +kernel) (by decide +kernel)
theorem w_881 : Cond.code ⟨"PatchVoices", "longestTaken", "()I"⟩ prog_1_method_15_code 3 (Option.some .int) ∈ pv_TB := pv_mem (i := 881) (by decide +kernel) (by decide +kernel)
theorem cv_PV_130 : pv_CV pv_TB "PatchVoices" "PatchVoices" 130 y_PV_longestTaken prog_1_method_15_code 3 (some .int) 0 := ⟨⟨rfl, by decide +kernel, by decide +kernel, by decide +kernel⟩, w_878, w_880, w_46, w_109, w_881⟩
theorem w_296 : Cond.fieldLink "PatchVoices" 124 "PatchVoices$Voice" "taken" "Z" ∈ pv_TB := pv_mem (i := 296) (by decide +kernel) (by decide +kernel)
theorem fl_PV_124 : pv_FL pv_TB pv_cl "PatchVoices" 124 5 0 := ⟨R_Vc, F_Vc, 14, rfl, by decide, in_Vc, w_296⟩
abbrev y_PV_voiceToTake : MethodName := ⟨"PatchVoices", "voiceToTake", "()I"⟩
theorem w_870 : Cond.methodLink "PatchVoices" 113 ⟨"PatchVoices", "voiceToTake", "()I"⟩ ∈ pv_TB := pv_mem (i := 870) (by decide +kernel) (by decide +kernel)
theorem w_872 : Cond.instanceMethod ⟨"PatchVoices", "voiceToTake", "()I"⟩ ∈ pv_TB := pv_mem (i := 872) (by decide +kernel) (by decide +kernel)
theorem w_44 : Cond.selects "PatchVoices" ⟨"PatchVoices", "voiceToTake", "()I"⟩ ⟨"PatchVoices", "voiceToTake", "()I"⟩ ∈ pv_TB := pv_mem (i := 44) (by decide +kernel) (by decide +kernel)
theorem w_873 : Cond.code ⟨"PatchVoices", "voiceToTake", "()I"⟩ prog_1_method_13_code 2 (Option.some .int) ∈ pv_TB := pv_mem (i := 873) (by decide +kernel) (by decide +kernel)
theorem cv_PV_113 : pv_CV pv_TB "PatchVoices" "PatchVoices" 113 y_PV_voiceToTake prog_1_method_13_code 2 (some .int) 0 := ⟨⟨rfl, by decide +kernel, by decide +kernel, by decide +kernel⟩, w_870, w_872, w_44, w_109, w_873⟩
theorem w_353 : Cond.fieldLink "PatchVoices" 116 "PatchVoices" "takings" "J" ∈ pv_TB := pv_mem (i := 353) (by decide +kernel) (by decide +kernel)
theorem fl_PV_116 : pv_FL pv_TB pv_cl "PatchVoices" 116 0 8 := ⟨R_PV, F_PV, 12, rfl, by decide, in_PV, w_353⟩
theorem w_882 : Cond.methodLink "PatchVoices" 120 ⟨"PatchVoices$Voice", "take", "(LPatchVoices$Program;IIJ)V"⟩ ∈ pv_TB := pv_mem (i := 882) (by decide +kernel) (by decide +kernel)
theorem w_883 : Cond.instanceMethod ⟨"PatchVoices$Voice", "take", "(LPatchVoices$Program;IIJ)V"⟩ ∈ pv_TB := pv_mem (i := 883) (by decide +kernel) (by decide +kernel)
theorem w_884 : Cond.selects "PatchVoices$Voice" ⟨"PatchVoices$Voice", "take", "(LPatchVoices$Program;IIJ)V"⟩ ⟨"PatchVoices$Voice", "take", "(LPatchVoices$Program;IIJ)V"⟩ ∈ pv_TB := pv_mem (i := 884) (by decide +kernel) (by decide +kernel)
theorem w_885 : Cond.code ⟨"PatchVoices$Voice", "take", "(LPatchVoices$Program;IIJ)V"⟩ prog_6_method_3_code 6 (Option.none : Option Jvm.ClassFile.FieldType) ∈ pv_TB := pv_mem (i := 885) (by decide +kernel) (by decide +kernel)
theorem cv_PV_120 : pv_CV pv_TB "PatchVoices" "PatchVoices$Voice" 120 y_Vc_take prog_6_method_3_code 6 none 4 := ⟨⟨rfl, by decide +kernel, by decide +kernel, by decide +kernel⟩, w_882, w_883, w_884, w_114, w_885⟩
theorem fw_PV_116 : pv_FW pv_TB pv_cl "PatchVoices" 116 0 8 .long := ⟨R_PV, F_PV, 12, t_PV, rfl, by decide, in_PV, w_353, o_PV, n_PV, rfl, by decide +kernel⟩
abbrev y_PV_note : MethodName := ⟨"PatchVoices", "note", "(II)I"⟩
abbrev y_PV_isNoVoice : MethodName := ⟨"PatchVoices", "isNoVoice", "(I)Z"⟩
theorem w_899 : Cond.methodLink "PatchVoices" 142 ⟨"PatchVoices", "isNoVoice", "(I)Z"⟩ ∈ pv_TB := pv_mem (i := 899) (by decide +kernel) (by decide +kernel)
theorem w_901 : Cond.instanceMethod ⟨"PatchVoices", "isNoVoice", "(I)Z"⟩ ∈ pv_TB := pv_mem (i := 901) (by decide +kernel) (by decide +kernel)
theorem w_48 : Cond.selects "PatchVoices" ⟨"PatchVoices", "isNoVoice", "(I)Z"⟩ ⟨"PatchVoices", "isNoVoice", "(I)Z"⟩ ∈ pv_TB := pv_mem (i := 48) (by decide +kernel) (by decide +kernel)
theorem w_902 : Cond.code ⟨"PatchVoices", "isNoVoice", "(I)Z"⟩ prog_1_method_18_code 2 (Option.some .boolean) ∈ pv_TB := pv_mem (i := 902) (by decide +kernel) (by decide +kernel)
theorem cv_PV_142 : pv_CV pv_TB "PatchVoices" "PatchVoices" 142 y_PV_isNoVoice prog_1_method_18_code 2 (some .boolean) 1 := ⟨⟨rfl, by decide +kernel, by decide +kernel, by decide +kernel⟩, w_899, w_901, w_48, w_109, w_902⟩
theorem w_298 : Cond.fieldLink "PatchVoices" 148 "PatchVoices$Voice" "gate" "Z" ∈ pv_TB := pv_mem (i := 298) (by decide +kernel) (by decide +kernel)
theorem fl_PV_148 : pv_FL pv_TB pv_cl "PatchVoices" 148 5 1 := ⟨R_Vc, F_Vc, 14, rfl, by decide, in_Vc, w_298⟩
theorem fw_PV_148 : pv_FW pv_TB pv_cl "PatchVoices" 148 5 1 .boolean := ⟨R_Vc, F_Vc, 14, t_Vc, rfl, by decide, in_Vc, w_298, o_Vc, n_Vc, rfl, by decide +kernel⟩
theorem w_904 : Cond.classLink "PatchVoices" 151 "java/lang/IllegalStateException" ∈ pv_TB := pv_mem (i := 904) (by decide +kernel) (by decide +kernel)
theorem w_905 : Cond.instantiable "java/lang/IllegalStateException" 6 ∈ pv_TB := pv_mem (i := 905) (by decide +kernel) (by decide +kernel)
theorem w_130 : Cond.initialized "java/lang/IllegalStateException" ∈ pv_TB := pv_mem (i := 130) (by decide +kernel) (by decide +kernel)
abbrev y_PV_off : MethodName := ⟨"PatchVoices", "off", "(I)V"⟩
abbrev y_PV_active : MethodName := ⟨"PatchVoices", "active", "(I)Z"⟩
theorem w_354 : Cond.fieldLink "PatchVoices" 40 "PatchVoices" "knobs" "[I" ∈ pv_TB := pv_mem (i := 354) (by decide +kernel) (by decide +kernel)
theorem fl_PV_40 : pv_FL pv_TB pv_cl "PatchVoices" 40 0 9 := ⟨R_PV, F_PV, 12, rfl, by decide, in_PV, w_354⟩
abbrev y_PV_knob : MethodName := ⟨"PatchVoices", "knob", "(II)V"⟩
theorem w_1023 : Cond.constantLong "PatchVoices" 176 (-32768 : Int64) ∈ pv_TB := pv_mem (i := 1023) (by decide +kernel) (by decide +kernel)
theorem w_1024 : Cond.constantLong "PatchVoices" 178 (32767 : Int64) ∈ pv_TB := pv_mem (i := 1024) (by decide +kernel) (by decide +kernel)
theorem w_1025 : Cond.methodLink "PatchVoices" 180 ⟨"java/lang/Math", "min", "(JJ)J"⟩ ∈ pv_TB := pv_mem (i := 1025) (by decide +kernel) (by decide +kernel)
theorem w_1026 : Cond.methodLink "PatchVoices" 186 ⟨"java/lang/Math", "max", "(JJ)J"⟩ ∈ pv_TB := pv_mem (i := 1026) (by decide +kernel) (by decide +kernel)
theorem w_952 : Cond.methodLink "PatchVoices" 172 ⟨"PatchVoices$Voice", "play", "(LPatchVoices$Program;[I)I"⟩ ∈ pv_TB := pv_mem (i := 952) (by decide +kernel) (by decide +kernel)
theorem w_953 : Cond.instanceMethod ⟨"PatchVoices$Voice", "play", "(LPatchVoices$Program;[I)I"⟩ ∈ pv_TB := pv_mem (i := 953) (by decide +kernel) (by decide +kernel)
theorem w_954 : Cond.selects "PatchVoices$Voice" ⟨"PatchVoices$Voice", "play", "(LPatchVoices$Program;[I)I"⟩ ⟨"PatchVoices$Voice", "play", "(LPatchVoices$Program;[I)I"⟩ ∈ pv_TB := pv_mem (i := 954) (by decide +kernel) (by decide +kernel)
theorem w_955 : Cond.code ⟨"PatchVoices$Voice", "play", "(LPatchVoices$Program;[I)I"⟩ prog_6_method_5_code 6 (Option.some .int) ∈ pv_TB := pv_mem (i := 955) (by decide +kernel) (by decide +kernel)
theorem cv_PV_172 : pv_CV pv_TB "PatchVoices" "PatchVoices$Voice" 172 y_Vc_play prog_6_method_5_code 6 (some .int) 2 := ⟨⟨rfl, by decide +kernel, by decide +kernel, by decide +kernel⟩, w_952, w_953, w_954, w_114, w_955⟩
abbrev y_PV_nextSample : MethodName := ⟨"PatchVoices", "nextSample", "()I"⟩
theorem w_943 : Cond.methodLink "PatchVoices" 160 ⟨"PatchVoices$Program", "isNone", "()Z"⟩ ∈ pv_TB := pv_mem (i := 943) (by decide +kernel) (by decide +kernel)
theorem w_944 : Cond.instanceMethod ⟨"PatchVoices$Program", "isNone", "()Z"⟩ ∈ pv_TB := pv_mem (i := 944) (by decide +kernel) (by decide +kernel)
theorem w_945 : Cond.selects "PatchVoices$Program" ⟨"PatchVoices$Program", "isNone", "()Z"⟩ ⟨"PatchVoices$Program", "isNone", "()Z"⟩ ∈ pv_TB := pv_mem (i := 945) (by decide +kernel) (by decide +kernel)
theorem w_946 : Cond.code ⟨"PatchVoices$Program", "isNone", "()Z"⟩ prog_4_method_2_code 1 (Option.some .boolean) ∈ pv_TB := pv_mem (i := 946) (by decide +kernel) (by decide +kernel)
theorem cv_PV_160 : pv_CV pv_TB "PatchVoices" "PatchVoices$Program" 160 y_Pg_isNone prog_4_method_2_code 1 (some .boolean) 0 := ⟨⟨rfl, by decide +kernel, by decide +kernel, by decide +kernel⟩, w_943, w_944, w_945, w_112, w_946⟩
theorem w_355 : Cond.fieldLink "PatchVoices" 44 "PatchVoices" "samples" "[I" ∈ pv_TB := pv_mem (i := 355) (by decide +kernel) (by decide +kernel)
theorem fl_PV_44 : pv_FL pv_TB pv_cl "PatchVoices" 44 0 10 := ⟨R_PV, F_PV, 12, rfl, by decide, in_PV, w_355⟩
theorem w_948 : Cond.methodLink "PatchVoices" 166 ⟨"PatchVoices", "nextSample", "()I"⟩ ∈ pv_TB := pv_mem (i := 948) (by decide +kernel) (by decide +kernel)
theorem w_950 : Cond.instanceMethod ⟨"PatchVoices", "nextSample", "()I"⟩ ∈ pv_TB := pv_mem (i := 950) (by decide +kernel) (by decide +kernel)
theorem w_49 : Cond.selects "PatchVoices" ⟨"PatchVoices", "nextSample", "()I"⟩ ⟨"PatchVoices", "nextSample", "()I"⟩ ∈ pv_TB := pv_mem (i := 49) (by decide +kernel) (by decide +kernel)
theorem w_951 : Cond.code ⟨"PatchVoices", "nextSample", "()I"⟩ prog_1_method_21_code 4 (Option.some .int) ∈ pv_TB := pv_mem (i := 951) (by decide +kernel) (by decide +kernel)
theorem cv_PV_166 : pv_CV pv_TB "PatchVoices" "PatchVoices" 166 y_PV_nextSample prog_1_method_21_code 4 (some .int) 0 := ⟨⟨rfl, by decide +kernel, by decide +kernel, by decide +kernel⟩, w_948, w_950, w_49, w_109, w_951⟩
abbrev y_PV_run : MethodName := ⟨"PatchVoices", "run", "(I)V"⟩
theorem fl_PV_169 : pv_FL pv_TB pv_cl "PatchVoices" 169 0 11 := ⟨R_PV, F_PV, 12, rfl, by decide, in_PV, w_356⟩
abbrev y_PV_out : MethodName := ⟨"PatchVoices", "out", "(I)I"⟩
theorem w_254 : Cond.fieldLink "PatchVoices" 191 "PatchVoices$Program" "wiring" "LPatchVoices$Wiring;" ∈ pv_TB := pv_mem (i := 254) (by decide +kernel) (by decide +kernel)
theorem fl_PV_191 : pv_FL pv_TB pv_cl "PatchVoices" 191 3 0 := ⟨R_Pg, F_Pg, 9, rfl, by decide, in_Pg, w_254⟩
theorem w_217 : Cond.fieldLink "PatchVoices" 195 "PatchVoices$Wiring" "modules" "I" ∈ pv_TB := pv_mem (i := 217) (by decide +kernel) (by decide +kernel)
theorem fl_PV_195 : pv_FL pv_TB pv_cl "PatchVoices" 195 4 0 := ⟨R_Wr, F_Wr, 8, rfl, by decide, in_Wr, w_217⟩
theorem w_231 : Cond.fieldLink "PatchVoices" 202 "PatchVoices$Wiring" "kept" "[Z" ∈ pv_TB := pv_mem (i := 231) (by decide +kernel) (by decide +kernel)
theorem fl_PV_202 : pv_FL pv_TB pv_cl "PatchVoices" 202 4 5 := ⟨R_Wr, F_Wr, 8, rfl, by decide, in_Wr, w_231⟩
theorem w_302 : Cond.fieldLink "PatchVoices" 206 "PatchVoices$Voice" "played" "Z" ∈ pv_TB := pv_mem (i := 302) (by decide +kernel) (by decide +kernel)
theorem fl_PV_206 : pv_FL pv_TB pv_cl "PatchVoices" 206 5 3 := ⟨R_Vc, F_Vc, 14, rfl, by decide, in_Vc, w_302⟩
theorem w_308 : Cond.fieldLink "PatchVoices" 214 "PatchVoices$Voice" "values" "[I" ∈ pv_TB := pv_mem (i := 308) (by decide +kernel) (by decide +kernel)
theorem fl_PV_214 : pv_FL pv_TB pv_cl "PatchVoices" 214 5 6 := ⟨R_Vc, F_Vc, 14, rfl, by decide, in_Vc, w_308⟩
abbrev y_PV_tap : MethodName := ⟨"PatchVoices", "tap", "(II)I"⟩
abbrev y_PV_reset : MethodName := ⟨"PatchVoices", "reset", "()V"⟩
theorem w_1073 : Cond.fieldLink "PatchVoicesModel" 13 "PatchVoicesModel" "words" "[I" ∈ pv_TB := pv_mem (i := 1073) (by decide +kernel) (by decide +kernel)
theorem w_1121 : Cond.lays "PatchVoicesModel" "PatchVoicesModel" "code" "I" ∈ pv_TB := pv_mem (i := 1121) (by decide +kernel) (by decide +kernel)
theorem w_1123 : Cond.laysFinal "PatchVoicesModel" "PatchVoicesModel" "text" "[I" ∈ pv_TB := pv_mem (i := 1123) (by decide +kernel) (by decide +kernel)
theorem w_1125 : Cond.lays "PatchVoicesModel" "PatchVoicesModel" "size" "I" ∈ pv_TB := pv_mem (i := 1125) (by decide +kernel) (by decide +kernel)
theorem w_1127 : Cond.laysFinal "PatchVoicesModel" "PatchVoicesModel" "words" "[I" ∈ pv_TB := pv_mem (i := 1127) (by decide +kernel) (by decide +kernel)
theorem w_1129 : Cond.laysFinal "PatchVoicesModel" "PatchVoicesModel" "needs" "[I" ∈ pv_TB := pv_mem (i := 1129) (by decide +kernel) (by decide +kernel)
theorem w_1131 : Cond.lays "PatchVoicesModel" "PatchVoicesModel" "read" "I" ∈ pv_TB := pv_mem (i := 1131) (by decide +kernel) (by decide +kernel)
theorem w_1133 : Cond.laysFinal "PatchVoicesModel" "PatchVoicesModel" "names" "[I" ∈ pv_TB := pv_mem (i := 1133) (by decide +kernel) (by decide +kernel)
theorem w_1135 : Cond.laysFinal "PatchVoicesModel" "PatchVoicesModel" "kinds" "[I" ∈ pv_TB := pv_mem (i := 1135) (by decide +kernel) (by decide +kernel)
theorem w_1137 : Cond.laysFinal "PatchVoicesModel" "PatchVoicesModel" "counts" "[I" ∈ pv_TB := pv_mem (i := 1137) (by decide +kernel) (by decide +kernel)
theorem w_1139 : Cond.laysFinal "PatchVoicesModel" "PatchVoicesModel" "cords" "[I" ∈ pv_TB := pv_mem (i := 1139) (by decide +kernel) (by decide +kernel)
theorem w_1141 : Cond.laysFinal "PatchVoicesModel" "PatchVoicesModel" "numbers" "[I" ∈ pv_TB := pv_mem (i := 1141) (by decide +kernel) (by decide +kernel)
theorem w_1143 : Cond.lays "PatchVoicesModel" "PatchVoicesModel" "phase" "I" ∈ pv_TB := pv_mem (i := 1143) (by decide +kernel) (by decide +kernel)
theorem w_1145 : Cond.lays "PatchVoicesModel" "PatchVoicesModel" "length" "I" ∈ pv_TB := pv_mem (i := 1145) (by decide +kernel) (by decide +kernel)
theorem w_1147 : Cond.lays "PatchVoicesModel" "PatchVoicesModel" "made" "I" ∈ pv_TB := pv_mem (i := 1147) (by decide +kernel) (by decide +kernel)
theorem w_1149 : Cond.lays "PatchVoicesModel" "PatchVoicesModel" "minus" "Z" ∈ pv_TB := pv_mem (i := 1149) (by decide +kernel) (by decide +kernel)
theorem w_1151 : Cond.lays "PatchVoicesModel" "PatchVoicesModel" "faulty" "I" ∈ pv_TB := pv_mem (i := 1151) (by decide +kernel) (by decide +kernel)
theorem w_1153 : Cond.lays "PatchVoicesModel" "PatchVoicesModel" "there" "Z" ∈ pv_TB := pv_mem (i := 1153) (by decide +kernel) (by decide +kernel)
theorem w_1155 : Cond.lays "PatchVoicesModel" "PatchVoicesModel" "optimising" "Z" ∈ pv_TB := pv_mem (i := 1155) (by decide +kernel) (by decide +kernel)
theorem w_1157 : Cond.lays "PatchVoicesModel" "PatchVoicesModel" "many" "I" ∈ pv_TB := pv_mem (i := 1157) (by decide +kernel) (by decide +kernel)
theorem w_1159 : Cond.laysFinal "PatchVoicesModel" "PatchVoicesModel" "kind" "[I" ∈ pv_TB := pv_mem (i := 1159) (by decide +kernel) (by decide +kernel)
theorem w_1161 : Cond.laysFinal "PatchVoicesModel" "PatchVoicesModel" "count" "[I" ∈ pv_TB := pv_mem (i := 1161) (by decide +kernel) (by decide +kernel)
theorem w_1163 : Cond.laysFinal "PatchVoicesModel" "PatchVoicesModel" "from" "[I" ∈ pv_TB := pv_mem (i := 1163) (by decide +kernel) (by decide +kernel)
theorem w_1165 : Cond.laysFinal "PatchVoicesModel" "PatchVoicesModel" "number" "[I" ∈ pv_TB := pv_mem (i := 1165) (by decide +kernel) (by decide +kernel)
theorem w_1167 : Cond.laysFinal "PatchVoicesModel" "PatchVoicesModel" "order" "[I" ∈ pv_TB := pv_mem (i := 1167) (by decide +kernel) (by decide +kernel)
theorem w_1169 : Cond.laysFinal "PatchVoicesModel" "PatchVoicesModel" "offset" "[I" ∈ pv_TB := pv_mem (i := 1169) (by decide +kernel) (by decide +kernel)
theorem w_1171 : Cond.laysFinal "PatchVoicesModel" "PatchVoicesModel" "stands" "[I" ∈ pv_TB := pv_mem (i := 1171) (by decide +kernel) (by decide +kernel)
theorem w_1173 : Cond.laysFinal "PatchVoicesModel" "PatchVoicesModel" "standing" "[I" ∈ pv_TB := pv_mem (i := 1173) (by decide +kernel) (by decide +kernel)
theorem w_1175 : Cond.laysFinal "PatchVoicesModel" "PatchVoicesModel" "kept" "[Z" ∈ pv_TB := pv_mem (i := 1175) (by decide +kernel) (by decide +kernel)
theorem w_1177 : Cond.lays "PatchVoicesModel" "PatchVoicesModel" "stepped" "I" ∈ pv_TB := pv_mem (i := 1177) (by decide +kernel) (by decide +kernel)
theorem w_1179 : Cond.laysFinal "PatchVoicesModel" "PatchVoicesModel" "stepOf" "[I" ∈ pv_TB := pv_mem (i := 1179) (by decide +kernel) (by decide +kernel)
theorem w_1181 : Cond.laysFinal "PatchVoicesModel" "PatchVoicesModel" "puts" "[Z" ∈ pv_TB := pv_mem (i := 1181) (by decide +kernel) (by decide +kernel)
theorem w_1183 : Cond.laysFinal "PatchVoicesModel" "PatchVoicesModel" "slot" "[I" ∈ pv_TB := pv_mem (i := 1183) (by decide +kernel) (by decide +kernel)
theorem w_1185 : Cond.lays "PatchVoicesModel" "PatchVoicesModel" "voices" "I" ∈ pv_TB := pv_mem (i := 1185) (by decide +kernel) (by decide +kernel)
theorem w_1187 : Cond.laysFinal "PatchVoicesModel" "PatchVoicesModel" "knobs" "[I" ∈ pv_TB := pv_mem (i := 1187) (by decide +kernel) (by decide +kernel)
theorem w_1189 : Cond.laysFinal "PatchVoicesModel" "PatchVoicesModel" "taken" "[Z" ∈ pv_TB := pv_mem (i := 1189) (by decide +kernel) (by decide +kernel)
theorem w_1191 : Cond.laysFinal "PatchVoicesModel" "PatchVoicesModel" "pitch" "[I" ∈ pv_TB := pv_mem (i := 1191) (by decide +kernel) (by decide +kernel)
theorem w_1193 : Cond.laysFinal "PatchVoicesModel" "PatchVoicesModel" "strength" "[I" ∈ pv_TB := pv_mem (i := 1193) (by decide +kernel) (by decide +kernel)
theorem w_1195 : Cond.laysFinal "PatchVoicesModel" "PatchVoicesModel" "gate" "[Z" ∈ pv_TB := pv_mem (i := 1195) (by decide +kernel) (by decide +kernel)
theorem w_1197 : Cond.laysFinal "PatchVoicesModel" "PatchVoicesModel" "idle" "[Z" ∈ pv_TB := pv_mem (i := 1197) (by decide +kernel) (by decide +kernel)
theorem w_1199 : Cond.laysFinal "PatchVoicesModel" "PatchVoicesModel" "zeros" "[I" ∈ pv_TB := pv_mem (i := 1199) (by decide +kernel) (by decide +kernel)
theorem w_1201 : Cond.laysFinal "PatchVoicesModel" "PatchVoicesModel" "idleAt" "[I" ∈ pv_TB := pv_mem (i := 1201) (by decide +kernel) (by decide +kernel)
theorem w_1203 : Cond.laysFinal "PatchVoicesModel" "PatchVoicesModel" "takenAt" "[I" ∈ pv_TB := pv_mem (i := 1203) (by decide +kernel) (by decide +kernel)
theorem w_1205 : Cond.laysFinal "PatchVoicesModel" "PatchVoicesModel" "age" "[I" ∈ pv_TB := pv_mem (i := 1205) (by decide +kernel) (by decide +kernel)
theorem w_1207 : Cond.laysFinal "PatchVoicesModel" "PatchVoicesModel" "memory" "[I" ∈ pv_TB := pv_mem (i := 1207) (by decide +kernel) (by decide +kernel)
theorem w_1209 : Cond.laysFinal "PatchVoicesModel" "PatchVoicesModel" "second" "[I" ∈ pv_TB := pv_mem (i := 1209) (by decide +kernel) (by decide +kernel)
theorem w_1211 : Cond.laysFinal "PatchVoicesModel" "PatchVoicesModel" "value" "[I" ∈ pv_TB := pv_mem (i := 1211) (by decide +kernel) (by decide +kernel)
theorem w_1213 : Cond.laysFinal "PatchVoicesModel" "PatchVoicesModel" "line" "[I" ∈ pv_TB := pv_mem (i := 1213) (by decide +kernel) (by decide +kernel)
theorem w_1215 : Cond.lays "PatchVoicesModel" "PatchVoicesModel" "takings" "I" ∈ pv_TB := pv_mem (i := 1215) (by decide +kernel) (by decide +kernel)
theorem w_1217 : Cond.lays "PatchVoicesModel" "PatchVoicesModel" "samples" "I" ∈ pv_TB := pv_mem (i := 1217) (by decide +kernel) (by decide +kernel)
theorem w_1219 : Cond.laysFinal "PatchVoicesModel" "PatchVoicesModel" "outs" "[I" ∈ pv_TB := pv_mem (i := 1219) (by decide +kernel) (by decide +kernel)
theorem w_1221 : Cond.lays "PatchVoicesModel" "PatchVoicesModel" "outCount" "I" ∈ pv_TB := pv_mem (i := 1221) (by decide +kernel) (by decide +kernel)
theorem in_Md : ∀ w ∈ u_ws R_Md F_Md 51, w ∈ pv_TB := by
  intro w hw
  have hw : w ∈ [u_lay R_Md F_Md 0, u_lay R_Md F_Md 1, u_lay R_Md F_Md 2, u_lay R_Md F_Md 3, u_lay R_Md F_Md 4, u_lay R_Md F_Md 5, u_lay R_Md F_Md 6, u_lay R_Md F_Md 7, u_lay R_Md F_Md 8, u_lay R_Md F_Md 9, u_lay R_Md F_Md 10, u_lay R_Md F_Md 11, u_lay R_Md F_Md 12, u_lay R_Md F_Md 13, u_lay R_Md F_Md 14, u_lay R_Md F_Md 15, u_lay R_Md F_Md 16, u_lay R_Md F_Md 17, u_lay R_Md F_Md 18, u_lay R_Md F_Md 19, u_lay R_Md F_Md 20, u_lay R_Md F_Md 21, u_lay R_Md F_Md 22, u_lay R_Md F_Md 23, u_lay R_Md F_Md 24, u_lay R_Md F_Md 25, u_lay R_Md F_Md 26, u_lay R_Md F_Md 27, u_lay R_Md F_Md 28, u_lay R_Md F_Md 29, u_lay R_Md F_Md 30, u_lay R_Md F_Md 31, u_lay R_Md F_Md 32, u_lay R_Md F_Md 33, u_lay R_Md F_Md 34, u_lay R_Md F_Md 35, u_lay R_Md F_Md 36, u_lay R_Md F_Md 37, u_lay R_Md F_Md 38, u_lay R_Md F_Md 39, u_lay R_Md F_Md 40, u_lay R_Md F_Md 41, u_lay R_Md F_Md 42, u_lay R_Md F_Md 43, u_lay R_Md F_Md 44, u_lay R_Md F_Md 45, u_lay R_Md F_Md 46, u_lay R_Md F_Md 47, u_lay R_Md F_Md 48, u_lay R_Md F_Md 49, u_lay R_Md F_Md 50] := hw
  simp only [List.mem_cons, List.not_mem_nil, or_false] at hw
  rcases hw with rfl | rfl | rfl | rfl | rfl | rfl | rfl | rfl | rfl | rfl | rfl | rfl | rfl | rfl | rfl | rfl | rfl | rfl | rfl | rfl | rfl | rfl | rfl | rfl | rfl | rfl | rfl | rfl | rfl | rfl | rfl | rfl | rfl | rfl | rfl | rfl | rfl | rfl | rfl | rfl | rfl | rfl | rfl | rfl | rfl | rfl | rfl | rfl | rfl | rfl | rfl
  · exact w_1121
  · exact w_1123
  · exact w_1125
  · exact w_1127
  · exact w_1129
  · exact w_1131
  · exact w_1133
  · exact w_1135
  · exact w_1137
  · exact w_1139
  · exact w_1141
  · exact w_1143
  · exact w_1145
  · exact w_1147
  · exact w_1149
  · exact w_1151
  · exact w_1153
  · exact w_1155
  · exact w_1157
  · exact w_1159
  · exact w_1161
  · exact w_1163
  · exact w_1165
  · exact w_1167
  · exact w_1169
  · exact w_1171
  · exact w_1173
  · exact w_1175
  · exact w_1177
  · exact w_1179
  · exact w_1181
  · exact w_1183
  · exact w_1185
  · exact w_1187
  · exact w_1189
  · exact w_1191
  · exact w_1193
  · exact w_1195
  · exact w_1197
  · exact w_1199
  · exact w_1201
  · exact w_1203
  · exact w_1205
  · exact w_1207
  · exact w_1209
  · exact w_1211
  · exact w_1213
  · exact w_1215
  · exact w_1217
  · exact w_1219
  · exact w_1221
theorem fl_Md_13 : pv_FL pv_TB pv_cl "PatchVoicesModel" 13 6 3 := ⟨R_Md, F_Md, 51, rfl, by decide, in_Md, w_1073⟩
theorem w_1074 : Cond.fieldLink "PatchVoicesModel" 16 "PatchVoicesModel" "needs" "[I" ∈ pv_TB := pv_mem (i := 1074) (by decide +kernel) (by decide +kernel)
theorem fl_Md_16 : pv_FL pv_TB pv_cl "PatchVoicesModel" 16 6 4 := ⟨R_Md, F_Md, 51, rfl, by decide, in_Md, w_1074⟩
abbrev y_Md_word : MethodName := ⟨"PatchVoicesModel", "word", "(IIIII)V"⟩
theorem w_1070 : Cond.fieldLink "PatchVoicesModel" 127 "PatchVoicesModel" "code" "I" ∈ pv_TB := pv_mem (i := 1070) (by decide +kernel) (by decide +kernel)
theorem fl_Md_127 : pv_FL pv_TB pv_cl "PatchVoicesModel" 127 6 0 := ⟨R_Md, F_Md, 51, rfl, by decide, in_Md, w_1070⟩
abbrev y_Md_thrown : MethodName := ⟨"PatchVoicesModel", "thrown", "()I"⟩
theorem fw_Md_127 : pv_FW pv_TB pv_cl "PatchVoicesModel" 127 6 0 .int := ⟨R_Md, F_Md, 51, t_Md, rfl, by decide, in_Md, w_1070, o_Md, n_Md, rfl, by decide +kernel⟩
theorem w_1072 : Cond.fieldLink "PatchVoicesModel" 130 "PatchVoicesModel" "size" "I" ∈ pv_TB := pv_mem (i := 1072) (by decide +kernel) (by decide +kernel)
theorem fl_Md_130 : pv_FL pv_TB pv_cl "PatchVoicesModel" 130 6 2 := ⟨R_Md, F_Md, 51, rfl, by decide, in_Md, w_1072⟩
theorem w_1232 : Cond.constantLong "PatchVoicesModel" 133 (255 : Int64) ∈ pv_TB := pv_mem (i := 1232) (by decide +kernel) (by decide +kernel)
theorem w_1071 : Cond.fieldLink "PatchVoicesModel" 7 "PatchVoicesModel" "text" "[I" ∈ pv_TB := pv_mem (i := 1071) (by decide +kernel) (by decide +kernel)
theorem fl_Md_7 : pv_FL pv_TB pv_cl "PatchVoicesModel" 7 6 1 := ⟨R_Md, F_Md, 51, rfl, by decide, in_Md, w_1071⟩
theorem fw_Md_130 : pv_FW pv_TB pv_cl "PatchVoicesModel" 130 6 2 .int := ⟨R_Md, F_Md, 51, t_Md, rfl, by decide, in_Md, w_1072, o_Md, n_Md, rfl, by decide +kernel⟩
abbrev y_Md_type : MethodName := ⟨"PatchVoicesModel", "type", "(JI)I"⟩
abbrev y_Md_erase : MethodName := ⟨"PatchVoicesModel", "erase", "()I"⟩
abbrev y_Md_isLetter : MethodName := ⟨"PatchVoicesModel", "isLetter", "(I)Z"⟩
abbrev y_Md_isDigit : MethodName := ⟨"PatchVoicesModel", "isDigit", "(I)Z"⟩
theorem w_1081 : Cond.fieldLink "PatchVoicesModel" 135 "PatchVoicesModel" "phase" "I" ∈ pv_TB := pv_mem (i := 1081) (by decide +kernel) (by decide +kernel)
theorem fw_Md_135 : pv_FW pv_TB pv_cl "PatchVoicesModel" 135 6 11 .int := ⟨R_Md, F_Md, 51, t_Md, rfl, by decide, in_Md, w_1081, o_Md, n_Md, rfl, by decide +kernel⟩
theorem w_1082 : Cond.fieldLink "PatchVoicesModel" 138 "PatchVoicesModel" "length" "I" ∈ pv_TB := pv_mem (i := 1082) (by decide +kernel) (by decide +kernel)
theorem fw_Md_138 : pv_FW pv_TB pv_cl "PatchVoicesModel" 138 6 12 .int := ⟨R_Md, F_Md, 51, t_Md, rfl, by decide, in_Md, w_1082, o_Md, n_Md, rfl, by decide +kernel⟩
theorem w_1083 : Cond.fieldLink "PatchVoicesModel" 141 "PatchVoicesModel" "made" "I" ∈ pv_TB := pv_mem (i := 1083) (by decide +kernel) (by decide +kernel)
theorem fw_Md_141 : pv_FW pv_TB pv_cl "PatchVoicesModel" 141 6 13 .int := ⟨R_Md, F_Md, 51, t_Md, rfl, by decide, in_Md, w_1083, o_Md, n_Md, rfl, by decide +kernel⟩
abbrev y_Md_first : MethodName := ⟨"PatchVoicesModel", "first", "(II)V"⟩
theorem fl_Md_138 : pv_FL pv_TB pv_cl "PatchVoicesModel" 138 6 12 := ⟨R_Md, F_Md, 51, rfl, by decide, in_Md, w_1082⟩
theorem fl_Md_141 : pv_FL pv_TB pv_cl "PatchVoicesModel" 141 6 13 := ⟨R_Md, F_Md, 51, rfl, by decide, in_Md, w_1083⟩
abbrev y_Md_more : MethodName := ⟨"PatchVoicesModel", "more", "(II)Z"⟩
abbrev y_Md_isWord : MethodName := ⟨"PatchVoicesModel", "isWord", "(Z)Z"⟩
theorem w_1075 : Cond.fieldLink "PatchVoicesModel" 144 "PatchVoicesModel" "read" "I" ∈ pv_TB := pv_mem (i := 1075) (by decide +kernel) (by decide +kernel)
theorem fl_Md_144 : pv_FL pv_TB pv_cl "PatchVoicesModel" 144 6 5 := ⟨R_Md, F_Md, 51, rfl, by decide, in_Md, w_1075⟩
theorem w_1078 : Cond.fieldLink "PatchVoicesModel" 25 "PatchVoicesModel" "counts" "[I" ∈ pv_TB := pv_mem (i := 1078) (by decide +kernel) (by decide +kernel)
theorem fl_Md_25 : pv_FL pv_TB pv_cl "PatchVoicesModel" 25 6 8 := ⟨R_Md, F_Md, 51, rfl, by decide, in_Md, w_1078⟩
theorem w_1079 : Cond.fieldLink "PatchVoicesModel" 28 "PatchVoicesModel" "cords" "[I" ∈ pv_TB := pv_mem (i := 1079) (by decide +kernel) (by decide +kernel)
theorem fl_Md_28 : pv_FL pv_TB pv_cl "PatchVoicesModel" 28 6 9 := ⟨R_Md, F_Md, 51, rfl, by decide, in_Md, w_1079⟩
theorem w_1080 : Cond.fieldLink "PatchVoicesModel" 31 "PatchVoicesModel" "numbers" "[I" ∈ pv_TB := pv_mem (i := 1080) (by decide +kernel) (by decide +kernel)
theorem fl_Md_31 : pv_FL pv_TB pv_cl "PatchVoicesModel" 31 6 10 := ⟨R_Md, F_Md, 51, rfl, by decide, in_Md, w_1080⟩
abbrev y_Md_input : MethodName := ⟨"PatchVoicesModel", "input", "(II)V"⟩
theorem w_1076 : Cond.fieldLink "PatchVoicesModel" 19 "PatchVoicesModel" "names" "[I" ∈ pv_TB := pv_mem (i := 1076) (by decide +kernel) (by decide +kernel)
theorem fl_Md_19 : pv_FL pv_TB pv_cl "PatchVoicesModel" 19 6 6 := ⟨R_Md, F_Md, 51, rfl, by decide, in_Md, w_1076⟩
abbrev y_Md_endName : MethodName := ⟨"PatchVoicesModel", "endName", "()V"⟩
theorem w_1077 : Cond.fieldLink "PatchVoicesModel" 22 "PatchVoicesModel" "kinds" "[I" ∈ pv_TB := pv_mem (i := 1077) (by decide +kernel) (by decide +kernel)
theorem fl_Md_22 : pv_FL pv_TB pv_cl "PatchVoicesModel" 22 6 7 := ⟨R_Md, F_Md, 51, rfl, by decide, in_Md, w_1077⟩
abbrev y_Md_endWord : MethodName := ⟨"PatchVoicesModel", "endWord", "()V"⟩
abbrev y_Md_front2 : MethodName := ⟨"PatchVoicesModel", "front2", "(I)Z"⟩
abbrev y_Md_front5 : MethodName := ⟨"PatchVoicesModel", "front5", "(I)Z"⟩
theorem fl_Md_135 : pv_FL pv_TB pv_cl "PatchVoicesModel" 135 6 11 := ⟨R_Md, F_Md, 51, rfl, by decide, in_Md, w_1081⟩
theorem w_1253 : Cond.methodLink "PatchVoicesModel" 151 ⟨"PatchVoicesModel", "isLetter", "(I)Z"⟩ ∈ pv_TB := pv_mem (i := 1253) (by decide +kernel) (by decide +kernel)
theorem w_1254 : Cond.static ⟨"PatchVoicesModel", "isLetter", "(I)Z"⟩ ∈ pv_TB := pv_mem (i := 1254) (by decide +kernel) (by decide +kernel)
theorem w_115 : Cond.initialized "PatchVoicesModel" ∈ pv_TB := pv_mem (i := 115) (by decide +kernel) (by decide +kernel)
theorem w_1255 : Cond.code ⟨"PatchVoicesModel", "isLetter", "(I)Z"⟩ prog_9_method_6_code 1 (Option.some .boolean) ∈ pv_TB := pv_mem (i := 1255) (by decide +kernel) (by decide +kernel)
theorem cs_Md_151 : pv_CS pv_TB "PatchVoicesModel" 151 y_Md_isLetter prog_9_method_6_code 1 (some .boolean) 1 := ⟨⟨by decide +kernel, by decide +kernel, by decide +kernel⟩, w_1253, w_1254, w_115, w_1255⟩
theorem w_1260 : Cond.methodLink "PatchVoicesModel" 159 ⟨"PatchVoicesModel", "endName", "()V"⟩ ∈ pv_TB := pv_mem (i := 1260) (by decide +kernel) (by decide +kernel)
theorem w_1262 : Cond.instanceMethod ⟨"PatchVoicesModel", "endName", "()V"⟩ ∈ pv_TB := pv_mem (i := 1262) (by decide +kernel) (by decide +kernel)
theorem w_66 : Cond.selects "PatchVoicesModel" ⟨"PatchVoicesModel", "endName", "()V"⟩ ⟨"PatchVoicesModel", "endName", "()V"⟩ ∈ pv_TB := pv_mem (i := 66) (by decide +kernel) (by decide +kernel)
theorem w_1263 : Cond.code ⟨"PatchVoicesModel", "endName", "()V"⟩ prog_9_method_12_code 1 (Option.none : Option Jvm.ClassFile.FieldType) ∈ pv_TB := pv_mem (i := 1263) (by decide +kernel) (by decide +kernel)
theorem cv_Md_159 : pv_CV pv_TB "PatchVoicesModel" "PatchVoicesModel" 159 y_Md_endName prog_9_method_12_code 1 none 0 := ⟨⟨rfl, by decide +kernel, by decide +kernel, by decide +kernel⟩, w_1260, w_1262, w_66, w_115, w_1263⟩
theorem w_1264 : Cond.methodLink "PatchVoicesModel" 162 ⟨"PatchVoicesModel", "front2", "(I)Z"⟩ ∈ pv_TB := pv_mem (i := 1264) (by decide +kernel) (by decide +kernel)
theorem w_1266 : Cond.instanceMethod ⟨"PatchVoicesModel", "front2", "(I)Z"⟩ ∈ pv_TB := pv_mem (i := 1266) (by decide +kernel) (by decide +kernel)
theorem w_67 : Cond.selects "PatchVoicesModel" ⟨"PatchVoicesModel", "front2", "(I)Z"⟩ ⟨"PatchVoicesModel", "front2", "(I)Z"⟩ ∈ pv_TB := pv_mem (i := 67) (by decide +kernel) (by decide +kernel)
theorem w_1267 : Cond.code ⟨"PatchVoicesModel", "front2", "(I)Z"⟩ prog_9_method_15_code 2 (Option.some .boolean) ∈ pv_TB := pv_mem (i := 1267) (by decide +kernel) (by decide +kernel)
theorem cv_Md_162 : pv_CV pv_TB "PatchVoicesModel" "PatchVoicesModel" 162 y_Md_front2 prog_9_method_15_code 2 (some .boolean) 1 := ⟨⟨rfl, by decide +kernel, by decide +kernel, by decide +kernel⟩, w_1264, w_1266, w_67, w_115, w_1267⟩
theorem w_1256 : Cond.methodLink "PatchVoicesModel" 155 ⟨"PatchVoicesModel", "more", "(II)Z"⟩ ∈ pv_TB := pv_mem (i := 1256) (by decide +kernel) (by decide +kernel)
theorem w_1258 : Cond.instanceMethod ⟨"PatchVoicesModel", "more", "(II)Z"⟩ ∈ pv_TB := pv_mem (i := 1258) (by decide +kernel) (by decide +kernel)
theorem w_65 : Cond.selects "PatchVoicesModel" ⟨"PatchVoicesModel", "more", "(II)Z"⟩ ⟨"PatchVoicesModel", "more", "(II)Z"⟩ ∈ pv_TB := pv_mem (i := 65) (by decide +kernel) (by decide +kernel)
theorem w_1259 : Cond.code ⟨"PatchVoicesModel", "more", "(II)Z"⟩ prog_9_method_9_code 3 (Option.some .boolean) ∈ pv_TB := pv_mem (i := 1259) (by decide +kernel) (by decide +kernel)
theorem cv_Md_155 : pv_CV pv_TB "PatchVoicesModel" "PatchVoicesModel" 155 y_Md_more prog_9_method_9_code 3 (some .boolean) 2 := ⟨⟨rfl, by decide +kernel, by decide +kernel, by decide +kernel⟩, w_1256, w_1258, w_65, w_115, w_1259⟩
theorem w_1268 : Cond.methodLink "PatchVoicesModel" 165 ⟨"PatchVoicesModel", "isWord", "(Z)Z"⟩ ∈ pv_TB := pv_mem (i := 1268) (by decide +kernel) (by decide +kernel)
theorem w_1270 : Cond.instanceMethod ⟨"PatchVoicesModel", "isWord", "(Z)Z"⟩ ∈ pv_TB := pv_mem (i := 1270) (by decide +kernel) (by decide +kernel)
theorem w_68 : Cond.selects "PatchVoicesModel" ⟨"PatchVoicesModel", "isWord", "(Z)Z"⟩ ⟨"PatchVoicesModel", "isWord", "(Z)Z"⟩ ∈ pv_TB := pv_mem (i := 68) (by decide +kernel) (by decide +kernel)
theorem w_1271 : Cond.code ⟨"PatchVoicesModel", "isWord", "(Z)Z"⟩ prog_9_method_10_code 4 (Option.some .boolean) ∈ pv_TB := pv_mem (i := 1271) (by decide +kernel) (by decide +kernel)
theorem cv_Md_165 : pv_CV pv_TB "PatchVoicesModel" "PatchVoicesModel" 165 y_Md_isWord prog_9_method_10_code 4 (some .boolean) 1 := ⟨⟨rfl, by decide +kernel, by decide +kernel, by decide +kernel⟩, w_1268, w_1270, w_68, w_115, w_1271⟩
theorem w_1272 : Cond.methodLink "PatchVoicesModel" 169 ⟨"PatchVoicesModel", "endWord", "()V"⟩ ∈ pv_TB := pv_mem (i := 1272) (by decide +kernel) (by decide +kernel)
theorem w_1274 : Cond.instanceMethod ⟨"PatchVoicesModel", "endWord", "()V"⟩ ∈ pv_TB := pv_mem (i := 1274) (by decide +kernel) (by decide +kernel)
theorem w_69 : Cond.selects "PatchVoicesModel" ⟨"PatchVoicesModel", "endWord", "()V"⟩ ⟨"PatchVoicesModel", "endWord", "()V"⟩ ∈ pv_TB := pv_mem (i := 69) (by decide +kernel) (by decide +kernel)
theorem w_1275 : Cond.code ⟨"PatchVoicesModel", "endWord", "()V"⟩ prog_9_method_13_code 2 (Option.none : Option Jvm.ClassFile.FieldType) ∈ pv_TB := pv_mem (i := 1275) (by decide +kernel) (by decide +kernel)
theorem cv_Md_169 : pv_CV pv_TB "PatchVoicesModel" "PatchVoicesModel" 169 y_Md_endWord prog_9_method_13_code 2 none 0 := ⟨⟨rfl, by decide +kernel, by decide +kernel, by decide +kernel⟩, w_1272, w_1274, w_69, w_115, w_1275⟩
theorem w_1276 : Cond.methodLink "PatchVoicesModel" 172 ⟨"PatchVoicesModel", "front5", "(I)Z"⟩ ∈ pv_TB := pv_mem (i := 1276) (by decide +kernel) (by decide +kernel)
theorem w_1278 : Cond.instanceMethod ⟨"PatchVoicesModel", "front5", "(I)Z"⟩ ∈ pv_TB := pv_mem (i := 1278) (by decide +kernel) (by decide +kernel)
theorem w_70 : Cond.selects "PatchVoicesModel" ⟨"PatchVoicesModel", "front5", "(I)Z"⟩ ⟨"PatchVoicesModel", "front5", "(I)Z"⟩ ∈ pv_TB := pv_mem (i := 70) (by decide +kernel) (by decide +kernel)
theorem w_1279 : Cond.code ⟨"PatchVoicesModel", "front5", "(I)Z"⟩ prog_9_method_16_code 2 (Option.some .boolean) ∈ pv_TB := pv_mem (i := 1279) (by decide +kernel) (by decide +kernel)
theorem cv_Md_172 : pv_CV pv_TB "PatchVoicesModel" "PatchVoicesModel" 172 y_Md_front5 prog_9_method_16_code 2 (some .boolean) 1 := ⟨⟨rfl, by decide +kernel, by decide +kernel, by decide +kernel⟩, w_1276, w_1278, w_70, w_115, w_1279⟩
theorem w_1249 : Cond.methodLink "PatchVoicesModel" 147 ⟨"PatchVoicesModel", "first", "(II)V"⟩ ∈ pv_TB := pv_mem (i := 1249) (by decide +kernel) (by decide +kernel)
theorem w_1251 : Cond.instanceMethod ⟨"PatchVoicesModel", "first", "(II)V"⟩ ∈ pv_TB := pv_mem (i := 1251) (by decide +kernel) (by decide +kernel)
theorem w_64 : Cond.selects "PatchVoicesModel" ⟨"PatchVoicesModel", "first", "(II)V"⟩ ⟨"PatchVoicesModel", "first", "(II)V"⟩ ∈ pv_TB := pv_mem (i := 64) (by decide +kernel) (by decide +kernel)
theorem w_1252 : Cond.code ⟨"PatchVoicesModel", "first", "(II)V"⟩ prog_9_method_8_code 3 (Option.none : Option Jvm.ClassFile.FieldType) ∈ pv_TB := pv_mem (i := 1252) (by decide +kernel) (by decide +kernel)
theorem cv_Md_147 : pv_CV pv_TB "PatchVoicesModel" "PatchVoicesModel" 147 y_Md_first prog_9_method_8_code 3 none 2 := ⟨⟨rfl, by decide +kernel, by decide +kernel, by decide +kernel⟩, w_1249, w_1251, w_64, w_115, w_1252⟩
abbrev y_Md_front : MethodName := ⟨"PatchVoicesModel", "front", "(I)Z"⟩
theorem w_1084 : Cond.fieldLink "PatchVoicesModel" 175 "PatchVoicesModel" "minus" "Z" ∈ pv_TB := pv_mem (i := 1084) (by decide +kernel) (by decide +kernel)
theorem fw_Md_175 : pv_FW pv_TB pv_cl "PatchVoicesModel" 175 6 14 .boolean := ⟨R_Md, F_Md, 51, t_Md, rfl, by decide, in_Md, w_1084, o_Md, n_Md, rfl, by decide +kernel⟩
theorem w_1288 : Cond.methodLink "PatchVoicesModel" 179 ⟨"PatchVoicesModel", "isDigit", "(I)Z"⟩ ∈ pv_TB := pv_mem (i := 1288) (by decide +kernel) (by decide +kernel)
theorem w_1289 : Cond.static ⟨"PatchVoicesModel", "isDigit", "(I)Z"⟩ ∈ pv_TB := pv_mem (i := 1289) (by decide +kernel) (by decide +kernel)
theorem w_1290 : Cond.code ⟨"PatchVoicesModel", "isDigit", "(I)Z"⟩ prog_9_method_7_code 1 (Option.some .boolean) ∈ pv_TB := pv_mem (i := 1290) (by decide +kernel) (by decide +kernel)
theorem cs_Md_179 : pv_CS pv_TB "PatchVoicesModel" 179 y_Md_isDigit prog_9_method_7_code 1 (some .boolean) 1 := ⟨⟨by decide +kernel, by decide +kernel, by decide +kernel⟩, w_1288, w_1289, w_115, w_1290⟩
theorem fl_Md_175 : pv_FL pv_TB pv_cl "PatchVoicesModel" 175 6 14 := ⟨R_Md, F_Md, 51, rfl, by decide, in_Md, w_1084⟩
abbrev y_Md_begins : MethodName := ⟨"PatchVoicesModel", "begins", "(I)Z"⟩
abbrev y_Md_back8 : MethodName := ⟨"PatchVoicesModel", "back8", "(I)Z"⟩
theorem fw_Md_144 : pv_FW pv_TB pv_cl "PatchVoicesModel" 144 6 5 .int := ⟨R_Md, F_Md, 51, t_Md, rfl, by decide, in_Md, w_1075, o_Md, n_Md, rfl, by decide +kernel⟩
abbrev y_Md_back12 : MethodName := ⟨"PatchVoicesModel", "back12", "(I)Z"⟩
theorem w_1291 : Cond.methodLink "PatchVoicesModel" 185 ⟨"PatchVoicesModel", "input", "(II)V"⟩ ∈ pv_TB := pv_mem (i := 1291) (by decide +kernel) (by decide +kernel)
theorem w_1293 : Cond.instanceMethod ⟨"PatchVoicesModel", "input", "(II)V"⟩ ∈ pv_TB := pv_mem (i := 1293) (by decide +kernel) (by decide +kernel)
theorem w_73 : Cond.selects "PatchVoicesModel" ⟨"PatchVoicesModel", "input", "(II)V"⟩ ⟨"PatchVoicesModel", "input", "(II)V"⟩ ∈ pv_TB := pv_mem (i := 73) (by decide +kernel) (by decide +kernel)
theorem w_1294 : Cond.code ⟨"PatchVoicesModel", "input", "(II)V"⟩ prog_9_method_11_code 4 (Option.none : Option Jvm.ClassFile.FieldType) ∈ pv_TB := pv_mem (i := 1294) (by decide +kernel) (by decide +kernel)
theorem cv_Md_185 : pv_CV pv_TB "PatchVoicesModel" "PatchVoicesModel" 185 y_Md_input prog_9_method_11_code 4 none 2 := ⟨⟨rfl, by decide +kernel, by decide +kernel, by decide +kernel⟩, w_1291, w_1293, w_73, w_115, w_1294⟩
theorem w_1295 : Cond.methodLink "PatchVoicesModel" 188 ⟨"PatchVoicesModel", "back8", "(I)Z"⟩ ∈ pv_TB := pv_mem (i := 1295) (by decide +kernel) (by decide +kernel)
theorem w_1297 : Cond.instanceMethod ⟨"PatchVoicesModel", "back8", "(I)Z"⟩ ∈ pv_TB := pv_mem (i := 1297) (by decide +kernel) (by decide +kernel)
theorem w_74 : Cond.selects "PatchVoicesModel" ⟨"PatchVoicesModel", "back8", "(I)Z"⟩ ⟨"PatchVoicesModel", "back8", "(I)Z"⟩ ∈ pv_TB := pv_mem (i := 74) (by decide +kernel) (by decide +kernel)
theorem w_1298 : Cond.code ⟨"PatchVoicesModel", "back8", "(I)Z"⟩ prog_9_method_19_code 2 (Option.some .boolean) ∈ pv_TB := pv_mem (i := 1298) (by decide +kernel) (by decide +kernel)
theorem cv_Md_188 : pv_CV pv_TB "PatchVoicesModel" "PatchVoicesModel" 188 y_Md_back8 prog_9_method_19_code 2 (some .boolean) 1 := ⟨⟨rfl, by decide +kernel, by decide +kernel, by decide +kernel⟩, w_1295, w_1297, w_74, w_115, w_1298⟩
theorem w_1284 : Cond.methodLink "PatchVoicesModel" 182 ⟨"PatchVoicesModel", "begins", "(I)Z"⟩ ∈ pv_TB := pv_mem (i := 1284) (by decide +kernel) (by decide +kernel)
theorem w_1286 : Cond.instanceMethod ⟨"PatchVoicesModel", "begins", "(I)Z"⟩ ∈ pv_TB := pv_mem (i := 1286) (by decide +kernel) (by decide +kernel)
theorem w_72 : Cond.selects "PatchVoicesModel" ⟨"PatchVoicesModel", "begins", "(I)Z"⟩ ⟨"PatchVoicesModel", "begins", "(I)Z"⟩ ∈ pv_TB := pv_mem (i := 72) (by decide +kernel) (by decide +kernel)
theorem w_1287 : Cond.code ⟨"PatchVoicesModel", "begins", "(I)Z"⟩ prog_9_method_17_code 2 (Option.some .boolean) ∈ pv_TB := pv_mem (i := 1287) (by decide +kernel) (by decide +kernel)
theorem cv_Md_182 : pv_CV pv_TB "PatchVoicesModel" "PatchVoicesModel" 182 y_Md_begins prog_9_method_17_code 2 (some .boolean) 1 := ⟨⟨rfl, by decide +kernel, by decide +kernel, by decide +kernel⟩, w_1284, w_1286, w_72, w_115, w_1287⟩
theorem w_1299 : Cond.methodLink "PatchVoicesModel" 191 ⟨"PatchVoicesModel", "back12", "(I)Z"⟩ ∈ pv_TB := pv_mem (i := 1299) (by decide +kernel) (by decide +kernel)
theorem w_1301 : Cond.instanceMethod ⟨"PatchVoicesModel", "back12", "(I)Z"⟩ ∈ pv_TB := pv_mem (i := 1301) (by decide +kernel) (by decide +kernel)
theorem w_75 : Cond.selects "PatchVoicesModel" ⟨"PatchVoicesModel", "back12", "(I)Z"⟩ ⟨"PatchVoicesModel", "back12", "(I)Z"⟩ ∈ pv_TB := pv_mem (i := 75) (by decide +kernel) (by decide +kernel)
theorem w_1302 : Cond.code ⟨"PatchVoicesModel", "back12", "(I)Z"⟩ prog_9_method_20_code 2 (Option.some .boolean) ∈ pv_TB := pv_mem (i := 1302) (by decide +kernel) (by decide +kernel)
theorem cv_Md_191 : pv_CV pv_TB "PatchVoicesModel" "PatchVoicesModel" 191 y_Md_back12 prog_9_method_20_code 2 (some .boolean) 1 := ⟨⟨rfl, by decide +kernel, by decide +kernel, by decide +kernel⟩, w_1299, w_1301, w_75, w_115, w_1302⟩
abbrev y_Md_back : MethodName := ⟨"PatchVoicesModel", "back", "(I)Z"⟩
theorem w_1280 : Cond.methodLink "PatchVoicesModel" 197 ⟨"PatchVoicesModel", "back", "(I)Z"⟩ ∈ pv_TB := pv_mem (i := 1280) (by decide +kernel) (by decide +kernel)
theorem w_1282 : Cond.instanceMethod ⟨"PatchVoicesModel", "back", "(I)Z"⟩ ∈ pv_TB := pv_mem (i := 1282) (by decide +kernel) (by decide +kernel)
theorem w_71 : Cond.selects "PatchVoicesModel" ⟨"PatchVoicesModel", "back", "(I)Z"⟩ ⟨"PatchVoicesModel", "back", "(I)Z"⟩ ∈ pv_TB := pv_mem (i := 71) (by decide +kernel) (by decide +kernel)
theorem w_1283 : Cond.code ⟨"PatchVoicesModel", "back", "(I)Z"⟩ prog_9_method_18_code 2 (Option.some .boolean) ∈ pv_TB := pv_mem (i := 1283) (by decide +kernel) (by decide +kernel)
theorem cv_Md_197 : pv_CV pv_TB "PatchVoicesModel" "PatchVoicesModel" 197 y_Md_back prog_9_method_18_code 2 (some .boolean) 1 := ⟨⟨rfl, by decide +kernel, by decide +kernel, by decide +kernel⟩, w_1280, w_1282, w_71, w_115, w_1283⟩
theorem w_1245 : Cond.methodLink "PatchVoicesModel" 194 ⟨"PatchVoicesModel", "front", "(I)Z"⟩ ∈ pv_TB := pv_mem (i := 1245) (by decide +kernel) (by decide +kernel)
theorem w_1247 : Cond.instanceMethod ⟨"PatchVoicesModel", "front", "(I)Z"⟩ ∈ pv_TB := pv_mem (i := 1247) (by decide +kernel) (by decide +kernel)
theorem w_63 : Cond.selects "PatchVoicesModel" ⟨"PatchVoicesModel", "front", "(I)Z"⟩ ⟨"PatchVoicesModel", "front", "(I)Z"⟩ ∈ pv_TB := pv_mem (i := 63) (by decide +kernel) (by decide +kernel)
theorem w_1248 : Cond.code ⟨"PatchVoicesModel", "front", "(I)Z"⟩ prog_9_method_14_code 2 (Option.some .boolean) ∈ pv_TB := pv_mem (i := 1248) (by decide +kernel) (by decide +kernel)
theorem cv_Md_194 : pv_CV pv_TB "PatchVoicesModel" "PatchVoicesModel" 194 y_Md_front prog_9_method_14_code 2 (some .boolean) 1 := ⟨⟨rfl, by decide +kernel, by decide +kernel, by decide +kernel⟩, w_1245, w_1247, w_63, w_115, w_1248⟩
abbrev y_Md_readAll : MethodName := ⟨"PatchVoicesModel", "readAll", "()I"⟩
abbrev y_Md_moduleOf : MethodName := ⟨"PatchVoicesModel", "moduleOf", "(I)I"⟩
theorem w_1311 : Cond.methodLink "PatchVoicesModel" 200 ⟨"PatchVoicesModel", "moduleOf", "(I)I"⟩ ∈ pv_TB := pv_mem (i := 1311) (by decide +kernel) (by decide +kernel)
theorem w_1313 : Cond.instanceMethod ⟨"PatchVoicesModel", "moduleOf", "(I)I"⟩ ∈ pv_TB := pv_mem (i := 1313) (by decide +kernel) (by decide +kernel)
theorem w_78 : Cond.selects "PatchVoicesModel" ⟨"PatchVoicesModel", "moduleOf", "(I)I"⟩ ⟨"PatchVoicesModel", "moduleOf", "(I)I"⟩ ∈ pv_TB := pv_mem (i := 78) (by decide +kernel) (by decide +kernel)
theorem w_1314 : Cond.code ⟨"PatchVoicesModel", "moduleOf", "(I)I"⟩ prog_9_method_22_code 4 (Option.some .int) ∈ pv_TB := pv_mem (i := 1314) (by decide +kernel) (by decide +kernel)
theorem cv_Md_200 : pv_CV pv_TB "PatchVoicesModel" "PatchVoicesModel" 200 y_Md_moduleOf prog_9_method_22_code 4 (some .int) 1 := ⟨⟨rfl, by decide +kernel, by decide +kernel, by decide +kernel⟩, w_1311, w_1313, w_78, w_115, w_1314⟩
abbrev y_Md_lacksName : MethodName := ⟨"PatchVoicesModel", "lacksName", "(I)Z"⟩
abbrev y_Md_isMisfit : MethodName := ⟨"PatchVoicesModel", "isMisfit", "(I)Z"⟩
abbrev y_Md_isTooMuch : MethodName := ⟨"PatchVoicesModel", "isTooMuch", "(I)Z"⟩
abbrev y_Md_onward : MethodName := ⟨"PatchVoicesModel", "onward", "(I)I"⟩
theorem w_1331 : Cond.methodLink "PatchVoicesModel" 204 ⟨"PatchVoicesModel", "onward", "(I)I"⟩ ∈ pv_TB := pv_mem (i := 1331) (by decide +kernel) (by decide +kernel)
theorem w_1333 : Cond.instanceMethod ⟨"PatchVoicesModel", "onward", "(I)I"⟩ ∈ pv_TB := pv_mem (i := 1333) (by decide +kernel) (by decide +kernel)
theorem w_83 : Cond.selects "PatchVoicesModel" ⟨"PatchVoicesModel", "onward", "(I)I"⟩ ⟨"PatchVoicesModel", "onward", "(I)I"⟩ ∈ pv_TB := pv_mem (i := 83) (by decide +kernel) (by decide +kernel)
theorem w_1334 : Cond.code ⟨"PatchVoicesModel", "onward", "(I)I"⟩ prog_9_method_26_code 5 (Option.some .int) ∈ pv_TB := pv_mem (i := 1334) (by decide +kernel) (by decide +kernel)
theorem cv_Md_204 : pv_CV pv_TB "PatchVoicesModel" "PatchVoicesModel" 204 y_Md_onward prog_9_method_26_code 5 (some .int) 1 := ⟨⟨rfl, by decide +kernel, by decide +kernel, by decide +kernel⟩, w_1331, w_1333, w_83, w_115, w_1334⟩
abbrev y_Md_isLooped : MethodName := ⟨"PatchVoicesModel", "isLooped", "(I)Z"⟩
theorem w_1315 : Cond.methodLink "PatchVoicesModel" 207 ⟨"PatchVoicesModel", "lacksName", "(I)Z"⟩ ∈ pv_TB := pv_mem (i := 1315) (by decide +kernel) (by decide +kernel)
theorem w_1317 : Cond.instanceMethod ⟨"PatchVoicesModel", "lacksName", "(I)Z"⟩ ∈ pv_TB := pv_mem (i := 1317) (by decide +kernel) (by decide +kernel)
theorem w_79 : Cond.selects "PatchVoicesModel" ⟨"PatchVoicesModel", "lacksName", "(I)Z"⟩ ⟨"PatchVoicesModel", "lacksName", "(I)Z"⟩ ∈ pv_TB := pv_mem (i := 79) (by decide +kernel) (by decide +kernel)
theorem w_1318 : Cond.code ⟨"PatchVoicesModel", "lacksName", "(I)Z"⟩ prog_9_method_23_code 4 (Option.some .boolean) ∈ pv_TB := pv_mem (i := 1318) (by decide +kernel) (by decide +kernel)
theorem cv_Md_207 : pv_CV pv_TB "PatchVoicesModel" "PatchVoicesModel" 207 y_Md_lacksName prog_9_method_23_code 4 (some .boolean) 1 := ⟨⟨rfl, by decide +kernel, by decide +kernel, by decide +kernel⟩, w_1315, w_1317, w_79, w_115, w_1318⟩
theorem w_1319 : Cond.methodLink "PatchVoicesModel" 210 ⟨"PatchVoicesModel", "isMisfit", "(I)Z"⟩ ∈ pv_TB := pv_mem (i := 1319) (by decide +kernel) (by decide +kernel)
theorem w_1321 : Cond.instanceMethod ⟨"PatchVoicesModel", "isMisfit", "(I)Z"⟩ ∈ pv_TB := pv_mem (i := 1321) (by decide +kernel) (by decide +kernel)
theorem w_80 : Cond.selects "PatchVoicesModel" ⟨"PatchVoicesModel", "isMisfit", "(I)Z"⟩ ⟨"PatchVoicesModel", "isMisfit", "(I)Z"⟩ ∈ pv_TB := pv_mem (i := 80) (by decide +kernel) (by decide +kernel)
theorem w_1322 : Cond.code ⟨"PatchVoicesModel", "isMisfit", "(I)Z"⟩ prog_9_method_24_code 4 (Option.some .boolean) ∈ pv_TB := pv_mem (i := 1322) (by decide +kernel) (by decide +kernel)
theorem cv_Md_210 : pv_CV pv_TB "PatchVoicesModel" "PatchVoicesModel" 210 y_Md_isMisfit prog_9_method_24_code 4 (some .boolean) 1 := ⟨⟨rfl, by decide +kernel, by decide +kernel, by decide +kernel⟩, w_1319, w_1321, w_80, w_115, w_1322⟩
theorem w_1323 : Cond.methodLink "PatchVoicesModel" 213 ⟨"PatchVoicesModel", "isTooMuch", "(I)Z"⟩ ∈ pv_TB := pv_mem (i := 1323) (by decide +kernel) (by decide +kernel)
theorem w_1325 : Cond.instanceMethod ⟨"PatchVoicesModel", "isTooMuch", "(I)Z"⟩ ∈ pv_TB := pv_mem (i := 1325) (by decide +kernel) (by decide +kernel)
theorem w_81 : Cond.selects "PatchVoicesModel" ⟨"PatchVoicesModel", "isTooMuch", "(I)Z"⟩ ⟨"PatchVoicesModel", "isTooMuch", "(I)Z"⟩ ∈ pv_TB := pv_mem (i := 81) (by decide +kernel) (by decide +kernel)
theorem w_1326 : Cond.code ⟨"PatchVoicesModel", "isTooMuch", "(I)Z"⟩ prog_9_method_25_code 4 (Option.some .boolean) ∈ pv_TB := pv_mem (i := 1326) (by decide +kernel) (by decide +kernel)
theorem cv_Md_213 : pv_CV pv_TB "PatchVoicesModel" "PatchVoicesModel" 213 y_Md_isTooMuch prog_9_method_25_code 4 (some .boolean) 1 := ⟨⟨rfl, by decide +kernel, by decide +kernel, by decide +kernel⟩, w_1323, w_1325, w_81, w_115, w_1326⟩
theorem w_1327 : Cond.methodLink "PatchVoicesModel" 216 ⟨"PatchVoicesModel", "isLooped", "(I)Z"⟩ ∈ pv_TB := pv_mem (i := 1327) (by decide +kernel) (by decide +kernel)
theorem w_1329 : Cond.instanceMethod ⟨"PatchVoicesModel", "isLooped", "(I)Z"⟩ ∈ pv_TB := pv_mem (i := 1329) (by decide +kernel) (by decide +kernel)
theorem w_82 : Cond.selects "PatchVoicesModel" ⟨"PatchVoicesModel", "isLooped", "(I)Z"⟩ ⟨"PatchVoicesModel", "isLooped", "(I)Z"⟩ ∈ pv_TB := pv_mem (i := 82) (by decide +kernel) (by decide +kernel)
theorem w_1330 : Cond.code ⟨"PatchVoicesModel", "isLooped", "(I)Z"⟩ prog_9_method_27_code 4 (Option.some .boolean) ∈ pv_TB := pv_mem (i := 1330) (by decide +kernel) (by decide +kernel)
theorem cv_Md_216 : pv_CV pv_TB "PatchVoicesModel" "PatchVoicesModel" 216 y_Md_isLooped prog_9_method_27_code 4 (some .boolean) 1 := ⟨⟨rfl, by decide +kernel, by decide +kernel, by decide +kernel⟩, w_1327, w_1329, w_82, w_115, w_1330⟩
abbrev y_Md_has : MethodName := ⟨"PatchVoicesModel", "has", "(II)Z"⟩
theorem w_1307 : Cond.methodLink "PatchVoicesModel" 219 ⟨"PatchVoicesModel", "has", "(II)Z"⟩ ∈ pv_TB := pv_mem (i := 1307) (by decide +kernel) (by decide +kernel)
theorem w_1309 : Cond.instanceMethod ⟨"PatchVoicesModel", "has", "(II)Z"⟩ ∈ pv_TB := pv_mem (i := 1309) (by decide +kernel) (by decide +kernel)
theorem w_77 : Cond.selects "PatchVoicesModel" ⟨"PatchVoicesModel", "has", "(II)Z"⟩ ⟨"PatchVoicesModel", "has", "(II)Z"⟩ ∈ pv_TB := pv_mem (i := 77) (by decide +kernel) (by decide +kernel)
theorem w_1310 : Cond.code ⟨"PatchVoicesModel", "has", "(II)Z"⟩ prog_9_method_28_code 3 (Option.some .boolean) ∈ pv_TB := pv_mem (i := 1310) (by decide +kernel) (by decide +kernel)
theorem cv_Md_219 : pv_CV pv_TB "PatchVoicesModel" "PatchVoicesModel" 219 y_Md_has prog_9_method_28_code 3 (some .boolean) 2 := ⟨⟨rfl, by decide +kernel, by decide +kernel, by decide +kernel⟩, w_1307, w_1309, w_77, w_115, w_1310⟩
theorem w_1085 : Cond.fieldLink "PatchVoicesModel" 34 "PatchVoicesModel" "faulty" "I" ∈ pv_TB := pv_mem (i := 1085) (by decide +kernel) (by decide +kernel)
theorem fw_Md_34 : pv_FW pv_TB pv_cl "PatchVoicesModel" 34 6 15 .int := ⟨R_Md, F_Md, 51, t_Md, rfl, by decide, in_Md, w_1085, o_Md, n_Md, rfl, by decide +kernel⟩
abbrev y_Md_faultOf : MethodName := ⟨"PatchVoicesModel", "faultOf", "()I"⟩
theorem w_1088 : Cond.fieldLink "PatchVoicesModel" 253 "PatchVoicesModel" "many" "I" ∈ pv_TB := pv_mem (i := 1088) (by decide +kernel) (by decide +kernel)
theorem fw_Md_253 : pv_FW pv_TB pv_cl "PatchVoicesModel" 253 6 18 .int := ⟨R_Md, F_Md, 51, t_Md, rfl, by decide, in_Md, w_1088, o_Md, n_Md, rfl, by decide +kernel⟩
theorem fl_Md_253 : pv_FL pv_TB pv_cl "PatchVoicesModel" 253 6 18 := ⟨R_Md, F_Md, 51, rfl, by decide, in_Md, w_1088⟩
theorem w_1089 : Cond.fieldLink "PatchVoicesModel" 38 "PatchVoicesModel" "kind" "[I" ∈ pv_TB := pv_mem (i := 1089) (by decide +kernel) (by decide +kernel)
theorem fl_Md_38 : pv_FL pv_TB pv_cl "PatchVoicesModel" 38 6 19 := ⟨R_Md, F_Md, 51, rfl, by decide, in_Md, w_1089⟩
theorem w_1090 : Cond.fieldLink "PatchVoicesModel" 41 "PatchVoicesModel" "count" "[I" ∈ pv_TB := pv_mem (i := 1090) (by decide +kernel) (by decide +kernel)
theorem fl_Md_41 : pv_FL pv_TB pv_cl "PatchVoicesModel" 41 6 20 := ⟨R_Md, F_Md, 51, rfl, by decide, in_Md, w_1090⟩
theorem w_1094 : Cond.fieldLink "PatchVoicesModel" 53 "PatchVoicesModel" "offset" "[I" ∈ pv_TB := pv_mem (i := 1094) (by decide +kernel) (by decide +kernel)
theorem fl_Md_53 : pv_FL pv_TB pv_cl "PatchVoicesModel" 53 6 24 := ⟨R_Md, F_Md, 51, rfl, by decide, in_Md, w_1094⟩
theorem w_1092 : Cond.fieldLink "PatchVoicesModel" 47 "PatchVoicesModel" "number" "[I" ∈ pv_TB := pv_mem (i := 1092) (by decide +kernel) (by decide +kernel)
theorem fl_Md_47 : pv_FL pv_TB pv_cl "PatchVoicesModel" 47 6 22 := ⟨R_Md, F_Md, 51, rfl, by decide, in_Md, w_1092⟩
theorem w_1091 : Cond.fieldLink "PatchVoicesModel" 44 "PatchVoicesModel" "from" "[I" ∈ pv_TB := pv_mem (i := 1091) (by decide +kernel) (by decide +kernel)
theorem fl_Md_44 : pv_FL pv_TB pv_cl "PatchVoicesModel" 44 6 21 := ⟨R_Md, F_Md, 51, rfl, by decide, in_Md, w_1091⟩
abbrev y_Md_take : MethodName := ⟨"PatchVoicesModel", "take", "()V"⟩
abbrev y_Md_isReady : MethodName := ⟨"PatchVoicesModel", "isReady", "(II)Z"⟩
theorem w_1343 : Cond.methodLink "PatchVoicesModel" 256 ⟨"PatchVoicesModel", "isReady", "(II)Z"⟩ ∈ pv_TB := pv_mem (i := 1343) (by decide +kernel) (by decide +kernel)
theorem w_1345 : Cond.instanceMethod ⟨"PatchVoicesModel", "isReady", "(II)Z"⟩ ∈ pv_TB := pv_mem (i := 1345) (by decide +kernel) (by decide +kernel)
theorem w_86 : Cond.selects "PatchVoicesModel" ⟨"PatchVoicesModel", "isReady", "(II)Z"⟩ ⟨"PatchVoicesModel", "isReady", "(II)Z"⟩ ∈ pv_TB := pv_mem (i := 86) (by decide +kernel) (by decide +kernel)
theorem w_1346 : Cond.code ⟨"PatchVoicesModel", "isReady", "(II)Z"⟩ prog_9_method_34_code 5 (Option.some .boolean) ∈ pv_TB := pv_mem (i := 1346) (by decide +kernel) (by decide +kernel)
theorem cv_Md_256 : pv_CV pv_TB "PatchVoicesModel" "PatchVoicesModel" 256 y_Md_isReady prog_9_method_34_code 5 (some .boolean) 2 := ⟨⟨rfl, by decide +kernel, by decide +kernel, by decide +kernel⟩, w_1343, w_1345, w_86, w_115, w_1346⟩
theorem w_1093 : Cond.fieldLink "PatchVoicesModel" 50 "PatchVoicesModel" "order" "[I" ∈ pv_TB := pv_mem (i := 1093) (by decide +kernel) (by decide +kernel)
theorem fl_Md_50 : pv_FL pv_TB pv_cl "PatchVoicesModel" 50 6 23 := ⟨R_Md, F_Md, 51, rfl, by decide, in_Md, w_1093⟩
abbrev y_Md_arrange : MethodName := ⟨"PatchVoicesModel", "arrange", "()V"⟩
theorem w_1095 : Cond.fieldLink "PatchVoicesModel" 56 "PatchVoicesModel" "stands" "[I" ∈ pv_TB := pv_mem (i := 1095) (by decide +kernel) (by decide +kernel)
theorem fl_Md_56 : pv_FL pv_TB pv_cl "PatchVoicesModel" 56 6 25 := ⟨R_Md, F_Md, 51, rfl, by decide, in_Md, w_1095⟩
abbrev y_Md_source : MethodName := ⟨"PatchVoicesModel", "source", "(I)I"⟩
theorem w_1096 : Cond.fieldLink "PatchVoicesModel" 59 "PatchVoicesModel" "standing" "[I" ∈ pv_TB := pv_mem (i := 1096) (by decide +kernel) (by decide +kernel)
theorem fl_Md_59 : pv_FL pv_TB pv_cl "PatchVoicesModel" 59 6 26 := ⟨R_Md, F_Md, 51, rfl, by decide, in_Md, w_1096⟩
abbrev y_Md_amount : MethodName := ⟨"PatchVoicesModel", "amount", "(I)I"⟩
theorem w_1369 : Cond.constantLong "PatchVoicesModel" 291 (-2147483648 : Int64) ∈ pv_TB := pv_mem (i := 1369) (by decide +kernel) (by decide +kernel)
theorem w_1371 : Cond.constantLong "PatchVoicesModel" 294 (2147483647 : Int64) ∈ pv_TB := pv_mem (i := 1371) (by decide +kernel) (by decide +kernel)
theorem w_1372 : Cond.constant "PatchVoicesModel" 296 (2147483647 : Int32) ∈ pv_TB := pv_mem (i := 1372) (by decide +kernel) (by decide +kernel)
theorem w_1370 : Cond.constant "PatchVoicesModel" 293 (-2147483648 : Int32) ∈ pv_TB := pv_mem (i := 1370) (by decide +kernel) (by decide +kernel)
abbrev y_Md_stop : MethodName := ⟨"PatchVoicesModel", "stop", "(J)I"⟩
theorem w_1366 : Cond.methodLink "PatchVoicesModel" 297 ⟨"PatchVoicesModel", "stop", "(J)I"⟩ ∈ pv_TB := pv_mem (i := 1366) (by decide +kernel) (by decide +kernel)
theorem w_1367 : Cond.static ⟨"PatchVoicesModel", "stop", "(J)I"⟩ ∈ pv_TB := pv_mem (i := 1367) (by decide +kernel) (by decide +kernel)
theorem w_1368 : Cond.code ⟨"PatchVoicesModel", "stop", "(J)I"⟩ prog_9_method_50_code 2 (Option.some .int) ∈ pv_TB := pv_mem (i := 1368) (by decide +kernel) (by decide +kernel)
theorem cs_Md_297 : pv_CS pv_TB "PatchVoicesModel" 297 y_Md_stop prog_9_method_50_code 2 (some .int) 1 := ⟨⟨by decide +kernel, by decide +kernel, by decide +kernel⟩, w_1366, w_1367, w_115, w_1368⟩
theorem w_1373 : Cond.constant "PatchVoicesModel" 301 (65536 : Int32) ∈ pv_TB := pv_mem (i := 1373) (by decide +kernel) (by decide +kernel)
abbrev y_Md_plain : MethodName := ⟨"PatchVoicesModel", "plain", "(IIII)I"⟩
theorem w_1355 : Cond.methodLink "PatchVoicesModel" 259 ⟨"PatchVoicesModel", "source", "(I)I"⟩ ∈ pv_TB := pv_mem (i := 1355) (by decide +kernel) (by decide +kernel)
theorem w_1357 : Cond.instanceMethod ⟨"PatchVoicesModel", "source", "(I)I"⟩ ∈ pv_TB := pv_mem (i := 1357) (by decide +kernel) (by decide +kernel)
theorem w_89 : Cond.selects "PatchVoicesModel" ⟨"PatchVoicesModel", "source", "(I)I"⟩ ⟨"PatchVoicesModel", "source", "(I)I"⟩ ∈ pv_TB := pv_mem (i := 89) (by decide +kernel) (by decide +kernel)
theorem w_1358 : Cond.code ⟨"PatchVoicesModel", "source", "(I)I"⟩ prog_9_method_36_code 2 (Option.some .int) ∈ pv_TB := pv_mem (i := 1358) (by decide +kernel) (by decide +kernel)
theorem cv_Md_259 : pv_CV pv_TB "PatchVoicesModel" "PatchVoicesModel" 259 y_Md_source prog_9_method_36_code 2 (some .int) 1 := ⟨⟨rfl, by decide +kernel, by decide +kernel, by decide +kernel⟩, w_1355, w_1357, w_89, w_115, w_1358⟩
theorem w_1359 : Cond.methodLink "PatchVoicesModel" 262 ⟨"PatchVoicesModel", "amount", "(I)I"⟩ ∈ pv_TB := pv_mem (i := 1359) (by decide +kernel) (by decide +kernel)
theorem w_1361 : Cond.instanceMethod ⟨"PatchVoicesModel", "amount", "(I)I"⟩ ∈ pv_TB := pv_mem (i := 1361) (by decide +kernel) (by decide +kernel)
theorem w_90 : Cond.selects "PatchVoicesModel" ⟨"PatchVoicesModel", "amount", "(I)I"⟩ ⟨"PatchVoicesModel", "amount", "(I)I"⟩ ∈ pv_TB := pv_mem (i := 90) (by decide +kernel) (by decide +kernel)
theorem w_1362 : Cond.code ⟨"PatchVoicesModel", "amount", "(I)I"⟩ prog_9_method_37_code 2 (Option.some .int) ∈ pv_TB := pv_mem (i := 1362) (by decide +kernel) (by decide +kernel)
theorem cv_Md_262 : pv_CV pv_TB "PatchVoicesModel" "PatchVoicesModel" 262 y_Md_amount prog_9_method_37_code 2 (some .int) 1 := ⟨⟨rfl, by decide +kernel, by decide +kernel, by decide +kernel⟩, w_1359, w_1361, w_90, w_115, w_1362⟩
abbrev y_Md_alike : MethodName := ⟨"PatchVoicesModel", "alike", "(II)Z"⟩
theorem w_1378 : Cond.methodLink "PatchVoicesModel" 265 ⟨"PatchVoicesModel", "alike", "(II)Z"⟩ ∈ pv_TB := pv_mem (i := 1378) (by decide +kernel) (by decide +kernel)
theorem w_1380 : Cond.instanceMethod ⟨"PatchVoicesModel", "alike", "(II)Z"⟩ ∈ pv_TB := pv_mem (i := 1380) (by decide +kernel) (by decide +kernel)
theorem w_92 : Cond.selects "PatchVoicesModel" ⟨"PatchVoicesModel", "alike", "(II)Z"⟩ ⟨"PatchVoicesModel", "alike", "(II)Z"⟩ ∈ pv_TB := pv_mem (i := 92) (by decide +kernel) (by decide +kernel)
theorem w_1381 : Cond.code ⟨"PatchVoicesModel", "alike", "(II)Z"⟩ prog_9_method_38_code 3 (Option.some .boolean) ∈ pv_TB := pv_mem (i := 1381) (by decide +kernel) (by decide +kernel)
theorem cv_Md_265 : pv_CV pv_TB "PatchVoicesModel" "PatchVoicesModel" 265 y_Md_alike prog_9_method_38_code 3 (some .boolean) 2 := ⟨⟨rfl, by decide +kernel, by decide +kernel, by decide +kernel⟩, w_1378, w_1380, w_92, w_115, w_1381⟩
abbrev y_Md_isSame : MethodName := ⟨"PatchVoicesModel", "isSame", "(II)Z"⟩
theorem w_1363 : Cond.methodLink "PatchVoicesModel" 268 ⟨"PatchVoicesModel", "plain", "(IIII)I"⟩ ∈ pv_TB := pv_mem (i := 1363) (by decide +kernel) (by decide +kernel)
theorem w_1364 : Cond.static ⟨"PatchVoicesModel", "plain", "(IIII)I"⟩ ∈ pv_TB := pv_mem (i := 1364) (by decide +kernel) (by decide +kernel)
theorem w_1365 : Cond.code ⟨"PatchVoicesModel", "plain", "(IIII)I"⟩ prog_9_method_51_code 4 (Option.some .int) ∈ pv_TB := pv_mem (i := 1365) (by decide +kernel) (by decide +kernel)
theorem cs_Md_268 : pv_CS pv_TB "PatchVoicesModel" 268 y_Md_plain prog_9_method_51_code 4 (some .int) 4 := ⟨⟨by decide +kernel, by decide +kernel, by decide +kernel⟩, w_1363, w_1364, w_115, w_1365⟩
theorem w_1374 : Cond.methodLink "PatchVoicesModel" 272 ⟨"PatchVoicesModel", "isSame", "(II)Z"⟩ ∈ pv_TB := pv_mem (i := 1374) (by decide +kernel) (by decide +kernel)
theorem w_1376 : Cond.instanceMethod ⟨"PatchVoicesModel", "isSame", "(II)Z"⟩ ∈ pv_TB := pv_mem (i := 1376) (by decide +kernel) (by decide +kernel)
theorem w_91 : Cond.selects "PatchVoicesModel" ⟨"PatchVoicesModel", "isSame", "(II)Z"⟩ ⟨"PatchVoicesModel", "isSame", "(II)Z"⟩ ∈ pv_TB := pv_mem (i := 91) (by decide +kernel) (by decide +kernel)
theorem w_1377 : Cond.code ⟨"PatchVoicesModel", "isSame", "(II)Z"⟩ prog_9_method_39_code 5 (Option.some .boolean) ∈ pv_TB := pv_mem (i := 1377) (by decide +kernel) (by decide +kernel)
theorem cv_Md_272 : pv_CV pv_TB "PatchVoicesModel" "PatchVoicesModel" 272 y_Md_isSame prog_9_method_39_code 5 (some .boolean) 2 := ⟨⟨rfl, by decide +kernel, by decide +kernel, by decide +kernel⟩, w_1374, w_1376, w_91, w_115, w_1377⟩
abbrev y_Md_judge : MethodName := ⟨"PatchVoicesModel", "judge", "(I)V"⟩
theorem w_1087 : Cond.fieldLink "PatchVoicesModel" 250 "PatchVoicesModel" "optimising" "Z" ∈ pv_TB := pv_mem (i := 1087) (by decide +kernel) (by decide +kernel)
theorem fl_Md_250 : pv_FL pv_TB pv_cl "PatchVoicesModel" 250 6 17 := ⟨R_Md, F_Md, 51, rfl, by decide, in_Md, w_1087⟩
theorem w_1351 : Cond.methodLink "PatchVoicesModel" 275 ⟨"PatchVoicesModel", "judge", "(I)V"⟩ ∈ pv_TB := pv_mem (i := 1351) (by decide +kernel) (by decide +kernel)
theorem w_1353 : Cond.instanceMethod ⟨"PatchVoicesModel", "judge", "(I)V"⟩ ∈ pv_TB := pv_mem (i := 1353) (by decide +kernel) (by decide +kernel)
theorem w_88 : Cond.selects "PatchVoicesModel" ⟨"PatchVoicesModel", "judge", "(I)V"⟩ ⟨"PatchVoicesModel", "judge", "(I)V"⟩ ∈ pv_TB := pv_mem (i := 88) (by decide +kernel) (by decide +kernel)
theorem w_1354 : Cond.code ⟨"PatchVoicesModel", "judge", "(I)V"⟩ prog_9_method_40_code 5 (Option.none : Option Jvm.ClassFile.FieldType) ∈ pv_TB := pv_mem (i := 1354) (by decide +kernel) (by decide +kernel)
theorem cv_Md_275 : pv_CV pv_TB "PatchVoicesModel" "PatchVoicesModel" 275 y_Md_judge prog_9_method_40_code 5 none 1 := ⟨⟨rfl, by decide +kernel, by decide +kernel, by decide +kernel⟩, w_1351, w_1353, w_88, w_115, w_1354⟩
abbrev y_Md_settle : MethodName := ⟨"PatchVoicesModel", "settle", "()V"⟩
theorem w_1097 : Cond.fieldLink "PatchVoicesModel" 62 "PatchVoicesModel" "kept" "[Z" ∈ pv_TB := pv_mem (i := 1097) (by decide +kernel) (by decide +kernel)
theorem fl_Md_62 : pv_FL pv_TB pv_cl "PatchVoicesModel" 62 6 27 := ⟨R_Md, F_Md, 51, rfl, by decide, in_Md, w_1097⟩
abbrev y_Md_keep : MethodName := ⟨"PatchVoicesModel", "keep", "()V"⟩
theorem w_1099 : Cond.fieldLink "PatchVoicesModel" 66 "PatchVoicesModel" "stepOf" "[I" ∈ pv_TB := pv_mem (i := 1099) (by decide +kernel) (by decide +kernel)
theorem fl_Md_66 : pv_FL pv_TB pv_cl "PatchVoicesModel" 66 6 29 := ⟨R_Md, F_Md, 51, rfl, by decide, in_Md, w_1099⟩
theorem w_1100 : Cond.fieldLink "PatchVoicesModel" 69 "PatchVoicesModel" "puts" "[Z" ∈ pv_TB := pv_mem (i := 1100) (by decide +kernel) (by decide +kernel)
theorem fl_Md_69 : pv_FL pv_TB pv_cl "PatchVoicesModel" 69 6 30 := ⟨R_Md, F_Md, 51, rfl, by decide, in_Md, w_1100⟩
abbrev y_Md_reads : MethodName := ⟨"PatchVoicesModel", "reads", "(II)Z"⟩
theorem w_1101 : Cond.fieldLink "PatchVoicesModel" 72 "PatchVoicesModel" "slot" "[I" ∈ pv_TB := pv_mem (i := 1101) (by decide +kernel) (by decide +kernel)
theorem fl_Md_72 : pv_FL pv_TB pv_cl "PatchVoicesModel" 72 6 31 := ⟨R_Md, F_Md, 51, rfl, by decide, in_Md, w_1101⟩
theorem w_1098 : Cond.fieldLink "PatchVoicesModel" 279 "PatchVoicesModel" "stepped" "I" ∈ pv_TB := pv_mem (i := 1098) (by decide +kernel) (by decide +kernel)
theorem fl_Md_279 : pv_FL pv_TB pv_cl "PatchVoicesModel" 279 6 28 := ⟨R_Md, F_Md, 51, rfl, by decide, in_Md, w_1098⟩
theorem w_1394 : Cond.methodLink "PatchVoicesModel" 282 ⟨"PatchVoicesModel", "reads", "(II)Z"⟩ ∈ pv_TB := pv_mem (i := 1394) (by decide +kernel) (by decide +kernel)
theorem w_1396 : Cond.instanceMethod ⟨"PatchVoicesModel", "reads", "(II)Z"⟩ ∈ pv_TB := pv_mem (i := 1396) (by decide +kernel) (by decide +kernel)
theorem w_96 : Cond.selects "PatchVoicesModel" ⟨"PatchVoicesModel", "reads", "(II)Z"⟩ ⟨"PatchVoicesModel", "reads", "(II)Z"⟩ ∈ pv_TB := pv_mem (i := 96) (by decide +kernel) (by decide +kernel)
theorem w_1397 : Cond.code ⟨"PatchVoicesModel", "reads", "(II)Z"⟩ prog_9_method_43_code 6 (Option.some .boolean) ∈ pv_TB := pv_mem (i := 1397) (by decide +kernel) (by decide +kernel)
theorem cv_Md_282 : pv_CV pv_TB "PatchVoicesModel" "PatchVoicesModel" 282 y_Md_reads prog_9_method_43_code 6 (some .boolean) 2 := ⟨⟨rfl, by decide +kernel, by decide +kernel, by decide +kernel⟩, w_1394, w_1396, w_96, w_115, w_1397⟩
abbrev y_Md_isFull : MethodName := ⟨"PatchVoicesModel", "isFull", "(II)Z"⟩
theorem fw_Md_279 : pv_FW pv_TB pv_cl "PatchVoicesModel" 279 6 28 .int := ⟨R_Md, F_Md, 51, t_Md, rfl, by decide, in_Md, w_1098, o_Md, n_Md, rfl, by decide +kernel⟩
theorem w_1390 : Cond.methodLink "PatchVoicesModel" 285 ⟨"PatchVoicesModel", "isFull", "(II)Z"⟩ ∈ pv_TB := pv_mem (i := 1390) (by decide +kernel) (by decide +kernel)
theorem w_1392 : Cond.instanceMethod ⟨"PatchVoicesModel", "isFull", "(II)Z"⟩ ∈ pv_TB := pv_mem (i := 1392) (by decide +kernel) (by decide +kernel)
theorem w_95 : Cond.selects "PatchVoicesModel" ⟨"PatchVoicesModel", "isFull", "(II)Z"⟩ ⟨"PatchVoicesModel", "isFull", "(II)Z"⟩ ∈ pv_TB := pv_mem (i := 95) (by decide +kernel) (by decide +kernel)
theorem w_1393 : Cond.code ⟨"PatchVoicesModel", "isFull", "(II)Z"⟩ prog_9_method_44_code 8 (Option.some .boolean) ∈ pv_TB := pv_mem (i := 1393) (by decide +kernel) (by decide +kernel)
theorem cv_Md_285 : pv_CV pv_TB "PatchVoicesModel" "PatchVoicesModel" 285 y_Md_isFull prog_9_method_44_code 8 (some .boolean) 2 := ⟨⟨rfl, by decide +kernel, by decide +kernel, by decide +kernel⟩, w_1390, w_1392, w_95, w_115, w_1393⟩
abbrev y_Md_layOut : MethodName := ⟨"PatchVoicesModel", "layOut", "()V"⟩
theorem w_1118 : Cond.fieldLink "PatchVoicesModel" 332 "PatchVoicesModel" "samples" "I" ∈ pv_TB := pv_mem (i := 1118) (by decide +kernel) (by decide +kernel)
theorem fw_Md_332 : pv_FW pv_TB pv_cl "PatchVoicesModel" 332 6 48 .int := ⟨R_Md, F_Md, 51, t_Md, rfl, by decide, in_Md, w_1118, o_Md, n_Md, rfl, by decide +kernel⟩
theorem w_1117 : Cond.fieldLink "PatchVoicesModel" 335 "PatchVoicesModel" "takings" "I" ∈ pv_TB := pv_mem (i := 1117) (by decide +kernel) (by decide +kernel)
theorem fw_Md_335 : pv_FW pv_TB pv_cl "PatchVoicesModel" 335 6 47 .int := ⟨R_Md, F_Md, 51, t_Md, rfl, by decide, in_Md, w_1117, o_Md, n_Md, rfl, by decide +kernel⟩
theorem w_1120 : Cond.fieldLink "PatchVoicesModel" 338 "PatchVoicesModel" "outCount" "I" ∈ pv_TB := pv_mem (i := 1120) (by decide +kernel) (by decide +kernel)
theorem fw_Md_338 : pv_FW pv_TB pv_cl "PatchVoicesModel" 338 6 50 .int := ⟨R_Md, F_Md, 51, t_Md, rfl, by decide, in_Md, w_1120, o_Md, n_Md, rfl, by decide +kernel⟩
theorem w_1104 : Cond.fieldLink "PatchVoicesModel" 81 "PatchVoicesModel" "taken" "[Z" ∈ pv_TB := pv_mem (i := 1104) (by decide +kernel) (by decide +kernel)
theorem fl_Md_81 : pv_FL pv_TB pv_cl "PatchVoicesModel" 81 6 34 := ⟨R_Md, F_Md, 51, rfl, by decide, in_Md, w_1104⟩
theorem w_1107 : Cond.fieldLink "PatchVoicesModel" 90 "PatchVoicesModel" "gate" "[Z" ∈ pv_TB := pv_mem (i := 1107) (by decide +kernel) (by decide +kernel)
theorem fl_Md_90 : pv_FL pv_TB pv_cl "PatchVoicesModel" 90 6 37 := ⟨R_Md, F_Md, 51, rfl, by decide, in_Md, w_1107⟩
abbrev y_Md_silence : MethodName := ⟨"PatchVoicesModel", "silence", "()V"⟩
theorem w_1241 : Cond.methodLink "PatchVoicesModel" 222 ⟨"PatchVoicesModel", "readAll", "()I"⟩ ∈ pv_TB := pv_mem (i := 1241) (by decide +kernel) (by decide +kernel)
theorem w_1243 : Cond.instanceMethod ⟨"PatchVoicesModel", "readAll", "()I"⟩ ∈ pv_TB := pv_mem (i := 1243) (by decide +kernel) (by decide +kernel)
theorem w_62 : Cond.selects "PatchVoicesModel" ⟨"PatchVoicesModel", "readAll", "()I"⟩ ⟨"PatchVoicesModel", "readAll", "()I"⟩ ∈ pv_TB := pv_mem (i := 62) (by decide +kernel) (by decide +kernel)
theorem w_1244 : Cond.code ⟨"PatchVoicesModel", "readAll", "()I"⟩ prog_9_method_21_code 3 (Option.some .int) ∈ pv_TB := pv_mem (i := 1244) (by decide +kernel) (by decide +kernel)
theorem cv_Md_222 : pv_CV pv_TB "PatchVoicesModel" "PatchVoicesModel" 222 y_Md_readAll prog_9_method_21_code 3 (some .int) 0 := ⟨⟨rfl, by decide +kernel, by decide +kernel, by decide +kernel⟩, w_1241, w_1243, w_62, w_115, w_1244⟩
theorem w_1303 : Cond.methodLink "PatchVoicesModel" 226 ⟨"PatchVoicesModel", "faultOf", "()I"⟩ ∈ pv_TB := pv_mem (i := 1303) (by decide +kernel) (by decide +kernel)
theorem w_1305 : Cond.instanceMethod ⟨"PatchVoicesModel", "faultOf", "()I"⟩ ∈ pv_TB := pv_mem (i := 1305) (by decide +kernel) (by decide +kernel)
theorem w_76 : Cond.selects "PatchVoicesModel" ⟨"PatchVoicesModel", "faultOf", "()I"⟩ ⟨"PatchVoicesModel", "faultOf", "()I"⟩ ∈ pv_TB := pv_mem (i := 76) (by decide +kernel) (by decide +kernel)
theorem w_1306 : Cond.code ⟨"PatchVoicesModel", "faultOf", "()I"⟩ prog_9_method_29_code 4 (Option.some .int) ∈ pv_TB := pv_mem (i := 1306) (by decide +kernel) (by decide +kernel)
theorem cv_Md_226 : pv_CV pv_TB "PatchVoicesModel" "PatchVoicesModel" 226 y_Md_faultOf prog_9_method_29_code 4 (some .int) 0 := ⟨⟨rfl, by decide +kernel, by decide +kernel, by decide +kernel⟩, w_1303, w_1305, w_76, w_115, w_1306⟩
theorem w_1335 : Cond.methodLink "PatchVoicesModel" 229 ⟨"PatchVoicesModel", "take", "()V"⟩ ∈ pv_TB := pv_mem (i := 1335) (by decide +kernel) (by decide +kernel)
theorem w_1337 : Cond.instanceMethod ⟨"PatchVoicesModel", "take", "()V"⟩ ∈ pv_TB := pv_mem (i := 1337) (by decide +kernel) (by decide +kernel)
theorem w_84 : Cond.selects "PatchVoicesModel" ⟨"PatchVoicesModel", "take", "()V"⟩ ⟨"PatchVoicesModel", "take", "()V"⟩ ∈ pv_TB := pv_mem (i := 84) (by decide +kernel) (by decide +kernel)
theorem w_1338 : Cond.code ⟨"PatchVoicesModel", "take", "()V"⟩ prog_9_method_33_code 5 (Option.none : Option Jvm.ClassFile.FieldType) ∈ pv_TB := pv_mem (i := 1338) (by decide +kernel) (by decide +kernel)
theorem cv_Md_229 : pv_CV pv_TB "PatchVoicesModel" "PatchVoicesModel" 229 y_Md_take prog_9_method_33_code 5 none 0 := ⟨⟨rfl, by decide +kernel, by decide +kernel, by decide +kernel⟩, w_1335, w_1337, w_84, w_115, w_1338⟩
theorem w_1339 : Cond.methodLink "PatchVoicesModel" 232 ⟨"PatchVoicesModel", "arrange", "()V"⟩ ∈ pv_TB := pv_mem (i := 1339) (by decide +kernel) (by decide +kernel)
theorem w_1341 : Cond.instanceMethod ⟨"PatchVoicesModel", "arrange", "()V"⟩ ∈ pv_TB := pv_mem (i := 1341) (by decide +kernel) (by decide +kernel)
theorem w_85 : Cond.selects "PatchVoicesModel" ⟨"PatchVoicesModel", "arrange", "()V"⟩ ⟨"PatchVoicesModel", "arrange", "()V"⟩ ∈ pv_TB := pv_mem (i := 85) (by decide +kernel) (by decide +kernel)
theorem w_1342 : Cond.code ⟨"PatchVoicesModel", "arrange", "()V"⟩ prog_9_method_35_code 4 (Option.none : Option Jvm.ClassFile.FieldType) ∈ pv_TB := pv_mem (i := 1342) (by decide +kernel) (by decide +kernel)
theorem cv_Md_232 : pv_CV pv_TB "PatchVoicesModel" "PatchVoicesModel" 232 y_Md_arrange prog_9_method_35_code 4 none 0 := ⟨⟨rfl, by decide +kernel, by decide +kernel, by decide +kernel⟩, w_1339, w_1341, w_85, w_115, w_1342⟩
theorem w_1347 : Cond.methodLink "PatchVoicesModel" 235 ⟨"PatchVoicesModel", "settle", "()V"⟩ ∈ pv_TB := pv_mem (i := 1347) (by decide +kernel) (by decide +kernel)
theorem w_1349 : Cond.instanceMethod ⟨"PatchVoicesModel", "settle", "()V"⟩ ∈ pv_TB := pv_mem (i := 1349) (by decide +kernel) (by decide +kernel)
theorem w_87 : Cond.selects "PatchVoicesModel" ⟨"PatchVoicesModel", "settle", "()V"⟩ ⟨"PatchVoicesModel", "settle", "()V"⟩ ∈ pv_TB := pv_mem (i := 87) (by decide +kernel) (by decide +kernel)
theorem w_1350 : Cond.code ⟨"PatchVoicesModel", "settle", "()V"⟩ prog_9_method_41_code 2 (Option.none : Option Jvm.ClassFile.FieldType) ∈ pv_TB := pv_mem (i := 1350) (by decide +kernel) (by decide +kernel)
theorem cv_Md_235 : pv_CV pv_TB "PatchVoicesModel" "PatchVoicesModel" 235 y_Md_settle prog_9_method_41_code 2 none 0 := ⟨⟨rfl, by decide +kernel, by decide +kernel, by decide +kernel⟩, w_1347, w_1349, w_87, w_115, w_1350⟩
theorem w_1382 : Cond.methodLink "PatchVoicesModel" 238 ⟨"PatchVoicesModel", "keep", "()V"⟩ ∈ pv_TB := pv_mem (i := 1382) (by decide +kernel) (by decide +kernel)
theorem w_1384 : Cond.instanceMethod ⟨"PatchVoicesModel", "keep", "()V"⟩ ∈ pv_TB := pv_mem (i := 1384) (by decide +kernel) (by decide +kernel)
theorem w_93 : Cond.selects "PatchVoicesModel" ⟨"PatchVoicesModel", "keep", "()V"⟩ ⟨"PatchVoicesModel", "keep", "()V"⟩ ∈ pv_TB := pv_mem (i := 93) (by decide +kernel) (by decide +kernel)
theorem w_1385 : Cond.code ⟨"PatchVoicesModel", "keep", "()V"⟩ prog_9_method_42_code 4 (Option.none : Option Jvm.ClassFile.FieldType) ∈ pv_TB := pv_mem (i := 1385) (by decide +kernel) (by decide +kernel)
theorem cv_Md_238 : pv_CV pv_TB "PatchVoicesModel" "PatchVoicesModel" 238 y_Md_keep prog_9_method_42_code 4 none 0 := ⟨⟨rfl, by decide +kernel, by decide +kernel, by decide +kernel⟩, w_1382, w_1384, w_93, w_115, w_1385⟩
theorem w_1386 : Cond.methodLink "PatchVoicesModel" 241 ⟨"PatchVoicesModel", "layOut", "()V"⟩ ∈ pv_TB := pv_mem (i := 1386) (by decide +kernel) (by decide +kernel)
theorem w_1388 : Cond.instanceMethod ⟨"PatchVoicesModel", "layOut", "()V"⟩ ∈ pv_TB := pv_mem (i := 1388) (by decide +kernel) (by decide +kernel)
theorem w_94 : Cond.selects "PatchVoicesModel" ⟨"PatchVoicesModel", "layOut", "()V"⟩ ⟨"PatchVoicesModel", "layOut", "()V"⟩ ∈ pv_TB := pv_mem (i := 94) (by decide +kernel) (by decide +kernel)
theorem w_1389 : Cond.code ⟨"PatchVoicesModel", "layOut", "()V"⟩ prog_9_method_45_code 3 (Option.none : Option Jvm.ClassFile.FieldType) ∈ pv_TB := pv_mem (i := 1389) (by decide +kernel) (by decide +kernel)
theorem cv_Md_241 : pv_CV pv_TB "PatchVoicesModel" "PatchVoicesModel" 241 y_Md_layOut prog_9_method_45_code 3 none 0 := ⟨⟨rfl, by decide +kernel, by decide +kernel, by decide +kernel⟩, w_1386, w_1388, w_94, w_115, w_1389⟩
theorem w_1086 : Cond.fieldLink "PatchVoicesModel" 244 "PatchVoicesModel" "there" "Z" ∈ pv_TB := pv_mem (i := 1086) (by decide +kernel) (by decide +kernel)
theorem fw_Md_244 : pv_FW pv_TB pv_cl "PatchVoicesModel" 244 6 16 .boolean := ⟨R_Md, F_Md, 51, t_Md, rfl, by decide, in_Md, w_1086, o_Md, n_Md, rfl, by decide +kernel⟩
theorem w_1398 : Cond.methodLink "PatchVoicesModel" 247 ⟨"PatchVoicesModel", "silence", "()V"⟩ ∈ pv_TB := pv_mem (i := 1398) (by decide +kernel) (by decide +kernel)
theorem w_1400 : Cond.instanceMethod ⟨"PatchVoicesModel", "silence", "()V"⟩ ∈ pv_TB := pv_mem (i := 1400) (by decide +kernel) (by decide +kernel)
theorem w_97 : Cond.selects "PatchVoicesModel" ⟨"PatchVoicesModel", "silence", "()V"⟩ ⟨"PatchVoicesModel", "silence", "()V"⟩ ∈ pv_TB := pv_mem (i := 97) (by decide +kernel) (by decide +kernel)
theorem w_1401 : Cond.code ⟨"PatchVoicesModel", "silence", "()V"⟩ prog_9_method_60_code 2 (Option.none : Option Jvm.ClassFile.FieldType) ∈ pv_TB := pv_mem (i := 1401) (by decide +kernel) (by decide +kernel)
theorem cv_Md_247 : pv_CV pv_TB "PatchVoicesModel" "PatchVoicesModel" 247 y_Md_silence prog_9_method_60_code 2 none 0 := ⟨⟨rfl, by decide +kernel, by decide +kernel, by decide +kernel⟩, w_1398, w_1400, w_97, w_115, w_1401⟩
abbrev y_Md_compile : MethodName := ⟨"PatchVoicesModel", "compile", "()I"⟩
theorem fl_Md_34 : pv_FL pv_TB pv_cl "PatchVoicesModel" 34 6 15 := ⟨R_Md, F_Md, 51, rfl, by decide, in_Md, w_1085⟩
abbrev y_Md_named : MethodName := ⟨"PatchVoicesModel", "named", "()I"⟩
theorem fw_Md_250 : pv_FW pv_TB pv_cl "PatchVoicesModel" 250 6 17 .boolean := ⟨R_Md, F_Md, 51, t_Md, rfl, by decide, in_Md, w_1087, o_Md, n_Md, rfl, by decide +kernel⟩
abbrev y_Md_optimise : MethodName := ⟨"PatchVoicesModel", "optimise", "(Z)V"⟩
theorem fl_Md_244 : pv_FL pv_TB pv_cl "PatchVoicesModel" 244 6 16 := ⟨R_Md, F_Md, 51, rfl, by decide, in_Md, w_1086⟩
abbrev y_Md_steps : MethodName := ⟨"PatchVoicesModel", "steps", "()I"⟩
abbrev y_Md_slotOf : MethodName := ⟨"PatchVoicesModel", "slotOf", "(I)I"⟩
theorem w_1418 : Cond.methodLink "PatchVoicesModel" 288 ⟨"PatchVoicesModel", "slotOf", "(I)I"⟩ ∈ pv_TB := pv_mem (i := 1418) (by decide +kernel) (by decide +kernel)
theorem w_1420 : Cond.instanceMethod ⟨"PatchVoicesModel", "slotOf", "(I)I"⟩ ∈ pv_TB := pv_mem (i := 1420) (by decide +kernel) (by decide +kernel)
theorem w_98 : Cond.selects "PatchVoicesModel" ⟨"PatchVoicesModel", "slotOf", "(I)I"⟩ ⟨"PatchVoicesModel", "slotOf", "(I)I"⟩ ∈ pv_TB := pv_mem (i := 98) (by decide +kernel) (by decide +kernel)
theorem w_1421 : Cond.code ⟨"PatchVoicesModel", "slotOf", "(I)I"⟩ prog_9_method_47_code 4 (Option.some .int) ∈ pv_TB := pv_mem (i := 1421) (by decide +kernel) (by decide +kernel)
theorem cv_Md_288 : pv_CV pv_TB "PatchVoicesModel" "PatchVoicesModel" 288 y_Md_slotOf prog_9_method_47_code 4 (some .int) 1 := ⟨⟨rfl, by decide +kernel, by decide +kernel, by decide +kernel⟩, w_1418, w_1420, w_98, w_115, w_1421⟩
abbrev y_Md_step : MethodName := ⟨"PatchVoicesModel", "step", "(II)I"⟩
abbrev y_Md_slots : MethodName := ⟨"PatchVoicesModel", "slots", "()I"⟩
theorem w_1473 : Cond.constant "PatchVoicesModel" 302 (32768 : Int32) ∈ pv_TB := pv_mem (i := 1473) (by decide +kernel) (by decide +kernel)
abbrev y_Md_wave : MethodName := ⟨"PatchVoicesModel", "wave", "(II)I"⟩
theorem w_1113 : Cond.fieldLink "PatchVoicesModel" 108 "PatchVoicesModel" "memory" "[I" ∈ pv_TB := pv_mem (i := 1113) (by decide +kernel) (by decide +kernel)
theorem fl_Md_108 : pv_FL pv_TB pv_cl "PatchVoicesModel" 108 6 43 := ⟨R_Md, F_Md, 51, rfl, by decide, in_Md, w_1113⟩
theorem w_1484 : Cond.constant "PatchVoicesModel" 303 (-1262693540 : Int32) ∈ pv_TB := pv_mem (i := 1484) (by decide +kernel) (by decide +kernel)
abbrev y_Md_noise : MethodName := ⟨"PatchVoicesModel", "noise", "(I)I"⟩
theorem w_1114 : Cond.fieldLink "PatchVoicesModel" 111 "PatchVoicesModel" "second" "[I" ∈ pv_TB := pv_mem (i := 1114) (by decide +kernel) (by decide +kernel)
theorem fl_Md_111 : pv_FL pv_TB pv_cl "PatchVoicesModel" 111 6 44 := ⟨R_Md, F_Md, 51, rfl, by decide, in_Md, w_1114⟩
theorem w_1478 : Cond.constantLong "PatchVoicesModel" 304 (65536 : Int64) ∈ pv_TB := pv_mem (i := 1478) (by decide +kernel) (by decide +kernel)
theorem w_1479 : Cond.constantLong "PatchVoicesModel" 306 (32768 : Int64) ∈ pv_TB := pv_mem (i := 1479) (by decide +kernel) (by decide +kernel)
abbrev y_Md_envelope : MethodName := ⟨"PatchVoicesModel", "envelope", "(IIIII)I"⟩
abbrev y_Md_filter : MethodName := ⟨"PatchVoicesModel", "filter", "(IIII)I"⟩
abbrev y_Md_hold : MethodName := ⟨"PatchVoicesModel", "hold", "(III)I"⟩
theorem w_1115 : Cond.fieldLink "PatchVoicesModel" 114 "PatchVoicesModel" "value" "[I" ∈ pv_TB := pv_mem (i := 1115) (by decide +kernel) (by decide +kernel)
theorem fl_Md_114 : pv_FL pv_TB pv_cl "PatchVoicesModel" 114 6 45 := ⟨R_Md, F_Md, 51, rfl, by decide, in_Md, w_1115⟩
abbrev y_Md_inputOf : MethodName := ⟨"PatchVoicesModel", "inputOf", "(II)I"⟩
theorem w_1466 : Cond.methodLink "PatchVoicesModel" 308 ⟨"PatchVoicesModel", "inputOf", "(II)I"⟩ ∈ pv_TB := pv_mem (i := 1466) (by decide +kernel) (by decide +kernel)
theorem w_1468 : Cond.instanceMethod ⟨"PatchVoicesModel", "inputOf", "(II)I"⟩ ∈ pv_TB := pv_mem (i := 1468) (by decide +kernel) (by decide +kernel)
theorem w_103 : Cond.selects "PatchVoicesModel" ⟨"PatchVoicesModel", "inputOf", "(II)I"⟩ ⟨"PatchVoicesModel", "inputOf", "(II)I"⟩ ∈ pv_TB := pv_mem (i := 103) (by decide +kernel) (by decide +kernel)
theorem w_1469 : Cond.code ⟨"PatchVoicesModel", "inputOf", "(II)I"⟩ prog_9_method_57_code 3 (Option.some .int) ∈ pv_TB := pv_mem (i := 1469) (by decide +kernel) (by decide +kernel)
theorem cv_Md_308 : pv_CV pv_TB "PatchVoicesModel" "PatchVoicesModel" 308 y_Md_inputOf prog_9_method_57_code 3 (some .int) 2 := ⟨⟨rfl, by decide +kernel, by decide +kernel, by decide +kernel⟩, w_1466, w_1468, w_103, w_115, w_1469⟩
theorem w_1489 : Cond.methodLink "PatchVoicesModel" 325 ⟨"PatchVoicesModel", "hold", "(III)I"⟩ ∈ pv_TB := pv_mem (i := 1489) (by decide +kernel) (by decide +kernel)
theorem w_1491 : Cond.instanceMethod ⟨"PatchVoicesModel", "hold", "(III)I"⟩ ∈ pv_TB := pv_mem (i := 1491) (by decide +kernel) (by decide +kernel)
theorem w_107 : Cond.selects "PatchVoicesModel" ⟨"PatchVoicesModel", "hold", "(III)I"⟩ ⟨"PatchVoicesModel", "hold", "(III)I"⟩ ∈ pv_TB := pv_mem (i := 107) (by decide +kernel) (by decide +kernel)
theorem w_1492 : Cond.code ⟨"PatchVoicesModel", "hold", "(III)I"⟩ prog_9_method_56_code 4 (Option.some .int) ∈ pv_TB := pv_mem (i := 1492) (by decide +kernel) (by decide +kernel)
theorem cv_Md_325 : pv_CV pv_TB "PatchVoicesModel" "PatchVoicesModel" 325 y_Md_hold prog_9_method_56_code 4 (some .int) 3 := ⟨⟨rfl, by decide +kernel, by decide +kernel, by decide +kernel⟩, w_1489, w_1491, w_107, w_115, w_1492⟩
theorem w_1485 : Cond.methodLink "PatchVoicesModel" 322 ⟨"PatchVoicesModel", "filter", "(IIII)I"⟩ ∈ pv_TB := pv_mem (i := 1485) (by decide +kernel) (by decide +kernel)
theorem w_1487 : Cond.instanceMethod ⟨"PatchVoicesModel", "filter", "(IIII)I"⟩ ∈ pv_TB := pv_mem (i := 1487) (by decide +kernel) (by decide +kernel)
theorem w_106 : Cond.selects "PatchVoicesModel" ⟨"PatchVoicesModel", "filter", "(IIII)I"⟩ ⟨"PatchVoicesModel", "filter", "(IIII)I"⟩ ∈ pv_TB := pv_mem (i := 106) (by decide +kernel) (by decide +kernel)
theorem w_1488 : Cond.code ⟨"PatchVoicesModel", "filter", "(IIII)I"⟩ prog_9_method_55_code 6 (Option.some .int) ∈ pv_TB := pv_mem (i := 1488) (by decide +kernel) (by decide +kernel)
theorem cv_Md_322 : pv_CV pv_TB "PatchVoicesModel" "PatchVoicesModel" 322 y_Md_filter prog_9_method_55_code 6 (some .int) 4 := ⟨⟨rfl, by decide +kernel, by decide +kernel, by decide +kernel⟩, w_1485, w_1487, w_106, w_115, w_1488⟩
theorem w_1480 : Cond.methodLink "PatchVoicesModel" 319 ⟨"PatchVoicesModel", "noise", "(I)I"⟩ ∈ pv_TB := pv_mem (i := 1480) (by decide +kernel) (by decide +kernel)
theorem w_1482 : Cond.instanceMethod ⟨"PatchVoicesModel", "noise", "(I)I"⟩ ∈ pv_TB := pv_mem (i := 1482) (by decide +kernel) (by decide +kernel)
theorem w_105 : Cond.selects "PatchVoicesModel" ⟨"PatchVoicesModel", "noise", "(I)I"⟩ ⟨"PatchVoicesModel", "noise", "(I)I"⟩ ∈ pv_TB := pv_mem (i := 105) (by decide +kernel) (by decide +kernel)
theorem w_1483 : Cond.code ⟨"PatchVoicesModel", "noise", "(I)I"⟩ prog_9_method_53_code 3 (Option.some .int) ∈ pv_TB := pv_mem (i := 1483) (by decide +kernel) (by decide +kernel)
theorem cv_Md_319 : pv_CV pv_TB "PatchVoicesModel" "PatchVoicesModel" 319 y_Md_noise prog_9_method_53_code 3 (some .int) 1 := ⟨⟨rfl, by decide +kernel, by decide +kernel, by decide +kernel⟩, w_1480, w_1482, w_105, w_115, w_1483⟩
theorem w_1474 : Cond.methodLink "PatchVoicesModel" 315 ⟨"PatchVoicesModel", "envelope", "(IIIII)I"⟩ ∈ pv_TB := pv_mem (i := 1474) (by decide +kernel) (by decide +kernel)
theorem w_1476 : Cond.instanceMethod ⟨"PatchVoicesModel", "envelope", "(IIIII)I"⟩ ∈ pv_TB := pv_mem (i := 1476) (by decide +kernel) (by decide +kernel)
theorem w_104 : Cond.selects "PatchVoicesModel" ⟨"PatchVoicesModel", "envelope", "(IIIII)I"⟩ ⟨"PatchVoicesModel", "envelope", "(IIIII)I"⟩ ∈ pv_TB := pv_mem (i := 104) (by decide +kernel) (by decide +kernel)
theorem w_1477 : Cond.code ⟨"PatchVoicesModel", "envelope", "(IIIII)I"⟩ prog_9_method_54_code 9 (Option.some .int) ∈ pv_TB := pv_mem (i := 1477) (by decide +kernel) (by decide +kernel)
theorem cv_Md_315 : pv_CV pv_TB "PatchVoicesModel" "PatchVoicesModel" 315 y_Md_envelope prog_9_method_54_code 9 (some .int) 5 := ⟨⟨rfl, by decide +kernel, by decide +kernel, by decide +kernel⟩, w_1474, w_1476, w_104, w_115, w_1477⟩
theorem w_1116 : Cond.fieldLink "PatchVoicesModel" 117 "PatchVoicesModel" "line" "[I" ∈ pv_TB := pv_mem (i := 1116) (by decide +kernel) (by decide +kernel)
theorem fl_Md_117 : pv_FL pv_TB pv_cl "PatchVoicesModel" 117 6 46 := ⟨R_Md, F_Md, 51, rfl, by decide, in_Md, w_1116⟩
theorem w_1112 : Cond.fieldLink "PatchVoicesModel" 105 "PatchVoicesModel" "age" "[I" ∈ pv_TB := pv_mem (i := 1112) (by decide +kernel) (by decide +kernel)
theorem fl_Md_105 : pv_FL pv_TB pv_cl "PatchVoicesModel" 105 6 42 := ⟨R_Md, F_Md, 51, rfl, by decide, in_Md, w_1112⟩
theorem w_1470 : Cond.methodLink "PatchVoicesModel" 312 ⟨"PatchVoicesModel", "wave", "(II)I"⟩ ∈ pv_TB := pv_mem (i := 1470) (by decide +kernel) (by decide +kernel)
theorem w_1471 : Cond.static ⟨"PatchVoicesModel", "wave", "(II)I"⟩ ∈ pv_TB := pv_mem (i := 1471) (by decide +kernel) (by decide +kernel)
theorem w_1472 : Cond.code ⟨"PatchVoicesModel", "wave", "(II)I"⟩ prog_9_method_52_code 4 (Option.some .int) ∈ pv_TB := pv_mem (i := 1472) (by decide +kernel) (by decide +kernel)
theorem cs_Md_312 : pv_CS pv_TB "PatchVoicesModel" 312 y_Md_wave prog_9_method_52_code 4 (some .int) 2 := ⟨⟨by decide +kernel, by decide +kernel, by decide +kernel⟩, w_1470, w_1471, w_115, w_1472⟩
theorem w_1106 : Cond.fieldLink "PatchVoicesModel" 87 "PatchVoicesModel" "strength" "[I" ∈ pv_TB := pv_mem (i := 1106) (by decide +kernel) (by decide +kernel)
theorem fl_Md_87 : pv_FL pv_TB pv_cl "PatchVoicesModel" 87 6 36 := ⟨R_Md, F_Md, 51, rfl, by decide, in_Md, w_1106⟩
theorem w_1105 : Cond.fieldLink "PatchVoicesModel" 84 "PatchVoicesModel" "pitch" "[I" ∈ pv_TB := pv_mem (i := 1105) (by decide +kernel) (by decide +kernel)
theorem fl_Md_84 : pv_FL pv_TB pv_cl "PatchVoicesModel" 84 6 35 := ⟨R_Md, F_Md, 51, rfl, by decide, in_Md, w_1105⟩
theorem w_1103 : Cond.fieldLink "PatchVoicesModel" 78 "PatchVoicesModel" "knobs" "[I" ∈ pv_TB := pv_mem (i := 1103) (by decide +kernel) (by decide +kernel)
theorem fl_Md_78 : pv_FL pv_TB pv_cl "PatchVoicesModel" 78 6 33 := ⟨R_Md, F_Md, 51, rfl, by decide, in_Md, w_1103⟩
abbrev y_Md_reckon : MethodName := ⟨"PatchVoicesModel", "reckon", "(II)I"⟩
theorem w_1462 : Cond.methodLink "PatchVoicesModel" 329 ⟨"PatchVoicesModel", "reckon", "(II)I"⟩ ∈ pv_TB := pv_mem (i := 1462) (by decide +kernel) (by decide +kernel)
theorem w_1464 : Cond.instanceMethod ⟨"PatchVoicesModel", "reckon", "(II)I"⟩ ∈ pv_TB := pv_mem (i := 1464) (by decide +kernel) (by decide +kernel)
theorem w_102 : Cond.selects "PatchVoicesModel" ⟨"PatchVoicesModel", "reckon", "(II)I"⟩ ⟨"PatchVoicesModel", "reckon", "(II)I"⟩ ∈ pv_TB := pv_mem (i := 102) (by decide +kernel) (by decide +kernel)
theorem w_1465 : Cond.code ⟨"PatchVoicesModel", "reckon", "(II)I"⟩ prog_9_method_58_code 8 (Option.some .int) ∈ pv_TB := pv_mem (i := 1465) (by decide +kernel) (by decide +kernel)
theorem cv_Md_329 : pv_CV pv_TB "PatchVoicesModel" "PatchVoicesModel" 329 y_Md_reckon prog_9_method_58_code 8 (some .int) 2 := ⟨⟨rfl, by decide +kernel, by decide +kernel, by decide +kernel⟩, w_1462, w_1464, w_102, w_115, w_1465⟩
theorem w_1109 : Cond.fieldLink "PatchVoicesModel" 96 "PatchVoicesModel" "zeros" "[I" ∈ pv_TB := pv_mem (i := 1109) (by decide +kernel) (by decide +kernel)
theorem fl_Md_96 : pv_FL pv_TB pv_cl "PatchVoicesModel" 96 6 39 := ⟨R_Md, F_Md, 51, rfl, by decide, in_Md, w_1109⟩
theorem w_1108 : Cond.fieldLink "PatchVoicesModel" 93 "PatchVoicesModel" "idle" "[Z" ∈ pv_TB := pv_mem (i := 1108) (by decide +kernel) (by decide +kernel)
theorem fl_Md_93 : pv_FL pv_TB pv_cl "PatchVoicesModel" 93 6 38 := ⟨R_Md, F_Md, 51, rfl, by decide, in_Md, w_1108⟩
theorem w_1110 : Cond.fieldLink "PatchVoicesModel" 99 "PatchVoicesModel" "idleAt" "[I" ∈ pv_TB := pv_mem (i := 1110) (by decide +kernel) (by decide +kernel)
theorem fl_Md_99 : pv_FL pv_TB pv_cl "PatchVoicesModel" 99 6 40 := ⟨R_Md, F_Md, 51, rfl, by decide, in_Md, w_1110⟩
theorem fl_Md_332 : pv_FL pv_TB pv_cl "PatchVoicesModel" 332 6 48 := ⟨R_Md, F_Md, 51, rfl, by decide, in_Md, w_1118⟩
abbrev y_Md_sample : MethodName := ⟨"PatchVoicesModel", "sample", "(I)I"⟩
theorem w_1102 : Cond.fieldLink "PatchVoicesModel" 75 "PatchVoicesModel" "voices" "I" ∈ pv_TB := pv_mem (i := 1102) (by decide +kernel) (by decide +kernel)
theorem fw_Md_75 : pv_FW pv_TB pv_cl "PatchVoicesModel" 75 6 32 .int := ⟨R_Md, F_Md, 51, t_Md, rfl, by decide, in_Md, w_1102, o_Md, n_Md, rfl, by decide +kernel⟩
abbrev y_Md_voices : MethodName := ⟨"PatchVoicesModel", "voices", "(I)V"⟩
theorem fl_Md_75 : pv_FL pv_TB pv_cl "PatchVoicesModel" 75 6 32 := ⟨R_Md, F_Md, 51, rfl, by decide, in_Md, w_1102⟩
theorem w_1111 : Cond.fieldLink "PatchVoicesModel" 102 "PatchVoicesModel" "takenAt" "[I" ∈ pv_TB := pv_mem (i := 1111) (by decide +kernel) (by decide +kernel)
theorem fl_Md_102 : pv_FL pv_TB pv_cl "PatchVoicesModel" 102 6 41 := ⟨R_Md, F_Md, 51, rfl, by decide, in_Md, w_1111⟩
abbrev y_Md_choice : MethodName := ⟨"PatchVoicesModel", "choice", "()I"⟩
theorem w_1434 : Cond.methodLink "PatchVoicesModel" 341 ⟨"PatchVoicesModel", "choice", "()I"⟩ ∈ pv_TB := pv_mem (i := 1434) (by decide +kernel) (by decide +kernel)
theorem w_1436 : Cond.instanceMethod ⟨"PatchVoicesModel", "choice", "()I"⟩ ∈ pv_TB := pv_mem (i := 1436) (by decide +kernel) (by decide +kernel)
theorem w_99 : Cond.selects "PatchVoicesModel" ⟨"PatchVoicesModel", "choice", "()I"⟩ ⟨"PatchVoicesModel", "choice", "()I"⟩ ∈ pv_TB := pv_mem (i := 99) (by decide +kernel) (by decide +kernel)
theorem w_1437 : Cond.code ⟨"PatchVoicesModel", "choice", "()I"⟩ prog_9_method_62_code 3 (Option.some .int) ∈ pv_TB := pv_mem (i := 1437) (by decide +kernel) (by decide +kernel)
theorem cv_Md_341 : pv_CV pv_TB "PatchVoicesModel" "PatchVoicesModel" 341 y_Md_choice prog_9_method_62_code 3 (some .int) 0 := ⟨⟨rfl, by decide +kernel, by decide +kernel, by decide +kernel⟩, w_1434, w_1436, w_99, w_115, w_1437⟩
theorem fl_Md_335 : pv_FL pv_TB pv_cl "PatchVoicesModel" 335 6 47 := ⟨R_Md, F_Md, 51, rfl, by decide, in_Md, w_1117⟩
abbrev y_Md_note : MethodName := ⟨"PatchVoicesModel", "note", "(II)I"⟩
abbrev y_Md_isVoice : MethodName := ⟨"PatchVoicesModel", "isVoice", "(I)Z"⟩
theorem w_1442 : Cond.methodLink "PatchVoicesModel" 344 ⟨"PatchVoicesModel", "isVoice", "(I)Z"⟩ ∈ pv_TB := pv_mem (i := 1442) (by decide +kernel) (by decide +kernel)
theorem w_1444 : Cond.instanceMethod ⟨"PatchVoicesModel", "isVoice", "(I)Z"⟩ ∈ pv_TB := pv_mem (i := 1444) (by decide +kernel) (by decide +kernel)
theorem w_100 : Cond.selects "PatchVoicesModel" ⟨"PatchVoicesModel", "isVoice", "(I)Z"⟩ ⟨"PatchVoicesModel", "isVoice", "(I)Z"⟩ ∈ pv_TB := pv_mem (i := 100) (by decide +kernel) (by decide +kernel)
theorem w_1445 : Cond.code ⟨"PatchVoicesModel", "isVoice", "(I)Z"⟩ prog_9_method_64_code 2 (Option.some .boolean) ∈ pv_TB := pv_mem (i := 1445) (by decide +kernel) (by decide +kernel)
theorem cv_Md_344 : pv_CV pv_TB "PatchVoicesModel" "PatchVoicesModel" 344 y_Md_isVoice prog_9_method_64_code 2 (some .boolean) 1 := ⟨⟨rfl, by decide +kernel, by decide +kernel, by decide +kernel⟩, w_1442, w_1444, w_100, w_115, w_1445⟩
abbrev y_Md_off : MethodName := ⟨"PatchVoicesModel", "off", "(I)V"⟩
abbrev y_Md_active : MethodName := ⟨"PatchVoicesModel", "active", "(I)Z"⟩
abbrev y_Md_knob : MethodName := ⟨"PatchVoicesModel", "knob", "(II)V"⟩
theorem w_1119 : Cond.fieldLink "PatchVoicesModel" 120 "PatchVoicesModel" "outs" "[I" ∈ pv_TB := pv_mem (i := 1119) (by decide +kernel) (by decide +kernel)
theorem fl_Md_120 : pv_FL pv_TB pv_cl "PatchVoicesModel" 120 6 49 := ⟨R_Md, F_Md, 51, rfl, by decide, in_Md, w_1119⟩
theorem w_1493 : Cond.constantLong "PatchVoicesModel" 350 (-32768 : Int64) ∈ pv_TB := pv_mem (i := 1493) (by decide +kernel) (by decide +kernel)
theorem w_1494 : Cond.constantLong "PatchVoicesModel" 352 (32767 : Int64) ∈ pv_TB := pv_mem (i := 1494) (by decide +kernel) (by decide +kernel)
theorem w_1458 : Cond.methodLink "PatchVoicesModel" 347 ⟨"PatchVoicesModel", "sample", "(I)I"⟩ ∈ pv_TB := pv_mem (i := 1458) (by decide +kernel) (by decide +kernel)
theorem w_1460 : Cond.instanceMethod ⟨"PatchVoicesModel", "sample", "(I)I"⟩ ∈ pv_TB := pv_mem (i := 1460) (by decide +kernel) (by decide +kernel)
theorem w_101 : Cond.selects "PatchVoicesModel" ⟨"PatchVoicesModel", "sample", "(I)I"⟩ ⟨"PatchVoicesModel", "sample", "(I)I"⟩ ∈ pv_TB := pv_mem (i := 101) (by decide +kernel) (by decide +kernel)
theorem w_1461 : Cond.code ⟨"PatchVoicesModel", "sample", "(I)I"⟩ prog_9_method_59_code 4 (Option.some .int) ∈ pv_TB := pv_mem (i := 1461) (by decide +kernel) (by decide +kernel)
theorem cv_Md_347 : pv_CV pv_TB "PatchVoicesModel" "PatchVoicesModel" 347 y_Md_sample prog_9_method_59_code 4 (some .int) 1 := ⟨⟨rfl, by decide +kernel, by decide +kernel, by decide +kernel⟩, w_1458, w_1460, w_101, w_115, w_1461⟩
abbrev y_Md_run : MethodName := ⟨"PatchVoicesModel", "run", "(I)V"⟩
theorem fl_Md_338 : pv_FL pv_TB pv_cl "PatchVoicesModel" 338 6 50 := ⟨R_Md, F_Md, 51, rfl, by decide, in_Md, w_1120⟩
abbrev y_Md_out : MethodName := ⟨"PatchVoicesModel", "out", "(I)I"⟩
abbrev y_Md_tap : MethodName := ⟨"PatchVoicesModel", "tap", "(II)I"⟩
abbrev y_Md_reset : MethodName := ⟨"PatchVoicesModel", "reset", "()V"⟩
