theorem w_1507 : Cond.constantLong "PatchVoicesLaw" 53 (4294967295 : Int64) ∈ pv_TB := pv_mem (i := 1507) (by decide +kernel) (by decide +kernel)
theorem w_382 : Cond.methodLink "PatchVoicesLaw" 55 ⟨"PatchVoices", "type", "(JI)I"⟩ ∈ pv_TB := pv_mem (i := 382) (by decide +kernel) (by decide +kernel)
theorem w_383 : Cond.instanceMethod ⟨"PatchVoices", "type", "(JI)I"⟩ ∈ pv_TB := pv_mem (i := 383) (by decide +kernel) (by decide +kernel)
theorem w_384 : Cond.selects "PatchVoices" ⟨"PatchVoices", "type", "(JI)I"⟩ ⟨"PatchVoices", "type", "(JI)I"⟩ ∈ pv_TB := pv_mem (i := 384) (by decide +kernel) (by decide +kernel)
theorem w_385 : Cond.code ⟨"PatchVoices", "type", "(JI)I"⟩ prog_1_method_2_code 6 (Option.some .int) ∈ pv_TB := pv_mem (i := 385) (by decide +kernel) (by decide +kernel)
theorem cv_Lw_55 : pv_CV pv_TB "PatchVoicesLaw" "PatchVoices" 55 y_PV_type prog_1_method_2_code 6 (some .int) 2 := ⟨⟨rfl, by decide +kernel, by decide +kernel, by decide +kernel⟩, w_382, w_383, w_384, w_109, w_385⟩
theorem w_1228 : Cond.methodLink "PatchVoicesLaw" 59 ⟨"PatchVoicesModel", "type", "(JI)I"⟩ ∈ pv_TB := pv_mem (i := 1228) (by decide +kernel) (by decide +kernel)
theorem w_1229 : Cond.instanceMethod ⟨"PatchVoicesModel", "type", "(JI)I"⟩ ∈ pv_TB := pv_mem (i := 1229) (by decide +kernel) (by decide +kernel)
theorem w_1230 : Cond.selects "PatchVoicesModel" ⟨"PatchVoicesModel", "type", "(JI)I"⟩ ⟨"PatchVoicesModel", "type", "(JI)I"⟩ ∈ pv_TB := pv_mem (i := 1230) (by decide +kernel) (by decide +kernel)
theorem w_1231 : Cond.code ⟨"PatchVoicesModel", "type", "(JI)I"⟩ prog_9_method_4_code 6 (Option.some .int) ∈ pv_TB := pv_mem (i := 1231) (by decide +kernel) (by decide +kernel)
theorem cv_Lw_59 : pv_CV pv_TB "PatchVoicesLaw" "PatchVoicesModel" 59 y_Md_type prog_9_method_4_code 6 (some .int) 2 := ⟨⟨rfl, by decide +kernel, by decide +kernel, by decide +kernel⟩, w_1228, w_1229, w_1230, w_115, w_1231⟩
theorem w_389 : Cond.methodLink "PatchVoicesLaw" 60 ⟨"PatchVoices", "erase", "()I"⟩ ∈ pv_TB := pv_mem (i := 389) (by decide +kernel) (by decide +kernel)
theorem w_390 : Cond.instanceMethod ⟨"PatchVoices", "erase", "()I"⟩ ∈ pv_TB := pv_mem (i := 390) (by decide +kernel) (by decide +kernel)
theorem w_391 : Cond.selects "PatchVoices" ⟨"PatchVoices", "erase", "()I"⟩ ⟨"PatchVoices", "erase", "()I"⟩ ∈ pv_TB := pv_mem (i := 391) (by decide +kernel) (by decide +kernel)
theorem w_392 : Cond.code ⟨"PatchVoices", "erase", "()I"⟩ prog_1_method_4_code 2 (Option.some .int) ∈ pv_TB := pv_mem (i := 392) (by decide +kernel) (by decide +kernel)
theorem cv_Lw_60 : pv_CV pv_TB "PatchVoicesLaw" "PatchVoices" 60 y_PV_erase prog_1_method_4_code 2 (some .int) 0 := ⟨⟨rfl, by decide +kernel, by decide +kernel, by decide +kernel⟩, w_389, w_390, w_391, w_109, w_392⟩
theorem w_1233 : Cond.methodLink "PatchVoicesLaw" 64 ⟨"PatchVoicesModel", "erase", "()I"⟩ ∈ pv_TB := pv_mem (i := 1233) (by decide +kernel) (by decide +kernel)
theorem w_1234 : Cond.instanceMethod ⟨"PatchVoicesModel", "erase", "()I"⟩ ∈ pv_TB := pv_mem (i := 1234) (by decide +kernel) (by decide +kernel)
theorem w_1235 : Cond.selects "PatchVoicesModel" ⟨"PatchVoicesModel", "erase", "()I"⟩ ⟨"PatchVoicesModel", "erase", "()I"⟩ ∈ pv_TB := pv_mem (i := 1235) (by decide +kernel) (by decide +kernel)
theorem w_1236 : Cond.code ⟨"PatchVoicesModel", "erase", "()I"⟩ prog_9_method_5_code 2 (Option.some .int) ∈ pv_TB := pv_mem (i := 1236) (by decide +kernel) (by decide +kernel)
theorem cv_Lw_64 : pv_CV pv_TB "PatchVoicesLaw" "PatchVoicesModel" 64 y_Md_erase prog_9_method_5_code 2 (some .int) 0 := ⟨⟨rfl, by decide +kernel, by decide +kernel, by decide +kernel⟩, w_1233, w_1234, w_1235, w_115, w_1236⟩
theorem w_393 : Cond.methodLink "PatchVoicesLaw" 65 ⟨"PatchVoices", "compile", "()I"⟩ ∈ pv_TB := pv_mem (i := 393) (by decide +kernel) (by decide +kernel)
theorem w_394 : Cond.instanceMethod ⟨"PatchVoices", "compile", "()I"⟩ ∈ pv_TB := pv_mem (i := 394) (by decide +kernel) (by decide +kernel)
theorem w_395 : Cond.selects "PatchVoices" ⟨"PatchVoices", "compile", "()I"⟩ ⟨"PatchVoices", "compile", "()I"⟩ ∈ pv_TB := pv_mem (i := 395) (by decide +kernel) (by decide +kernel)
theorem w_396 : Cond.code ⟨"PatchVoices", "compile", "()I"⟩ prog_1_method_5_code 4 (Option.some .int) ∈ pv_TB := pv_mem (i := 396) (by decide +kernel) (by decide +kernel)
theorem cv_Lw_65 : pv_CV pv_TB "PatchVoicesLaw" "PatchVoices" 65 y_PV_compile prog_1_method_5_code 4 (some .int) 0 := ⟨⟨rfl, by decide +kernel, by decide +kernel, by decide +kernel⟩, w_393, w_394, w_395, w_109, w_396⟩
theorem w_1237 : Cond.methodLink "PatchVoicesLaw" 68 ⟨"PatchVoicesModel", "compile", "()I"⟩ ∈ pv_TB := pv_mem (i := 1237) (by decide +kernel) (by decide +kernel)
theorem w_1238 : Cond.instanceMethod ⟨"PatchVoicesModel", "compile", "()I"⟩ ∈ pv_TB := pv_mem (i := 1238) (by decide +kernel) (by decide +kernel)
theorem w_1239 : Cond.selects "PatchVoicesModel" ⟨"PatchVoicesModel", "compile", "()I"⟩ ⟨"PatchVoicesModel", "compile", "()I"⟩ ∈ pv_TB := pv_mem (i := 1239) (by decide +kernel) (by decide +kernel)
theorem w_1240 : Cond.code ⟨"PatchVoicesModel", "compile", "()I"⟩ prog_9_method_30_code 3 (Option.some .int) ∈ pv_TB := pv_mem (i := 1240) (by decide +kernel) (by decide +kernel)
theorem cv_Lw_68 : pv_CV pv_TB "PatchVoicesLaw" "PatchVoicesModel" 68 y_Md_compile prog_9_method_30_code 3 (some .int) 0 := ⟨⟨rfl, by decide +kernel, by decide +kernel, by decide +kernel⟩, w_1237, w_1238, w_1239, w_115, w_1240⟩
theorem w_729 : Cond.methodLink "PatchVoicesLaw" 69 ⟨"PatchVoices", "named", "()I"⟩ ∈ pv_TB := pv_mem (i := 729) (by decide +kernel) (by decide +kernel)
theorem w_730 : Cond.instanceMethod ⟨"PatchVoices", "named", "()I"⟩ ∈ pv_TB := pv_mem (i := 730) (by decide +kernel) (by decide +kernel)
theorem w_731 : Cond.selects "PatchVoices" ⟨"PatchVoices", "named", "()I"⟩ ⟨"PatchVoices", "named", "()I"⟩ ∈ pv_TB := pv_mem (i := 731) (by decide +kernel) (by decide +kernel)
theorem w_732 : Cond.code ⟨"PatchVoices", "named", "()I"⟩ prog_1_method_6_code 1 (Option.some .int) ∈ pv_TB := pv_mem (i := 732) (by decide +kernel) (by decide +kernel)
theorem cv_Lw_69 : pv_CV pv_TB "PatchVoicesLaw" "PatchVoices" 69 y_PV_named prog_1_method_6_code 1 (some .int) 0 := ⟨⟨rfl, by decide +kernel, by decide +kernel, by decide +kernel⟩, w_729, w_730, w_731, w_109, w_732⟩
theorem w_1402 : Cond.methodLink "PatchVoicesLaw" 72 ⟨"PatchVoicesModel", "named", "()I"⟩ ∈ pv_TB := pv_mem (i := 1402) (by decide +kernel) (by decide +kernel)
theorem w_1403 : Cond.instanceMethod ⟨"PatchVoicesModel", "named", "()I"⟩ ∈ pv_TB := pv_mem (i := 1403) (by decide +kernel) (by decide +kernel)
theorem w_1404 : Cond.selects "PatchVoicesModel" ⟨"PatchVoicesModel", "named", "()I"⟩ ⟨"PatchVoicesModel", "named", "()I"⟩ ∈ pv_TB := pv_mem (i := 1404) (by decide +kernel) (by decide +kernel)
theorem w_1405 : Cond.code ⟨"PatchVoicesModel", "named", "()I"⟩ prog_9_method_31_code 1 (Option.some .int) ∈ pv_TB := pv_mem (i := 1405) (by decide +kernel) (by decide +kernel)
theorem cv_Lw_72 : pv_CV pv_TB "PatchVoicesLaw" "PatchVoicesModel" 72 y_Md_named prog_9_method_31_code 1 (some .int) 0 := ⟨⟨rfl, by decide +kernel, by decide +kernel, by decide +kernel⟩, w_1402, w_1403, w_1404, w_115, w_1405⟩
theorem w_733 : Cond.methodLink "PatchVoicesLaw" 73 ⟨"PatchVoices", "optimise", "(Z)V"⟩ ∈ pv_TB := pv_mem (i := 733) (by decide +kernel) (by decide +kernel)
theorem w_734 : Cond.instanceMethod ⟨"PatchVoices", "optimise", "(Z)V"⟩ ∈ pv_TB := pv_mem (i := 734) (by decide +kernel) (by decide +kernel)
theorem w_735 : Cond.selects "PatchVoices" ⟨"PatchVoices", "optimise", "(Z)V"⟩ ⟨"PatchVoices", "optimise", "(Z)V"⟩ ∈ pv_TB := pv_mem (i := 735) (by decide +kernel) (by decide +kernel)
theorem w_736 : Cond.code ⟨"PatchVoices", "optimise", "(Z)V"⟩ prog_1_method_7_code 2 (Option.none : Option Jvm.ClassFile.FieldType) ∈ pv_TB := pv_mem (i := 736) (by decide +kernel) (by decide +kernel)
theorem cv_Lw_73 : pv_CV pv_TB "PatchVoicesLaw" "PatchVoices" 73 y_PV_optimise prog_1_method_7_code 2 none 1 := ⟨⟨rfl, by decide +kernel, by decide +kernel, by decide +kernel⟩, w_733, w_734, w_735, w_109, w_736⟩
theorem w_1406 : Cond.methodLink "PatchVoicesLaw" 77 ⟨"PatchVoicesModel", "optimise", "(Z)V"⟩ ∈ pv_TB := pv_mem (i := 1406) (by decide +kernel) (by decide +kernel)
theorem w_1407 : Cond.instanceMethod ⟨"PatchVoicesModel", "optimise", "(Z)V"⟩ ∈ pv_TB := pv_mem (i := 1407) (by decide +kernel) (by decide +kernel)
theorem w_1408 : Cond.selects "PatchVoicesModel" ⟨"PatchVoicesModel", "optimise", "(Z)V"⟩ ⟨"PatchVoicesModel", "optimise", "(Z)V"⟩ ∈ pv_TB := pv_mem (i := 1408) (by decide +kernel) (by decide +kernel)
theorem w_1409 : Cond.code ⟨"PatchVoicesModel", "optimise", "(Z)V"⟩ prog_9_method_32_code 2 (Option.none : Option Jvm.ClassFile.FieldType) ∈ pv_TB := pv_mem (i := 1409) (by decide +kernel) (by decide +kernel)
theorem cv_Lw_77 : pv_CV pv_TB "PatchVoicesLaw" "PatchVoicesModel" 77 y_Md_optimise prog_9_method_32_code 2 none 1 := ⟨⟨rfl, by decide +kernel, by decide +kernel, by decide +kernel⟩, w_1406, w_1407, w_1408, w_115, w_1409⟩
theorem w_737 : Cond.methodLink "PatchVoicesLaw" 78 ⟨"PatchVoices", "steps", "()I"⟩ ∈ pv_TB := pv_mem (i := 737) (by decide +kernel) (by decide +kernel)
theorem w_738 : Cond.instanceMethod ⟨"PatchVoices", "steps", "()I"⟩ ∈ pv_TB := pv_mem (i := 738) (by decide +kernel) (by decide +kernel)
theorem w_739 : Cond.selects "PatchVoices" ⟨"PatchVoices", "steps", "()I"⟩ ⟨"PatchVoices", "steps", "()I"⟩ ∈ pv_TB := pv_mem (i := 739) (by decide +kernel) (by decide +kernel)
theorem w_740 : Cond.code ⟨"PatchVoices", "steps", "()I"⟩ prog_1_method_8_code 1 (Option.some .int) ∈ pv_TB := pv_mem (i := 740) (by decide +kernel) (by decide +kernel)
theorem cv_Lw_78 : pv_CV pv_TB "PatchVoicesLaw" "PatchVoices" 78 y_PV_steps prog_1_method_8_code 1 (some .int) 0 := ⟨⟨rfl, by decide +kernel, by decide +kernel, by decide +kernel⟩, w_737, w_738, w_739, w_109, w_740⟩
theorem w_1410 : Cond.methodLink "PatchVoicesLaw" 81 ⟨"PatchVoicesModel", "steps", "()I"⟩ ∈ pv_TB := pv_mem (i := 1410) (by decide +kernel) (by decide +kernel)
theorem w_1411 : Cond.instanceMethod ⟨"PatchVoicesModel", "steps", "()I"⟩ ∈ pv_TB := pv_mem (i := 1411) (by decide +kernel) (by decide +kernel)
theorem w_1412 : Cond.selects "PatchVoicesModel" ⟨"PatchVoicesModel", "steps", "()I"⟩ ⟨"PatchVoicesModel", "steps", "()I"⟩ ∈ pv_TB := pv_mem (i := 1412) (by decide +kernel) (by decide +kernel)
theorem w_1413 : Cond.code ⟨"PatchVoicesModel", "steps", "()I"⟩ prog_9_method_46_code 1 (Option.some .int) ∈ pv_TB := pv_mem (i := 1413) (by decide +kernel) (by decide +kernel)
theorem cv_Lw_81 : pv_CV pv_TB "PatchVoicesLaw" "PatchVoicesModel" 81 y_Md_steps prog_9_method_46_code 1 (some .int) 0 := ⟨⟨rfl, by decide +kernel, by decide +kernel, by decide +kernel⟩, w_1410, w_1411, w_1412, w_115, w_1413⟩
theorem w_749 : Cond.methodLink "PatchVoicesLaw" 82 ⟨"PatchVoicesLaw", "step", "(LPatchVoices;II[J)I"⟩ ∈ pv_TB := pv_mem (i := 749) (by decide +kernel) (by decide +kernel)
theorem w_750 : Cond.static ⟨"PatchVoicesLaw", "step", "(LPatchVoices;II[J)I"⟩ ∈ pv_TB := pv_mem (i := 750) (by decide +kernel) (by decide +kernel)
theorem w_108 : Cond.initialized "PatchVoicesLaw" ∈ pv_TB := pv_mem (i := 108) (by decide +kernel) (by decide +kernel)
theorem w_751 : Cond.codeWith ⟨"PatchVoicesLaw", "step", "(LPatchVoices;II[J)I"⟩ method_3_code 5 (Option.some .int) [(0, 10, 13, 13), (0, 10, 17, 15)] ∈ pv_TB := pv_mem (i := 751) (by decide +kernel) (by decide +kernel)
theorem csw_82 : pv_CSW pv_TB "PatchVoicesLaw" 82 y_H_step method_3_code 5 (some .int) hh_step 4 := ⟨⟨by decide +kernel, by decide +kernel, by decide +kernel⟩, w_749, w_750, w_108, w_751⟩
theorem w_1414 : Cond.methodLink "PatchVoicesLaw" 87 ⟨"PatchVoicesModel", "step", "(II)I"⟩ ∈ pv_TB := pv_mem (i := 1414) (by decide +kernel) (by decide +kernel)
theorem w_1415 : Cond.instanceMethod ⟨"PatchVoicesModel", "step", "(II)I"⟩ ∈ pv_TB := pv_mem (i := 1415) (by decide +kernel) (by decide +kernel)
theorem w_1416 : Cond.selects "PatchVoicesModel" ⟨"PatchVoicesModel", "step", "(II)I"⟩ ⟨"PatchVoicesModel", "step", "(II)I"⟩ ∈ pv_TB := pv_mem (i := 1416) (by decide +kernel) (by decide +kernel)
theorem w_1417 : Cond.code ⟨"PatchVoicesModel", "step", "(II)I"⟩ prog_9_method_48_code 6 (Option.some .int) ∈ pv_TB := pv_mem (i := 1417) (by decide +kernel) (by decide +kernel)
theorem cv_Lw_87 : pv_CV pv_TB "PatchVoicesLaw" "PatchVoicesModel" 87 y_Md_step prog_9_method_48_code 6 (some .int) 2 := ⟨⟨rfl, by decide +kernel, by decide +kernel, by decide +kernel⟩, w_1414, w_1415, w_1416, w_115, w_1417⟩
theorem w_1224 : Cond.methodLink "PatchVoicesLaw" 88 ⟨"PatchVoicesModel", "thrown", "()I"⟩ ∈ pv_TB := pv_mem (i := 1224) (by decide +kernel) (by decide +kernel)
theorem w_1225 : Cond.instanceMethod ⟨"PatchVoicesModel", "thrown", "()I"⟩ ∈ pv_TB := pv_mem (i := 1225) (by decide +kernel) (by decide +kernel)
theorem w_1226 : Cond.selects "PatchVoicesModel" ⟨"PatchVoicesModel", "thrown", "()I"⟩ ⟨"PatchVoicesModel", "thrown", "()I"⟩ ∈ pv_TB := pv_mem (i := 1226) (by decide +kernel) (by decide +kernel)
theorem w_1227 : Cond.code ⟨"PatchVoicesModel", "thrown", "()I"⟩ prog_9_method_3_code 1 (Option.some .int) ∈ pv_TB := pv_mem (i := 1227) (by decide +kernel) (by decide +kernel)
theorem cv_Lw_88 : pv_CV pv_TB "PatchVoicesLaw" "PatchVoicesModel" 88 y_Md_thrown prog_9_method_3_code 1 (some .int) 0 := ⟨⟨rfl, by decide +kernel, by decide +kernel, by decide +kernel⟩, w_1224, w_1225, w_1226, w_115, w_1227⟩
theorem w_741 : Cond.methodLink "PatchVoicesLaw" 91 ⟨"PatchVoices", "slots", "()I"⟩ ∈ pv_TB := pv_mem (i := 741) (by decide +kernel) (by decide +kernel)
theorem w_742 : Cond.instanceMethod ⟨"PatchVoices", "slots", "()I"⟩ ∈ pv_TB := pv_mem (i := 742) (by decide +kernel) (by decide +kernel)
theorem w_743 : Cond.selects "PatchVoices" ⟨"PatchVoices", "slots", "()I"⟩ ⟨"PatchVoices", "slots", "()I"⟩ ∈ pv_TB := pv_mem (i := 743) (by decide +kernel) (by decide +kernel)
theorem w_744 : Cond.code ⟨"PatchVoices", "slots", "()I"⟩ prog_1_method_10_code 1 (Option.some .int) ∈ pv_TB := pv_mem (i := 744) (by decide +kernel) (by decide +kernel)
theorem cv_Lw_91 : pv_CV pv_TB "PatchVoicesLaw" "PatchVoices" 91 y_PV_slots prog_1_method_10_code 1 (some .int) 0 := ⟨⟨rfl, by decide +kernel, by decide +kernel, by decide +kernel⟩, w_741, w_742, w_743, w_109, w_744⟩
theorem w_1422 : Cond.methodLink "PatchVoicesLaw" 94 ⟨"PatchVoicesModel", "slots", "()I"⟩ ∈ pv_TB := pv_mem (i := 1422) (by decide +kernel) (by decide +kernel)
theorem w_1423 : Cond.instanceMethod ⟨"PatchVoicesModel", "slots", "()I"⟩ ∈ pv_TB := pv_mem (i := 1423) (by decide +kernel) (by decide +kernel)
theorem w_1424 : Cond.selects "PatchVoicesModel" ⟨"PatchVoicesModel", "slots", "()I"⟩ ⟨"PatchVoicesModel", "slots", "()I"⟩ ∈ pv_TB := pv_mem (i := 1424) (by decide +kernel) (by decide +kernel)
theorem w_1425 : Cond.code ⟨"PatchVoicesModel", "slots", "()I"⟩ prog_9_method_49_code 3 (Option.some .int) ∈ pv_TB := pv_mem (i := 1425) (by decide +kernel) (by decide +kernel)
theorem cv_Lw_94 : pv_CV pv_TB "PatchVoicesLaw" "PatchVoicesModel" 94 y_Md_slots prog_9_method_49_code 3 (some .int) 0 := ⟨⟨rfl, by decide +kernel, by decide +kernel, by decide +kernel⟩, w_1422, w_1423, w_1424, w_115, w_1425⟩
theorem w_854 : Cond.methodLink "PatchVoicesLaw" 95 ⟨"PatchVoicesLaw", "voices", "(LPatchVoices;I)I"⟩ ∈ pv_TB := pv_mem (i := 854) (by decide +kernel) (by decide +kernel)
theorem w_855 : Cond.static ⟨"PatchVoicesLaw", "voices", "(LPatchVoices;I)I"⟩ ∈ pv_TB := pv_mem (i := 855) (by decide +kernel) (by decide +kernel)
theorem w_856 : Cond.codeWith ⟨"PatchVoicesLaw", "voices", "(LPatchVoices;I)I"⟩ method_4_code 3 (Option.some .int) [(0, 5, 8, 15)] ∈ pv_TB := pv_mem (i := 856) (by decide +kernel) (by decide +kernel)
theorem csw_95 : pv_CSW pv_TB "PatchVoicesLaw" 95 y_H_voices method_4_code 3 (some .int) hh_voices 2 := ⟨⟨by decide +kernel, by decide +kernel, by decide +kernel⟩, w_854, w_855, w_108, w_856⟩
theorem w_1426 : Cond.methodLink "PatchVoicesLaw" 98 ⟨"PatchVoicesModel", "voices", "(I)V"⟩ ∈ pv_TB := pv_mem (i := 1426) (by decide +kernel) (by decide +kernel)
theorem w_1427 : Cond.instanceMethod ⟨"PatchVoicesModel", "voices", "(I)V"⟩ ∈ pv_TB := pv_mem (i := 1427) (by decide +kernel) (by decide +kernel)
theorem w_1428 : Cond.selects "PatchVoicesModel" ⟨"PatchVoicesModel", "voices", "(I)V"⟩ ⟨"PatchVoicesModel", "voices", "(I)V"⟩ ∈ pv_TB := pv_mem (i := 1428) (by decide +kernel) (by decide +kernel)
theorem w_1429 : Cond.code ⟨"PatchVoicesModel", "voices", "(I)V"⟩ prog_9_method_61_code 2 (Option.none : Option Jvm.ClassFile.FieldType) ∈ pv_TB := pv_mem (i := 1429) (by decide +kernel) (by decide +kernel)
theorem cv_Lw_98 : pv_CV pv_TB "PatchVoicesLaw" "PatchVoicesModel" 98 y_Md_voices prog_9_method_61_code 2 none 1 := ⟨⟨rfl, by decide +kernel, by decide +kernel, by decide +kernel⟩, w_1426, w_1427, w_1428, w_115, w_1429⟩
theorem w_862 : Cond.methodLink "PatchVoicesLaw" 99 ⟨"PatchVoicesLaw", "note", "(LPatchVoices;II[J)I"⟩ ∈ pv_TB := pv_mem (i := 862) (by decide +kernel) (by decide +kernel)
theorem w_863 : Cond.static ⟨"PatchVoicesLaw", "note", "(LPatchVoices;II[J)I"⟩ ∈ pv_TB := pv_mem (i := 863) (by decide +kernel) (by decide +kernel)
theorem w_864 : Cond.codeWith ⟨"PatchVoicesLaw", "note", "(LPatchVoices;II[J)I"⟩ method_5_code 5 (Option.some .int) [(0, 10, 13, 15)] ∈ pv_TB := pv_mem (i := 864) (by decide +kernel) (by decide +kernel)
theorem csw_99 : pv_CSW pv_TB "PatchVoicesLaw" 99 y_H_note method_5_code 5 (some .int) hh_note 4 := ⟨⟨by decide +kernel, by decide +kernel, by decide +kernel⟩, w_862, w_863, w_108, w_864⟩
theorem w_1430 : Cond.methodLink "PatchVoicesLaw" 101 ⟨"PatchVoicesModel", "note", "(II)I"⟩ ∈ pv_TB := pv_mem (i := 1430) (by decide +kernel) (by decide +kernel)
theorem w_1431 : Cond.instanceMethod ⟨"PatchVoicesModel", "note", "(II)I"⟩ ∈ pv_TB := pv_mem (i := 1431) (by decide +kernel) (by decide +kernel)
theorem w_1432 : Cond.selects "PatchVoicesModel" ⟨"PatchVoicesModel", "note", "(II)I"⟩ ⟨"PatchVoicesModel", "note", "(II)I"⟩ ∈ pv_TB := pv_mem (i := 1432) (by decide +kernel) (by decide +kernel)
theorem w_1433 : Cond.code ⟨"PatchVoicesModel", "note", "(II)I"⟩ prog_9_method_63_code 5 (Option.some .int) ∈ pv_TB := pv_mem (i := 1433) (by decide +kernel) (by decide +kernel)
theorem cv_Lw_101 : pv_CV pv_TB "PatchVoicesLaw" "PatchVoicesModel" 101 y_Md_note prog_9_method_63_code 5 (some .int) 2 := ⟨⟨rfl, by decide +kernel, by decide +kernel, by decide +kernel⟩, w_1430, w_1431, w_1432, w_115, w_1433⟩
theorem w_891 : Cond.methodLink "PatchVoicesLaw" 102 ⟨"PatchVoicesLaw", "off", "(LPatchVoices;I)I"⟩ ∈ pv_TB := pv_mem (i := 891) (by decide +kernel) (by decide +kernel)
theorem w_892 : Cond.static ⟨"PatchVoicesLaw", "off", "(LPatchVoices;I)I"⟩ ∈ pv_TB := pv_mem (i := 892) (by decide +kernel) (by decide +kernel)
theorem w_893 : Cond.codeWith ⟨"PatchVoicesLaw", "off", "(LPatchVoices;I)I"⟩ method_6_code 3 (Option.some .int) [(0, 5, 8, 13), (0, 5, 11, 27)] ∈ pv_TB := pv_mem (i := 893) (by decide +kernel) (by decide +kernel)
theorem csw_102 : pv_CSW pv_TB "PatchVoicesLaw" 102 y_H_off method_6_code 3 (some .int) hh_off 2 := ⟨⟨by decide +kernel, by decide +kernel, by decide +kernel⟩, w_891, w_892, w_108, w_893⟩
theorem w_1438 : Cond.methodLink "PatchVoicesLaw" 104 ⟨"PatchVoicesModel", "off", "(I)V"⟩ ∈ pv_TB := pv_mem (i := 1438) (by decide +kernel) (by decide +kernel)
theorem w_1439 : Cond.instanceMethod ⟨"PatchVoicesModel", "off", "(I)V"⟩ ∈ pv_TB := pv_mem (i := 1439) (by decide +kernel) (by decide +kernel)
theorem w_1440 : Cond.selects "PatchVoicesModel" ⟨"PatchVoicesModel", "off", "(I)V"⟩ ⟨"PatchVoicesModel", "off", "(I)V"⟩ ∈ pv_TB := pv_mem (i := 1440) (by decide +kernel) (by decide +kernel)
theorem w_1441 : Cond.code ⟨"PatchVoicesModel", "off", "(I)V"⟩ prog_9_method_65_code 2 (Option.none : Option Jvm.ClassFile.FieldType) ∈ pv_TB := pv_mem (i := 1441) (by decide +kernel) (by decide +kernel)
theorem cv_Lw_104 : pv_CV pv_TB "PatchVoicesLaw" "PatchVoicesModel" 104 y_Md_off prog_9_method_65_code 2 none 1 := ⟨⟨rfl, by decide +kernel, by decide +kernel, by decide +kernel⟩, w_1438, w_1439, w_1440, w_115, w_1441⟩
theorem w_920 : Cond.methodLink "PatchVoicesLaw" 105 ⟨"PatchVoicesLaw", "active", "(LPatchVoices;I[J)I"⟩ ∈ pv_TB := pv_mem (i := 920) (by decide +kernel) (by decide +kernel)
theorem w_921 : Cond.static ⟨"PatchVoicesLaw", "active", "(LPatchVoices;I[J)I"⟩ ∈ pv_TB := pv_mem (i := 921) (by decide +kernel) (by decide +kernel)
theorem w_922 : Cond.codeWith ⟨"PatchVoicesLaw", "active", "(LPatchVoices;I[J)I"⟩ method_7_code 4 (Option.some .int) [(0, 16, 19, 13)] ∈ pv_TB := pv_mem (i := 922) (by decide +kernel) (by decide +kernel)
theorem csw_105 : pv_CSW pv_TB "PatchVoicesLaw" 105 y_H_active method_7_code 4 (some .int) hh_active 3 := ⟨⟨by decide +kernel, by decide +kernel, by decide +kernel⟩, w_920, w_921, w_108, w_922⟩
theorem w_1446 : Cond.methodLink "PatchVoicesLaw" 108 ⟨"PatchVoicesModel", "active", "(I)Z"⟩ ∈ pv_TB := pv_mem (i := 1446) (by decide +kernel) (by decide +kernel)
theorem w_1447 : Cond.instanceMethod ⟨"PatchVoicesModel", "active", "(I)Z"⟩ ∈ pv_TB := pv_mem (i := 1447) (by decide +kernel) (by decide +kernel)
theorem w_1448 : Cond.selects "PatchVoicesModel" ⟨"PatchVoicesModel", "active", "(I)Z"⟩ ⟨"PatchVoicesModel", "active", "(I)Z"⟩ ∈ pv_TB := pv_mem (i := 1448) (by decide +kernel) (by decide +kernel)
theorem w_1449 : Cond.code ⟨"PatchVoicesModel", "active", "(I)Z"⟩ prog_9_method_66_code 2 (Option.some .boolean) ∈ pv_TB := pv_mem (i := 1449) (by decide +kernel) (by decide +kernel)
theorem cv_Lw_108 : pv_CV pv_TB "PatchVoicesLaw" "PatchVoicesModel" 108 y_Md_active prog_9_method_66_code 2 (some .boolean) 1 := ⟨⟨rfl, by decide +kernel, by decide +kernel, by decide +kernel⟩, w_1446, w_1447, w_1448, w_115, w_1449⟩
theorem w_927 : Cond.methodLink "PatchVoicesLaw" 109 ⟨"PatchVoicesLaw", "knob", "(LPatchVoices;II)I"⟩ ∈ pv_TB := pv_mem (i := 927) (by decide +kernel) (by decide +kernel)
theorem w_928 : Cond.static ⟨"PatchVoicesLaw", "knob", "(LPatchVoices;II)I"⟩ ∈ pv_TB := pv_mem (i := 928) (by decide +kernel) (by decide +kernel)
theorem w_929 : Cond.codeWith ⟨"PatchVoicesLaw", "knob", "(LPatchVoices;II)I"⟩ method_8_code 4 (Option.some .int) [(0, 6, 9, 13)] ∈ pv_TB := pv_mem (i := 929) (by decide +kernel) (by decide +kernel)
theorem csw_109 : pv_CSW pv_TB "PatchVoicesLaw" 109 y_H_knob method_8_code 4 (some .int) hh_knob 3 := ⟨⟨by decide +kernel, by decide +kernel, by decide +kernel⟩, w_927, w_928, w_108, w_929⟩
theorem w_1450 : Cond.methodLink "PatchVoicesLaw" 112 ⟨"PatchVoicesModel", "knob", "(II)V"⟩ ∈ pv_TB := pv_mem (i := 1450) (by decide +kernel) (by decide +kernel)
theorem w_1451 : Cond.instanceMethod ⟨"PatchVoicesModel", "knob", "(II)V"⟩ ∈ pv_TB := pv_mem (i := 1451) (by decide +kernel) (by decide +kernel)
theorem w_1452 : Cond.selects "PatchVoicesModel" ⟨"PatchVoicesModel", "knob", "(II)V"⟩ ⟨"PatchVoicesModel", "knob", "(II)V"⟩ ∈ pv_TB := pv_mem (i := 1452) (by decide +kernel) (by decide +kernel)
theorem w_1453 : Cond.code ⟨"PatchVoicesModel", "knob", "(II)V"⟩ prog_9_method_67_code 3 (Option.none : Option Jvm.ClassFile.FieldType) ∈ pv_TB := pv_mem (i := 1453) (by decide +kernel) (by decide +kernel)
theorem cv_Lw_112 : pv_CV pv_TB "PatchVoicesLaw" "PatchVoicesModel" 112 y_Md_knob prog_9_method_67_code 3 none 2 := ⟨⟨rfl, by decide +kernel, by decide +kernel, by decide +kernel⟩, w_1450, w_1451, w_1452, w_115, w_1453⟩
theorem w_935 : Cond.methodLink "PatchVoicesLaw" 113 ⟨"PatchVoicesLaw", "run", "(LPatchVoices;I)I"⟩ ∈ pv_TB := pv_mem (i := 935) (by decide +kernel) (by decide +kernel)
theorem w_936 : Cond.static ⟨"PatchVoicesLaw", "run", "(LPatchVoices;I)I"⟩ ∈ pv_TB := pv_mem (i := 936) (by decide +kernel) (by decide +kernel)
theorem w_937 : Cond.codeWith ⟨"PatchVoicesLaw", "run", "(LPatchVoices;I)I"⟩ method_9_code 3 (Option.some .int) [(0, 5, 8, 15), (0, 5, 11, 27)] ∈ pv_TB := pv_mem (i := 937) (by decide +kernel) (by decide +kernel)
theorem csw_113 : pv_CSW pv_TB "PatchVoicesLaw" 113 y_H_run method_9_code 3 (some .int) hh_run 2 := ⟨⟨by decide +kernel, by decide +kernel, by decide +kernel⟩, w_935, w_936, w_108, w_937⟩
theorem w_1454 : Cond.methodLink "PatchVoicesLaw" 115 ⟨"PatchVoicesModel", "run", "(I)V"⟩ ∈ pv_TB := pv_mem (i := 1454) (by decide +kernel) (by decide +kernel)
theorem w_1455 : Cond.instanceMethod ⟨"PatchVoicesModel", "run", "(I)V"⟩ ∈ pv_TB := pv_mem (i := 1455) (by decide +kernel) (by decide +kernel)
theorem w_1456 : Cond.selects "PatchVoicesModel" ⟨"PatchVoicesModel", "run", "(I)V"⟩ ⟨"PatchVoicesModel", "run", "(I)V"⟩ ∈ pv_TB := pv_mem (i := 1456) (by decide +kernel) (by decide +kernel)
theorem w_1457 : Cond.code ⟨"PatchVoicesModel", "run", "(I)V"⟩ prog_9_method_68_code 6 (Option.none : Option Jvm.ClassFile.FieldType) ∈ pv_TB := pv_mem (i := 1457) (by decide +kernel) (by decide +kernel)
theorem cv_Lw_115 : pv_CV pv_TB "PatchVoicesLaw" "PatchVoicesModel" 115 y_Md_run prog_9_method_68_code 6 none 1 := ⟨⟨rfl, by decide +kernel, by decide +kernel, by decide +kernel⟩, w_1454, w_1455, w_1456, w_115, w_1457⟩
theorem w_1027 : Cond.methodLink "PatchVoicesLaw" 116 ⟨"PatchVoicesLaw", "out", "(LPatchVoices;I[J)I"⟩ ∈ pv_TB := pv_mem (i := 1027) (by decide +kernel) (by decide +kernel)
theorem w_1028 : Cond.static ⟨"PatchVoicesLaw", "out", "(LPatchVoices;I[J)I"⟩ ∈ pv_TB := pv_mem (i := 1028) (by decide +kernel) (by decide +kernel)
theorem w_1029 : Cond.codeWith ⟨"PatchVoicesLaw", "out", "(LPatchVoices;I[J)I"⟩ method_10_code 4 (Option.some .int) [(0, 9, 12, 13)] ∈ pv_TB := pv_mem (i := 1029) (by decide +kernel) (by decide +kernel)
theorem csw_116 : pv_CSW pv_TB "PatchVoicesLaw" 116 y_H_out method_10_code 4 (some .int) hh_out 3 := ⟨⟨by decide +kernel, by decide +kernel, by decide +kernel⟩, w_1027, w_1028, w_108, w_1029⟩
theorem w_1495 : Cond.methodLink "PatchVoicesLaw" 118 ⟨"PatchVoicesModel", "out", "(I)I"⟩ ∈ pv_TB := pv_mem (i := 1495) (by decide +kernel) (by decide +kernel)
theorem w_1496 : Cond.instanceMethod ⟨"PatchVoicesModel", "out", "(I)I"⟩ ∈ pv_TB := pv_mem (i := 1496) (by decide +kernel) (by decide +kernel)
theorem w_1497 : Cond.selects "PatchVoicesModel" ⟨"PatchVoicesModel", "out", "(I)I"⟩ ⟨"PatchVoicesModel", "out", "(I)I"⟩ ∈ pv_TB := pv_mem (i := 1497) (by decide +kernel) (by decide +kernel)
theorem w_1498 : Cond.code ⟨"PatchVoicesModel", "out", "(I)I"⟩ prog_9_method_69_code 2 (Option.some .int) ∈ pv_TB := pv_mem (i := 1498) (by decide +kernel) (by decide +kernel)
theorem cv_Lw_118 : pv_CV pv_TB "PatchVoicesLaw" "PatchVoicesModel" 118 y_Md_out prog_9_method_69_code 2 (some .int) 1 := ⟨⟨rfl, by decide +kernel, by decide +kernel, by decide +kernel⟩, w_1495, w_1496, w_1497, w_115, w_1498⟩
theorem w_1035 : Cond.methodLink "PatchVoicesLaw" 119 ⟨"PatchVoicesLaw", "tap", "(LPatchVoices;II[J)I"⟩ ∈ pv_TB := pv_mem (i := 1035) (by decide +kernel) (by decide +kernel)
theorem w_1036 : Cond.static ⟨"PatchVoicesLaw", "tap", "(LPatchVoices;II[J)I"⟩ ∈ pv_TB := pv_mem (i := 1036) (by decide +kernel) (by decide +kernel)
theorem w_1037 : Cond.codeWith ⟨"PatchVoicesLaw", "tap", "(LPatchVoices;II[J)I"⟩ method_11_code 5 (Option.some .int) [(0, 10, 13, 13), (0, 10, 17, 47)] ∈ pv_TB := pv_mem (i := 1037) (by decide +kernel) (by decide +kernel)
theorem csw_119 : pv_CSW pv_TB "PatchVoicesLaw" 119 y_H_tap method_11_code 5 (some .int) hh_tap 4 := ⟨⟨by decide +kernel, by decide +kernel, by decide +kernel⟩, w_1035, w_1036, w_108, w_1037⟩
theorem w_1499 : Cond.methodLink "PatchVoicesLaw" 121 ⟨"PatchVoicesModel", "tap", "(II)I"⟩ ∈ pv_TB := pv_mem (i := 1499) (by decide +kernel) (by decide +kernel)
theorem w_1500 : Cond.instanceMethod ⟨"PatchVoicesModel", "tap", "(II)I"⟩ ∈ pv_TB := pv_mem (i := 1500) (by decide +kernel) (by decide +kernel)
theorem w_1501 : Cond.selects "PatchVoicesModel" ⟨"PatchVoicesModel", "tap", "(II)I"⟩ ⟨"PatchVoicesModel", "tap", "(II)I"⟩ ∈ pv_TB := pv_mem (i := 1501) (by decide +kernel) (by decide +kernel)
theorem w_1502 : Cond.code ⟨"PatchVoicesModel", "tap", "(II)I"⟩ prog_9_method_70_code 3 (Option.some .int) ∈ pv_TB := pv_mem (i := 1502) (by decide +kernel) (by decide +kernel)
theorem cv_Lw_121 : pv_CV pv_TB "PatchVoicesLaw" "PatchVoicesModel" 121 y_Md_tap prog_9_method_70_code 3 (some .int) 2 := ⟨⟨rfl, by decide +kernel, by decide +kernel, by decide +kernel⟩, w_1499, w_1500, w_1501, w_115, w_1502⟩
theorem w_745 : Cond.methodLink "PatchVoicesLaw" 122 ⟨"PatchVoices", "reset", "()V"⟩ ∈ pv_TB := pv_mem (i := 745) (by decide +kernel) (by decide +kernel)
theorem w_746 : Cond.instanceMethod ⟨"PatchVoices", "reset", "()V"⟩ ∈ pv_TB := pv_mem (i := 746) (by decide +kernel) (by decide +kernel)
theorem w_747 : Cond.selects "PatchVoices" ⟨"PatchVoices", "reset", "()V"⟩ ⟨"PatchVoices", "reset", "()V"⟩ ∈ pv_TB := pv_mem (i := 747) (by decide +kernel) (by decide +kernel)
theorem w_748 : Cond.code ⟨"PatchVoices", "reset", "()V"⟩ prog_1_method_24_code 1 (Option.none : Option Jvm.ClassFile.FieldType) ∈ pv_TB := pv_mem (i := 748) (by decide +kernel) (by decide +kernel)
theorem cv_Lw_122 : pv_CV pv_TB "PatchVoicesLaw" "PatchVoices" 122 y_PV_reset prog_1_method_24_code 1 none 0 := ⟨⟨rfl, by decide +kernel, by decide +kernel, by decide +kernel⟩, w_745, w_746, w_747, w_109, w_748⟩
theorem w_1503 : Cond.methodLink "PatchVoicesLaw" 125 ⟨"PatchVoicesModel", "reset", "()V"⟩ ∈ pv_TB := pv_mem (i := 1503) (by decide +kernel) (by decide +kernel)
theorem w_1504 : Cond.instanceMethod ⟨"PatchVoicesModel", "reset", "()V"⟩ ∈ pv_TB := pv_mem (i := 1504) (by decide +kernel) (by decide +kernel)
theorem w_1505 : Cond.selects "PatchVoicesModel" ⟨"PatchVoicesModel", "reset", "()V"⟩ ⟨"PatchVoicesModel", "reset", "()V"⟩ ∈ pv_TB := pv_mem (i := 1505) (by decide +kernel) (by decide +kernel)
theorem w_1506 : Cond.code ⟨"PatchVoicesModel", "reset", "()V"⟩ prog_9_method_71_code 1 (Option.none : Option Jvm.ClassFile.FieldType) ∈ pv_TB := pv_mem (i := 1506) (by decide +kernel) (by decide +kernel)
theorem cv_Lw_125 : pv_CV pv_TB "PatchVoicesLaw" "PatchVoicesModel" 125 y_Md_reset prog_9_method_71_code 1 none 0 := ⟨⟨rfl, by decide +kernel, by decide +kernel, by decide +kernel⟩, w_1503, w_1504, w_1505, w_115, w_1506⟩
theorem d_L_120 : decode code 120 = .ok (.aload_n 1, 1) := by decide +kernel
theorem d_L_121 : decode code 121 = .ok (.aload_n 0, 1) := by decide +kernel
theorem d_L_122 : decode code 122 = .ok (.iload 4, 2) := by decide +kernel
theorem d_L_124 : decode code 124 = .ok (.iconst 1, 1) := by decide +kernel
theorem d_L_125 : decode code 125 = .ok (.iadd, 1) := by decide +kernel
theorem d_L_126 : decode code 126 = .ok (.iaload, 1) := by decide +kernel
theorem d_L_127 : decode code 127 = .ok (.i2l, 1) := by decide +kernel
theorem d_L_128 : decode code 128 = .ok (.bipush 32, 2) := by decide +kernel
theorem d_L_130 : decode code 130 = .ok (.lshl, 1) := by decide +kernel
theorem d_L_131 : decode code 131 = .ok (.aload_n 0, 1) := by decide +kernel
theorem d_L_132 : decode code 132 = .ok (.iload 4, 2) := by decide +kernel
theorem d_L_134 : decode code 134 = .ok (.iconst 2, 1) := by decide +kernel
theorem d_L_135 : decode code 135 = .ok (.iadd, 1) := by decide +kernel
theorem d_L_136 : decode code 136 = .ok (.iaload, 1) := by decide +kernel
theorem d_L_137 : decode code 137 = .ok (.i2l, 1) := by decide +kernel
theorem d_L_138 : decode code 138 = .ok (.ldc2_w 53, 3) := by decide +kernel
theorem d_L_141 : decode code 141 = .ok (.land, 1) := by decide +kernel
theorem d_L_142 : decode code 142 = .ok (.lor, 1) := by decide +kernel
theorem d_L_143 : decode code 143 = .ok (.aload_n 0, 1) := by decide +kernel
theorem d_L_144 : decode code 144 = .ok (.iload 4, 2) := by decide +kernel
theorem d_L_146 : decode code 146 = .ok (.iconst 3, 1) := by decide +kernel
theorem d_L_147 : decode code 147 = .ok (.iadd, 1) := by decide +kernel
theorem d_L_148 : decode code 148 = .ok (.iaload, 1) := by decide +kernel
theorem d_L_149 : decode code 149 = .ok (.invokevirtual 55, 3) := by decide +kernel
theorem d_L_152 : decode code 152 = .ok (.aload_n 2, 1) := by decide +kernel
theorem d_L_153 : decode code 153 = .ok (.aload_n 0, 1) := by decide +kernel
theorem d_L_154 : decode code 154 = .ok (.iload 4, 2) := by decide +kernel
theorem d_L_156 : decode code 156 = .ok (.iconst 1, 1) := by decide +kernel
theorem d_L_157 : decode code 157 = .ok (.iadd, 1) := by decide +kernel
theorem d_L_158 : decode code 158 = .ok (.iaload, 1) := by decide +kernel
theorem d_L_159 : decode code 159 = .ok (.i2l, 1) := by decide +kernel
theorem d_L_160 : decode code 160 = .ok (.bipush 32, 2) := by decide +kernel
theorem d_L_162 : decode code 162 = .ok (.lshl, 1) := by decide +kernel
theorem d_L_163 : decode code 163 = .ok (.aload_n 0, 1) := by decide +kernel
theorem d_L_164 : decode code 164 = .ok (.iload 4, 2) := by decide +kernel
theorem d_L_166 : decode code 166 = .ok (.iconst 2, 1) := by decide +kernel
theorem d_L_167 : decode code 167 = .ok (.iadd, 1) := by decide +kernel
theorem d_L_168 : decode code 168 = .ok (.iaload, 1) := by decide +kernel
theorem d_L_169 : decode code 169 = .ok (.i2l, 1) := by decide +kernel
theorem d_L_170 : decode code 170 = .ok (.ldc2_w 53, 3) := by decide +kernel
theorem d_L_173 : decode code 173 = .ok (.land, 1) := by decide +kernel
theorem d_L_174 : decode code 174 = .ok (.lor, 1) := by decide +kernel
theorem d_L_175 : decode code 175 = .ok (.aload_n 0, 1) := by decide +kernel
theorem d_L_176 : decode code 176 = .ok (.iload 4, 2) := by decide +kernel
theorem d_L_178 : decode code 178 = .ok (.iconst 3, 1) := by decide +kernel
theorem d_L_179 : decode code 179 = .ok (.iadd, 1) := by decide +kernel
theorem d_L_180 : decode code 180 = .ok (.iaload, 1) := by decide +kernel
theorem d_L_181 : decode code 181 = .ok (.invokevirtual 59, 3) := by decide +kernel
theorem d_L_184 : decode code 184 = .ok (.if_icmp .eq 599, 3) := by decide +kernel
theorem d_L_189 : decode code 189 = .ok (.aload_n 1, 1) := by decide +kernel
theorem d_L_190 : decode code 190 = .ok (.invokevirtual 60, 3) := by decide +kernel
theorem d_L_193 : decode code 193 = .ok (.aload_n 2, 1) := by decide +kernel
theorem d_L_194 : decode code 194 = .ok (.invokevirtual 64, 3) := by decide +kernel
theorem d_L_197 : decode code 197 = .ok (.if_icmp .eq 586, 3) := by decide +kernel
theorem d_L_202 : decode code 202 = .ok (.aload_n 1, 1) := by decide +kernel
theorem d_L_203 : decode code 203 = .ok (.invokevirtual 65, 3) := by decide +kernel
theorem d_L_206 : decode code 206 = .ok (.aload_n 2, 1) := by decide +kernel
theorem d_L_207 : decode code 207 = .ok (.invokevirtual 68, 3) := by decide +kernel
theorem d_L_210 : decode code 210 = .ok (.if_icmp .eq 573, 3) := by decide +kernel
theorem d_L_215 : decode code 215 = .ok (.aload_n 1, 1) := by decide +kernel
theorem d_L_216 : decode code 216 = .ok (.invokevirtual 69, 3) := by decide +kernel
theorem d_L_219 : decode code 219 = .ok (.aload_n 2, 1) := by decide +kernel
theorem d_L_220 : decode code 220 = .ok (.invokevirtual 72, 3) := by decide +kernel
theorem d_L_223 : decode code 223 = .ok (.if_icmp .eq 560, 3) := by decide +kernel
theorem d_L_228 : decode code 228 = .ok (.aload_n 1, 1) := by decide +kernel
theorem d_L_229 : decode code 229 = .ok (.aload_n 0, 1) := by decide +kernel
theorem d_L_230 : decode code 230 = .ok (.iload 4, 2) := by decide +kernel
theorem d_L_232 : decode code 232 = .ok (.iconst 1, 1) := by decide +kernel
theorem d_L_233 : decode code 233 = .ok (.iadd, 1) := by decide +kernel
theorem d_L_234 : decode code 234 = .ok (.iaload, 1) := by decide +kernel
theorem d_L_235 : decode code 235 = .ok (.ifCond .eq 7, 3) := by decide +kernel
theorem d_L_238 : decode code 238 = .ok (.iconst 1, 1) := by decide +kernel
theorem d_L_239 : decode code 239 = .ok (.goto 4, 3) := by decide +kernel
theorem d_L_242 : decode code 242 = .ok (.iconst 0, 1) := by decide +kernel
theorem d_L_243 : decode code 243 = .ok (.invokevirtual 73, 3) := by decide +kernel
theorem d_L_246 : decode code 246 = .ok (.aload_n 2, 1) := by decide +kernel
theorem d_L_247 : decode code 247 = .ok (.aload_n 0, 1) := by decide +kernel
theorem d_L_248 : decode code 248 = .ok (.iload 4, 2) := by decide +kernel
theorem d_L_250 : decode code 250 = .ok (.iconst 1, 1) := by decide +kernel
theorem d_L_251 : decode code 251 = .ok (.iadd, 1) := by decide +kernel
theorem d_L_252 : decode code 252 = .ok (.iaload, 1) := by decide +kernel
theorem d_L_253 : decode code 253 = .ok (.ifCond .eq 7, 3) := by decide +kernel
theorem d_L_256 : decode code 256 = .ok (.iconst 1, 1) := by decide +kernel
theorem d_L_257 : decode code 257 = .ok (.goto 4, 3) := by decide +kernel
theorem d_L_260 : decode code 260 = .ok (.iconst 0, 1) := by decide +kernel
theorem d_L_261 : decode code 261 = .ok (.invokevirtual 77, 3) := by decide +kernel
theorem d_L_264 : decode code 264 = .ok (.goto 519, 3) := by decide +kernel
theorem d_L_267 : decode code 267 = .ok (.aload_n 1, 1) := by decide +kernel
theorem d_L_268 : decode code 268 = .ok (.invokevirtual 78, 3) := by decide +kernel
theorem d_L_271 : decode code 271 = .ok (.aload_n 2, 1) := by decide +kernel
theorem d_L_272 : decode code 272 = .ok (.invokevirtual 81, 3) := by decide +kernel
theorem d_L_275 : decode code 275 = .ok (.if_icmp .eq 508, 3) := by decide +kernel
theorem d_L_280 : decode code 280 = .ok (.aload_n 1, 1) := by decide +kernel
theorem d_L_281 : decode code 281 = .ok (.aload_n 0, 1) := by decide +kernel
theorem d_L_282 : decode code 282 = .ok (.iload 4, 2) := by decide +kernel
theorem d_L_284 : decode code 284 = .ok (.iconst 1, 1) := by decide +kernel
theorem d_L_285 : decode code 285 = .ok (.iadd, 1) := by decide +kernel
theorem d_L_286 : decode code 286 = .ok (.iaload, 1) := by decide +kernel
theorem d_L_287 : decode code 287 = .ok (.aload_n 0, 1) := by decide +kernel
theorem d_L_288 : decode code 288 = .ok (.iload 4, 2) := by decide +kernel
theorem d_L_290 : decode code 290 = .ok (.iconst 2, 1) := by decide +kernel
theorem d_L_291 : decode code 291 = .ok (.iadd, 1) := by decide +kernel
theorem d_L_292 : decode code 292 = .ok (.iaload, 1) := by decide +kernel
theorem d_L_293 : decode code 293 = .ok (.aload_n 3, 1) := by decide +kernel
theorem d_L_294 : decode code 294 = .ok (.invokestatic 82, 3) := by decide +kernel
theorem d_L_297 : decode code 297 = .ok (.istore 5, 2) := by decide +kernel
theorem d_L_299 : decode code 299 = .ok (.aload_n 2, 1) := by decide +kernel
theorem d_L_300 : decode code 300 = .ok (.aload_n 0, 1) := by decide +kernel
theorem d_L_301 : decode code 301 = .ok (.iload 4, 2) := by decide +kernel
theorem d_L_303 : decode code 303 = .ok (.iconst 1, 1) := by decide +kernel
theorem d_L_304 : decode code 304 = .ok (.iadd, 1) := by decide +kernel
theorem d_L_305 : decode code 305 = .ok (.iaload, 1) := by decide +kernel
theorem d_L_306 : decode code 306 = .ok (.aload_n 0, 1) := by decide +kernel
theorem d_L_307 : decode code 307 = .ok (.iload 4, 2) := by decide +kernel
theorem d_L_309 : decode code 309 = .ok (.iconst 2, 1) := by decide +kernel
theorem d_L_310 : decode code 310 = .ok (.iadd, 1) := by decide +kernel
theorem d_L_311 : decode code 311 = .ok (.iaload, 1) := by decide +kernel
theorem d_L_312 : decode code 312 = .ok (.invokevirtual 87, 3) := by decide +kernel
theorem d_L_315 : decode code 315 = .ok (.istore 6, 2) := by decide +kernel
theorem d_L_317 : decode code 317 = .ok (.aload_n 2, 1) := by decide +kernel
theorem d_L_318 : decode code 318 = .ok (.invokevirtual 88, 3) := by decide +kernel
theorem d_L_321 : decode code 321 = .ok (.iload 5, 2) := by decide +kernel
theorem d_L_323 : decode code 323 = .ok (.if_icmp .eq 5, 3) := by decide +kernel
theorem d_L_328 : decode code 328 = .ok (.iload 5, 2) := by decide +kernel
theorem d_L_330 : decode code 330 = .ok (.ifCond .ne 15, 3) := by decide +kernel
theorem d_L_333 : decode code 333 = .ok (.aload_n 3, 1) := by decide +kernel
theorem d_L_334 : decode code 334 = .ok (.iconst 0, 1) := by decide +kernel
theorem d_L_335 : decode code 335 = .ok (.laload, 1) := by decide +kernel
theorem d_L_336 : decode code 336 = .ok (.iload 6, 2) := by decide +kernel
theorem d_L_338 : decode code 338 = .ok (.i2l, 1) := by decide +kernel
theorem d_L_339 : decode code 339 = .ok (.lcmp, 1) := by decide +kernel
theorem d_L_340 : decode code 340 = .ok (.ifCond .eq 5, 3) := by decide +kernel
theorem d_L_345 : decode code 345 = .ok (.goto 438, 3) := by decide +kernel
theorem d_L_348 : decode code 348 = .ok (.aload_n 1, 1) := by decide +kernel
theorem d_L_349 : decode code 349 = .ok (.invokevirtual 91, 3) := by decide +kernel
theorem d_L_352 : decode code 352 = .ok (.aload_n 2, 1) := by decide +kernel
theorem d_L_353 : decode code 353 = .ok (.invokevirtual 94, 3) := by decide +kernel
theorem d_L_356 : decode code 356 = .ok (.if_icmp .eq 427, 3) := by decide +kernel
theorem d_L_361 : decode code 361 = .ok (.aload_n 1, 1) := by decide +kernel
theorem d_L_362 : decode code 362 = .ok (.aload_n 0, 1) := by decide +kernel
theorem d_L_363 : decode code 363 = .ok (.iload 4, 2) := by decide +kernel
theorem d_L_365 : decode code 365 = .ok (.iconst 1, 1) := by decide +kernel
theorem d_L_366 : decode code 366 = .ok (.iadd, 1) := by decide +kernel
theorem d_L_367 : decode code 367 = .ok (.iaload, 1) := by decide +kernel
theorem d_L_368 : decode code 368 = .ok (.invokestatic 95, 3) := by decide +kernel
theorem d_L_371 : decode code 371 = .ok (.istore 5, 2) := by decide +kernel
theorem d_L_373 : decode code 373 = .ok (.aload_n 2, 1) := by decide +kernel
theorem d_L_374 : decode code 374 = .ok (.aload_n 0, 1) := by decide +kernel
theorem d_L_375 : decode code 375 = .ok (.iload 4, 2) := by decide +kernel
theorem d_L_377 : decode code 377 = .ok (.iconst 1, 1) := by decide +kernel
theorem d_L_378 : decode code 378 = .ok (.iadd, 1) := by decide +kernel
theorem d_L_379 : decode code 379 = .ok (.iaload, 1) := by decide +kernel
theorem d_L_380 : decode code 380 = .ok (.invokevirtual 98, 3) := by decide +kernel
theorem d_L_383 : decode code 383 = .ok (.aload_n 2, 1) := by decide +kernel
theorem d_L_384 : decode code 384 = .ok (.invokevirtual 88, 3) := by decide +kernel
theorem d_L_387 : decode code 387 = .ok (.iload 5, 2) := by decide +kernel
theorem d_L_389 : decode code 389 = .ok (.if_icmp .eq 5, 3) := by decide +kernel
theorem d_L_394 : decode code 394 = .ok (.goto 389, 3) := by decide +kernel
theorem d_L_397 : decode code 397 = .ok (.aload_n 1, 1) := by decide +kernel
theorem d_L_398 : decode code 398 = .ok (.aload_n 0, 1) := by decide +kernel
theorem d_L_399 : decode code 399 = .ok (.iload 4, 2) := by decide +kernel
theorem d_L_401 : decode code 401 = .ok (.iconst 1, 1) := by decide +kernel
theorem d_L_402 : decode code 402 = .ok (.iadd, 1) := by decide +kernel
theorem d_L_403 : decode code 403 = .ok (.iaload, 1) := by decide +kernel
theorem d_L_404 : decode code 404 = .ok (.aload_n 0, 1) := by decide +kernel
theorem d_L_405 : decode code 405 = .ok (.iload 4, 2) := by decide +kernel
theorem d_L_407 : decode code 407 = .ok (.iconst 2, 1) := by decide +kernel
theorem d_L_408 : decode code 408 = .ok (.iadd, 1) := by decide +kernel
theorem d_L_409 : decode code 409 = .ok (.iaload, 1) := by decide +kernel
theorem d_L_410 : decode code 410 = .ok (.aload_n 3, 1) := by decide +kernel
theorem d_L_411 : decode code 411 = .ok (.invokestatic 99, 3) := by decide +kernel
theorem d_L_414 : decode code 414 = .ok (.istore 5, 2) := by decide +kernel
theorem d_L_416 : decode code 416 = .ok (.aload_n 2, 1) := by decide +kernel
theorem d_L_417 : decode code 417 = .ok (.aload_n 0, 1) := by decide +kernel
theorem d_L_418 : decode code 418 = .ok (.iload 4, 2) := by decide +kernel
theorem d_L_420 : decode code 420 = .ok (.iconst 1, 1) := by decide +kernel
theorem d_L_421 : decode code 421 = .ok (.iadd, 1) := by decide +kernel
theorem d_L_422 : decode code 422 = .ok (.iaload, 1) := by decide +kernel
theorem d_L_423 : decode code 423 = .ok (.aload_n 0, 1) := by decide +kernel
theorem d_L_424 : decode code 424 = .ok (.iload 4, 2) := by decide +kernel
theorem d_L_426 : decode code 426 = .ok (.iconst 2, 1) := by decide +kernel
theorem d_L_427 : decode code 427 = .ok (.iadd, 1) := by decide +kernel
theorem d_L_428 : decode code 428 = .ok (.iaload, 1) := by decide +kernel
theorem d_L_429 : decode code 429 = .ok (.invokevirtual 101, 3) := by decide +kernel
theorem d_L_432 : decode code 432 = .ok (.istore 6, 2) := by decide +kernel
theorem d_L_434 : decode code 434 = .ok (.aload_n 2, 1) := by decide +kernel
theorem d_L_435 : decode code 435 = .ok (.invokevirtual 88, 3) := by decide +kernel
theorem d_L_438 : decode code 438 = .ok (.iload 5, 2) := by decide +kernel
theorem d_L_440 : decode code 440 = .ok (.if_icmp .eq 5, 3) := by decide +kernel
theorem d_L_445 : decode code 445 = .ok (.iload 5, 2) := by decide +kernel
theorem d_L_447 : decode code 447 = .ok (.ifCond .ne 15, 3) := by decide +kernel
theorem d_L_450 : decode code 450 = .ok (.aload_n 3, 1) := by decide +kernel
theorem d_L_451 : decode code 451 = .ok (.iconst 0, 1) := by decide +kernel
theorem d_L_452 : decode code 452 = .ok (.laload, 1) := by decide +kernel
theorem d_L_453 : decode code 453 = .ok (.iload 6, 2) := by decide +kernel
theorem d_L_455 : decode code 455 = .ok (.i2l, 1) := by decide +kernel
theorem d_L_456 : decode code 456 = .ok (.lcmp, 1) := by decide +kernel
theorem d_L_457 : decode code 457 = .ok (.ifCond .eq 5, 3) := by decide +kernel
theorem d_L_462 : decode code 462 = .ok (.goto 321, 3) := by decide +kernel
theorem d_L_465 : decode code 465 = .ok (.aload_n 1, 1) := by decide +kernel
theorem d_L_466 : decode code 466 = .ok (.aload_n 0, 1) := by decide +kernel
theorem d_L_467 : decode code 467 = .ok (.iload 4, 2) := by decide +kernel
theorem d_L_469 : decode code 469 = .ok (.iconst 1, 1) := by decide +kernel
theorem d_L_470 : decode code 470 = .ok (.iadd, 1) := by decide +kernel
theorem d_L_471 : decode code 471 = .ok (.iaload, 1) := by decide +kernel
theorem d_L_472 : decode code 472 = .ok (.invokestatic 102, 3) := by decide +kernel
theorem d_L_475 : decode code 475 = .ok (.istore 5, 2) := by decide +kernel
theorem d_L_477 : decode code 477 = .ok (.aload_n 2, 1) := by decide +kernel
theorem d_L_478 : decode code 478 = .ok (.aload_n 0, 1) := by decide +kernel
theorem d_L_479 : decode code 479 = .ok (.iload 4, 2) := by decide +kernel
theorem d_L_481 : decode code 481 = .ok (.iconst 1, 1) := by decide +kernel
theorem d_L_482 : decode code 482 = .ok (.iadd, 1) := by decide +kernel
theorem d_L_483 : decode code 483 = .ok (.iaload, 1) := by decide +kernel
theorem d_L_484 : decode code 484 = .ok (.invokevirtual 104, 3) := by decide +kernel
theorem d_L_487 : decode code 487 = .ok (.aload_n 2, 1) := by decide +kernel
theorem d_L_488 : decode code 488 = .ok (.invokevirtual 88, 3) := by decide +kernel
theorem d_L_491 : decode code 491 = .ok (.iload 5, 2) := by decide +kernel
theorem d_L_493 : decode code 493 = .ok (.if_icmp .eq 5, 3) := by decide +kernel
theorem d_L_498 : decode code 498 = .ok (.goto 285, 3) := by decide +kernel
theorem d_L_501 : decode code 501 = .ok (.aload_n 1, 1) := by decide +kernel
theorem d_L_502 : decode code 502 = .ok (.aload_n 0, 1) := by decide +kernel
theorem d_L_503 : decode code 503 = .ok (.iload 4, 2) := by decide +kernel
theorem d_L_505 : decode code 505 = .ok (.iconst 1, 1) := by decide +kernel
theorem d_L_506 : decode code 506 = .ok (.iadd, 1) := by decide +kernel
theorem d_L_507 : decode code 507 = .ok (.iaload, 1) := by decide +kernel
theorem d_L_508 : decode code 508 = .ok (.aload_n 3, 1) := by decide +kernel
theorem d_L_509 : decode code 509 = .ok (.invokestatic 105, 3) := by decide +kernel
theorem d_L_512 : decode code 512 = .ok (.istore 5, 2) := by decide +kernel
theorem d_L_514 : decode code 514 = .ok (.aload_n 2, 1) := by decide +kernel
theorem d_L_515 : decode code 515 = .ok (.aload_n 0, 1) := by decide +kernel
theorem d_L_516 : decode code 516 = .ok (.iload 4, 2) := by decide +kernel
theorem d_L_518 : decode code 518 = .ok (.iconst 1, 1) := by decide +kernel
theorem d_L_519 : decode code 519 = .ok (.iadd, 1) := by decide +kernel
theorem d_L_520 : decode code 520 = .ok (.iaload, 1) := by decide +kernel
theorem d_L_521 : decode code 521 = .ok (.invokevirtual 108, 3) := by decide +kernel
theorem d_L_524 : decode code 524 = .ok (.istore 6, 2) := by decide +kernel
theorem d_L_526 : decode code 526 = .ok (.aload_n 2, 1) := by decide +kernel
theorem d_L_527 : decode code 527 = .ok (.invokevirtual 88, 3) := by decide +kernel
theorem d_L_530 : decode code 530 = .ok (.iload 5, 2) := by decide +kernel
theorem d_L_532 : decode code 532 = .ok (.if_icmp .eq 5, 3) := by decide +kernel
theorem d_L_537 : decode code 537 = .ok (.iload 5, 2) := by decide +kernel
theorem d_L_539 : decode code 539 = .ok (.ifCond .ne 22, 3) := by decide +kernel
theorem d_L_542 : decode code 542 = .ok (.aload_n 3, 1) := by decide +kernel
theorem d_L_543 : decode code 543 = .ok (.iconst 0, 1) := by decide +kernel
theorem d_L_544 : decode code 544 = .ok (.laload, 1) := by decide +kernel
theorem d_L_545 : decode code 545 = .ok (.iload 6, 2) := by decide +kernel
theorem d_L_547 : decode code 547 = .ok (.ifCond .eq 7, 3) := by decide +kernel
theorem d_L_550 : decode code 550 = .ok (.lconst 1, 1) := by decide +kernel
theorem d_L_551 : decode code 551 = .ok (.goto 4, 3) := by decide +kernel
theorem d_L_554 : decode code 554 = .ok (.lconst 0, 1) := by decide +kernel
theorem d_L_555 : decode code 555 = .ok (.lcmp, 1) := by decide +kernel
theorem d_L_556 : decode code 556 = .ok (.ifCond .eq 5, 3) := by decide +kernel
theorem d_L_561 : decode code 561 = .ok (.goto 222, 3) := by decide +kernel
theorem d_L_564 : decode code 564 = .ok (.aload_n 1, 1) := by decide +kernel
theorem d_L_565 : decode code 565 = .ok (.aload_n 0, 1) := by decide +kernel
theorem d_L_566 : decode code 566 = .ok (.iload 4, 2) := by decide +kernel
theorem d_L_568 : decode code 568 = .ok (.iconst 1, 1) := by decide +kernel
theorem d_L_569 : decode code 569 = .ok (.iadd, 1) := by decide +kernel
theorem d_L_570 : decode code 570 = .ok (.iaload, 1) := by decide +kernel
theorem d_L_571 : decode code 571 = .ok (.aload_n 0, 1) := by decide +kernel
theorem d_L_572 : decode code 572 = .ok (.iload 4, 2) := by decide +kernel
theorem d_L_574 : decode code 574 = .ok (.iconst 2, 1) := by decide +kernel
theorem d_L_575 : decode code 575 = .ok (.iadd, 1) := by decide +kernel
theorem d_L_576 : decode code 576 = .ok (.iaload, 1) := by decide +kernel
theorem d_L_577 : decode code 577 = .ok (.invokestatic 109, 3) := by decide +kernel
theorem d_L_580 : decode code 580 = .ok (.istore 5, 2) := by decide +kernel
theorem d_L_582 : decode code 582 = .ok (.aload_n 2, 1) := by decide +kernel
theorem d_L_583 : decode code 583 = .ok (.aload_n 0, 1) := by decide +kernel
theorem d_L_584 : decode code 584 = .ok (.iload 4, 2) := by decide +kernel
theorem d_L_586 : decode code 586 = .ok (.iconst 1, 1) := by decide +kernel
theorem d_L_587 : decode code 587 = .ok (.iadd, 1) := by decide +kernel
theorem d_L_588 : decode code 588 = .ok (.iaload, 1) := by decide +kernel
theorem d_L_589 : decode code 589 = .ok (.aload_n 0, 1) := by decide +kernel
theorem d_L_590 : decode code 590 = .ok (.iload 4, 2) := by decide +kernel
theorem d_L_592 : decode code 592 = .ok (.iconst 2, 1) := by decide +kernel
theorem d_L_593 : decode code 593 = .ok (.iadd, 1) := by decide +kernel
theorem d_L_594 : decode code 594 = .ok (.iaload, 1) := by decide +kernel
theorem d_L_595 : decode code 595 = .ok (.invokevirtual 112, 3) := by decide +kernel
theorem d_L_598 : decode code 598 = .ok (.aload_n 2, 1) := by decide +kernel
theorem d_L_599 : decode code 599 = .ok (.invokevirtual 88, 3) := by decide +kernel
theorem d_L_602 : decode code 602 = .ok (.iload 5, 2) := by decide +kernel
theorem d_L_604 : decode code 604 = .ok (.if_icmp .eq 5, 3) := by decide +kernel
theorem d_L_609 : decode code 609 = .ok (.goto 174, 3) := by decide +kernel
theorem d_L_612 : decode code 612 = .ok (.aload_n 1, 1) := by decide +kernel
theorem d_L_613 : decode code 613 = .ok (.aload_n 0, 1) := by decide +kernel
theorem d_L_614 : decode code 614 = .ok (.iload 4, 2) := by decide +kernel
theorem d_L_616 : decode code 616 = .ok (.iconst 1, 1) := by decide +kernel
theorem d_L_617 : decode code 617 = .ok (.iadd, 1) := by decide +kernel
theorem d_L_618 : decode code 618 = .ok (.iaload, 1) := by decide +kernel
theorem d_L_619 : decode code 619 = .ok (.invokestatic 113, 3) := by decide +kernel
theorem d_L_622 : decode code 622 = .ok (.istore 5, 2) := by decide +kernel
theorem d_L_624 : decode code 624 = .ok (.aload_n 2, 1) := by decide +kernel
theorem d_L_625 : decode code 625 = .ok (.aload_n 0, 1) := by decide +kernel
theorem d_L_626 : decode code 626 = .ok (.iload 4, 2) := by decide +kernel
theorem d_L_628 : decode code 628 = .ok (.iconst 1, 1) := by decide +kernel
theorem d_L_629 : decode code 629 = .ok (.iadd, 1) := by decide +kernel
theorem d_L_630 : decode code 630 = .ok (.iaload, 1) := by decide +kernel
theorem d_L_631 : decode code 631 = .ok (.invokevirtual 115, 3) := by decide +kernel
theorem d_L_634 : decode code 634 = .ok (.aload_n 2, 1) := by decide +kernel
theorem d_L_635 : decode code 635 = .ok (.invokevirtual 88, 3) := by decide +kernel
theorem d_L_638 : decode code 638 = .ok (.iload 5, 2) := by decide +kernel
theorem d_L_640 : decode code 640 = .ok (.if_icmp .eq 5, 3) := by decide +kernel
theorem d_L_645 : decode code 645 = .ok (.goto 138, 3) := by decide +kernel
theorem d_L_648 : decode code 648 = .ok (.aload_n 1, 1) := by decide +kernel
theorem d_L_649 : decode code 649 = .ok (.aload_n 0, 1) := by decide +kernel
theorem d_L_650 : decode code 650 = .ok (.iload 4, 2) := by decide +kernel
theorem d_L_652 : decode code 652 = .ok (.iconst 1, 1) := by decide +kernel
theorem d_L_653 : decode code 653 = .ok (.iadd, 1) := by decide +kernel
theorem d_L_654 : decode code 654 = .ok (.iaload, 1) := by decide +kernel
theorem d_L_655 : decode code 655 = .ok (.aload_n 3, 1) := by decide +kernel
theorem d_L_656 : decode code 656 = .ok (.invokestatic 116, 3) := by decide +kernel
theorem d_L_659 : decode code 659 = .ok (.istore 5, 2) := by decide +kernel
theorem d_L_661 : decode code 661 = .ok (.aload_n 2, 1) := by decide +kernel
theorem d_L_662 : decode code 662 = .ok (.aload_n 0, 1) := by decide +kernel
theorem d_L_663 : decode code 663 = .ok (.iload 4, 2) := by decide +kernel
theorem d_L_665 : decode code 665 = .ok (.iconst 1, 1) := by decide +kernel
theorem d_L_666 : decode code 666 = .ok (.iadd, 1) := by decide +kernel
theorem d_L_667 : decode code 667 = .ok (.iaload, 1) := by decide +kernel
theorem d_L_668 : decode code 668 = .ok (.invokevirtual 118, 3) := by decide +kernel
theorem d_L_671 : decode code 671 = .ok (.istore 6, 2) := by decide +kernel
theorem d_L_673 : decode code 673 = .ok (.aload_n 2, 1) := by decide +kernel
theorem d_L_674 : decode code 674 = .ok (.invokevirtual 88, 3) := by decide +kernel
theorem d_L_677 : decode code 677 = .ok (.iload 5, 2) := by decide +kernel
theorem d_L_679 : decode code 679 = .ok (.if_icmp .eq 5, 3) := by decide +kernel
theorem d_L_684 : decode code 684 = .ok (.iload 5, 2) := by decide +kernel
theorem d_L_686 : decode code 686 = .ok (.ifCond .ne 15, 3) := by decide +kernel
theorem d_L_689 : decode code 689 = .ok (.aload_n 3, 1) := by decide +kernel
theorem d_L_690 : decode code 690 = .ok (.iconst 0, 1) := by decide +kernel
theorem d_L_691 : decode code 691 = .ok (.laload, 1) := by decide +kernel
theorem d_L_692 : decode code 692 = .ok (.iload 6, 2) := by decide +kernel
theorem d_L_694 : decode code 694 = .ok (.i2l, 1) := by decide +kernel
theorem d_L_695 : decode code 695 = .ok (.lcmp, 1) := by decide +kernel
theorem d_L_696 : decode code 696 = .ok (.ifCond .eq 5, 3) := by decide +kernel
theorem d_L_701 : decode code 701 = .ok (.goto 82, 3) := by decide +kernel
theorem d_L_704 : decode code 704 = .ok (.aload_n 1, 1) := by decide +kernel
theorem d_L_705 : decode code 705 = .ok (.aload_n 0, 1) := by decide +kernel
theorem d_L_706 : decode code 706 = .ok (.iload 4, 2) := by decide +kernel
theorem d_L_708 : decode code 708 = .ok (.iconst 1, 1) := by decide +kernel
theorem d_L_709 : decode code 709 = .ok (.iadd, 1) := by decide +kernel
theorem d_L_710 : decode code 710 = .ok (.iaload, 1) := by decide +kernel
theorem d_L_711 : decode code 711 = .ok (.aload_n 0, 1) := by decide +kernel
theorem d_L_712 : decode code 712 = .ok (.iload 4, 2) := by decide +kernel
theorem d_L_714 : decode code 714 = .ok (.iconst 2, 1) := by decide +kernel
theorem d_L_715 : decode code 715 = .ok (.iadd, 1) := by decide +kernel
theorem d_L_716 : decode code 716 = .ok (.iaload, 1) := by decide +kernel
theorem d_L_717 : decode code 717 = .ok (.aload_n 3, 1) := by decide +kernel
theorem d_L_718 : decode code 718 = .ok (.invokestatic 119, 3) := by decide +kernel
theorem d_L_721 : decode code 721 = .ok (.istore 5, 2) := by decide +kernel
theorem d_L_723 : decode code 723 = .ok (.aload_n 2, 1) := by decide +kernel
theorem d_L_724 : decode code 724 = .ok (.aload_n 0, 1) := by decide +kernel
theorem d_L_725 : decode code 725 = .ok (.iload 4, 2) := by decide +kernel
theorem d_L_727 : decode code 727 = .ok (.iconst 1, 1) := by decide +kernel
theorem d_L_728 : decode code 728 = .ok (.iadd, 1) := by decide +kernel
theorem d_L_729 : decode code 729 = .ok (.iaload, 1) := by decide +kernel
theorem d_L_730 : decode code 730 = .ok (.aload_n 0, 1) := by decide +kernel
theorem d_L_731 : decode code 731 = .ok (.iload 4, 2) := by decide +kernel
theorem d_L_733 : decode code 733 = .ok (.iconst 2, 1) := by decide +kernel
theorem d_L_734 : decode code 734 = .ok (.iadd, 1) := by decide +kernel
theorem d_L_735 : decode code 735 = .ok (.iaload, 1) := by decide +kernel
theorem d_L_736 : decode code 736 = .ok (.invokevirtual 121, 3) := by decide +kernel
theorem d_L_739 : decode code 739 = .ok (.istore 6, 2) := by decide +kernel
theorem d_L_741 : decode code 741 = .ok (.aload_n 2, 1) := by decide +kernel
theorem d_L_742 : decode code 742 = .ok (.invokevirtual 88, 3) := by decide +kernel
theorem d_L_745 : decode code 745 = .ok (.iload 5, 2) := by decide +kernel
theorem d_L_747 : decode code 747 = .ok (.if_icmp .eq 5, 3) := by decide +kernel
theorem d_L_752 : decode code 752 = .ok (.iload 5, 2) := by decide +kernel
theorem d_L_754 : decode code 754 = .ok (.ifCond .ne 15, 3) := by decide +kernel
theorem d_L_757 : decode code 757 = .ok (.aload_n 3, 1) := by decide +kernel
theorem d_L_758 : decode code 758 = .ok (.iconst 0, 1) := by decide +kernel
theorem d_L_759 : decode code 759 = .ok (.laload, 1) := by decide +kernel
theorem d_L_760 : decode code 760 = .ok (.iload 6, 2) := by decide +kernel
theorem d_L_762 : decode code 762 = .ok (.i2l, 1) := by decide +kernel
theorem d_L_763 : decode code 763 = .ok (.lcmp, 1) := by decide +kernel
theorem d_L_764 : decode code 764 = .ok (.ifCond .eq 5, 3) := by decide +kernel
theorem d_L_769 : decode code 769 = .ok (.goto 14, 3) := by decide +kernel
theorem d_L_772 : decode code 772 = .ok (.aload_n 1, 1) := by decide +kernel
theorem d_L_773 : decode code 773 = .ok (.invokevirtual 122, 3) := by decide +kernel
theorem d_L_776 : decode code 776 = .ok (.aload_n 2, 1) := by decide +kernel
theorem d_L_777 : decode code 777 = .ok (.invokevirtual 125, 3) := by decide +kernel
theorem d_L_780 : decode code 780 = .ok (.goto 3, 3) := by decide +kernel
/-! The law's seventeen calls: each from its place to the next turn, out of what is to be shown of the pure functions. -/
def pv_i4 (i : Int32) (L : Nat) : Prop := vp_in i L ∧ vp_in (i + 1) L ∧ vp_in (i + 2) L ∧ vp_in (i + 3) L
abbrev pv_ls (sb : Nat) (a a' : Nat → Nat) (b : Nat) (i : Int32) : List (Nat × Value) := [(0, .ref sb), (1, .ref (a 0)), (2, .ref (a' 0)), (3, .ref b), (4, .int i)]
def pv_kN (p : Program) (l : Launch) (e : Env) (s : State) (m : MethodId) (args : Array Value) (below : List Frame) (meth : Method) (c : Code) (cells slots : Nat) (Q : State → Prop) (D : va_G) (q : Nat → ClassId) (a a' : Nat → Nat) (b sb : Nat) (i : Int32) (R1 : pv_S → pv_S → Prop) : Prop :=
  ∀ (H : Heap) (locs : List Loc) (ls : Array Slot) (σx σm : pv_S) (f : Nat → Int64), pv_V D q a a' b σx σm f H → va_S (pv_A0 s) s.heap H locs → lv_has ls 7 (pv_ls sb a a' b i) → R1 σx σm → W p l e room_1 s m args below meth c H locs (cells + 1) (slots + 6) Q (F0 m 783 ls [])
def sim_i (R1 : pv_S → pv_S → Prop) (fx fm : Option (Int32 × pv_S)) : Prop := ∃ ox om, fx = some ox ∧ fm = some om ∧ ox.1 = om.1 ∧ R1 ox.2 om.2
def sim_v (R1 : pv_S → pv_S → Prop) (fx fm : Option pv_S) : Prop := ∃ ox om, fx = some ox ∧ fm = some om ∧ R1 ox om
def sim_h (R1 : pv_S → pv_S → Prop) (ks : List Nat) (cod : Nat → Int32) (fx : Option pv_X) (fm : Option (Int32 × pv_S)) : Prop := ∃ ox om th, fx = some ox ∧ pv_okx ks ox ∧ fm = some om ∧ f_Md_thrown om.2 = some th ∧ th.1 = pv_rx cod ox ∧ (∀ r, ox = .inl r → r.1 = om.1) ∧ R1 (pv_sx ox) th.2
def sim_w (R1 : pv_S → pv_S → Prop) (ks : List Nat) (cod : Nat → Int32) (fx : Option pv_X) (fm : Option pv_S) : Prop := ∃ ox om th, fx = some ox ∧ pv_okx ks ox ∧ fm = some om ∧ f_Md_thrown om = some th ∧ th.1 = pv_rx cod ox ∧ R1 (pv_sx ox) th.2
theorem pv_fx0 {cod : Nat → Int32} {cv : Int32 → Int64} {f : Nat → Int64} {ox : pv_X} {v : Int32} (hc : ∀ k, cod k ≠ 0) (h0 : pv_rx cod ox = 0) (hv : ∀ r, ox = .inl r → r.1 = v) : pv_fx cv f ox 0 = cv v := by
  cases ox with
  | inl r =>
    have h := hv r rfl
    show vp_updL f 0 (cv r.1) 0 = cv v
    rw [h]
    simp [vp_updL]
  | inr k => exact absurd h0 (hc k.1)
theorem pv_lc0 (x : Int64) : lg_cmp x x = 0 := by
  unfold lg_cmp
  simp
theorem pv_laldO {p : Program} {l : Launch} {e : Env} {R : Room} {s : State} {m : MethodId} {args : Array Value} {below : List Frame} {meth : Method} {c : Code} {H : Heap} {locs : List Loc} {cells slots : Nat} {Q : State → Prop} {cc : ByteArray} {pc : Nat} {ls : Array Slot} {rest : List Value} {D : va_G} {cl : List vw_C} {tys : List (ClassId × FieldType)} {b t0 : Nat} {cA : ClassId} {f : Nat → Int64} (hx : p.tables.exec = Jvm.exec) (hcb : c.code = cc) (hK : va_K D cl tys s) (hO : va_P D cl (pv_O b cA f) H) (ht : tys[t0]? = some (cA, .long)) (hdg : decode cc pc = .ok (.laload, 1))
    (kk : W p l e R s m args below meth c H locs cells slots Q (F0 m (pc + 1) ls (.long (f 0) :: rest))) : W p l e R s m args below meth c H locs cells slots Q (F0 m pc ls (.int 0 :: .ref b :: rest)) :=
  va_lald hx hcb hK hO 0 t0 rfl ht (pv_in_vp (by decide)) hdg kk
set_option maxHeartbeats 4000000 in
theorem k_type {p : Program} {l : Launch} {e : Env} {s : State} {m : MethodId} {args : Array Value} {below : List Frame} {meth : Method} {c : Code} {H : Heap} {locs : List Loc} {cells slots : Nat} {Q : State → Prop} {D : va_G} {q : Nat → ClassId} {a a' t : Nat → Nat} {b sb L : Nat} {xs : Nat → Int32} {σx σm : pv_S} {f : Nat → Int64} {ls : Array Slot} {i : Int32} {R1 : pv_S → pv_S → Prop} (hfl : l.flags = Jvm.pinnedFlags ++ [Jvm.noTraceFlag]) (C : pv_LC p s m args c D q a a' b t) (hX : va_X sb L xs s s.heap) (hsb : sb < s.heap.size) (hi : pv_i4 i L) (hcs : cells + 1 ≤ room_1.cells ∧ slots + 6 ≤ room_1.slots) (hV : pv_V D q a a' b σx σm f H) (hS : va_S (pv_A0 s) s.heap H locs) (hl : lv_has ls 7 (pv_ls sb a a' b i)) (hsim : ∀ (w : Int64) (n : Int32), sim_i R1 (f_PV_type σx w n) (f_Md_type σm w n)) (kN : pv_kN p l e s m args below meth c cells slots Q D q a a' b sb i R1) : W p l e room_1 s m args below meth c H locs cells slots Q (F0 m 120 ls []) := by
  have hx := C.1.1
  have hcb := C.1.2.1
  have hsA : ¬ pv_A0 s sb := Nat.not_le.mpr hsb
  obtain ⟨ox, om, h1, h2, h3, h4⟩ := hsim (((xs (i + 1).toNatClampNeg).toInt64 <<< ((32 : Int32).toInt64 &&& 63)) ||| ((xs (i + 2).toNatClampNeg).toInt64 &&& 4294967295)) (xs (i + 3).toNatClampNeg)
  refine lv_aload_n hx hcb d_L_120 rfl (lv_at hl 1 rfl) ?_
  refine lv_aload_n hx hcb d_L_121 rfl (lv_at hl 0 rfl) ?_
  refine lv_iload hx hcb d_L_122 (lv_at hl 4 rfl) ?_
  refine lv_iconst (v := (1 : Int32)) hx hcb d_L_124 (by decide) ?_
  refine lv_iadd hx hcb d_L_125 ?_
  refine va_sld hx hcb hX hsb hsA hS hi.2.1 d_L_126 ?_
  refine lv_i2l hx hcb d_L_127 rfl ?_
  refine lv_bipush (v := (32 : Int32)) hx hcb d_L_128 (by decide) ?_
  refine lv_lshl hx hcb d_L_130 rfl ?_
  refine lv_aload_n hx hcb d_L_131 rfl (lv_at hl 0 rfl) ?_
  refine lv_iload hx hcb d_L_132 (lv_at hl 4 rfl) ?_
  refine lv_iconst (v := (2 : Int32)) hx hcb d_L_134 (by decide) ?_
  refine lv_iadd hx hcb d_L_135 ?_
  refine va_sld hx hcb hX hsb hsA hS hi.2.2.1 d_L_136 ?_
  refine lv_i2l hx hcb d_L_137 rfl ?_
  refine lv_ldc2 hx hcb C.1.2.2.2.1 (C.1.2.2.2.2 _ w_1507) d_L_138 ?_
  refine lv_land hx hcb d_L_141 ?_
  refine lv_lor hx hcb d_L_142 ?_
  refine lv_aload_n hx hcb d_L_143 rfl (lv_at hl 0 rfl) ?_
  refine lv_iload hx hcb d_L_144 (lv_at hl 4 rfl) ?_
  refine lv_iconst (v := (3 : Int32)) hx hcb d_L_146 (by decide) ?_
  refine lv_iadd hx hcb d_L_147 ?_
  refine va_sld hx hcb hX hsb hsA hS hi.2.2.2 d_L_148 ?_
  refine pv_lXi C hV hS (As := [.long (((xs (i + 1).toNatClampNeg).toInt64 <<< ((32 : Int32).toInt64 &&& 63)) ||| ((xs (i + 2).toNatClampNeg).toInt64 &&& 4294967295)), .int (xs (i + 3).toNatClampNeg)]) (rest := []) (c_PV_type C.2.2.2.x pv_mvX h1) cv_Lw_55 ⟨rfl, rfl, Nat.le_of_ble_eq_true rfl, Nat.le_of_ble_eq_true rfl⟩ rfl hl.1 rfl (Nat.le_of_ble_eq_true rfl) d_L_149 ⟨Nat.le_of_succ_le hcs.1, Nat.le_trans (Nat.le_add_right _ 6) hcs.2⟩ (fun H locs hV hS => ?_)
  refine lv_aload_n hx hcb d_L_152 rfl (lv_at hl 2 rfl) ?_
  refine lv_aload_n hx hcb d_L_153 rfl (lv_at hl 0 rfl) ?_
  refine lv_iload hx hcb d_L_154 (lv_at hl 4 rfl) ?_
  refine lv_iconst (v := (1 : Int32)) hx hcb d_L_156 (by decide) ?_
  refine lv_iadd hx hcb d_L_157 ?_
  refine va_sld hx hcb hX hsb hsA hS hi.2.1 d_L_158 ?_
  refine lv_i2l hx hcb d_L_159 rfl ?_
  refine lv_bipush (v := (32 : Int32)) hx hcb d_L_160 (by decide) ?_
  refine lv_lshl hx hcb d_L_162 rfl ?_
  refine lv_aload_n hx hcb d_L_163 rfl (lv_at hl 0 rfl) ?_
  refine lv_iload hx hcb d_L_164 (lv_at hl 4 rfl) ?_
  refine lv_iconst (v := (2 : Int32)) hx hcb d_L_166 (by decide) ?_
  refine lv_iadd hx hcb d_L_167 ?_
  refine va_sld hx hcb hX hsb hsA hS hi.2.2.1 d_L_168 ?_
  refine lv_i2l hx hcb d_L_169 rfl ?_
  refine lv_ldc2 hx hcb C.1.2.2.2.1 (C.1.2.2.2.2 _ w_1507) d_L_170 ?_
  refine lv_land hx hcb d_L_173 ?_
  refine lv_lor hx hcb d_L_174 ?_
  refine lv_aload_n hx hcb d_L_175 rfl (lv_at hl 0 rfl) ?_
  refine lv_iload hx hcb d_L_176 (lv_at hl 4 rfl) ?_
  refine lv_iconst (v := (3 : Int32)) hx hcb d_L_178 (by decide) ?_
  refine lv_iadd hx hcb d_L_179 ?_
  refine va_sld hx hcb hX hsb hsA hS hi.2.2.2 d_L_180 ?_
  refine pv_lMi C hV hS (As := [.long (((xs (i + 1).toNatClampNeg).toInt64 <<< ((32 : Int32).toInt64 &&& 63)) ||| ((xs (i + 2).toNatClampNeg).toInt64 &&& 4294967295)), .int (xs (i + 3).toNatClampNeg)]) (rest := [.int ox.1]) (c_Md_type C.2.2.2.m pv_mvM h2) cv_Lw_59 ⟨rfl, rfl, Nat.le_of_ble_eq_true rfl, Nat.le_of_ble_eq_true rfl⟩ rfl hl.1 rfl (Nat.le_of_ble_eq_true rfl) d_L_181 ⟨Nat.le_of_succ_le hcs.1, Nat.le_trans (Nat.le_add_right _ 6) hcs.2⟩ (fun H locs hV hS => ?_)
  refine W.widen (Nat.le_add_right _ 1) (Nat.le_add_right _ 6) ?_
  refine lv_icmp_eq (tgt := 783) hx hcb d_L_184 (by decide) (fun _ => ?_) (fun h => absurd h3 h)
  exact kN _ _ _ _ _ _ hV hS hl h4
set_option maxHeartbeats 4000000 in
theorem k_erase {p : Program} {l : Launch} {e : Env} {s : State} {m : MethodId} {args : Array Value} {below : List Frame} {meth : Method} {c : Code} {H : Heap} {locs : List Loc} {cells slots : Nat} {Q : State → Prop} {D : va_G} {q : Nat → ClassId} {a a' t : Nat → Nat} {b sb L : Nat} {xs : Nat → Int32} {σx σm : pv_S} {f : Nat → Int64} {ls : Array Slot} {i : Int32} {R1 : pv_S → pv_S → Prop} (hfl : l.flags = Jvm.pinnedFlags ++ [Jvm.noTraceFlag]) (C : pv_LC p s m args c D q a a' b t) (hX : va_X sb L xs s s.heap) (hsb : sb < s.heap.size) (hi : pv_i4 i L) (hcs : cells + 1 ≤ room_1.cells ∧ slots + 6 ≤ room_1.slots) (hV : pv_V D q a a' b σx σm f H) (hS : va_S (pv_A0 s) s.heap H locs) (hl : lv_has ls 7 (pv_ls sb a a' b i)) (hsim : sim_i R1 (f_PV_erase σx) (f_Md_erase σm)) (kN : pv_kN p l e s m args below meth c cells slots Q D q a a' b sb i R1) : W p l e room_1 s m args below meth c H locs cells slots Q (F0 m 189 ls []) := by
  have hx := C.1.1
  have hcb := C.1.2.1
  have hsA : ¬ pv_A0 s sb := Nat.not_le.mpr hsb
  obtain ⟨ox, om, h1, h2, h3, h4⟩ := hsim
  refine lv_aload_n hx hcb d_L_189 rfl (lv_at hl 1 rfl) ?_
  refine pv_lXi C hV hS (As := []) (rest := []) (c_PV_erase C.2.2.2.x pv_mvX h1) cv_Lw_60 ⟨rfl, rfl, Nat.le_of_ble_eq_true rfl, Nat.le_of_ble_eq_true rfl⟩ rfl hl.1 rfl (Nat.le_of_ble_eq_true rfl) d_L_190 ⟨Nat.le_of_succ_le hcs.1, Nat.le_trans (Nat.le_add_right _ 6) hcs.2⟩ (fun H locs hV hS => ?_)
  refine lv_aload_n hx hcb d_L_193 rfl (lv_at hl 2 rfl) ?_
  refine pv_lMi C hV hS (As := []) (rest := [.int ox.1]) (c_Md_erase C.2.2.2.m pv_mvM h2) cv_Lw_64 ⟨rfl, rfl, Nat.le_of_ble_eq_true rfl, Nat.le_of_ble_eq_true rfl⟩ rfl hl.1 rfl (Nat.le_of_ble_eq_true rfl) d_L_194 ⟨Nat.le_of_succ_le hcs.1, Nat.le_trans (Nat.le_add_right _ 6) hcs.2⟩ (fun H locs hV hS => ?_)
  refine W.widen (Nat.le_add_right _ 1) (Nat.le_add_right _ 6) ?_
  refine lv_icmp_eq (tgt := 783) hx hcb d_L_197 (by decide) (fun _ => ?_) (fun h => absurd h3 h)
  exact kN _ _ _ _ _ _ hV hS hl h4
set_option maxHeartbeats 4000000 in
theorem k_compile {p : Program} {l : Launch} {e : Env} {s : State} {m : MethodId} {args : Array Value} {below : List Frame} {meth : Method} {c : Code} {H : Heap} {locs : List Loc} {cells slots : Nat} {Q : State → Prop} {D : va_G} {q : Nat → ClassId} {a a' t : Nat → Nat} {b sb L : Nat} {xs : Nat → Int32} {σx σm : pv_S} {f : Nat → Int64} {ls : Array Slot} {i : Int32} {R1 : pv_S → pv_S → Prop} (hfl : l.flags = Jvm.pinnedFlags ++ [Jvm.noTraceFlag]) (C : pv_LC p s m args c D q a a' b t) (hX : va_X sb L xs s s.heap) (hsb : sb < s.heap.size) (hi : pv_i4 i L) (hcs : cells + 1 ≤ room_1.cells ∧ slots + 6 ≤ room_1.slots) (hV : pv_V D q a a' b σx σm f H) (hS : va_S (pv_A0 s) s.heap H locs) (hl : lv_has ls 7 (pv_ls sb a a' b i)) (hsim : sim_i R1 (f_PV_compile σx) (f_Md_compile σm)) (kN : pv_kN p l e s m args below meth c cells slots Q D q a a' b sb i R1) : W p l e room_1 s m args below meth c H locs cells slots Q (F0 m 202 ls []) := by
  have hx := C.1.1
  have hcb := C.1.2.1
  have hsA : ¬ pv_A0 s sb := Nat.not_le.mpr hsb
  obtain ⟨ox, om, h1, h2, h3, h4⟩ := hsim
  refine lv_aload_n hx hcb d_L_202 rfl (lv_at hl 1 rfl) ?_
  refine pv_lXi C hV hS (As := []) (rest := []) (c_PV_compile C.2.2.2.x pv_mvX h1) cv_Lw_65 ⟨rfl, rfl, Nat.le_of_ble_eq_true rfl, Nat.le_of_ble_eq_true rfl⟩ rfl hl.1 rfl (Nat.le_of_ble_eq_true rfl) d_L_203 ⟨Nat.le_of_succ_le hcs.1, Nat.le_trans (Nat.le_add_right _ 6) hcs.2⟩ (fun H locs hV hS => ?_)
  refine lv_aload_n hx hcb d_L_206 rfl (lv_at hl 2 rfl) ?_
  refine pv_lMi C hV hS (As := []) (rest := [.int ox.1]) (c_Md_compile C.2.2.2.m pv_mvM h2) cv_Lw_68 ⟨rfl, rfl, Nat.le_of_ble_eq_true rfl, Nat.le_of_ble_eq_true rfl⟩ rfl hl.1 rfl (Nat.le_of_ble_eq_true rfl) d_L_207 ⟨Nat.le_of_succ_le hcs.1, Nat.le_trans (Nat.le_add_right _ 6) hcs.2⟩ (fun H locs hV hS => ?_)
  refine W.widen (Nat.le_add_right _ 1) (Nat.le_add_right _ 6) ?_
  refine lv_icmp_eq (tgt := 783) hx hcb d_L_210 (by decide) (fun _ => ?_) (fun h => absurd h3 h)
  exact kN _ _ _ _ _ _ hV hS hl h4
set_option maxHeartbeats 4000000 in
theorem k_named {p : Program} {l : Launch} {e : Env} {s : State} {m : MethodId} {args : Array Value} {below : List Frame} {meth : Method} {c : Code} {H : Heap} {locs : List Loc} {cells slots : Nat} {Q : State → Prop} {D : va_G} {q : Nat → ClassId} {a a' t : Nat → Nat} {b sb L : Nat} {xs : Nat → Int32} {σx σm : pv_S} {f : Nat → Int64} {ls : Array Slot} {i : Int32} {R1 : pv_S → pv_S → Prop} (hfl : l.flags = Jvm.pinnedFlags ++ [Jvm.noTraceFlag]) (C : pv_LC p s m args c D q a a' b t) (hX : va_X sb L xs s s.heap) (hsb : sb < s.heap.size) (hi : pv_i4 i L) (hcs : cells + 1 ≤ room_1.cells ∧ slots + 6 ≤ room_1.slots) (hV : pv_V D q a a' b σx σm f H) (hS : va_S (pv_A0 s) s.heap H locs) (hl : lv_has ls 7 (pv_ls sb a a' b i)) (hsim : sim_i R1 (f_PV_named σx) (f_Md_named σm)) (kN : pv_kN p l e s m args below meth c cells slots Q D q a a' b sb i R1) : W p l e room_1 s m args below meth c H locs cells slots Q (F0 m 215 ls []) := by
  have hx := C.1.1
  have hcb := C.1.2.1
  have hsA : ¬ pv_A0 s sb := Nat.not_le.mpr hsb
  obtain ⟨ox, om, h1, h2, h3, h4⟩ := hsim
  refine lv_aload_n hx hcb d_L_215 rfl (lv_at hl 1 rfl) ?_
  refine pv_lXi C hV hS (As := []) (rest := []) (c_PV_named C.2.2.2.x pv_mvX h1) cv_Lw_69 ⟨rfl, rfl, Nat.le_of_ble_eq_true rfl, Nat.le_of_ble_eq_true rfl⟩ rfl hl.1 rfl (Nat.le_of_ble_eq_true rfl) d_L_216 ⟨Nat.le_of_succ_le hcs.1, Nat.le_trans (Nat.le_add_right _ 6) hcs.2⟩ (fun H locs hV hS => ?_)
  refine lv_aload_n hx hcb d_L_219 rfl (lv_at hl 2 rfl) ?_
  refine pv_lMi C hV hS (As := []) (rest := [.int ox.1]) (c_Md_named C.2.2.2.m pv_mvM h2) cv_Lw_72 ⟨rfl, rfl, Nat.le_of_ble_eq_true rfl, Nat.le_of_ble_eq_true rfl⟩ rfl hl.1 rfl (Nat.le_of_ble_eq_true rfl) d_L_220 ⟨Nat.le_of_succ_le hcs.1, Nat.le_trans (Nat.le_add_right _ 6) hcs.2⟩ (fun H locs hV hS => ?_)
  refine W.widen (Nat.le_add_right _ 1) (Nat.le_add_right _ 6) ?_
  refine lv_icmp_eq (tgt := 783) hx hcb d_L_223 (by decide) (fun _ => ?_) (fun h => absurd h3 h)
  exact kN _ _ _ _ _ _ hV hS hl h4
set_option maxHeartbeats 4000000 in
theorem k_optimise {p : Program} {l : Launch} {e : Env} {s : State} {m : MethodId} {args : Array Value} {below : List Frame} {meth : Method} {c : Code} {H : Heap} {locs : List Loc} {cells slots : Nat} {Q : State → Prop} {D : va_G} {q : Nat → ClassId} {a a' t : Nat → Nat} {b sb L : Nat} {xs : Nat → Int32} {σx σm : pv_S} {f : Nat → Int64} {ls : Array Slot} {i : Int32} {R1 : pv_S → pv_S → Prop} (hfl : l.flags = Jvm.pinnedFlags ++ [Jvm.noTraceFlag]) (C : pv_LC p s m args c D q a a' b t) (hX : va_X sb L xs s s.heap) (hsb : sb < s.heap.size) (hi : pv_i4 i L) (hcs : cells + 1 ≤ room_1.cells ∧ slots + 6 ≤ room_1.slots) (hV : pv_V D q a a' b σx σm f H) (hS : va_S (pv_A0 s) s.heap H locs) (hl : lv_has ls 7 (pv_ls sb a a' b i)) (hsim : ∀ z : Int32, z = 0 ∨ z = 1 → sim_v R1 (f_PV_optimise σx z) (f_Md_optimise σm z)) (kN : pv_kN p l e s m args below meth c cells slots Q D q a a' b sb i R1) : W p l e room_1 s m args below meth c H locs cells slots Q (F0 m 228 ls []) := by
  have hx := C.1.1
  have hcb := C.1.2.1
  have hsA : ¬ pv_A0 s sb := Nat.not_le.mpr hsb
  refine lv_aload_n hx hcb d_L_228 rfl (lv_at hl 1 rfl) ?_
  refine lv_aload_n hx hcb d_L_229 rfl (lv_at hl 0 rfl) ?_
  refine lv_iload hx hcb d_L_230 (lv_at hl 4 rfl) ?_
  refine lv_iconst (v := (1 : Int32)) hx hcb d_L_232 (by decide) ?_
  refine lv_iadd hx hcb d_L_233 ?_
  refine va_sld hx hcb hX hsb hsA hS hi.2.1 d_L_234 ?_
  refine lv_if_eq (tgt := 242) hx hcb d_L_235 (by decide) (fun hz => ?_) (fun hz => ?_)
  · obtain ⟨ox, om, h1, h2, h4⟩ := hsim 0 (Or.inl rfl)
    refine lv_iconst (v := (0 : Int32)) hx hcb d_L_242 (by decide) ?_
    refine pv_lXv C hV hS (As := [.int 0]) (rest := []) (c_PV_optimise C.2.2.2.x pv_mvX h1) cv_Lw_73 ⟨rfl, rfl, Nat.le_of_ble_eq_true rfl, Nat.le_of_ble_eq_true rfl⟩ rfl hl.1 rfl (Nat.le_of_ble_eq_true rfl) d_L_243 ⟨Nat.le_of_succ_le hcs.1, Nat.le_trans (Nat.le_add_right _ 6) hcs.2⟩ (fun H locs hV hS => ?_)
    refine lv_aload_n hx hcb d_L_246 rfl (lv_at hl 2 rfl) ?_
    refine lv_aload_n hx hcb d_L_247 rfl (lv_at hl 0 rfl) ?_
    refine lv_iload hx hcb d_L_248 (lv_at hl 4 rfl) ?_
    refine lv_iconst (v := (1 : Int32)) hx hcb d_L_250 (by decide) ?_
    refine lv_iadd hx hcb d_L_251 ?_
    refine va_sld hx hcb hX hsb hsA hS hi.2.1 d_L_252 ?_
    refine lv_if_eq (tgt := 260) hx hcb d_L_253 (by decide) (fun _ => ?_) (fun h => absurd hz h)
    refine lv_iconst (v := (0 : Int32)) hx hcb d_L_260 (by decide) ?_
    refine pv_lMv C hV hS (As := [.int 0]) (rest := []) (c_Md_optimise C.2.2.2.m pv_mvM h2) cv_Lw_77 ⟨rfl, rfl, Nat.le_of_ble_eq_true rfl, Nat.le_of_ble_eq_true rfl⟩ rfl hl.1 rfl (Nat.le_of_ble_eq_true rfl) d_L_261 ⟨Nat.le_of_succ_le hcs.1, Nat.le_trans (Nat.le_add_right _ 6) hcs.2⟩ (fun H locs hV hS => ?_)
    refine W.widen (Nat.le_add_right _ 1) (Nat.le_add_right _ 6) ?_
    refine lv_goto (tgt := 783) hx hcb d_L_264 (by decide) ?_
    exact kN _ _ _ _ _ _ hV hS hl h4
  · obtain ⟨ox, om, h1, h2, h4⟩ := hsim 1 (Or.inr rfl)
    refine lv_iconst (v := (1 : Int32)) hx hcb d_L_238 (by decide) ?_
    refine lv_goto (tgt := 243) hx hcb d_L_239 (by decide) ?_
    refine pv_lXv C hV hS (As := [.int 1]) (rest := []) (c_PV_optimise C.2.2.2.x pv_mvX h1) cv_Lw_73 ⟨rfl, rfl, Nat.le_of_ble_eq_true rfl, Nat.le_of_ble_eq_true rfl⟩ rfl hl.1 rfl (Nat.le_of_ble_eq_true rfl) d_L_243 ⟨Nat.le_of_succ_le hcs.1, Nat.le_trans (Nat.le_add_right _ 6) hcs.2⟩ (fun H locs hV hS => ?_)
    refine lv_aload_n hx hcb d_L_246 rfl (lv_at hl 2 rfl) ?_
    refine lv_aload_n hx hcb d_L_247 rfl (lv_at hl 0 rfl) ?_
    refine lv_iload hx hcb d_L_248 (lv_at hl 4 rfl) ?_
    refine lv_iconst (v := (1 : Int32)) hx hcb d_L_250 (by decide) ?_
    refine lv_iadd hx hcb d_L_251 ?_
    refine va_sld hx hcb hX hsb hsA hS hi.2.1 d_L_252 ?_
    refine lv_if_eq (tgt := 260) hx hcb d_L_253 (by decide) (fun h => absurd h hz) (fun _ => ?_)
    refine lv_iconst (v := (1 : Int32)) hx hcb d_L_256 (by decide) ?_
    refine lv_goto (tgt := 261) hx hcb d_L_257 (by decide) ?_
    refine pv_lMv C hV hS (As := [.int 1]) (rest := []) (c_Md_optimise C.2.2.2.m pv_mvM h2) cv_Lw_77 ⟨rfl, rfl, Nat.le_of_ble_eq_true rfl, Nat.le_of_ble_eq_true rfl⟩ rfl hl.1 rfl (Nat.le_of_ble_eq_true rfl) d_L_261 ⟨Nat.le_of_succ_le hcs.1, Nat.le_trans (Nat.le_add_right _ 6) hcs.2⟩ (fun H locs hV hS => ?_)
    refine W.widen (Nat.le_add_right _ 1) (Nat.le_add_right _ 6) ?_
    refine lv_goto (tgt := 783) hx hcb d_L_264 (by decide) ?_
    exact kN _ _ _ _ _ _ hV hS hl h4
set_option maxHeartbeats 4000000 in
theorem k_steps {p : Program} {l : Launch} {e : Env} {s : State} {m : MethodId} {args : Array Value} {below : List Frame} {meth : Method} {c : Code} {H : Heap} {locs : List Loc} {cells slots : Nat} {Q : State → Prop} {D : va_G} {q : Nat → ClassId} {a a' t : Nat → Nat} {b sb L : Nat} {xs : Nat → Int32} {σx σm : pv_S} {f : Nat → Int64} {ls : Array Slot} {i : Int32} {R1 : pv_S → pv_S → Prop} (hfl : l.flags = Jvm.pinnedFlags ++ [Jvm.noTraceFlag]) (C : pv_LC p s m args c D q a a' b t) (hX : va_X sb L xs s s.heap) (hsb : sb < s.heap.size) (hi : pv_i4 i L) (hcs : cells + 1 ≤ room_1.cells ∧ slots + 6 ≤ room_1.slots) (hV : pv_V D q a a' b σx σm f H) (hS : va_S (pv_A0 s) s.heap H locs) (hl : lv_has ls 7 (pv_ls sb a a' b i)) (hsim : sim_i R1 (f_PV_steps σx) (f_Md_steps σm)) (kN : pv_kN p l e s m args below meth c cells slots Q D q a a' b sb i R1) : W p l e room_1 s m args below meth c H locs cells slots Q (F0 m 267 ls []) := by
  have hx := C.1.1
  have hcb := C.1.2.1
  have hsA : ¬ pv_A0 s sb := Nat.not_le.mpr hsb
  obtain ⟨ox, om, h1, h2, h3, h4⟩ := hsim
  refine lv_aload_n hx hcb d_L_267 rfl (lv_at hl 1 rfl) ?_
  refine pv_lXi C hV hS (As := []) (rest := []) (c_PV_steps C.2.2.2.x pv_mvX h1) cv_Lw_78 ⟨rfl, rfl, Nat.le_of_ble_eq_true rfl, Nat.le_of_ble_eq_true rfl⟩ rfl hl.1 rfl (Nat.le_of_ble_eq_true rfl) d_L_268 ⟨Nat.le_of_succ_le hcs.1, Nat.le_trans (Nat.le_add_right _ 6) hcs.2⟩ (fun H locs hV hS => ?_)
  refine lv_aload_n hx hcb d_L_271 rfl (lv_at hl 2 rfl) ?_
  refine pv_lMi C hV hS (As := []) (rest := [.int ox.1]) (c_Md_steps C.2.2.2.m pv_mvM h2) cv_Lw_81 ⟨rfl, rfl, Nat.le_of_ble_eq_true rfl, Nat.le_of_ble_eq_true rfl⟩ rfl hl.1 rfl (Nat.le_of_ble_eq_true rfl) d_L_272 ⟨Nat.le_of_succ_le hcs.1, Nat.le_trans (Nat.le_add_right _ 6) hcs.2⟩ (fun H locs hV hS => ?_)
  refine W.widen (Nat.le_add_right _ 1) (Nat.le_add_right _ 6) ?_
  refine lv_icmp_eq (tgt := 783) hx hcb d_L_275 (by decide) (fun _ => ?_) (fun h => absurd h3 h)
  exact kN _ _ _ _ _ _ hV hS hl h4
set_option maxHeartbeats 4000000 in
theorem k_step {p : Program} {l : Launch} {e : Env} {s : State} {m : MethodId} {args : Array Value} {below : List Frame} {meth : Method} {c : Code} {H : Heap} {locs : List Loc} {cells slots : Nat} {Q : State → Prop} {D : va_G} {q : Nat → ClassId} {a a' t : Nat → Nat} {b sb L : Nat} {xs : Nat → Int32} {σx σm : pv_S} {f : Nat → Int64} {ls : Array Slot} {i : Int32} {R1 : pv_S → pv_S → Prop} (hfl : l.flags = Jvm.pinnedFlags ++ [Jvm.noTraceFlag]) (C : pv_LC p s m args c D q a a' b t) (hX : va_X sb L xs s s.heap) (hsb : sb < s.heap.size) (hi : pv_i4 i L) (hcs : cells + 1 ≤ room_1.cells ∧ slots + 6 ≤ room_1.slots) (hV : pv_V D q a a' b σx σm f H) (hS : va_S (pv_A0 s) s.heap H locs) (hl : lv_has ls 7 (pv_ls sb a a' b i)) (hsim : ∀ x1 x2 : Int32, sim_h R1 [0, 1] cod_step (f_PV_step σx x1 x2) (f_Md_step σm x1 x2)) (kN : pv_kN p l e s m args below meth c cells slots Q D q a a' b sb i R1) : W p l e room_1 s m args below meth c H locs cells slots Q (F0 m 280 ls []) := by
  have hx := C.1.1
  have hcb := C.1.2.1
  have hsA : ¬ pv_A0 s sb := Nat.not_le.mpr hsb
  obtain ⟨ox, om, th, h1, h2, h3, h4, h5, h6, h7⟩ := hsim (xs (i + 1).toNatClampNeg) (xs (i + 2).toNatClampNeg)
  refine lv_aload_n hx hcb d_L_280 rfl (lv_at hl 1 rfl) ?_
  refine lv_aload_n hx hcb d_L_281 rfl (lv_at hl 0 rfl) ?_
  refine lv_iload hx hcb d_L_282 (lv_at hl 4 rfl) ?_
  refine lv_iconst (v := (1 : Int32)) hx hcb d_L_284 (by decide) ?_
  refine lv_iadd hx hcb d_L_285 ?_
  refine va_sld hx hcb hX hsb hsA hS hi.2.1 d_L_286 ?_
  refine lv_aload_n hx hcb d_L_287 rfl (lv_at hl 0 rfl) ?_
  refine lv_iload hx hcb d_L_288 (lv_at hl 4 rfl) ?_
  refine lv_iconst (v := (2 : Int32)) hx hcb d_L_290 (by decide) ?_
  refine lv_iadd hx hcb d_L_291 ?_
  refine va_sld hx hcb hX hsb hsA hS hi.2.2.1 d_L_292 ?_
  refine lv_aload_n hx hcb d_L_293 rfl (lv_at hl 3 rfl) ?_
  refine pv_lH C hV hS (As := [.ref (a 0), .int (xs (i + 1).toNatClampNeg), .int (xs (i + 2).toNatClampNeg), .ref b]) (rest := []) (c_H_step hfl C.2.2.2.x C.2.2.2.bx h1 h2) csw_82 ⟨rfl, rfl, Nat.le_of_ble_eq_true rfl, Nat.le_of_ble_eq_true rfl⟩ rfl hl.1 rfl (Nat.le_of_ble_eq_true rfl) d_L_294 hcs (fun H locs hV hS => ?_)
  refine lv_istore hx hcb d_L_297 hl (by decide) rfl (fun ls hl => ?_)
  refine lv_aload_n hx hcb d_L_299 rfl (lv_at hl 3 rfl) ?_
  refine lv_aload_n hx hcb d_L_300 rfl (lv_at hl 1 rfl) ?_
  refine lv_iload hx hcb d_L_301 (lv_at hl 5 rfl) ?_
  refine lv_iconst (v := (1 : Int32)) hx hcb d_L_303 (by decide) ?_
  refine lv_iadd hx hcb d_L_304 ?_
  refine va_sld hx hcb hX hsb hsA hS hi.2.1 d_L_305 ?_
  refine lv_aload_n hx hcb d_L_306 rfl (lv_at hl 1 rfl) ?_
  refine lv_iload hx hcb d_L_307 (lv_at hl 5 rfl) ?_
  refine lv_iconst (v := (2 : Int32)) hx hcb d_L_309 (by decide) ?_
  refine lv_iadd hx hcb d_L_310 ?_
  refine va_sld hx hcb hX hsb hsA hS hi.2.2.1 d_L_311 ?_
  refine pv_lMi C hV hS (As := [.int (xs (i + 1).toNatClampNeg), .int (xs (i + 2).toNatClampNeg)]) (rest := []) (c_Md_step C.2.2.2.m pv_mvM h3) cv_Lw_87 ⟨rfl, rfl, Nat.le_of_ble_eq_true rfl, Nat.le_of_ble_eq_true rfl⟩ rfl hl.1 rfl (Nat.le_of_ble_eq_true rfl) d_L_312 ⟨hcs.1, hcs.2⟩ (fun H locs hV hS => ?_)
  refine lv_istore hx hcb d_L_315 hl (by decide) rfl (fun ls hl => ?_)
  refine lv_aload_n hx hcb d_L_317 rfl (lv_at hl 4 rfl) ?_
  refine pv_lMi C hV hS (As := []) (rest := []) (c_Md_thrown C.2.2.2.m pv_mvM h4) cv_Lw_88 ⟨rfl, rfl, Nat.le_of_ble_eq_true rfl, Nat.le_of_ble_eq_true rfl⟩ rfl hl.1 rfl (Nat.le_of_ble_eq_true rfl) d_L_318 ⟨hcs.1, hcs.2⟩ (fun H locs hV hS => ?_)
  refine lv_iload hx hcb d_L_321 (lv_at hl 1 rfl) ?_
  refine lv_icmp_eq (tgt := 328) hx hcb d_L_323 (by decide) (fun _ => ?_) (fun h => absurd h5 h)
  refine lv_iload hx hcb d_L_328 (lv_at hl 1 rfl) ?_
  refine lv_if_ne (tgt := 345) hx hcb d_L_330 (by decide) (fun _ => ?_) (fun h0 => ?_)
  · refine lv_goto (tgt := 783) hx hcb d_L_345 (by decide) ?_
    exact kN _ _ _ _ _ _ hV hS (lv_sub hl [2, 3, 4, 5, 6] rfl) h7
  · have hfx : pv_fx (fun x => x.toInt64) f ox 0 = (fun x => x.toInt64) om.1 := pv_fx0 (fun k => by unfold cod_step; first | decide | (split <;> decide)) h0 h6
    refine lv_aload_n hx hcb d_L_333 rfl (lv_at hl 5 rfl) ?_
    refine lv_iconst (v := (0 : Int32)) hx hcb d_L_334 (by decide) ?_
    refine pv_laldO hx hcb C.2.1 hV.2.2 (t0 := 3) rfl d_L_335 ?_
    rw [hfx]
    refine lv_iload hx hcb d_L_336 (lv_at hl 0 rfl) ?_
    refine lv_i2l hx hcb d_L_338 rfl ?_
    refine W.lcmp hx hcb d_L_339 ?_
    refine lv_if_eq (tgt := 345) hx hcb d_L_340 (by decide) (fun _ => ?_) (fun h => absurd (pv_lc0 _) h)
    refine lv_goto (tgt := 783) hx hcb d_L_345 (by decide) ?_
    exact kN _ _ _ _ _ _ hV hS (lv_sub hl [2, 3, 4, 5, 6] rfl) h7
set_option maxHeartbeats 4000000 in
theorem k_slots {p : Program} {l : Launch} {e : Env} {s : State} {m : MethodId} {args : Array Value} {below : List Frame} {meth : Method} {c : Code} {H : Heap} {locs : List Loc} {cells slots : Nat} {Q : State → Prop} {D : va_G} {q : Nat → ClassId} {a a' t : Nat → Nat} {b sb L : Nat} {xs : Nat → Int32} {σx σm : pv_S} {f : Nat → Int64} {ls : Array Slot} {i : Int32} {R1 : pv_S → pv_S → Prop} (hfl : l.flags = Jvm.pinnedFlags ++ [Jvm.noTraceFlag]) (C : pv_LC p s m args c D q a a' b t) (hX : va_X sb L xs s s.heap) (hsb : sb < s.heap.size) (hi : pv_i4 i L) (hcs : cells + 1 ≤ room_1.cells ∧ slots + 6 ≤ room_1.slots) (hV : pv_V D q a a' b σx σm f H) (hS : va_S (pv_A0 s) s.heap H locs) (hl : lv_has ls 7 (pv_ls sb a a' b i)) (hsim : sim_i R1 (f_PV_slots σx) (f_Md_slots σm)) (kN : pv_kN p l e s m args below meth c cells slots Q D q a a' b sb i R1) : W p l e room_1 s m args below meth c H locs cells slots Q (F0 m 348 ls []) := by
  have hx := C.1.1
  have hcb := C.1.2.1
  have hsA : ¬ pv_A0 s sb := Nat.not_le.mpr hsb
  obtain ⟨ox, om, h1, h2, h3, h4⟩ := hsim
  refine lv_aload_n hx hcb d_L_348 rfl (lv_at hl 1 rfl) ?_
  refine pv_lXi C hV hS (As := []) (rest := []) (c_PV_slots C.2.2.2.x pv_mvX h1) cv_Lw_91 ⟨rfl, rfl, Nat.le_of_ble_eq_true rfl, Nat.le_of_ble_eq_true rfl⟩ rfl hl.1 rfl (Nat.le_of_ble_eq_true rfl) d_L_349 ⟨Nat.le_of_succ_le hcs.1, Nat.le_trans (Nat.le_add_right _ 6) hcs.2⟩ (fun H locs hV hS => ?_)
  refine lv_aload_n hx hcb d_L_352 rfl (lv_at hl 2 rfl) ?_
  refine pv_lMi C hV hS (As := []) (rest := [.int ox.1]) (c_Md_slots C.2.2.2.m pv_mvM h2) cv_Lw_94 ⟨rfl, rfl, Nat.le_of_ble_eq_true rfl, Nat.le_of_ble_eq_true rfl⟩ rfl hl.1 rfl (Nat.le_of_ble_eq_true rfl) d_L_353 ⟨Nat.le_of_succ_le hcs.1, Nat.le_trans (Nat.le_add_right _ 6) hcs.2⟩ (fun H locs hV hS => ?_)
  refine W.widen (Nat.le_add_right _ 1) (Nat.le_add_right _ 6) ?_
  refine lv_icmp_eq (tgt := 783) hx hcb d_L_356 (by decide) (fun _ => ?_) (fun h => absurd h3 h)
  exact kN _ _ _ _ _ _ hV hS hl h4
set_option maxHeartbeats 4000000 in
theorem k_voices {p : Program} {l : Launch} {e : Env} {s : State} {m : MethodId} {args : Array Value} {below : List Frame} {meth : Method} {c : Code} {H : Heap} {locs : List Loc} {cells slots : Nat} {Q : State → Prop} {D : va_G} {q : Nat → ClassId} {a a' t : Nat → Nat} {b sb L : Nat} {xs : Nat → Int32} {σx σm : pv_S} {f : Nat → Int64} {ls : Array Slot} {i : Int32} {R1 : pv_S → pv_S → Prop} (hfl : l.flags = Jvm.pinnedFlags ++ [Jvm.noTraceFlag]) (C : pv_LC p s m args c D q a a' b t) (hX : va_X sb L xs s s.heap) (hsb : sb < s.heap.size) (hi : pv_i4 i L) (hcs : cells + 1 ≤ room_1.cells ∧ slots + 6 ≤ room_1.slots) (hV : pv_V D q a a' b σx σm f H) (hS : va_S (pv_A0 s) s.heap H locs) (hl : lv_has ls 7 (pv_ls sb a a' b i)) (hsim : ∀ x1 : Int32, sim_w R1 [1] cod_voices (f_PV_voices σx x1) (f_Md_voices σm x1)) (kN : pv_kN p l e s m args below meth c cells slots Q D q a a' b sb i R1) : W p l e room_1 s m args below meth c H locs cells slots Q (F0 m 361 ls []) := by
  have hx := C.1.1
  have hcb := C.1.2.1
  have hsA : ¬ pv_A0 s sb := Nat.not_le.mpr hsb
  obtain ⟨ox, om, th, h1, h2, h3, h4, h5, h7⟩ := hsim (xs (i + 1).toNatClampNeg)
  refine lv_aload_n hx hcb d_L_361 rfl (lv_at hl 1 rfl) ?_
  refine lv_aload_n hx hcb d_L_362 rfl (lv_at hl 0 rfl) ?_
  refine lv_iload hx hcb d_L_363 (lv_at hl 4 rfl) ?_
  refine lv_iconst (v := (1 : Int32)) hx hcb d_L_365 (by decide) ?_
  refine lv_iadd hx hcb d_L_366 ?_
  refine va_sld hx hcb hX hsb hsA hS hi.2.1 d_L_367 ?_
  refine pv_lH C hV hS (As := [.ref (a 0), .int (xs (i + 1).toNatClampNeg)]) (rest := []) (c_H_voices hfl C.2.2.2.x C.2.2.2.bx h1 h2) csw_95 ⟨rfl, rfl, Nat.le_of_ble_eq_true rfl, Nat.le_of_ble_eq_true rfl⟩ rfl hl.1 rfl (Nat.le_of_ble_eq_true rfl) d_L_368 hcs (fun H locs hV hS => ?_)
  refine lv_istore hx hcb d_L_371 hl (by decide) rfl (fun ls hl => ?_)
  refine lv_aload_n hx hcb d_L_373 rfl (lv_at hl 3 rfl) ?_
  refine lv_aload_n hx hcb d_L_374 rfl (lv_at hl 1 rfl) ?_
  refine lv_iload hx hcb d_L_375 (lv_at hl 5 rfl) ?_
  refine lv_iconst (v := (1 : Int32)) hx hcb d_L_377 (by decide) ?_
  refine lv_iadd hx hcb d_L_378 ?_
  refine va_sld hx hcb hX hsb hsA hS hi.2.1 d_L_379 ?_
  refine pv_lMv C hV hS (As := [.int (xs (i + 1).toNatClampNeg)]) (rest := []) (c_Md_voices C.2.2.2.m pv_mvM h3) cv_Lw_98 ⟨rfl, rfl, Nat.le_of_ble_eq_true rfl, Nat.le_of_ble_eq_true rfl⟩ rfl hl.1 rfl (Nat.le_of_ble_eq_true rfl) d_L_380 ⟨hcs.1, hcs.2⟩ (fun H locs hV hS => ?_)
  refine lv_aload_n hx hcb d_L_383 rfl (lv_at hl 3 rfl) ?_
  refine pv_lMi C hV hS (As := []) (rest := []) (c_Md_thrown C.2.2.2.m pv_mvM h4) cv_Lw_88 ⟨rfl, rfl, Nat.le_of_ble_eq_true rfl, Nat.le_of_ble_eq_true rfl⟩ rfl hl.1 rfl (Nat.le_of_ble_eq_true rfl) d_L_384 ⟨hcs.1, hcs.2⟩ (fun H locs hV hS => ?_)
  refine lv_iload hx hcb d_L_387 (lv_at hl 0 rfl) ?_
  refine lv_icmp_eq (tgt := 394) hx hcb d_L_389 (by decide) (fun _ => ?_) (fun h => absurd h5 h)
  refine lv_goto (tgt := 783) hx hcb d_L_394 (by decide) ?_
  exact kN _ _ _ _ _ _ hV hS (lv_sub hl [1, 2, 3, 4, 5] rfl) h7
set_option maxHeartbeats 4000000 in
theorem k_note {p : Program} {l : Launch} {e : Env} {s : State} {m : MethodId} {args : Array Value} {below : List Frame} {meth : Method} {c : Code} {H : Heap} {locs : List Loc} {cells slots : Nat} {Q : State → Prop} {D : va_G} {q : Nat → ClassId} {a a' t : Nat → Nat} {b sb L : Nat} {xs : Nat → Int32} {σx σm : pv_S} {f : Nat → Int64} {ls : Array Slot} {i : Int32} {R1 : pv_S → pv_S → Prop} (hfl : l.flags = Jvm.pinnedFlags ++ [Jvm.noTraceFlag]) (C : pv_LC p s m args c D q a a' b t) (hX : va_X sb L xs s s.heap) (hsb : sb < s.heap.size) (hi : pv_i4 i L) (hcs : cells + 1 ≤ room_1.cells ∧ slots + 6 ≤ room_1.slots) (hV : pv_V D q a a' b σx σm f H) (hS : va_S (pv_A0 s) s.heap H locs) (hl : lv_has ls 7 (pv_ls sb a a' b i)) (hsim : ∀ x1 x2 : Int32, sim_h R1 [1] cod_note (f_PV_note σx x1 x2) (f_Md_note σm x1 x2)) (kN : pv_kN p l e s m args below meth c cells slots Q D q a a' b sb i R1) : W p l e room_1 s m args below meth c H locs cells slots Q (F0 m 397 ls []) := by
  have hx := C.1.1
  have hcb := C.1.2.1
  have hsA : ¬ pv_A0 s sb := Nat.not_le.mpr hsb
  obtain ⟨ox, om, th, h1, h2, h3, h4, h5, h6, h7⟩ := hsim (xs (i + 1).toNatClampNeg) (xs (i + 2).toNatClampNeg)
  refine lv_aload_n hx hcb d_L_397 rfl (lv_at hl 1 rfl) ?_
  refine lv_aload_n hx hcb d_L_398 rfl (lv_at hl 0 rfl) ?_
  refine lv_iload hx hcb d_L_399 (lv_at hl 4 rfl) ?_
  refine lv_iconst (v := (1 : Int32)) hx hcb d_L_401 (by decide) ?_
  refine lv_iadd hx hcb d_L_402 ?_
  refine va_sld hx hcb hX hsb hsA hS hi.2.1 d_L_403 ?_
  refine lv_aload_n hx hcb d_L_404 rfl (lv_at hl 0 rfl) ?_
  refine lv_iload hx hcb d_L_405 (lv_at hl 4 rfl) ?_
  refine lv_iconst (v := (2 : Int32)) hx hcb d_L_407 (by decide) ?_
  refine lv_iadd hx hcb d_L_408 ?_
  refine va_sld hx hcb hX hsb hsA hS hi.2.2.1 d_L_409 ?_
  refine lv_aload_n hx hcb d_L_410 rfl (lv_at hl 3 rfl) ?_
  refine pv_lH C hV hS (As := [.ref (a 0), .int (xs (i + 1).toNatClampNeg), .int (xs (i + 2).toNatClampNeg), .ref b]) (rest := []) (c_H_note hfl C.2.2.2.x C.2.2.2.bx h1 h2) csw_99 ⟨rfl, rfl, Nat.le_of_ble_eq_true rfl, Nat.le_of_ble_eq_true rfl⟩ rfl hl.1 rfl (Nat.le_of_ble_eq_true rfl) d_L_411 hcs (fun H locs hV hS => ?_)
  refine lv_istore hx hcb d_L_414 hl (by decide) rfl (fun ls hl => ?_)
  refine lv_aload_n hx hcb d_L_416 rfl (lv_at hl 3 rfl) ?_
  refine lv_aload_n hx hcb d_L_417 rfl (lv_at hl 1 rfl) ?_
  refine lv_iload hx hcb d_L_418 (lv_at hl 5 rfl) ?_
  refine lv_iconst (v := (1 : Int32)) hx hcb d_L_420 (by decide) ?_
  refine lv_iadd hx hcb d_L_421 ?_
  refine va_sld hx hcb hX hsb hsA hS hi.2.1 d_L_422 ?_
  refine lv_aload_n hx hcb d_L_423 rfl (lv_at hl 1 rfl) ?_
  refine lv_iload hx hcb d_L_424 (lv_at hl 5 rfl) ?_
  refine lv_iconst (v := (2 : Int32)) hx hcb d_L_426 (by decide) ?_
  refine lv_iadd hx hcb d_L_427 ?_
  refine va_sld hx hcb hX hsb hsA hS hi.2.2.1 d_L_428 ?_
  refine pv_lMi C hV hS (As := [.int (xs (i + 1).toNatClampNeg), .int (xs (i + 2).toNatClampNeg)]) (rest := []) (c_Md_note C.2.2.2.m pv_mvM h3) cv_Lw_101 ⟨rfl, rfl, Nat.le_of_ble_eq_true rfl, Nat.le_of_ble_eq_true rfl⟩ rfl hl.1 rfl (Nat.le_of_ble_eq_true rfl) d_L_429 ⟨hcs.1, hcs.2⟩ (fun H locs hV hS => ?_)
  refine lv_istore hx hcb d_L_432 hl (by decide) rfl (fun ls hl => ?_)
  refine lv_aload_n hx hcb d_L_434 rfl (lv_at hl 4 rfl) ?_
  refine pv_lMi C hV hS (As := []) (rest := []) (c_Md_thrown C.2.2.2.m pv_mvM h4) cv_Lw_88 ⟨rfl, rfl, Nat.le_of_ble_eq_true rfl, Nat.le_of_ble_eq_true rfl⟩ rfl hl.1 rfl (Nat.le_of_ble_eq_true rfl) d_L_435 ⟨hcs.1, hcs.2⟩ (fun H locs hV hS => ?_)
  refine lv_iload hx hcb d_L_438 (lv_at hl 1 rfl) ?_
  refine lv_icmp_eq (tgt := 445) hx hcb d_L_440 (by decide) (fun _ => ?_) (fun h => absurd h5 h)
  refine lv_iload hx hcb d_L_445 (lv_at hl 1 rfl) ?_
  refine lv_if_ne (tgt := 462) hx hcb d_L_447 (by decide) (fun _ => ?_) (fun h0 => ?_)
  · refine lv_goto (tgt := 783) hx hcb d_L_462 (by decide) ?_
    exact kN _ _ _ _ _ _ hV hS (lv_sub hl [2, 3, 4, 5, 6] rfl) h7
  · have hfx : pv_fx (fun x => x.toInt64) f ox 0 = (fun x => x.toInt64) om.1 := pv_fx0 (fun k => by unfold cod_note; first | decide | (split <;> decide)) h0 h6
    refine lv_aload_n hx hcb d_L_450 rfl (lv_at hl 5 rfl) ?_
    refine lv_iconst (v := (0 : Int32)) hx hcb d_L_451 (by decide) ?_
    refine pv_laldO hx hcb C.2.1 hV.2.2 (t0 := 3) rfl d_L_452 ?_
    rw [hfx]
    refine lv_iload hx hcb d_L_453 (lv_at hl 0 rfl) ?_
    refine lv_i2l hx hcb d_L_455 rfl ?_
    refine W.lcmp hx hcb d_L_456 ?_
    refine lv_if_eq (tgt := 462) hx hcb d_L_457 (by decide) (fun _ => ?_) (fun h => absurd (pv_lc0 _) h)
    refine lv_goto (tgt := 783) hx hcb d_L_462 (by decide) ?_
    exact kN _ _ _ _ _ _ hV hS (lv_sub hl [2, 3, 4, 5, 6] rfl) h7
set_option maxHeartbeats 4000000 in
theorem k_off {p : Program} {l : Launch} {e : Env} {s : State} {m : MethodId} {args : Array Value} {below : List Frame} {meth : Method} {c : Code} {H : Heap} {locs : List Loc} {cells slots : Nat} {Q : State → Prop} {D : va_G} {q : Nat → ClassId} {a a' t : Nat → Nat} {b sb L : Nat} {xs : Nat → Int32} {σx σm : pv_S} {f : Nat → Int64} {ls : Array Slot} {i : Int32} {R1 : pv_S → pv_S → Prop} (hfl : l.flags = Jvm.pinnedFlags ++ [Jvm.noTraceFlag]) (C : pv_LC p s m args c D q a a' b t) (hX : va_X sb L xs s s.heap) (hsb : sb < s.heap.size) (hi : pv_i4 i L) (hcs : cells + 1 ≤ room_1.cells ∧ slots + 6 ≤ room_1.slots) (hV : pv_V D q a a' b σx σm f H) (hS : va_S (pv_A0 s) s.heap H locs) (hl : lv_has ls 7 (pv_ls sb a a' b i)) (hsim : ∀ x1 : Int32, sim_w R1 [0, 2] cod_off (f_PV_off σx x1) (f_Md_off σm x1)) (kN : pv_kN p l e s m args below meth c cells slots Q D q a a' b sb i R1) : W p l e room_1 s m args below meth c H locs cells slots Q (F0 m 465 ls []) := by
  have hx := C.1.1
  have hcb := C.1.2.1
  have hsA : ¬ pv_A0 s sb := Nat.not_le.mpr hsb
  obtain ⟨ox, om, th, h1, h2, h3, h4, h5, h7⟩ := hsim (xs (i + 1).toNatClampNeg)
  refine lv_aload_n hx hcb d_L_465 rfl (lv_at hl 1 rfl) ?_
  refine lv_aload_n hx hcb d_L_466 rfl (lv_at hl 0 rfl) ?_
  refine lv_iload hx hcb d_L_467 (lv_at hl 4 rfl) ?_
  refine lv_iconst (v := (1 : Int32)) hx hcb d_L_469 (by decide) ?_
  refine lv_iadd hx hcb d_L_470 ?_
  refine va_sld hx hcb hX hsb hsA hS hi.2.1 d_L_471 ?_
  refine pv_lH C hV hS (As := [.ref (a 0), .int (xs (i + 1).toNatClampNeg)]) (rest := []) (c_H_off hfl C.2.2.2.x C.2.2.2.bx h1 h2) csw_102 ⟨rfl, rfl, Nat.le_of_ble_eq_true rfl, Nat.le_of_ble_eq_true rfl⟩ rfl hl.1 rfl (Nat.le_of_ble_eq_true rfl) d_L_472 hcs (fun H locs hV hS => ?_)
  refine lv_istore hx hcb d_L_475 hl (by decide) rfl (fun ls hl => ?_)
  refine lv_aload_n hx hcb d_L_477 rfl (lv_at hl 3 rfl) ?_
  refine lv_aload_n hx hcb d_L_478 rfl (lv_at hl 1 rfl) ?_
  refine lv_iload hx hcb d_L_479 (lv_at hl 5 rfl) ?_
  refine lv_iconst (v := (1 : Int32)) hx hcb d_L_481 (by decide) ?_
  refine lv_iadd hx hcb d_L_482 ?_
  refine va_sld hx hcb hX hsb hsA hS hi.2.1 d_L_483 ?_
  refine pv_lMv C hV hS (As := [.int (xs (i + 1).toNatClampNeg)]) (rest := []) (c_Md_off C.2.2.2.m pv_mvM h3) cv_Lw_104 ⟨rfl, rfl, Nat.le_of_ble_eq_true rfl, Nat.le_of_ble_eq_true rfl⟩ rfl hl.1 rfl (Nat.le_of_ble_eq_true rfl) d_L_484 ⟨hcs.1, hcs.2⟩ (fun H locs hV hS => ?_)
  refine lv_aload_n hx hcb d_L_487 rfl (lv_at hl 3 rfl) ?_
  refine pv_lMi C hV hS (As := []) (rest := []) (c_Md_thrown C.2.2.2.m pv_mvM h4) cv_Lw_88 ⟨rfl, rfl, Nat.le_of_ble_eq_true rfl, Nat.le_of_ble_eq_true rfl⟩ rfl hl.1 rfl (Nat.le_of_ble_eq_true rfl) d_L_488 ⟨hcs.1, hcs.2⟩ (fun H locs hV hS => ?_)
  refine lv_iload hx hcb d_L_491 (lv_at hl 0 rfl) ?_
  refine lv_icmp_eq (tgt := 498) hx hcb d_L_493 (by decide) (fun _ => ?_) (fun h => absurd h5 h)
  refine lv_goto (tgt := 783) hx hcb d_L_498 (by decide) ?_
  exact kN _ _ _ _ _ _ hV hS (lv_sub hl [1, 2, 3, 4, 5] rfl) h7
set_option maxHeartbeats 4000000 in
theorem k_active {p : Program} {l : Launch} {e : Env} {s : State} {m : MethodId} {args : Array Value} {below : List Frame} {meth : Method} {c : Code} {H : Heap} {locs : List Loc} {cells slots : Nat} {Q : State → Prop} {D : va_G} {q : Nat → ClassId} {a a' t : Nat → Nat} {b sb L : Nat} {xs : Nat → Int32} {σx σm : pv_S} {f : Nat → Int64} {ls : Array Slot} {i : Int32} {R1 : pv_S → pv_S → Prop} (hfl : l.flags = Jvm.pinnedFlags ++ [Jvm.noTraceFlag]) (C : pv_LC p s m args c D q a a' b t) (hX : va_X sb L xs s s.heap) (hsb : sb < s.heap.size) (hi : pv_i4 i L) (hcs : cells + 1 ≤ room_1.cells ∧ slots + 6 ≤ room_1.slots) (hV : pv_V D q a a' b σx σm f H) (hS : va_S (pv_A0 s) s.heap H locs) (hl : lv_has ls 7 (pv_ls sb a a' b i)) (hsim : ∀ x1 : Int32, sim_h R1 [0] cod_active (f_PV_active σx x1) (f_Md_active σm x1)) (kN : pv_kN p l e s m args below meth c cells slots Q D q a a' b sb i R1) : W p l e room_1 s m args below meth c H locs cells slots Q (F0 m 501 ls []) := by
  have hx := C.1.1
  have hcb := C.1.2.1
  have hsA : ¬ pv_A0 s sb := Nat.not_le.mpr hsb
  obtain ⟨ox, om, th, h1, h2, h3, h4, h5, h6, h7⟩ := hsim (xs (i + 1).toNatClampNeg)
  refine lv_aload_n hx hcb d_L_501 rfl (lv_at hl 1 rfl) ?_
  refine lv_aload_n hx hcb d_L_502 rfl (lv_at hl 0 rfl) ?_
  refine lv_iload hx hcb d_L_503 (lv_at hl 4 rfl) ?_
  refine lv_iconst (v := (1 : Int32)) hx hcb d_L_505 (by decide) ?_
  refine lv_iadd hx hcb d_L_506 ?_
  refine va_sld hx hcb hX hsb hsA hS hi.2.1 d_L_507 ?_
  refine lv_aload_n hx hcb d_L_508 rfl (lv_at hl 3 rfl) ?_
  refine pv_lH C hV hS (As := [.ref (a 0), .int (xs (i + 1).toNatClampNeg), .ref b]) (rest := []) (c_H_active hfl C.2.2.2.x C.2.2.2.bx h1 h2) csw_105 ⟨rfl, rfl, Nat.le_of_ble_eq_true rfl, Nat.le_of_ble_eq_true rfl⟩ rfl hl.1 rfl (Nat.le_of_ble_eq_true rfl) d_L_509 hcs (fun H locs hV hS => ?_)
  refine lv_istore hx hcb d_L_512 hl (by decide) rfl (fun ls hl => ?_)
  refine lv_aload_n hx hcb d_L_514 rfl (lv_at hl 3 rfl) ?_
  refine lv_aload_n hx hcb d_L_515 rfl (lv_at hl 1 rfl) ?_
  refine lv_iload hx hcb d_L_516 (lv_at hl 5 rfl) ?_
  refine lv_iconst (v := (1 : Int32)) hx hcb d_L_518 (by decide) ?_
  refine lv_iadd hx hcb d_L_519 ?_
  refine va_sld hx hcb hX hsb hsA hS hi.2.1 d_L_520 ?_
  refine pv_lMi C hV hS (As := [.int (xs (i + 1).toNatClampNeg)]) (rest := []) (c_Md_active C.2.2.2.m pv_mvM h3) cv_Lw_108 ⟨rfl, rfl, Nat.le_of_ble_eq_true rfl, Nat.le_of_ble_eq_true rfl⟩ rfl hl.1 rfl (Nat.le_of_ble_eq_true rfl) d_L_521 ⟨hcs.1, hcs.2⟩ (fun H locs hV hS => ?_)
  refine lv_istore hx hcb d_L_524 hl (by decide) rfl (fun ls hl => ?_)
  refine lv_aload_n hx hcb d_L_526 rfl (lv_at hl 4 rfl) ?_
  refine pv_lMi C hV hS (As := []) (rest := []) (c_Md_thrown C.2.2.2.m pv_mvM h4) cv_Lw_88 ⟨rfl, rfl, Nat.le_of_ble_eq_true rfl, Nat.le_of_ble_eq_true rfl⟩ rfl hl.1 rfl (Nat.le_of_ble_eq_true rfl) d_L_527 ⟨hcs.1, hcs.2⟩ (fun H locs hV hS => ?_)
  refine lv_iload hx hcb d_L_530 (lv_at hl 1 rfl) ?_
  refine lv_icmp_eq (tgt := 537) hx hcb d_L_532 (by decide) (fun _ => ?_) (fun h => absurd h5 h)
  refine lv_iload hx hcb d_L_537 (lv_at hl 1 rfl) ?_
  refine lv_if_ne (tgt := 561) hx hcb d_L_539 (by decide) (fun _ => ?_) (fun h0 => ?_)
  · refine lv_goto (tgt := 783) hx hcb d_L_561 (by decide) ?_
    exact kN _ _ _ _ _ _ hV hS (lv_sub hl [2, 3, 4, 5, 6] rfl) h7
  · have hfx : pv_fx pv_cz f ox 0 = pv_cz om.1 := pv_fx0 (fun k => by unfold cod_active; first | decide | (split <;> decide)) h0 h6
    refine lv_aload_n hx hcb d_L_542 rfl (lv_at hl 5 rfl) ?_
    refine lv_iconst (v := (0 : Int32)) hx hcb d_L_543 (by decide) ?_
    refine pv_laldO hx hcb C.2.1 hV.2.2 (t0 := 3) rfl d_L_544 ?_
    rw [hfx]
    refine lv_iload hx hcb d_L_545 (lv_at hl 0 rfl) ?_
    refine lv_if_eq (tgt := 554) hx hcb d_L_547 (by decide) (fun hz => ?_) (fun hz => ?_)
    · refine lv_lconst (v := (0 : Int64)) hx hcb d_L_554 (by decide) ?_
      rw [show pv_cz om.1 = 0 from by rw [pv_cz, if_pos hz]]
      refine W.lcmp hx hcb d_L_555 ?_
      refine lv_if_eq (tgt := 561) hx hcb d_L_556 (by decide) (fun _ => ?_) (fun h => absurd (pv_lc0 _) h)
      refine lv_goto (tgt := 783) hx hcb d_L_561 (by decide) ?_
      exact kN _ _ _ _ _ _ hV hS (lv_sub hl [2, 3, 4, 5, 6] rfl) h7
    · refine lv_lconst (v := (1 : Int64)) hx hcb d_L_550 (by decide) ?_
      refine lv_goto (tgt := 555) hx hcb d_L_551 (by decide) ?_
      rw [show pv_cz om.1 = 1 from by rw [pv_cz, if_neg hz]]
      refine W.lcmp hx hcb d_L_555 ?_
      refine lv_if_eq (tgt := 561) hx hcb d_L_556 (by decide) (fun _ => ?_) (fun h => absurd (pv_lc0 _) h)
      refine lv_goto (tgt := 783) hx hcb d_L_561 (by decide) ?_
      exact kN _ _ _ _ _ _ hV hS (lv_sub hl [2, 3, 4, 5, 6] rfl) h7
set_option maxHeartbeats 4000000 in
theorem k_knob {p : Program} {l : Launch} {e : Env} {s : State} {m : MethodId} {args : Array Value} {below : List Frame} {meth : Method} {c : Code} {H : Heap} {locs : List Loc} {cells slots : Nat} {Q : State → Prop} {D : va_G} {q : Nat → ClassId} {a a' t : Nat → Nat} {b sb L : Nat} {xs : Nat → Int32} {σx σm : pv_S} {f : Nat → Int64} {ls : Array Slot} {i : Int32} {R1 : pv_S → pv_S → Prop} (hfl : l.flags = Jvm.pinnedFlags ++ [Jvm.noTraceFlag]) (C : pv_LC p s m args c D q a a' b t) (hX : va_X sb L xs s s.heap) (hsb : sb < s.heap.size) (hi : pv_i4 i L) (hcs : cells + 1 ≤ room_1.cells ∧ slots + 6 ≤ room_1.slots) (hV : pv_V D q a a' b σx σm f H) (hS : va_S (pv_A0 s) s.heap H locs) (hl : lv_has ls 7 (pv_ls sb a a' b i)) (hsim : ∀ x1 x2 : Int32, sim_w R1 [0] cod_knob (f_PV_knob σx x1 x2) (f_Md_knob σm x1 x2)) (kN : pv_kN p l e s m args below meth c cells slots Q D q a a' b sb i R1) : W p l e room_1 s m args below meth c H locs cells slots Q (F0 m 564 ls []) := by
  have hx := C.1.1
  have hcb := C.1.2.1
  have hsA : ¬ pv_A0 s sb := Nat.not_le.mpr hsb
  obtain ⟨ox, om, th, h1, h2, h3, h4, h5, h7⟩ := hsim (xs (i + 1).toNatClampNeg) (xs (i + 2).toNatClampNeg)
  refine lv_aload_n hx hcb d_L_564 rfl (lv_at hl 1 rfl) ?_
  refine lv_aload_n hx hcb d_L_565 rfl (lv_at hl 0 rfl) ?_
  refine lv_iload hx hcb d_L_566 (lv_at hl 4 rfl) ?_
  refine lv_iconst (v := (1 : Int32)) hx hcb d_L_568 (by decide) ?_
  refine lv_iadd hx hcb d_L_569 ?_
  refine va_sld hx hcb hX hsb hsA hS hi.2.1 d_L_570 ?_
  refine lv_aload_n hx hcb d_L_571 rfl (lv_at hl 0 rfl) ?_
  refine lv_iload hx hcb d_L_572 (lv_at hl 4 rfl) ?_
  refine lv_iconst (v := (2 : Int32)) hx hcb d_L_574 (by decide) ?_
  refine lv_iadd hx hcb d_L_575 ?_
  refine va_sld hx hcb hX hsb hsA hS hi.2.2.1 d_L_576 ?_
  refine pv_lH C hV hS (As := [.ref (a 0), .int (xs (i + 1).toNatClampNeg), .int (xs (i + 2).toNatClampNeg)]) (rest := []) (c_H_knob hfl C.2.2.2.x C.2.2.2.bx h1 h2) csw_109 ⟨rfl, rfl, Nat.le_of_ble_eq_true rfl, Nat.le_of_ble_eq_true rfl⟩ rfl hl.1 rfl (Nat.le_of_ble_eq_true rfl) d_L_577 hcs (fun H locs hV hS => ?_)
  refine lv_istore hx hcb d_L_580 hl (by decide) rfl (fun ls hl => ?_)
  refine lv_aload_n hx hcb d_L_582 rfl (lv_at hl 3 rfl) ?_
  refine lv_aload_n hx hcb d_L_583 rfl (lv_at hl 1 rfl) ?_
  refine lv_iload hx hcb d_L_584 (lv_at hl 5 rfl) ?_
  refine lv_iconst (v := (1 : Int32)) hx hcb d_L_586 (by decide) ?_
  refine lv_iadd hx hcb d_L_587 ?_
  refine va_sld hx hcb hX hsb hsA hS hi.2.1 d_L_588 ?_
  refine lv_aload_n hx hcb d_L_589 rfl (lv_at hl 1 rfl) ?_
  refine lv_iload hx hcb d_L_590 (lv_at hl 5 rfl) ?_
  refine lv_iconst (v := (2 : Int32)) hx hcb d_L_592 (by decide) ?_
  refine lv_iadd hx hcb d_L_593 ?_
  refine va_sld hx hcb hX hsb hsA hS hi.2.2.1 d_L_594 ?_
  refine pv_lMv C hV hS (As := [.int (xs (i + 1).toNatClampNeg), .int (xs (i + 2).toNatClampNeg)]) (rest := []) (c_Md_knob C.2.2.2.m pv_mvM h3) cv_Lw_112 ⟨rfl, rfl, Nat.le_of_ble_eq_true rfl, Nat.le_of_ble_eq_true rfl⟩ rfl hl.1 rfl (Nat.le_of_ble_eq_true rfl) d_L_595 ⟨hcs.1, hcs.2⟩ (fun H locs hV hS => ?_)
  refine lv_aload_n hx hcb d_L_598 rfl (lv_at hl 3 rfl) ?_
  refine pv_lMi C hV hS (As := []) (rest := []) (c_Md_thrown C.2.2.2.m pv_mvM h4) cv_Lw_88 ⟨rfl, rfl, Nat.le_of_ble_eq_true rfl, Nat.le_of_ble_eq_true rfl⟩ rfl hl.1 rfl (Nat.le_of_ble_eq_true rfl) d_L_599 ⟨hcs.1, hcs.2⟩ (fun H locs hV hS => ?_)
  refine lv_iload hx hcb d_L_602 (lv_at hl 0 rfl) ?_
  refine lv_icmp_eq (tgt := 609) hx hcb d_L_604 (by decide) (fun _ => ?_) (fun h => absurd h5 h)
  refine lv_goto (tgt := 783) hx hcb d_L_609 (by decide) ?_
  exact kN _ _ _ _ _ _ hV hS (lv_sub hl [1, 2, 3, 4, 5] rfl) h7
set_option maxHeartbeats 4000000 in
theorem k_run {p : Program} {l : Launch} {e : Env} {s : State} {m : MethodId} {args : Array Value} {below : List Frame} {meth : Method} {c : Code} {H : Heap} {locs : List Loc} {cells slots : Nat} {Q : State → Prop} {D : va_G} {q : Nat → ClassId} {a a' t : Nat → Nat} {b sb L : Nat} {xs : Nat → Int32} {σx σm : pv_S} {f : Nat → Int64} {ls : Array Slot} {i : Int32} {R1 : pv_S → pv_S → Prop} (hfl : l.flags = Jvm.pinnedFlags ++ [Jvm.noTraceFlag]) (C : pv_LC p s m args c D q a a' b t) (hX : va_X sb L xs s s.heap) (hsb : sb < s.heap.size) (hi : pv_i4 i L) (hcs : cells + 1 ≤ room_1.cells ∧ slots + 6 ≤ room_1.slots) (hV : pv_V D q a a' b σx σm f H) (hS : va_S (pv_A0 s) s.heap H locs) (hl : lv_has ls 7 (pv_ls sb a a' b i)) (hsim : ∀ x1 : Int32, sim_w R1 [1, 2] cod_run (f_PV_run σx x1) (f_Md_run σm x1)) (kN : pv_kN p l e s m args below meth c cells slots Q D q a a' b sb i R1) : W p l e room_1 s m args below meth c H locs cells slots Q (F0 m 612 ls []) := by
  have hx := C.1.1
  have hcb := C.1.2.1
  have hsA : ¬ pv_A0 s sb := Nat.not_le.mpr hsb
  obtain ⟨ox, om, th, h1, h2, h3, h4, h5, h7⟩ := hsim (xs (i + 1).toNatClampNeg)
  refine lv_aload_n hx hcb d_L_612 rfl (lv_at hl 1 rfl) ?_
  refine lv_aload_n hx hcb d_L_613 rfl (lv_at hl 0 rfl) ?_
  refine lv_iload hx hcb d_L_614 (lv_at hl 4 rfl) ?_
  refine lv_iconst (v := (1 : Int32)) hx hcb d_L_616 (by decide) ?_
  refine lv_iadd hx hcb d_L_617 ?_
  refine va_sld hx hcb hX hsb hsA hS hi.2.1 d_L_618 ?_
  refine pv_lH C hV hS (As := [.ref (a 0), .int (xs (i + 1).toNatClampNeg)]) (rest := []) (c_H_run hfl C.2.2.2.x C.2.2.2.bx h1 h2) csw_113 ⟨rfl, rfl, Nat.le_of_ble_eq_true rfl, Nat.le_of_ble_eq_true rfl⟩ rfl hl.1 rfl (Nat.le_of_ble_eq_true rfl) d_L_619 hcs (fun H locs hV hS => ?_)
  refine lv_istore hx hcb d_L_622 hl (by decide) rfl (fun ls hl => ?_)
  refine lv_aload_n hx hcb d_L_624 rfl (lv_at hl 3 rfl) ?_
  refine lv_aload_n hx hcb d_L_625 rfl (lv_at hl 1 rfl) ?_
  refine lv_iload hx hcb d_L_626 (lv_at hl 5 rfl) ?_
  refine lv_iconst (v := (1 : Int32)) hx hcb d_L_628 (by decide) ?_
  refine lv_iadd hx hcb d_L_629 ?_
  refine va_sld hx hcb hX hsb hsA hS hi.2.1 d_L_630 ?_
  refine pv_lMv C hV hS (As := [.int (xs (i + 1).toNatClampNeg)]) (rest := []) (c_Md_run C.2.2.2.m pv_mvM h3) cv_Lw_115 ⟨rfl, rfl, Nat.le_of_ble_eq_true rfl, Nat.le_of_ble_eq_true rfl⟩ rfl hl.1 rfl (Nat.le_of_ble_eq_true rfl) d_L_631 ⟨hcs.1, hcs.2⟩ (fun H locs hV hS => ?_)
  refine lv_aload_n hx hcb d_L_634 rfl (lv_at hl 3 rfl) ?_
  refine pv_lMi C hV hS (As := []) (rest := []) (c_Md_thrown C.2.2.2.m pv_mvM h4) cv_Lw_88 ⟨rfl, rfl, Nat.le_of_ble_eq_true rfl, Nat.le_of_ble_eq_true rfl⟩ rfl hl.1 rfl (Nat.le_of_ble_eq_true rfl) d_L_635 ⟨hcs.1, hcs.2⟩ (fun H locs hV hS => ?_)
  refine lv_iload hx hcb d_L_638 (lv_at hl 0 rfl) ?_
  refine lv_icmp_eq (tgt := 645) hx hcb d_L_640 (by decide) (fun _ => ?_) (fun h => absurd h5 h)
  refine lv_goto (tgt := 783) hx hcb d_L_645 (by decide) ?_
  exact kN _ _ _ _ _ _ hV hS (lv_sub hl [1, 2, 3, 4, 5] rfl) h7
set_option maxHeartbeats 4000000 in
theorem k_out {p : Program} {l : Launch} {e : Env} {s : State} {m : MethodId} {args : Array Value} {below : List Frame} {meth : Method} {c : Code} {H : Heap} {locs : List Loc} {cells slots : Nat} {Q : State → Prop} {D : va_G} {q : Nat → ClassId} {a a' t : Nat → Nat} {b sb L : Nat} {xs : Nat → Int32} {σx σm : pv_S} {f : Nat → Int64} {ls : Array Slot} {i : Int32} {R1 : pv_S → pv_S → Prop} (hfl : l.flags = Jvm.pinnedFlags ++ [Jvm.noTraceFlag]) (C : pv_LC p s m args c D q a a' b t) (hX : va_X sb L xs s s.heap) (hsb : sb < s.heap.size) (hi : pv_i4 i L) (hcs : cells + 1 ≤ room_1.cells ∧ slots + 6 ≤ room_1.slots) (hV : pv_V D q a a' b σx σm f H) (hS : va_S (pv_A0 s) s.heap H locs) (hl : lv_has ls 7 (pv_ls sb a a' b i)) (hsim : ∀ x1 : Int32, sim_h R1 [0] cod_out (f_PV_out σx x1) (f_Md_out σm x1)) (kN : pv_kN p l e s m args below meth c cells slots Q D q a a' b sb i R1) : W p l e room_1 s m args below meth c H locs cells slots Q (F0 m 648 ls []) := by
  have hx := C.1.1
  have hcb := C.1.2.1
  have hsA : ¬ pv_A0 s sb := Nat.not_le.mpr hsb
  obtain ⟨ox, om, th, h1, h2, h3, h4, h5, h6, h7⟩ := hsim (xs (i + 1).toNatClampNeg)
  refine lv_aload_n hx hcb d_L_648 rfl (lv_at hl 1 rfl) ?_
  refine lv_aload_n hx hcb d_L_649 rfl (lv_at hl 0 rfl) ?_
  refine lv_iload hx hcb d_L_650 (lv_at hl 4 rfl) ?_
  refine lv_iconst (v := (1 : Int32)) hx hcb d_L_652 (by decide) ?_
  refine lv_iadd hx hcb d_L_653 ?_
  refine va_sld hx hcb hX hsb hsA hS hi.2.1 d_L_654 ?_
  refine lv_aload_n hx hcb d_L_655 rfl (lv_at hl 3 rfl) ?_
  refine pv_lH C hV hS (As := [.ref (a 0), .int (xs (i + 1).toNatClampNeg), .ref b]) (rest := []) (c_H_out hfl C.2.2.2.x C.2.2.2.bx h1 h2) csw_116 ⟨rfl, rfl, Nat.le_of_ble_eq_true rfl, Nat.le_of_ble_eq_true rfl⟩ rfl hl.1 rfl (Nat.le_of_ble_eq_true rfl) d_L_656 hcs (fun H locs hV hS => ?_)
  refine lv_istore hx hcb d_L_659 hl (by decide) rfl (fun ls hl => ?_)
  refine lv_aload_n hx hcb d_L_661 rfl (lv_at hl 3 rfl) ?_
  refine lv_aload_n hx hcb d_L_662 rfl (lv_at hl 1 rfl) ?_
  refine lv_iload hx hcb d_L_663 (lv_at hl 5 rfl) ?_
  refine lv_iconst (v := (1 : Int32)) hx hcb d_L_665 (by decide) ?_
  refine lv_iadd hx hcb d_L_666 ?_
  refine va_sld hx hcb hX hsb hsA hS hi.2.1 d_L_667 ?_
  refine pv_lMi C hV hS (As := [.int (xs (i + 1).toNatClampNeg)]) (rest := []) (c_Md_out C.2.2.2.m pv_mvM h3) cv_Lw_118 ⟨rfl, rfl, Nat.le_of_ble_eq_true rfl, Nat.le_of_ble_eq_true rfl⟩ rfl hl.1 rfl (Nat.le_of_ble_eq_true rfl) d_L_668 ⟨hcs.1, hcs.2⟩ (fun H locs hV hS => ?_)
  refine lv_istore hx hcb d_L_671 hl (by decide) rfl (fun ls hl => ?_)
  refine lv_aload_n hx hcb d_L_673 rfl (lv_at hl 4 rfl) ?_
  refine pv_lMi C hV hS (As := []) (rest := []) (c_Md_thrown C.2.2.2.m pv_mvM h4) cv_Lw_88 ⟨rfl, rfl, Nat.le_of_ble_eq_true rfl, Nat.le_of_ble_eq_true rfl⟩ rfl hl.1 rfl (Nat.le_of_ble_eq_true rfl) d_L_674 ⟨hcs.1, hcs.2⟩ (fun H locs hV hS => ?_)
  refine lv_iload hx hcb d_L_677 (lv_at hl 1 rfl) ?_
  refine lv_icmp_eq (tgt := 684) hx hcb d_L_679 (by decide) (fun _ => ?_) (fun h => absurd h5 h)
  refine lv_iload hx hcb d_L_684 (lv_at hl 1 rfl) ?_
  refine lv_if_ne (tgt := 701) hx hcb d_L_686 (by decide) (fun _ => ?_) (fun h0 => ?_)
  · refine lv_goto (tgt := 783) hx hcb d_L_701 (by decide) ?_
    exact kN _ _ _ _ _ _ hV hS (lv_sub hl [2, 3, 4, 5, 6] rfl) h7
  · have hfx : pv_fx (fun x => x.toInt64) f ox 0 = (fun x => x.toInt64) om.1 := pv_fx0 (fun k => by unfold cod_out; first | decide | (split <;> decide)) h0 h6
    refine lv_aload_n hx hcb d_L_689 rfl (lv_at hl 5 rfl) ?_
    refine lv_iconst (v := (0 : Int32)) hx hcb d_L_690 (by decide) ?_
    refine pv_laldO hx hcb C.2.1 hV.2.2 (t0 := 3) rfl d_L_691 ?_
    rw [hfx]
    refine lv_iload hx hcb d_L_692 (lv_at hl 0 rfl) ?_
    refine lv_i2l hx hcb d_L_694 rfl ?_
    refine W.lcmp hx hcb d_L_695 ?_
    refine lv_if_eq (tgt := 701) hx hcb d_L_696 (by decide) (fun _ => ?_) (fun h => absurd (pv_lc0 _) h)
    refine lv_goto (tgt := 783) hx hcb d_L_701 (by decide) ?_
    exact kN _ _ _ _ _ _ hV hS (lv_sub hl [2, 3, 4, 5, 6] rfl) h7
set_option maxHeartbeats 4000000 in
theorem k_tap {p : Program} {l : Launch} {e : Env} {s : State} {m : MethodId} {args : Array Value} {below : List Frame} {meth : Method} {c : Code} {H : Heap} {locs : List Loc} {cells slots : Nat} {Q : State → Prop} {D : va_G} {q : Nat → ClassId} {a a' t : Nat → Nat} {b sb L : Nat} {xs : Nat → Int32} {σx σm : pv_S} {f : Nat → Int64} {ls : Array Slot} {i : Int32} {R1 : pv_S → pv_S → Prop} (hfl : l.flags = Jvm.pinnedFlags ++ [Jvm.noTraceFlag]) (C : pv_LC p s m args c D q a a' b t) (hX : va_X sb L xs s s.heap) (hsb : sb < s.heap.size) (hi : pv_i4 i L) (hcs : cells + 1 ≤ room_1.cells ∧ slots + 6 ≤ room_1.slots) (hV : pv_V D q a a' b σx σm f H) (hS : va_S (pv_A0 s) s.heap H locs) (hl : lv_has ls 7 (pv_ls sb a a' b i)) (hsim : ∀ x1 x2 : Int32, sim_h R1 [0, 3] cod_tap (f_PV_tap σx x1 x2) (f_Md_tap σm x1 x2)) (kN : pv_kN p l e s m args below meth c cells slots Q D q a a' b sb i R1) : W p l e room_1 s m args below meth c H locs cells slots Q (F0 m 704 ls []) := by
  have hx := C.1.1
  have hcb := C.1.2.1
  have hsA : ¬ pv_A0 s sb := Nat.not_le.mpr hsb
  obtain ⟨ox, om, th, h1, h2, h3, h4, h5, h6, h7⟩ := hsim (xs (i + 1).toNatClampNeg) (xs (i + 2).toNatClampNeg)
  refine lv_aload_n hx hcb d_L_704 rfl (lv_at hl 1 rfl) ?_
  refine lv_aload_n hx hcb d_L_705 rfl (lv_at hl 0 rfl) ?_
  refine lv_iload hx hcb d_L_706 (lv_at hl 4 rfl) ?_
  refine lv_iconst (v := (1 : Int32)) hx hcb d_L_708 (by decide) ?_
  refine lv_iadd hx hcb d_L_709 ?_
  refine va_sld hx hcb hX hsb hsA hS hi.2.1 d_L_710 ?_
  refine lv_aload_n hx hcb d_L_711 rfl (lv_at hl 0 rfl) ?_
  refine lv_iload hx hcb d_L_712 (lv_at hl 4 rfl) ?_
  refine lv_iconst (v := (2 : Int32)) hx hcb d_L_714 (by decide) ?_
  refine lv_iadd hx hcb d_L_715 ?_
  refine va_sld hx hcb hX hsb hsA hS hi.2.2.1 d_L_716 ?_
  refine lv_aload_n hx hcb d_L_717 rfl (lv_at hl 3 rfl) ?_
  refine pv_lH C hV hS (As := [.ref (a 0), .int (xs (i + 1).toNatClampNeg), .int (xs (i + 2).toNatClampNeg), .ref b]) (rest := []) (c_H_tap hfl C.2.2.2.x C.2.2.2.bx h1 h2) csw_119 ⟨rfl, rfl, Nat.le_of_ble_eq_true rfl, Nat.le_of_ble_eq_true rfl⟩ rfl hl.1 rfl (Nat.le_of_ble_eq_true rfl) d_L_718 hcs (fun H locs hV hS => ?_)
  refine lv_istore hx hcb d_L_721 hl (by decide) rfl (fun ls hl => ?_)
  refine lv_aload_n hx hcb d_L_723 rfl (lv_at hl 3 rfl) ?_
  refine lv_aload_n hx hcb d_L_724 rfl (lv_at hl 1 rfl) ?_
  refine lv_iload hx hcb d_L_725 (lv_at hl 5 rfl) ?_
  refine lv_iconst (v := (1 : Int32)) hx hcb d_L_727 (by decide) ?_
  refine lv_iadd hx hcb d_L_728 ?_
  refine va_sld hx hcb hX hsb hsA hS hi.2.1 d_L_729 ?_
  refine lv_aload_n hx hcb d_L_730 rfl (lv_at hl 1 rfl) ?_
  refine lv_iload hx hcb d_L_731 (lv_at hl 5 rfl) ?_
  refine lv_iconst (v := (2 : Int32)) hx hcb d_L_733 (by decide) ?_
  refine lv_iadd hx hcb d_L_734 ?_
  refine va_sld hx hcb hX hsb hsA hS hi.2.2.1 d_L_735 ?_
  refine pv_lMi C hV hS (As := [.int (xs (i + 1).toNatClampNeg), .int (xs (i + 2).toNatClampNeg)]) (rest := []) (c_Md_tap C.2.2.2.m pv_mvM h3) cv_Lw_121 ⟨rfl, rfl, Nat.le_of_ble_eq_true rfl, Nat.le_of_ble_eq_true rfl⟩ rfl hl.1 rfl (Nat.le_of_ble_eq_true rfl) d_L_736 ⟨hcs.1, hcs.2⟩ (fun H locs hV hS => ?_)
  refine lv_istore hx hcb d_L_739 hl (by decide) rfl (fun ls hl => ?_)
  refine lv_aload_n hx hcb d_L_741 rfl (lv_at hl 4 rfl) ?_
  refine pv_lMi C hV hS (As := []) (rest := []) (c_Md_thrown C.2.2.2.m pv_mvM h4) cv_Lw_88 ⟨rfl, rfl, Nat.le_of_ble_eq_true rfl, Nat.le_of_ble_eq_true rfl⟩ rfl hl.1 rfl (Nat.le_of_ble_eq_true rfl) d_L_742 ⟨hcs.1, hcs.2⟩ (fun H locs hV hS => ?_)
  refine lv_iload hx hcb d_L_745 (lv_at hl 1 rfl) ?_
  refine lv_icmp_eq (tgt := 752) hx hcb d_L_747 (by decide) (fun _ => ?_) (fun h => absurd h5 h)
  refine lv_iload hx hcb d_L_752 (lv_at hl 1 rfl) ?_
  refine lv_if_ne (tgt := 769) hx hcb d_L_754 (by decide) (fun _ => ?_) (fun h0 => ?_)
  · refine lv_goto (tgt := 783) hx hcb d_L_769 (by decide) ?_
    exact kN _ _ _ _ _ _ hV hS (lv_sub hl [2, 3, 4, 5, 6] rfl) h7
  · have hfx : pv_fx (fun x => x.toInt64) f ox 0 = (fun x => x.toInt64) om.1 := pv_fx0 (fun k => by unfold cod_tap; first | decide | (split <;> decide)) h0 h6
    refine lv_aload_n hx hcb d_L_757 rfl (lv_at hl 5 rfl) ?_
    refine lv_iconst (v := (0 : Int32)) hx hcb d_L_758 (by decide) ?_
    refine pv_laldO hx hcb C.2.1 hV.2.2 (t0 := 3) rfl d_L_759 ?_
    rw [hfx]
    refine lv_iload hx hcb d_L_760 (lv_at hl 0 rfl) ?_
    refine lv_i2l hx hcb d_L_762 rfl ?_
    refine W.lcmp hx hcb d_L_763 ?_
    refine lv_if_eq (tgt := 769) hx hcb d_L_764 (by decide) (fun _ => ?_) (fun h => absurd (pv_lc0 _) h)
    refine lv_goto (tgt := 783) hx hcb d_L_769 (by decide) ?_
    exact kN _ _ _ _ _ _ hV hS (lv_sub hl [2, 3, 4, 5, 6] rfl) h7
set_option maxHeartbeats 4000000 in
theorem k_reset {p : Program} {l : Launch} {e : Env} {s : State} {m : MethodId} {args : Array Value} {below : List Frame} {meth : Method} {c : Code} {H : Heap} {locs : List Loc} {cells slots : Nat} {Q : State → Prop} {D : va_G} {q : Nat → ClassId} {a a' t : Nat → Nat} {b sb L : Nat} {xs : Nat → Int32} {σx σm : pv_S} {f : Nat → Int64} {ls : Array Slot} {i : Int32} {R1 : pv_S → pv_S → Prop} (hfl : l.flags = Jvm.pinnedFlags ++ [Jvm.noTraceFlag]) (C : pv_LC p s m args c D q a a' b t) (hX : va_X sb L xs s s.heap) (hsb : sb < s.heap.size) (hi : pv_i4 i L) (hcs : cells + 1 ≤ room_1.cells ∧ slots + 6 ≤ room_1.slots) (hV : pv_V D q a a' b σx σm f H) (hS : va_S (pv_A0 s) s.heap H locs) (hl : lv_has ls 7 (pv_ls sb a a' b i)) (hsim : sim_v R1 (f_PV_reset σx) (f_Md_reset σm)) (kN : pv_kN p l e s m args below meth c cells slots Q D q a a' b sb i R1) : W p l e room_1 s m args below meth c H locs cells slots Q (F0 m 772 ls []) := by
  have hx := C.1.1
  have hcb := C.1.2.1
  have hsA : ¬ pv_A0 s sb := Nat.not_le.mpr hsb
  obtain ⟨ox, om, h1, h2, h4⟩ := hsim
  refine lv_aload_n hx hcb d_L_772 rfl (lv_at hl 1 rfl) ?_
  refine pv_lXv C hV hS (As := []) (rest := []) (c_PV_reset C.2.2.2.x pv_mvX h1) cv_Lw_122 ⟨rfl, rfl, Nat.le_of_ble_eq_true rfl, Nat.le_of_ble_eq_true rfl⟩ rfl hl.1 rfl (Nat.le_of_ble_eq_true rfl) d_L_773 ⟨Nat.le_of_succ_le hcs.1, Nat.le_trans (Nat.le_add_right _ 6) hcs.2⟩ (fun H locs hV hS => ?_)
  refine lv_aload_n hx hcb d_L_776 rfl (lv_at hl 2 rfl) ?_
  refine pv_lMv C hV hS (As := []) (rest := []) (c_Md_reset C.2.2.2.m pv_mvM h2) cv_Lw_125 ⟨rfl, rfl, Nat.le_of_ble_eq_true rfl, Nat.le_of_ble_eq_true rfl⟩ rfl hl.1 rfl (Nat.le_of_ble_eq_true rfl) d_L_777 ⟨Nat.le_of_succ_le hcs.1, Nat.le_trans (Nat.le_add_right _ 6) hcs.2⟩ (fun H locs hV hS => ?_)
  refine W.widen (Nat.le_add_right _ 1) (Nat.le_add_right _ 6) ?_
  refine lv_goto (tgt := 783) hx hcb d_L_780 (by decide) ?_
  exact kN _ _ _ _ _ _ hV hS hl h4
