theorem w_752 : Cond.classLink "PatchVoicesLaw" 13 "java/lang/IndexOutOfBoundsException" ∈ pv_TB := pv_mem (i := 752) (by decide +kernel) (by decide +kernel)
theorem w_753 : Cond.classLink "PatchVoicesLaw" 15 "java/lang/IllegalArgumentException" ∈ pv_TB := pv_mem (i := 753) (by decide +kernel) (by decide +kernel)
theorem w_894 : Cond.classLink "PatchVoicesLaw" 27 "java/lang/IllegalStateException" ∈ pv_TB := pv_mem (i := 894) (by decide +kernel) (by decide +kernel)
theorem w_1038 : Cond.classLink "PatchVoicesLaw" 47 "java/util/NoSuchElementException" ∈ pv_TB := pv_mem (i := 1038) (by decide +kernel) (by decide +kernel)
theorem w_754 : Cond.methodLink "PatchVoicesLaw" 7 ⟨"PatchVoices", "step", "(II)I"⟩ ∈ pv_TB := pv_mem (i := 754) (by decide +kernel) (by decide +kernel)
theorem w_755 : Cond.instanceMethod ⟨"PatchVoices", "step", "(II)I"⟩ ∈ pv_TB := pv_mem (i := 755) (by decide +kernel) (by decide +kernel)
theorem w_756 : Cond.selects "PatchVoices" ⟨"PatchVoices", "step", "(II)I"⟩ ⟨"PatchVoices", "step", "(II)I"⟩ ∈ pv_TB := pv_mem (i := 756) (by decide +kernel) (by decide +kernel)
theorem w_757 : Cond.code ⟨"PatchVoices", "step", "(II)I"⟩ prog_1_method_9_code 3 (Option.some .int) ∈ pv_TB := pv_mem (i := 757) (by decide +kernel) (by decide +kernel)
theorem cv_Lw_7 : pv_CV pv_TB "PatchVoicesLaw" "PatchVoices" 7 y_PV_step prog_1_method_9_code 3 (some .int) 2 := ⟨⟨rfl, by decide +kernel, by decide +kernel, by decide +kernel⟩, w_754, w_755, w_756, w_109, w_757⟩
abbrev y_H_step : MethodName := ⟨"PatchVoicesLaw", "step", "(LPatchVoices;II[J)I"⟩
theorem w_857 : Cond.methodLink "PatchVoicesLaw" 17 ⟨"PatchVoices", "voices", "(I)V"⟩ ∈ pv_TB := pv_mem (i := 857) (by decide +kernel) (by decide +kernel)
theorem w_858 : Cond.instanceMethod ⟨"PatchVoices", "voices", "(I)V"⟩ ∈ pv_TB := pv_mem (i := 858) (by decide +kernel) (by decide +kernel)
theorem w_859 : Cond.selects "PatchVoices" ⟨"PatchVoices", "voices", "(I)V"⟩ ⟨"PatchVoices", "voices", "(I)V"⟩ ∈ pv_TB := pv_mem (i := 859) (by decide +kernel) (by decide +kernel)
theorem w_860 : Cond.code ⟨"PatchVoices", "voices", "(I)V"⟩ prog_1_method_11_code 2 (Option.none : Option Jvm.ClassFile.FieldType) ∈ pv_TB := pv_mem (i := 860) (by decide +kernel) (by decide +kernel)
theorem cv_Lw_17 : pv_CV pv_TB "PatchVoicesLaw" "PatchVoices" 17 y_PV_voices prog_1_method_11_code 2 none 1 := ⟨⟨rfl, by decide +kernel, by decide +kernel, by decide +kernel⟩, w_857, w_858, w_859, w_109, w_860⟩
abbrev y_H_voices : MethodName := ⟨"PatchVoicesLaw", "voices", "(LPatchVoices;I)I"⟩
theorem w_865 : Cond.methodLink "PatchVoicesLaw" 21 ⟨"PatchVoices", "note", "(II)I"⟩ ∈ pv_TB := pv_mem (i := 865) (by decide +kernel) (by decide +kernel)
theorem w_866 : Cond.instanceMethod ⟨"PatchVoices", "note", "(II)I"⟩ ∈ pv_TB := pv_mem (i := 866) (by decide +kernel) (by decide +kernel)
theorem w_867 : Cond.selects "PatchVoices" ⟨"PatchVoices", "note", "(II)I"⟩ ⟨"PatchVoices", "note", "(II)I"⟩ ∈ pv_TB := pv_mem (i := 867) (by decide +kernel) (by decide +kernel)
theorem w_868 : Cond.code ⟨"PatchVoices", "note", "(II)I"⟩ prog_1_method_12_code 4 (Option.some .int) ∈ pv_TB := pv_mem (i := 868) (by decide +kernel) (by decide +kernel)
theorem cv_Lw_21 : pv_CV pv_TB "PatchVoicesLaw" "PatchVoices" 21 y_PV_note prog_1_method_12_code 4 (some .int) 2 := ⟨⟨rfl, by decide +kernel, by decide +kernel, by decide +kernel⟩, w_865, w_866, w_867, w_109, w_868⟩
abbrev y_H_note : MethodName := ⟨"PatchVoicesLaw", "note", "(LPatchVoices;II[J)I"⟩
theorem w_895 : Cond.methodLink "PatchVoicesLaw" 24 ⟨"PatchVoices", "off", "(I)V"⟩ ∈ pv_TB := pv_mem (i := 895) (by decide +kernel) (by decide +kernel)
theorem w_896 : Cond.instanceMethod ⟨"PatchVoices", "off", "(I)V"⟩ ∈ pv_TB := pv_mem (i := 896) (by decide +kernel) (by decide +kernel)
theorem w_897 : Cond.selects "PatchVoices" ⟨"PatchVoices", "off", "(I)V"⟩ ⟨"PatchVoices", "off", "(I)V"⟩ ∈ pv_TB := pv_mem (i := 897) (by decide +kernel) (by decide +kernel)
theorem w_898 : Cond.code ⟨"PatchVoices", "off", "(I)V"⟩ prog_1_method_16_code 2 (Option.none : Option Jvm.ClassFile.FieldType) ∈ pv_TB := pv_mem (i := 898) (by decide +kernel) (by decide +kernel)
theorem cv_Lw_24 : pv_CV pv_TB "PatchVoicesLaw" "PatchVoices" 24 y_PV_off prog_1_method_16_code 2 none 1 := ⟨⟨rfl, by decide +kernel, by decide +kernel, by decide +kernel⟩, w_895, w_896, w_897, w_109, w_898⟩
abbrev y_H_off : MethodName := ⟨"PatchVoicesLaw", "off", "(LPatchVoices;I)I"⟩
theorem w_923 : Cond.methodLink "PatchVoicesLaw" 29 ⟨"PatchVoices", "active", "(I)Z"⟩ ∈ pv_TB := pv_mem (i := 923) (by decide +kernel) (by decide +kernel)
theorem w_924 : Cond.instanceMethod ⟨"PatchVoices", "active", "(I)Z"⟩ ∈ pv_TB := pv_mem (i := 924) (by decide +kernel) (by decide +kernel)
theorem w_925 : Cond.selects "PatchVoices" ⟨"PatchVoices", "active", "(I)Z"⟩ ⟨"PatchVoices", "active", "(I)Z"⟩ ∈ pv_TB := pv_mem (i := 925) (by decide +kernel) (by decide +kernel)
theorem w_926 : Cond.code ⟨"PatchVoices", "active", "(I)Z"⟩ prog_1_method_17_code 2 (Option.some .boolean) ∈ pv_TB := pv_mem (i := 926) (by decide +kernel) (by decide +kernel)
theorem cv_Lw_29 : pv_CV pv_TB "PatchVoicesLaw" "PatchVoices" 29 y_PV_active prog_1_method_17_code 2 (some .boolean) 1 := ⟨⟨rfl, by decide +kernel, by decide +kernel, by decide +kernel⟩, w_923, w_924, w_925, w_109, w_926⟩
abbrev y_H_active : MethodName := ⟨"PatchVoicesLaw", "active", "(LPatchVoices;I[J)I"⟩
theorem w_930 : Cond.methodLink "PatchVoicesLaw" 33 ⟨"PatchVoices", "knob", "(II)V"⟩ ∈ pv_TB := pv_mem (i := 930) (by decide +kernel) (by decide +kernel)
theorem w_931 : Cond.instanceMethod ⟨"PatchVoices", "knob", "(II)V"⟩ ∈ pv_TB := pv_mem (i := 931) (by decide +kernel) (by decide +kernel)
theorem w_932 : Cond.selects "PatchVoices" ⟨"PatchVoices", "knob", "(II)V"⟩ ⟨"PatchVoices", "knob", "(II)V"⟩ ∈ pv_TB := pv_mem (i := 932) (by decide +kernel) (by decide +kernel)
theorem w_933 : Cond.code ⟨"PatchVoices", "knob", "(II)V"⟩ prog_1_method_19_code 3 (Option.none : Option Jvm.ClassFile.FieldType) ∈ pv_TB := pv_mem (i := 933) (by decide +kernel) (by decide +kernel)
theorem cv_Lw_33 : pv_CV pv_TB "PatchVoicesLaw" "PatchVoices" 33 y_PV_knob prog_1_method_19_code 3 none 2 := ⟨⟨rfl, by decide +kernel, by decide +kernel, by decide +kernel⟩, w_930, w_931, w_932, w_109, w_933⟩
abbrev y_H_knob : MethodName := ⟨"PatchVoicesLaw", "knob", "(LPatchVoices;II)I"⟩
theorem w_938 : Cond.methodLink "PatchVoicesLaw" 37 ⟨"PatchVoices", "run", "(I)V"⟩ ∈ pv_TB := pv_mem (i := 938) (by decide +kernel) (by decide +kernel)
theorem w_939 : Cond.instanceMethod ⟨"PatchVoices", "run", "(I)V"⟩ ∈ pv_TB := pv_mem (i := 939) (by decide +kernel) (by decide +kernel)
theorem w_940 : Cond.selects "PatchVoices" ⟨"PatchVoices", "run", "(I)V"⟩ ⟨"PatchVoices", "run", "(I)V"⟩ ∈ pv_TB := pv_mem (i := 940) (by decide +kernel) (by decide +kernel)
theorem w_941 : Cond.code ⟨"PatchVoices", "run", "(I)V"⟩ prog_1_method_20_code 3 (Option.none : Option Jvm.ClassFile.FieldType) ∈ pv_TB := pv_mem (i := 941) (by decide +kernel) (by decide +kernel)
theorem cv_Lw_37 : pv_CV pv_TB "PatchVoicesLaw" "PatchVoices" 37 y_PV_run prog_1_method_20_code 3 none 1 := ⟨⟨rfl, by decide +kernel, by decide +kernel, by decide +kernel⟩, w_938, w_939, w_940, w_109, w_941⟩
abbrev y_H_run : MethodName := ⟨"PatchVoicesLaw", "run", "(LPatchVoices;I)I"⟩
theorem w_1030 : Cond.methodLink "PatchVoicesLaw" 40 ⟨"PatchVoices", "out", "(I)I"⟩ ∈ pv_TB := pv_mem (i := 1030) (by decide +kernel) (by decide +kernel)
theorem w_1031 : Cond.instanceMethod ⟨"PatchVoices", "out", "(I)I"⟩ ∈ pv_TB := pv_mem (i := 1031) (by decide +kernel) (by decide +kernel)
theorem w_1032 : Cond.selects "PatchVoices" ⟨"PatchVoices", "out", "(I)I"⟩ ⟨"PatchVoices", "out", "(I)I"⟩ ∈ pv_TB := pv_mem (i := 1032) (by decide +kernel) (by decide +kernel)
theorem w_1033 : Cond.code ⟨"PatchVoices", "out", "(I)I"⟩ prog_1_method_22_code 2 (Option.some .int) ∈ pv_TB := pv_mem (i := 1033) (by decide +kernel) (by decide +kernel)
theorem cv_Lw_40 : pv_CV pv_TB "PatchVoicesLaw" "PatchVoices" 40 y_PV_out prog_1_method_22_code 2 (some .int) 1 := ⟨⟨rfl, by decide +kernel, by decide +kernel, by decide +kernel⟩, w_1030, w_1031, w_1032, w_109, w_1033⟩
abbrev y_H_out : MethodName := ⟨"PatchVoicesLaw", "out", "(LPatchVoices;I[J)I"⟩
theorem w_1039 : Cond.methodLink "PatchVoicesLaw" 44 ⟨"PatchVoices", "tap", "(II)I"⟩ ∈ pv_TB := pv_mem (i := 1039) (by decide +kernel) (by decide +kernel)
theorem w_1040 : Cond.instanceMethod ⟨"PatchVoices", "tap", "(II)I"⟩ ∈ pv_TB := pv_mem (i := 1040) (by decide +kernel) (by decide +kernel)
theorem w_1041 : Cond.selects "PatchVoices" ⟨"PatchVoices", "tap", "(II)I"⟩ ⟨"PatchVoices", "tap", "(II)I"⟩ ∈ pv_TB := pv_mem (i := 1041) (by decide +kernel) (by decide +kernel)
theorem w_1042 : Cond.code ⟨"PatchVoices", "tap", "(II)I"⟩ prog_1_method_23_code 3 (Option.some .int) ∈ pv_TB := pv_mem (i := 1042) (by decide +kernel) (by decide +kernel)
theorem cv_Lw_44 : pv_CV pv_TB "PatchVoicesLaw" "PatchVoices" 44 y_PV_tap prog_1_method_23_code 3 (some .int) 2 := ⟨⟨rfl, by decide +kernel, by decide +kernel, by decide +kernel⟩, w_1039, w_1040, w_1041, w_109, w_1042⟩
abbrev y_H_tap : MethodName := ⟨"PatchVoicesLaw", "tap", "(LPatchVoices;II[J)I"⟩
theorem hlk_law : ∀ j, j < 4 → Cond.classLink "PatchVoicesLaw" (pv_ct j) (pv_xn j) ∈ pv_TB
  | 0, _ => w_752
  | 1, _ => w_753
  | 2, _ => w_894
  | 3, _ => w_1038
  | n + 4, h => absurd h (by omega)
def pv_cz (x : Int32) : Int64 := if x = 0 then 0 else 1
theorem d_H_step_0 : decode method_3_code 0 = .ok (.aload_n 3, 1) := by decide +kernel
theorem d_H_step_1 : decode method_3_code 1 = .ok (.iconst 0, 1) := by decide +kernel
theorem d_H_step_2 : decode method_3_code 2 = .ok (.aload_n 0, 1) := by decide +kernel
theorem d_H_step_3 : decode method_3_code 3 = .ok (.iload_n 1, 1) := by decide +kernel
theorem d_H_step_4 : decode method_3_code 4 = .ok (.iload_n 2, 1) := by decide +kernel
theorem d_H_step_5 : decode method_3_code 5 = .ok (.invokevirtual 7, 3) := by decide +kernel
theorem d_H_step_8 : decode method_3_code 8 = .ok (.i2l, 1) := by decide +kernel
theorem d_H_step_9 : decode method_3_code 9 = .ok (.lastore, 1) := by decide +kernel
theorem d_H_step_10 : decode method_3_code 10 = .ok (.goto 11, 3) := by decide +kernel
theorem d_H_step_13 : decode method_3_code 13 = .ok (.astore 4, 2) := by decide +kernel
theorem d_H_step_15 : decode method_3_code 15 = .ok (.iconst 1, 1) := by decide +kernel
theorem d_H_step_16 : decode method_3_code 16 = .ok (.ireturn, 1) := by decide +kernel
theorem d_H_step_17 : decode method_3_code 17 = .ok (.astore 4, 2) := by decide +kernel
theorem d_H_step_19 : decode method_3_code 19 = .ok (.iconst 2, 1) := by decide +kernel
theorem d_H_step_20 : decode method_3_code 20 = .ok (.ireturn, 1) := by decide +kernel
theorem d_H_step_21 : decode method_3_code 21 = .ok (.iconst 0, 1) := by decide +kernel
theorem d_H_step_22 : decode method_3_code 22 = .ok (.ireturn, 1) := by decide +kernel
abbrev hh_step : List (Nat × Nat × Nat × Nat) := [(0, 10, 13, 13), (0, 10, 17, 15)]
def cod_step : Nat → Int32
  | 0 => 1
  | _ => 2
def rm_H_step : Room := { frames := 7, cells := 1, slots := 6, locals := 133 }
set_option maxHeartbeats 4000000 in
theorem c_H_step {l : Launch} (hfl : l.flags = Jvm.pinnedFlags ++ [Jvm.noTraceFlag]) {D : va_G} {q : Nat → ClassId} {a t : Nat → Nat} {A : Nat → Prop} (hD : pv_D 52 a A) {b : Nat} (hb : ¬ A b) {f : Nat → Int64} {σ : pv_S} {x1 : Int32} {x2 : Int32} {out : pv_X} (hf : f_PV_step σ x1 x2 = some out) (hok : pv_okx [0, 1] out) : pv_Mh l y_H_step (Cond.codeWith y_H_step method_3_code 5 (some .int) hh_step :: pv_TB) rm_H_step D pv_cl (pv_ty q) 52 a (pv_FX q a) A (pv_ZH t A) b (q 3) [.ref (a 0), .int x1, .int x2, .ref b] σ f (pv_rx cod_step out) (pv_sx out) (pv_fx (fun x => x.toInt64) f out) := by
  refine pv_ofH (by decide) (Nat.le_of_ble_eq_true rfl) (fun p e s m args below meth c Q ls S hhh hK hZ hret hl hP hO => ?_)
  have hx := S.1
  have hcb := S.2.1
  have C : pv_C p s m args c method_3_code 5 "PatchVoicesLaw" pv_TB D pv_cl (pv_ty q) 52 a A (pv_ZY t A) := ⟨S.1, S.2.1, S.2.2.1, S.2.2.2.1, S.2.2.2.2, hK, hD, hZ.1⟩
  refine lv_aload_n hx hcb d_H_step_0 rfl (lv_at hl 3 rfl) ?_
  refine lv_iconst (v := (0 : Int32)) hx hcb d_H_step_1 (by decide) ?_
  refine lv_aload_n hx hcb d_H_step_2 rfl (lv_at hl 0 rfl) ?_
  refine lv_iload_n hx hcb d_H_step_3 rfl (lv_at hl 1 rfl) ?_
  refine lv_iload_n hx hcb d_H_step_4 rfl (lv_at hl 2 rfl) ?_
  refine pv_callH C pv_mvY pv_good hhh hlk_law hZ.2 hP hO hb (As := [.int x1, .int x2]) (rest := [.int 0, .ref b]) (by decide) (fx_0 _ _ _ _) rfl (c_PV_step hfl hD hf) cv_Lw_7 ⟨rfl, rfl, ⟨Nat.le_of_ble_eq_true rfl, Nat.le_of_ble_eq_true rfl⟩, Nat.le_of_ble_eq_true rfl, Nat.le_of_ble_eq_true rfl⟩ rfl hl.1 rfl (Nat.le_of_ble_eq_true rfl) d_H_step_5 (fun k σ' ho => ?_) (fun r σ' ho H L hP hO hS => ?_)
  · subst ho
    have hk : k ∈ [0, 1] := hok
    simp only [List.mem_cons, List.not_mem_nil, or_false] at hk
    rcases hk with rfl | rfl
    · refine ⟨13, ⟨[], [(0, 10, 17, 15)], 0, 10, rfl, by decide, by decide, by decide, fun z hz => absurd hz List.not_mem_nil⟩, fun H x hP hO hS => ?_⟩
      refine lv_astore hx hcb d_H_step_13 hl (by decide) rfl (fun ls hl => ?_)
      refine lv_iconst (v := (1 : Int32)) hx hcb d_H_step_15 (by decide) ?_
      exact hret H [] _ ls d_H_step_16 hP hO hS
    · refine ⟨17, ⟨[(0, 10, 13, 13)], [], 0, 10, rfl, by decide, by decide, by decide, fun z hz => by rw [List.mem_singleton] at hz; subst hz; exact ⟨by decide, by decide, 0, by decide, by decide, rfl⟩⟩, fun H x hP hO hS => ?_⟩
      refine lv_astore hx hcb d_H_step_17 hl (by decide) rfl (fun ls hl => ?_)
      refine lv_iconst (v := (2 : Int32)) hx hcb d_H_step_19 (by decide) ?_
      exact hret H [] _ ls d_H_step_20 hP hO hS
  · subst ho
    refine lv_i2l hx hcb d_H_step_8 rfl ?_
    refine pv_lastO hx hcb hK hP hO hD hb hS (t0 := 3) rfl d_H_step_9 (fun H L hP hO hS => ?_)
    refine lv_goto (tgt := 21) hx hcb d_H_step_10 (by decide) ?_
    refine lv_iconst (v := (0 : Int32)) hx hcb d_H_step_21 (by decide) ?_
    exact hret H L _ ls d_H_step_22 hP hO hS
theorem d_H_voices_0 : decode method_4_code 0 = .ok (.aload_n 0, 1) := by decide +kernel
theorem d_H_voices_1 : decode method_4_code 1 = .ok (.iload_n 1, 1) := by decide +kernel
theorem d_H_voices_2 : decode method_4_code 2 = .ok (.invokevirtual 17, 3) := by decide +kernel
theorem d_H_voices_5 : decode method_4_code 5 = .ok (.goto 6, 3) := by decide +kernel
theorem d_H_voices_8 : decode method_4_code 8 = .ok (.astore_n 2, 1) := by decide +kernel
theorem d_H_voices_9 : decode method_4_code 9 = .ok (.iconst 1, 1) := by decide +kernel
theorem d_H_voices_10 : decode method_4_code 10 = .ok (.ireturn, 1) := by decide +kernel
theorem d_H_voices_11 : decode method_4_code 11 = .ok (.iconst 0, 1) := by decide +kernel
theorem d_H_voices_12 : decode method_4_code 12 = .ok (.ireturn, 1) := by decide +kernel
abbrev hh_voices : List (Nat × Nat × Nat × Nat) := [(0, 5, 8, 15)]
def cod_voices : Nat → Int32
  | _ => 1
def rm_H_voices : Room := { frames := 7, cells := 1, slots := 6, locals := 103 }
set_option maxHeartbeats 4000000 in
theorem c_H_voices {l : Launch} (hfl : l.flags = Jvm.pinnedFlags ++ [Jvm.noTraceFlag]) {D : va_G} {q : Nat → ClassId} {a t : Nat → Nat} {A : Nat → Prop} (hD : pv_D 52 a A) {b : Nat} (hb : ¬ A b) {f : Nat → Int64} {σ : pv_S} {x1 : Int32} {out : pv_X} (hf : f_PV_voices σ x1 = some out) (hok : pv_okx [1] out) : pv_Mh l y_H_voices (Cond.codeWith y_H_voices method_4_code 3 (some .int) hh_voices :: pv_TB) rm_H_voices D pv_cl (pv_ty q) 52 a (pv_FX q a) A (pv_ZH t A) b (q 3) [.ref (a 0), .int x1] σ f (pv_rx cod_voices out) (pv_sx out) f := by
  refine pv_ofH (by decide) (Nat.le_of_ble_eq_true rfl) (fun p e s m args below meth c Q ls S hhh hK hZ hret hl hP hO => ?_)
  have hx := S.1
  have hcb := S.2.1
  have C : pv_C p s m args c method_4_code 3 "PatchVoicesLaw" pv_TB D pv_cl (pv_ty q) 52 a A (pv_ZY t A) := ⟨S.1, S.2.1, S.2.2.1, S.2.2.2.1, S.2.2.2.2, hK, hD, hZ.1⟩
  refine lv_aload_n hx hcb d_H_voices_0 rfl (lv_at hl 0 rfl) ?_
  refine lv_iload_n hx hcb d_H_voices_1 rfl (lv_at hl 1 rfl) ?_
  refine pv_callH C pv_mvY pv_good hhh hlk_law hZ.2 hP hO hb (As := [.int x1]) (rest := []) (by decide) (fx_0 _ _ _ _) rfl (c_PV_voices hfl hD hf) cv_Lw_17 ⟨rfl, rfl, ⟨Nat.le_of_ble_eq_true rfl, Nat.le_of_ble_eq_true rfl⟩, Nat.le_of_ble_eq_true rfl, Nat.le_of_ble_eq_true rfl⟩ rfl hl.1 rfl (Nat.le_of_ble_eq_true rfl) d_H_voices_2 (fun k σ' ho => ?_) (fun r σ' ho H L hP hO hS => ?_)
  · subst ho
    have hk : k ∈ [1] := hok
    simp only [List.mem_cons, List.not_mem_nil, or_false] at hk
    subst hk
    refine ⟨8, ⟨[], [], 0, 5, rfl, by decide, by decide, by decide, fun z hz => absurd hz List.not_mem_nil⟩, fun H x hP hO hS => ?_⟩
    refine lv_astore_n hx hcb d_H_voices_8 rfl hl (by decide) rfl (fun ls hl => ?_)
    refine lv_iconst (v := (1 : Int32)) hx hcb d_H_voices_9 (by decide) ?_
    exact hret H [] _ ls d_H_voices_10 hP hO hS
  · subst ho
    refine lv_goto (tgt := 11) hx hcb d_H_voices_5 (by decide) ?_
    refine lv_iconst (v := (0 : Int32)) hx hcb d_H_voices_11 (by decide) ?_
    exact hret H L _ ls d_H_voices_12 hP hO hS
theorem d_H_note_0 : decode method_5_code 0 = .ok (.aload_n 3, 1) := by decide +kernel
theorem d_H_note_1 : decode method_5_code 1 = .ok (.iconst 0, 1) := by decide +kernel
theorem d_H_note_2 : decode method_5_code 2 = .ok (.aload_n 0, 1) := by decide +kernel
theorem d_H_note_3 : decode method_5_code 3 = .ok (.iload_n 1, 1) := by decide +kernel
theorem d_H_note_4 : decode method_5_code 4 = .ok (.iload_n 2, 1) := by decide +kernel
theorem d_H_note_5 : decode method_5_code 5 = .ok (.invokevirtual 21, 3) := by decide +kernel
theorem d_H_note_8 : decode method_5_code 8 = .ok (.i2l, 1) := by decide +kernel
theorem d_H_note_9 : decode method_5_code 9 = .ok (.lastore, 1) := by decide +kernel
theorem d_H_note_10 : decode method_5_code 10 = .ok (.goto 7, 3) := by decide +kernel
theorem d_H_note_13 : decode method_5_code 13 = .ok (.astore 4, 2) := by decide +kernel
theorem d_H_note_15 : decode method_5_code 15 = .ok (.iconst 1, 1) := by decide +kernel
theorem d_H_note_16 : decode method_5_code 16 = .ok (.ireturn, 1) := by decide +kernel
theorem d_H_note_17 : decode method_5_code 17 = .ok (.iconst 0, 1) := by decide +kernel
theorem d_H_note_18 : decode method_5_code 18 = .ok (.ireturn, 1) := by decide +kernel
abbrev hh_note : List (Nat × Nat × Nat × Nat) := [(0, 10, 13, 15)]
def cod_note : Nat → Int32
  | _ => 1
def rm_H_note : Room := { frames := 7, cells := 1, slots := 6, locals := 105 }
set_option maxHeartbeats 4000000 in
theorem c_H_note {l : Launch} (hfl : l.flags = Jvm.pinnedFlags ++ [Jvm.noTraceFlag]) {D : va_G} {q : Nat → ClassId} {a t : Nat → Nat} {A : Nat → Prop} (hD : pv_D 52 a A) {b : Nat} (hb : ¬ A b) {f : Nat → Int64} {σ : pv_S} {x1 : Int32} {x2 : Int32} {out : pv_X} (hf : f_PV_note σ x1 x2 = some out) (hok : pv_okx [1] out) : pv_Mh l y_H_note (Cond.codeWith y_H_note method_5_code 5 (some .int) hh_note :: pv_TB) rm_H_note D pv_cl (pv_ty q) 52 a (pv_FX q a) A (pv_ZH t A) b (q 3) [.ref (a 0), .int x1, .int x2, .ref b] σ f (pv_rx cod_note out) (pv_sx out) (pv_fx (fun x => x.toInt64) f out) := by
  refine pv_ofH (by decide) (Nat.le_of_ble_eq_true rfl) (fun p e s m args below meth c Q ls S hhh hK hZ hret hl hP hO => ?_)
  have hx := S.1
  have hcb := S.2.1
  have C : pv_C p s m args c method_5_code 5 "PatchVoicesLaw" pv_TB D pv_cl (pv_ty q) 52 a A (pv_ZY t A) := ⟨S.1, S.2.1, S.2.2.1, S.2.2.2.1, S.2.2.2.2, hK, hD, hZ.1⟩
  refine lv_aload_n hx hcb d_H_note_0 rfl (lv_at hl 3 rfl) ?_
  refine lv_iconst (v := (0 : Int32)) hx hcb d_H_note_1 (by decide) ?_
  refine lv_aload_n hx hcb d_H_note_2 rfl (lv_at hl 0 rfl) ?_
  refine lv_iload_n hx hcb d_H_note_3 rfl (lv_at hl 1 rfl) ?_
  refine lv_iload_n hx hcb d_H_note_4 rfl (lv_at hl 2 rfl) ?_
  refine pv_callH C pv_mvY pv_good hhh hlk_law hZ.2 hP hO hb (As := [.int x1, .int x2]) (rest := [.int 0, .ref b]) (by decide) (fx_0 _ _ _ _) rfl (c_PV_note hfl hD hf) cv_Lw_21 ⟨rfl, rfl, ⟨Nat.le_of_ble_eq_true rfl, Nat.le_of_ble_eq_true rfl⟩, Nat.le_of_ble_eq_true rfl, Nat.le_of_ble_eq_true rfl⟩ rfl hl.1 rfl (Nat.le_of_ble_eq_true rfl) d_H_note_5 (fun k σ' ho => ?_) (fun r σ' ho H L hP hO hS => ?_)
  · subst ho
    have hk : k ∈ [1] := hok
    simp only [List.mem_cons, List.not_mem_nil, or_false] at hk
    subst hk
    refine ⟨13, ⟨[], [], 0, 10, rfl, by decide, by decide, by decide, fun z hz => absurd hz List.not_mem_nil⟩, fun H x hP hO hS => ?_⟩
    refine lv_astore hx hcb d_H_note_13 hl (by decide) rfl (fun ls hl => ?_)
    refine lv_iconst (v := (1 : Int32)) hx hcb d_H_note_15 (by decide) ?_
    exact hret H [] _ ls d_H_note_16 hP hO hS
  · subst ho
    refine lv_i2l hx hcb d_H_note_8 rfl ?_
    refine pv_lastO hx hcb hK hP hO hD hb hS (t0 := 3) rfl d_H_note_9 (fun H L hP hO hS => ?_)
    refine lv_goto (tgt := 17) hx hcb d_H_note_10 (by decide) ?_
    refine lv_iconst (v := (0 : Int32)) hx hcb d_H_note_17 (by decide) ?_
    exact hret H L _ ls d_H_note_18 hP hO hS
theorem d_H_off_0 : decode method_6_code 0 = .ok (.aload_n 0, 1) := by decide +kernel
theorem d_H_off_1 : decode method_6_code 1 = .ok (.iload_n 1, 1) := by decide +kernel
theorem d_H_off_2 : decode method_6_code 2 = .ok (.invokevirtual 24, 3) := by decide +kernel
theorem d_H_off_5 : decode method_6_code 5 = .ok (.goto 9, 3) := by decide +kernel
theorem d_H_off_8 : decode method_6_code 8 = .ok (.astore_n 2, 1) := by decide +kernel
theorem d_H_off_9 : decode method_6_code 9 = .ok (.iconst 1, 1) := by decide +kernel
theorem d_H_off_10 : decode method_6_code 10 = .ok (.ireturn, 1) := by decide +kernel
theorem d_H_off_11 : decode method_6_code 11 = .ok (.astore_n 2, 1) := by decide +kernel
theorem d_H_off_12 : decode method_6_code 12 = .ok (.iconst 2, 1) := by decide +kernel
theorem d_H_off_13 : decode method_6_code 13 = .ok (.ireturn, 1) := by decide +kernel
theorem d_H_off_14 : decode method_6_code 14 = .ok (.iconst 0, 1) := by decide +kernel
theorem d_H_off_15 : decode method_6_code 15 = .ok (.ireturn, 1) := by decide +kernel
abbrev hh_off : List (Nat × Nat × Nat × Nat) := [(0, 5, 8, 13), (0, 5, 11, 27)]
def cod_off : Nat → Int32
  | 0 => 1
  | _ => 2
def rm_H_off : Room := { frames := 7, cells := 1, slots := 6, locals := 103 }
set_option maxHeartbeats 4000000 in
theorem c_H_off {l : Launch} (hfl : l.flags = Jvm.pinnedFlags ++ [Jvm.noTraceFlag]) {D : va_G} {q : Nat → ClassId} {a t : Nat → Nat} {A : Nat → Prop} (hD : pv_D 52 a A) {b : Nat} (hb : ¬ A b) {f : Nat → Int64} {σ : pv_S} {x1 : Int32} {out : pv_X} (hf : f_PV_off σ x1 = some out) (hok : pv_okx [0, 2] out) : pv_Mh l y_H_off (Cond.codeWith y_H_off method_6_code 3 (some .int) hh_off :: pv_TB) rm_H_off D pv_cl (pv_ty q) 52 a (pv_FX q a) A (pv_ZH t A) b (q 3) [.ref (a 0), .int x1] σ f (pv_rx cod_off out) (pv_sx out) f := by
  refine pv_ofH (by decide) (Nat.le_of_ble_eq_true rfl) (fun p e s m args below meth c Q ls S hhh hK hZ hret hl hP hO => ?_)
  have hx := S.1
  have hcb := S.2.1
  have C : pv_C p s m args c method_6_code 3 "PatchVoicesLaw" pv_TB D pv_cl (pv_ty q) 52 a A (pv_ZY t A) := ⟨S.1, S.2.1, S.2.2.1, S.2.2.2.1, S.2.2.2.2, hK, hD, hZ.1⟩
  refine lv_aload_n hx hcb d_H_off_0 rfl (lv_at hl 0 rfl) ?_
  refine lv_iload_n hx hcb d_H_off_1 rfl (lv_at hl 1 rfl) ?_
  refine pv_callH C pv_mvY pv_good hhh hlk_law hZ.2 hP hO hb (As := [.int x1]) (rest := []) (by decide) (fx_0 _ _ _ _) rfl (c_PV_off hfl hD hf) cv_Lw_24 ⟨rfl, rfl, ⟨Nat.le_of_ble_eq_true rfl, Nat.le_of_ble_eq_true rfl⟩, Nat.le_of_ble_eq_true rfl, Nat.le_of_ble_eq_true rfl⟩ rfl hl.1 rfl (Nat.le_of_ble_eq_true rfl) d_H_off_2 (fun k σ' ho => ?_) (fun r σ' ho H L hP hO hS => ?_)
  · subst ho
    have hk : k ∈ [0, 2] := hok
    simp only [List.mem_cons, List.not_mem_nil, or_false] at hk
    rcases hk with rfl | rfl
    · refine ⟨8, ⟨[], [(0, 5, 11, 27)], 0, 5, rfl, by decide, by decide, by decide, fun z hz => absurd hz List.not_mem_nil⟩, fun H x hP hO hS => ?_⟩
      refine lv_astore_n hx hcb d_H_off_8 rfl hl (by decide) rfl (fun ls hl => ?_)
      refine lv_iconst (v := (1 : Int32)) hx hcb d_H_off_9 (by decide) ?_
      exact hret H [] _ ls d_H_off_10 hP hO hS
    · refine ⟨11, ⟨[(0, 5, 8, 13)], [], 0, 5, rfl, by decide, by decide, by decide, fun z hz => by rw [List.mem_singleton] at hz; subst hz; exact ⟨by decide, by decide, 0, by decide, by decide, rfl⟩⟩, fun H x hP hO hS => ?_⟩
      refine lv_astore_n hx hcb d_H_off_11 rfl hl (by decide) rfl (fun ls hl => ?_)
      refine lv_iconst (v := (2 : Int32)) hx hcb d_H_off_12 (by decide) ?_
      exact hret H [] _ ls d_H_off_13 hP hO hS
  · subst ho
    refine lv_goto (tgt := 14) hx hcb d_H_off_5 (by decide) ?_
    refine lv_iconst (v := (0 : Int32)) hx hcb d_H_off_14 (by decide) ?_
    exact hret H L _ ls d_H_off_15 hP hO hS
theorem d_H_active_0 : decode method_7_code 0 = .ok (.aload_n 2, 1) := by decide +kernel
theorem d_H_active_1 : decode method_7_code 1 = .ok (.iconst 0, 1) := by decide +kernel
theorem d_H_active_2 : decode method_7_code 2 = .ok (.aload_n 0, 1) := by decide +kernel
theorem d_H_active_3 : decode method_7_code 3 = .ok (.iload_n 1, 1) := by decide +kernel
theorem d_H_active_4 : decode method_7_code 4 = .ok (.invokevirtual 29, 3) := by decide +kernel
theorem d_H_active_7 : decode method_7_code 7 = .ok (.ifCond .eq 7, 3) := by decide +kernel
theorem d_H_active_10 : decode method_7_code 10 = .ok (.lconst 1, 1) := by decide +kernel
theorem d_H_active_11 : decode method_7_code 11 = .ok (.goto 4, 3) := by decide +kernel
theorem d_H_active_14 : decode method_7_code 14 = .ok (.lconst 0, 1) := by decide +kernel
theorem d_H_active_15 : decode method_7_code 15 = .ok (.lastore, 1) := by decide +kernel
theorem d_H_active_16 : decode method_7_code 16 = .ok (.goto 6, 3) := by decide +kernel
theorem d_H_active_19 : decode method_7_code 19 = .ok (.astore_n 3, 1) := by decide +kernel
theorem d_H_active_20 : decode method_7_code 20 = .ok (.iconst 1, 1) := by decide +kernel
theorem d_H_active_21 : decode method_7_code 21 = .ok (.ireturn, 1) := by decide +kernel
theorem d_H_active_22 : decode method_7_code 22 = .ok (.iconst 0, 1) := by decide +kernel
theorem d_H_active_23 : decode method_7_code 23 = .ok (.ireturn, 1) := by decide +kernel
abbrev hh_active : List (Nat × Nat × Nat × Nat) := [(0, 16, 19, 13)]
def cod_active : Nat → Int32
  | _ => 1
def rm_H_active : Room := { frames := 7, cells := 1, slots := 6, locals := 103 }
set_option maxHeartbeats 4000000 in
theorem c_H_active {l : Launch} (hfl : l.flags = Jvm.pinnedFlags ++ [Jvm.noTraceFlag]) {D : va_G} {q : Nat → ClassId} {a t : Nat → Nat} {A : Nat → Prop} (hD : pv_D 52 a A) {b : Nat} (hb : ¬ A b) {f : Nat → Int64} {σ : pv_S} {x1 : Int32} {out : pv_X} (hf : f_PV_active σ x1 = some out) (hok : pv_okx [0] out) : pv_Mh l y_H_active (Cond.codeWith y_H_active method_7_code 4 (some .int) hh_active :: pv_TB) rm_H_active D pv_cl (pv_ty q) 52 a (pv_FX q a) A (pv_ZH t A) b (q 3) [.ref (a 0), .int x1, .ref b] σ f (pv_rx cod_active out) (pv_sx out) (pv_fx pv_cz f out) := by
  refine pv_ofH (by decide) (Nat.le_of_ble_eq_true rfl) (fun p e s m args below meth c Q ls S hhh hK hZ hret hl hP hO => ?_)
  have hx := S.1
  have hcb := S.2.1
  have C : pv_C p s m args c method_7_code 4 "PatchVoicesLaw" pv_TB D pv_cl (pv_ty q) 52 a A (pv_ZY t A) := ⟨S.1, S.2.1, S.2.2.1, S.2.2.2.1, S.2.2.2.2, hK, hD, hZ.1⟩
  refine lv_aload_n hx hcb d_H_active_0 rfl (lv_at hl 2 rfl) ?_
  refine lv_iconst (v := (0 : Int32)) hx hcb d_H_active_1 (by decide) ?_
  refine lv_aload_n hx hcb d_H_active_2 rfl (lv_at hl 0 rfl) ?_
  refine lv_iload_n hx hcb d_H_active_3 rfl (lv_at hl 1 rfl) ?_
  refine pv_callH C pv_mvY pv_good hhh hlk_law hZ.2 hP hO hb (As := [.int x1]) (rest := [.int 0, .ref b]) (by decide) (fx_0 _ _ _ _) rfl (c_PV_active hfl hD hf) cv_Lw_29 ⟨rfl, rfl, ⟨Nat.le_of_ble_eq_true rfl, Nat.le_of_ble_eq_true rfl⟩, Nat.le_of_ble_eq_true rfl, Nat.le_of_ble_eq_true rfl⟩ rfl hl.1 rfl (Nat.le_of_ble_eq_true rfl) d_H_active_4 (fun k σ' ho => ?_) (fun r σ' ho H L hP hO hS => ?_)
  · subst ho
    have hk : k ∈ [0] := hok
    simp only [List.mem_cons, List.not_mem_nil, or_false] at hk
    subst hk
    refine ⟨19, ⟨[], [], 0, 16, rfl, by decide, by decide, by decide, fun z hz => absurd hz List.not_mem_nil⟩, fun H x hP hO hS => ?_⟩
    refine lv_astore_n hx hcb d_H_active_19 rfl hl (by decide) rfl (fun ls hl => ?_)
    refine lv_iconst (v := (1 : Int32)) hx hcb d_H_active_20 (by decide) ?_
    exact hret H [] _ ls d_H_active_21 hP hO hS
  · subst ho
    refine lv_if_eq (tgt := 14) hx hcb d_H_active_7 (by decide) (fun h => ?_) (fun h => ?_)
    · refine lv_lconst (v := (0 : Int64)) hx hcb d_H_active_14 (by decide) ?_
      refine pv_lastO hx hcb hK hP hO hD hb hS (t0 := 3) rfl d_H_active_15 (fun H L hP hO hS => ?_)
      rw [show (0 : Int64) = pv_cz r from by rw [pv_cz, if_pos h]] at hO
      refine lv_goto (tgt := 22) hx hcb d_H_active_16 (by decide) ?_
      refine lv_iconst (v := (0 : Int32)) hx hcb d_H_active_22 (by decide) ?_
      exact hret H L _ ls d_H_active_23 hP hO hS
    · refine lv_lconst (v := (1 : Int64)) hx hcb d_H_active_10 (by decide) ?_
      refine lv_goto (tgt := 15) hx hcb d_H_active_11 (by decide) ?_
      refine pv_lastO hx hcb hK hP hO hD hb hS (t0 := 3) rfl d_H_active_15 (fun H L hP hO hS => ?_)
      rw [show (1 : Int64) = pv_cz r from by rw [pv_cz, if_neg h]] at hO
      refine lv_goto (tgt := 22) hx hcb d_H_active_16 (by decide) ?_
      refine lv_iconst (v := (0 : Int32)) hx hcb d_H_active_22 (by decide) ?_
      exact hret H L _ ls d_H_active_23 hP hO hS
theorem d_H_knob_0 : decode method_8_code 0 = .ok (.aload_n 0, 1) := by decide +kernel
theorem d_H_knob_1 : decode method_8_code 1 = .ok (.iload_n 1, 1) := by decide +kernel
theorem d_H_knob_2 : decode method_8_code 2 = .ok (.iload_n 2, 1) := by decide +kernel
theorem d_H_knob_3 : decode method_8_code 3 = .ok (.invokevirtual 33, 3) := by decide +kernel
theorem d_H_knob_6 : decode method_8_code 6 = .ok (.goto 6, 3) := by decide +kernel
theorem d_H_knob_9 : decode method_8_code 9 = .ok (.astore_n 3, 1) := by decide +kernel
theorem d_H_knob_10 : decode method_8_code 10 = .ok (.iconst 1, 1) := by decide +kernel
theorem d_H_knob_11 : decode method_8_code 11 = .ok (.ireturn, 1) := by decide +kernel
theorem d_H_knob_12 : decode method_8_code 12 = .ok (.iconst 0, 1) := by decide +kernel
theorem d_H_knob_13 : decode method_8_code 13 = .ok (.ireturn, 1) := by decide +kernel
abbrev hh_knob : List (Nat × Nat × Nat × Nat) := [(0, 6, 9, 13)]
def cod_knob : Nat → Int32
  | _ => 1
def rm_H_knob : Room := { frames := 7, cells := 1, slots := 6, locals := 104 }
set_option maxHeartbeats 4000000 in
theorem c_H_knob {l : Launch} (hfl : l.flags = Jvm.pinnedFlags ++ [Jvm.noTraceFlag]) {D : va_G} {q : Nat → ClassId} {a t : Nat → Nat} {A : Nat → Prop} (hD : pv_D 52 a A) {b : Nat} (hb : ¬ A b) {f : Nat → Int64} {σ : pv_S} {x1 : Int32} {x2 : Int32} {out : pv_X} (hf : f_PV_knob σ x1 x2 = some out) (hok : pv_okx [0] out) : pv_Mh l y_H_knob (Cond.codeWith y_H_knob method_8_code 4 (some .int) hh_knob :: pv_TB) rm_H_knob D pv_cl (pv_ty q) 52 a (pv_FX q a) A (pv_ZH t A) b (q 3) [.ref (a 0), .int x1, .int x2] σ f (pv_rx cod_knob out) (pv_sx out) f := by
  refine pv_ofH (by decide) (Nat.le_of_ble_eq_true rfl) (fun p e s m args below meth c Q ls S hhh hK hZ hret hl hP hO => ?_)
  have hx := S.1
  have hcb := S.2.1
  have C : pv_C p s m args c method_8_code 4 "PatchVoicesLaw" pv_TB D pv_cl (pv_ty q) 52 a A (pv_ZY t A) := ⟨S.1, S.2.1, S.2.2.1, S.2.2.2.1, S.2.2.2.2, hK, hD, hZ.1⟩
  refine lv_aload_n hx hcb d_H_knob_0 rfl (lv_at hl 0 rfl) ?_
  refine lv_iload_n hx hcb d_H_knob_1 rfl (lv_at hl 1 rfl) ?_
  refine lv_iload_n hx hcb d_H_knob_2 rfl (lv_at hl 2 rfl) ?_
  refine pv_callH C pv_mvY pv_good hhh hlk_law hZ.2 hP hO hb (As := [.int x1, .int x2]) (rest := []) (by decide) (fx_0 _ _ _ _) rfl (c_PV_knob hfl hD hf) cv_Lw_33 ⟨rfl, rfl, ⟨Nat.le_of_ble_eq_true rfl, Nat.le_of_ble_eq_true rfl⟩, Nat.le_of_ble_eq_true rfl, Nat.le_of_ble_eq_true rfl⟩ rfl hl.1 rfl (Nat.le_of_ble_eq_true rfl) d_H_knob_3 (fun k σ' ho => ?_) (fun r σ' ho H L hP hO hS => ?_)
  · subst ho
    have hk : k ∈ [0] := hok
    simp only [List.mem_cons, List.not_mem_nil, or_false] at hk
    subst hk
    refine ⟨9, ⟨[], [], 0, 6, rfl, by decide, by decide, by decide, fun z hz => absurd hz List.not_mem_nil⟩, fun H x hP hO hS => ?_⟩
    refine lv_astore_n hx hcb d_H_knob_9 rfl hl (by decide) rfl (fun ls hl => ?_)
    refine lv_iconst (v := (1 : Int32)) hx hcb d_H_knob_10 (by decide) ?_
    exact hret H [] _ ls d_H_knob_11 hP hO hS
  · subst ho
    refine lv_goto (tgt := 12) hx hcb d_H_knob_6 (by decide) ?_
    refine lv_iconst (v := (0 : Int32)) hx hcb d_H_knob_12 (by decide) ?_
    exact hret H L _ ls d_H_knob_13 hP hO hS
theorem d_H_run_0 : decode method_9_code 0 = .ok (.aload_n 0, 1) := by decide +kernel
theorem d_H_run_1 : decode method_9_code 1 = .ok (.iload_n 1, 1) := by decide +kernel
theorem d_H_run_2 : decode method_9_code 2 = .ok (.invokevirtual 37, 3) := by decide +kernel
theorem d_H_run_5 : decode method_9_code 5 = .ok (.goto 9, 3) := by decide +kernel
theorem d_H_run_8 : decode method_9_code 8 = .ok (.astore_n 2, 1) := by decide +kernel
theorem d_H_run_9 : decode method_9_code 9 = .ok (.iconst 1, 1) := by decide +kernel
theorem d_H_run_10 : decode method_9_code 10 = .ok (.ireturn, 1) := by decide +kernel
theorem d_H_run_11 : decode method_9_code 11 = .ok (.astore_n 2, 1) := by decide +kernel
theorem d_H_run_12 : decode method_9_code 12 = .ok (.iconst 2, 1) := by decide +kernel
theorem d_H_run_13 : decode method_9_code 13 = .ok (.ireturn, 1) := by decide +kernel
theorem d_H_run_14 : decode method_9_code 14 = .ok (.iconst 0, 1) := by decide +kernel
theorem d_H_run_15 : decode method_9_code 15 = .ok (.ireturn, 1) := by decide +kernel
abbrev hh_run : List (Nat × Nat × Nat × Nat) := [(0, 5, 8, 15), (0, 5, 11, 27)]
def cod_run : Nat → Int32
  | 1 => 1
  | _ => 2
def rm_H_run : Room := { frames := 7, cells := 1, slots := 6, locals := 156 }
set_option maxHeartbeats 4000000 in
theorem c_H_run {l : Launch} (hfl : l.flags = Jvm.pinnedFlags ++ [Jvm.noTraceFlag]) {D : va_G} {q : Nat → ClassId} {a t : Nat → Nat} {A : Nat → Prop} (hD : pv_D 52 a A) {b : Nat} (hb : ¬ A b) {f : Nat → Int64} {σ : pv_S} {x1 : Int32} {out : pv_X} (hf : f_PV_run σ x1 = some out) (hok : pv_okx [1, 2] out) : pv_Mh l y_H_run (Cond.codeWith y_H_run method_9_code 3 (some .int) hh_run :: pv_TB) rm_H_run D pv_cl (pv_ty q) 52 a (pv_FX q a) A (pv_ZH t A) b (q 3) [.ref (a 0), .int x1] σ f (pv_rx cod_run out) (pv_sx out) f := by
  refine pv_ofH (by decide) (Nat.le_of_ble_eq_true rfl) (fun p e s m args below meth c Q ls S hhh hK hZ hret hl hP hO => ?_)
  have hx := S.1
  have hcb := S.2.1
  have C : pv_C p s m args c method_9_code 3 "PatchVoicesLaw" pv_TB D pv_cl (pv_ty q) 52 a A (pv_ZY t A) := ⟨S.1, S.2.1, S.2.2.1, S.2.2.2.1, S.2.2.2.2, hK, hD, hZ.1⟩
  refine lv_aload_n hx hcb d_H_run_0 rfl (lv_at hl 0 rfl) ?_
  refine lv_iload_n hx hcb d_H_run_1 rfl (lv_at hl 1 rfl) ?_
  refine pv_callH C pv_mvY pv_good hhh hlk_law hZ.2 hP hO hb (As := [.int x1]) (rest := []) (by decide) (fx_0 _ _ _ _) rfl (c_PV_run hfl hD hf) cv_Lw_37 ⟨rfl, rfl, ⟨Nat.le_of_ble_eq_true rfl, Nat.le_of_ble_eq_true rfl⟩, Nat.le_of_ble_eq_true rfl, Nat.le_of_ble_eq_true rfl⟩ rfl hl.1 rfl (Nat.le_of_ble_eq_true rfl) d_H_run_2 (fun k σ' ho => ?_) (fun r σ' ho H L hP hO hS => ?_)
  · subst ho
    have hk : k ∈ [1, 2] := hok
    simp only [List.mem_cons, List.not_mem_nil, or_false] at hk
    rcases hk with rfl | rfl
    · refine ⟨8, ⟨[], [(0, 5, 11, 27)], 0, 5, rfl, by decide, by decide, by decide, fun z hz => absurd hz List.not_mem_nil⟩, fun H x hP hO hS => ?_⟩
      refine lv_astore_n hx hcb d_H_run_8 rfl hl (by decide) rfl (fun ls hl => ?_)
      refine lv_iconst (v := (1 : Int32)) hx hcb d_H_run_9 (by decide) ?_
      exact hret H [] _ ls d_H_run_10 hP hO hS
    · refine ⟨11, ⟨[(0, 5, 8, 15)], [], 0, 5, rfl, by decide, by decide, by decide, fun z hz => by rw [List.mem_singleton] at hz; subst hz; exact ⟨by decide, by decide, 1, by decide, by decide, rfl⟩⟩, fun H x hP hO hS => ?_⟩
      refine lv_astore_n hx hcb d_H_run_11 rfl hl (by decide) rfl (fun ls hl => ?_)
      refine lv_iconst (v := (2 : Int32)) hx hcb d_H_run_12 (by decide) ?_
      exact hret H [] _ ls d_H_run_13 hP hO hS
  · subst ho
    refine lv_goto (tgt := 14) hx hcb d_H_run_5 (by decide) ?_
    refine lv_iconst (v := (0 : Int32)) hx hcb d_H_run_14 (by decide) ?_
    exact hret H L _ ls d_H_run_15 hP hO hS
theorem d_H_out_0 : decode method_10_code 0 = .ok (.aload_n 2, 1) := by decide +kernel
theorem d_H_out_1 : decode method_10_code 1 = .ok (.iconst 0, 1) := by decide +kernel
theorem d_H_out_2 : decode method_10_code 2 = .ok (.aload_n 0, 1) := by decide +kernel
theorem d_H_out_3 : decode method_10_code 3 = .ok (.iload_n 1, 1) := by decide +kernel
theorem d_H_out_4 : decode method_10_code 4 = .ok (.invokevirtual 40, 3) := by decide +kernel
theorem d_H_out_7 : decode method_10_code 7 = .ok (.i2l, 1) := by decide +kernel
theorem d_H_out_8 : decode method_10_code 8 = .ok (.lastore, 1) := by decide +kernel
theorem d_H_out_9 : decode method_10_code 9 = .ok (.goto 6, 3) := by decide +kernel
theorem d_H_out_12 : decode method_10_code 12 = .ok (.astore_n 3, 1) := by decide +kernel
theorem d_H_out_13 : decode method_10_code 13 = .ok (.iconst 1, 1) := by decide +kernel
theorem d_H_out_14 : decode method_10_code 14 = .ok (.ireturn, 1) := by decide +kernel
theorem d_H_out_15 : decode method_10_code 15 = .ok (.iconst 0, 1) := by decide +kernel
theorem d_H_out_16 : decode method_10_code 16 = .ok (.ireturn, 1) := by decide +kernel
abbrev hh_out : List (Nat × Nat × Nat × Nat) := [(0, 9, 12, 13)]
def cod_out : Nat → Int32
  | _ => 1
def rm_H_out : Room := { frames := 7, cells := 1, slots := 6, locals := 103 }
set_option maxHeartbeats 4000000 in
theorem c_H_out {l : Launch} (hfl : l.flags = Jvm.pinnedFlags ++ [Jvm.noTraceFlag]) {D : va_G} {q : Nat → ClassId} {a t : Nat → Nat} {A : Nat → Prop} (hD : pv_D 52 a A) {b : Nat} (hb : ¬ A b) {f : Nat → Int64} {σ : pv_S} {x1 : Int32} {out : pv_X} (hf : f_PV_out σ x1 = some out) (hok : pv_okx [0] out) : pv_Mh l y_H_out (Cond.codeWith y_H_out method_10_code 4 (some .int) hh_out :: pv_TB) rm_H_out D pv_cl (pv_ty q) 52 a (pv_FX q a) A (pv_ZH t A) b (q 3) [.ref (a 0), .int x1, .ref b] σ f (pv_rx cod_out out) (pv_sx out) (pv_fx (fun x => x.toInt64) f out) := by
  refine pv_ofH (by decide) (Nat.le_of_ble_eq_true rfl) (fun p e s m args below meth c Q ls S hhh hK hZ hret hl hP hO => ?_)
  have hx := S.1
  have hcb := S.2.1
  have C : pv_C p s m args c method_10_code 4 "PatchVoicesLaw" pv_TB D pv_cl (pv_ty q) 52 a A (pv_ZY t A) := ⟨S.1, S.2.1, S.2.2.1, S.2.2.2.1, S.2.2.2.2, hK, hD, hZ.1⟩
  refine lv_aload_n hx hcb d_H_out_0 rfl (lv_at hl 2 rfl) ?_
  refine lv_iconst (v := (0 : Int32)) hx hcb d_H_out_1 (by decide) ?_
  refine lv_aload_n hx hcb d_H_out_2 rfl (lv_at hl 0 rfl) ?_
  refine lv_iload_n hx hcb d_H_out_3 rfl (lv_at hl 1 rfl) ?_
  refine pv_callH C pv_mvY pv_good hhh hlk_law hZ.2 hP hO hb (As := [.int x1]) (rest := [.int 0, .ref b]) (by decide) (fx_0 _ _ _ _) rfl (c_PV_out hfl hD hf) cv_Lw_40 ⟨rfl, rfl, ⟨Nat.le_of_ble_eq_true rfl, Nat.le_of_ble_eq_true rfl⟩, Nat.le_of_ble_eq_true rfl, Nat.le_of_ble_eq_true rfl⟩ rfl hl.1 rfl (Nat.le_of_ble_eq_true rfl) d_H_out_4 (fun k σ' ho => ?_) (fun r σ' ho H L hP hO hS => ?_)
  · subst ho
    have hk : k ∈ [0] := hok
    simp only [List.mem_cons, List.not_mem_nil, or_false] at hk
    subst hk
    refine ⟨12, ⟨[], [], 0, 9, rfl, by decide, by decide, by decide, fun z hz => absurd hz List.not_mem_nil⟩, fun H x hP hO hS => ?_⟩
    refine lv_astore_n hx hcb d_H_out_12 rfl hl (by decide) rfl (fun ls hl => ?_)
    refine lv_iconst (v := (1 : Int32)) hx hcb d_H_out_13 (by decide) ?_
    exact hret H [] _ ls d_H_out_14 hP hO hS
  · subst ho
    refine lv_i2l hx hcb d_H_out_7 rfl ?_
    refine pv_lastO hx hcb hK hP hO hD hb hS (t0 := 3) rfl d_H_out_8 (fun H L hP hO hS => ?_)
    refine lv_goto (tgt := 15) hx hcb d_H_out_9 (by decide) ?_
    refine lv_iconst (v := (0 : Int32)) hx hcb d_H_out_15 (by decide) ?_
    exact hret H L _ ls d_H_out_16 hP hO hS
theorem d_H_tap_0 : decode method_11_code 0 = .ok (.aload_n 3, 1) := by decide +kernel
theorem d_H_tap_1 : decode method_11_code 1 = .ok (.iconst 0, 1) := by decide +kernel
theorem d_H_tap_2 : decode method_11_code 2 = .ok (.aload_n 0, 1) := by decide +kernel
theorem d_H_tap_3 : decode method_11_code 3 = .ok (.iload_n 1, 1) := by decide +kernel
theorem d_H_tap_4 : decode method_11_code 4 = .ok (.iload_n 2, 1) := by decide +kernel
theorem d_H_tap_5 : decode method_11_code 5 = .ok (.invokevirtual 44, 3) := by decide +kernel
theorem d_H_tap_8 : decode method_11_code 8 = .ok (.i2l, 1) := by decide +kernel
theorem d_H_tap_9 : decode method_11_code 9 = .ok (.lastore, 1) := by decide +kernel
theorem d_H_tap_10 : decode method_11_code 10 = .ok (.goto 11, 3) := by decide +kernel
theorem d_H_tap_13 : decode method_11_code 13 = .ok (.astore 4, 2) := by decide +kernel
theorem d_H_tap_15 : decode method_11_code 15 = .ok (.iconst 1, 1) := by decide +kernel
theorem d_H_tap_16 : decode method_11_code 16 = .ok (.ireturn, 1) := by decide +kernel
theorem d_H_tap_17 : decode method_11_code 17 = .ok (.astore 4, 2) := by decide +kernel
theorem d_H_tap_19 : decode method_11_code 19 = .ok (.iconst 2, 1) := by decide +kernel
theorem d_H_tap_20 : decode method_11_code 20 = .ok (.ireturn, 1) := by decide +kernel
theorem d_H_tap_21 : decode method_11_code 21 = .ok (.iconst 0, 1) := by decide +kernel
theorem d_H_tap_22 : decode method_11_code 22 = .ok (.ireturn, 1) := by decide +kernel
abbrev hh_tap : List (Nat × Nat × Nat × Nat) := [(0, 10, 13, 13), (0, 10, 17, 47)]
def cod_tap : Nat → Int32
  | 0 => 1
  | _ => 2
def rm_H_tap : Room := { frames := 7, cells := 1, slots := 6, locals := 104 }
set_option maxHeartbeats 4000000 in
theorem c_H_tap {l : Launch} (hfl : l.flags = Jvm.pinnedFlags ++ [Jvm.noTraceFlag]) {D : va_G} {q : Nat → ClassId} {a t : Nat → Nat} {A : Nat → Prop} (hD : pv_D 52 a A) {b : Nat} (hb : ¬ A b) {f : Nat → Int64} {σ : pv_S} {x1 : Int32} {x2 : Int32} {out : pv_X} (hf : f_PV_tap σ x1 x2 = some out) (hok : pv_okx [0, 3] out) : pv_Mh l y_H_tap (Cond.codeWith y_H_tap method_11_code 5 (some .int) hh_tap :: pv_TB) rm_H_tap D pv_cl (pv_ty q) 52 a (pv_FX q a) A (pv_ZH t A) b (q 3) [.ref (a 0), .int x1, .int x2, .ref b] σ f (pv_rx cod_tap out) (pv_sx out) (pv_fx (fun x => x.toInt64) f out) := by
  refine pv_ofH (by decide) (Nat.le_of_ble_eq_true rfl) (fun p e s m args below meth c Q ls S hhh hK hZ hret hl hP hO => ?_)
  have hx := S.1
  have hcb := S.2.1
  have C : pv_C p s m args c method_11_code 5 "PatchVoicesLaw" pv_TB D pv_cl (pv_ty q) 52 a A (pv_ZY t A) := ⟨S.1, S.2.1, S.2.2.1, S.2.2.2.1, S.2.2.2.2, hK, hD, hZ.1⟩
  refine lv_aload_n hx hcb d_H_tap_0 rfl (lv_at hl 3 rfl) ?_
  refine lv_iconst (v := (0 : Int32)) hx hcb d_H_tap_1 (by decide) ?_
  refine lv_aload_n hx hcb d_H_tap_2 rfl (lv_at hl 0 rfl) ?_
  refine lv_iload_n hx hcb d_H_tap_3 rfl (lv_at hl 1 rfl) ?_
  refine lv_iload_n hx hcb d_H_tap_4 rfl (lv_at hl 2 rfl) ?_
  refine pv_callH C pv_mvY pv_good hhh hlk_law hZ.2 hP hO hb (As := [.int x1, .int x2]) (rest := [.int 0, .ref b]) (by decide) (fx_0 _ _ _ _) rfl (c_PV_tap hfl hD hf) cv_Lw_44 ⟨rfl, rfl, ⟨Nat.le_of_ble_eq_true rfl, Nat.le_of_ble_eq_true rfl⟩, Nat.le_of_ble_eq_true rfl, Nat.le_of_ble_eq_true rfl⟩ rfl hl.1 rfl (Nat.le_of_ble_eq_true rfl) d_H_tap_5 (fun k σ' ho => ?_) (fun r σ' ho H L hP hO hS => ?_)
  · subst ho
    have hk : k ∈ [0, 3] := hok
    simp only [List.mem_cons, List.not_mem_nil, or_false] at hk
    rcases hk with rfl | rfl
    · refine ⟨13, ⟨[], [(0, 10, 17, 47)], 0, 10, rfl, by decide, by decide, by decide, fun z hz => absurd hz List.not_mem_nil⟩, fun H x hP hO hS => ?_⟩
      refine lv_astore hx hcb d_H_tap_13 hl (by decide) rfl (fun ls hl => ?_)
      refine lv_iconst (v := (1 : Int32)) hx hcb d_H_tap_15 (by decide) ?_
      exact hret H [] _ ls d_H_tap_16 hP hO hS
    · refine ⟨17, ⟨[(0, 10, 13, 13)], [], 0, 10, rfl, by decide, by decide, by decide, fun z hz => by rw [List.mem_singleton] at hz; subst hz; exact ⟨by decide, by decide, 0, by decide, by decide, rfl⟩⟩, fun H x hP hO hS => ?_⟩
      refine lv_astore hx hcb d_H_tap_17 hl (by decide) rfl (fun ls hl => ?_)
      refine lv_iconst (v := (2 : Int32)) hx hcb d_H_tap_19 (by decide) ?_
      exact hret H [] _ ls d_H_tap_20 hP hO hS
  · subst ho
    refine lv_i2l hx hcb d_H_tap_8 rfl ?_
    refine pv_lastO hx hcb hK hP hO hD hb hS (t0 := 3) rfl d_H_tap_9 (fun H L hP hO hS => ?_)
    refine lv_goto (tgt := 21) hx hcb d_H_tap_10 (by decide) ?_
    refine lv_iconst (v := (0 : Int32)) hx hcb d_H_tap_21 (by decide) ?_
    exact hret H L _ ls d_H_tap_22 hP hO hS
