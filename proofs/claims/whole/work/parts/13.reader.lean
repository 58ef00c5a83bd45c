theorem d_Rd_stateInName_0 : decode prog_5_method_5_code 0 = .ok (.aload_n 0, 1) := by decide +kernel
theorem d_Rd_stateInName_1 : decode prog_5_method_5_code 1 = .ok (.getfield 12, 3) := by decide +kernel
theorem d_Rd_stateInName_4 : decode prog_5_method_5_code 4 = .ok (.iload_n 1, 1) := by decide +kernel
theorem d_Rd_stateInName_5 : decode prog_5_method_5_code 5 = .ok (.invokevirtual 80, 3) := by decide +kernel
theorem d_Rd_stateInName_8 : decode prog_5_method_5_code 8 = .ok (.aload_n 0, 1) := by decide +kernel
theorem d_Rd_stateInName_9 : decode prog_5_method_5_code 9 = .ok (.dup, 1) := by decide +kernel
theorem d_Rd_stateInName_10 : decode prog_5_method_5_code 10 = .ok (.getfield 59, 3) := by decide +kernel
theorem d_Rd_stateInName_13 : decode prog_5_method_5_code 13 = .ok (.iconst 1, 1) := by decide +kernel
theorem d_Rd_stateInName_14 : decode prog_5_method_5_code 14 = .ok (.iadd, 1) := by decide +kernel
theorem d_Rd_stateInName_15 : decode prog_5_method_5_code 15 = .ok (.putfield 59, 3) := by decide +kernel
theorem d_Rd_stateInName_18 : decode prog_5_method_5_code 18 = .ok (.aload_n 0, 1) := by decide +kernel
theorem d_Rd_stateInName_19 : decode prog_5_method_5_code 19 = .ok (.getfield 59, 3) := by decide +kernel
theorem d_Rd_stateInName_22 : decode prog_5_method_5_code 22 = .ok (.iconst 4, 1) := by decide +kernel
theorem d_Rd_stateInName_23 : decode prog_5_method_5_code 23 = .ok (.if_icmp .ge 7, 3) := by decide +kernel
theorem d_Rd_stateInName_26 : decode prog_5_method_5_code 26 = .ok (.iconst 1, 1) := by decide +kernel
theorem d_Rd_stateInName_27 : decode prog_5_method_5_code 27 = .ok (.goto 4, 3) := by decide +kernel
theorem d_Rd_stateInName_30 : decode prog_5_method_5_code 30 = .ok (.iconst 2, 1) := by decide +kernel
theorem d_Rd_stateInName_31 : decode prog_5_method_5_code 31 = .ok (.ireturn, 1) := by decide +kernel
def f_Rd_stateInName_0 (σ : pv_S) (x1 : Int32) : Option (Int32 × pv_S) :=
  ((f_Pt_addToName σ x1).bind fun q1 =>
(if (4 : Int32) ≤ ((pv_uI q1 2 2 ((q1.1 2 2) + (1 : Int32))).1 2 2) then
  some ((2 : Int32), (pv_uI q1 2 2 ((q1.1 2 2) + (1 : Int32))))
  else
  some ((1 : Int32), (pv_uI q1 2 2 ((q1.1 2 2) + (1 : Int32))))))
set_option maxHeartbeats 4000000 in
set_option maxRecDepth 100000 in
theorem s_Rd_stateInName_0 {p : Program} {l : Launch} {e : Env} {R : Room} {s : State} {m : MethodId} {args : Array Value} {below : List Frame} {meth : Method} {c : Code} {Q : State → Prop} {D : va_G} {q : Nat → ClassId} {a t : Nat → Nat} {A : Nat → Prop} (C : pv_C p s m args c prog_5_method_5_code 2 "PatchVoices$Reader" pv_TB D pv_cl (pv_ty q) 52 a A (pv_ZX t A)) (hmv : pv_mv A (pv_ZX t A)) (hRf : 2 ≤ R.frames) (hRl : 42 ≤ R.locals) {out : (Int32 × pv_S)} (hret : pv_Ri p l e R s m args below meth c prog_5_method_5_code D pv_cl 52 a (pv_FX q a) A Q out) {σ : pv_S} {x1 : Int32} {H : Heap} {locs : List Loc} {ls : Array Slot} (hl : lv_has ls 2 [(0, .ref (a 2)), (1, .int x1)]) (hP : pv_W D pv_cl 52 a (pv_FX q a) σ H) (hS : va_S A s.heap H locs) (hf : f_Rd_stateInName_0 σ x1 = some out) : W p l e R s m args below meth c H locs 0 0 Q (F0 m 0 ls []) := by
  unfold f_Rd_stateInName_0 at hf
  have hx := C.1
  have hb := C.2.1
  refine lv_aload_n hx hb d_Rd_stateInName_0 rfl (lv_at hl 0 rfl) ?_
  refine pv_get C hP (v := .ref (a 3)) (j := 0) (by decide) (fx_2 _ _ _ _) fl_Rd_12 rfl d_Rd_stateInName_1 ?_
  refine lv_iload_n hx hb d_Rd_stateInName_4 rfl (lv_at hl 1 rfl) ?_
  obtain ⟨q1, hc, hf⟩ := pv_b hf
  refine pv_callVv C hmv pv_good hP hS (As := [.int x1]) (rest := []) (by decide) (fx_3 _ _ _ _) rfl (c_Pt_addToName C.2.2.2.2.2.2.1 hmv hc) cv_Rd_80 ⟨rfl, rfl, Nat.le_trans (Nat.le_of_ble_eq_true rfl) hRf, Nat.le_trans (Nat.le_of_ble_eq_true rfl) hRl⟩ rfl hl.1 rfl (Nat.le_of_ble_eq_true rfl) d_Rd_stateInName_5 ⟨Nat.zero_le _, Nat.zero_le _⟩ (fun H locs hP hS => ?_)
  refine lv_aload_n hx hb d_Rd_stateInName_8 rfl (lv_at hl 0 rfl) ?_
  refine lv_dup hx hb d_Rd_stateInName_9 rfl ?_
  refine pv_get C hP (v := .int (q1.1 2 2)) (j := 2) (by decide) (fx_2 _ _ _ _) fl_Rd_59 rfl d_Rd_stateInName_10 ?_
  refine lv_iconst (v := (1 : Int32)) hx hb d_Rd_stateInName_13 (by decide) ?_
  refine lv_iadd hx hb d_Rd_stateInName_14 ?_
  refine pv_putI C hP hS (x := ((q1.1 2 2) + (1 : Int32))) (by decide) (fx_2 _ _ _ _) fw_Rd_59 rfl rfl (Nat.le_of_ble_eq_true rfl) (fxs_2_2 _ _ _ _ _) d_Rd_stateInName_15 (fun H locs hP hS => ?_)
  refine lv_aload_n hx hb d_Rd_stateInName_18 rfl (lv_at hl 0 rfl) ?_
  refine pv_get C hP (v := .int ((pv_uI q1 2 2 ((q1.1 2 2) + (1 : Int32))).1 2 2)) (j := 2) (by decide) (fx_2 _ _ _ _) fl_Rd_59 rfl d_Rd_stateInName_19 ?_
  refine lv_iconst (v := (4 : Int32)) hx hb d_Rd_stateInName_22 (by decide) ?_
  refine lv_icmp_ge (tgt := 30) hx hb d_Rd_stateInName_23 (by decide) (fun h => ?_) (fun h => ?_)
  · have hf := pv_t hf h
    refine lv_iconst (v := (2 : Int32)) hx hb d_Rd_stateInName_30 (by decide) ?_
    obtain rfl := Option.some.inj hf
    exact hret _ _ _ _ d_Rd_stateInName_31 hP hS
  · have hf := pv_f hf h
    refine lv_iconst (v := (1 : Int32)) hx hb d_Rd_stateInName_26 (by decide) ?_
    refine lv_goto (tgt := 31) hx hb d_Rd_stateInName_27 (by decide) ?_
    obtain rfl := Option.some.inj hf
    exact hret _ _ _ _ d_Rd_stateInName_31 hP hS
def f_Rd_stateInName (σ : pv_S) (x1 : Int32) : Option (Int32 × pv_S) := f_Rd_stateInName_0 σ x1
def rm_Rd_stateInName : Room := { frames := 2, cells := 0, slots := 0, locals := 42 }
theorem c_Rd_stateInName {l : Launch} {D : va_G} {q : Nat → ClassId} {a t : Nat → Nat} {A : Nat → Prop} (hD : pv_D 52 a A) (hmv : pv_mv A (pv_ZX t A)) {σ : pv_S} {x1 : Int32} {out : (Int32 × pv_S)} (hf : f_Rd_stateInName σ x1 = some out) : pv_Mi l y_Rd_stateInName (Cond.code y_Rd_stateInName prog_5_method_5_code 2 (some .int) :: pv_TB) rm_Rd_stateInName D pv_cl (pv_ty q) 52 a (pv_FX q a) A (pv_ZX t A) [.ref (a 2), .int x1] σ out :=
  pv_ofI (by decide) (Nat.le_of_ble_eq_true rfl) hD (fun p e s m args below meth c Q ls C hret hl hP => s_Rd_stateInName_0 C hmv (Nat.le_refl _) (Nat.le_refl _) hret hl hP va_S.rf hf)
theorem d_Rd_stateInWord_0 : decode prog_5_method_7_code 0 = .ok (.aload_n 0, 1) := by decide +kernel
theorem d_Rd_stateInWord_1 : decode prog_5_method_7_code 1 = .ok (.dup, 1) := by decide +kernel
theorem d_Rd_stateInWord_2 : decode prog_5_method_7_code 2 = .ok (.getfield 68, 3) := by decide +kernel
theorem d_Rd_stateInWord_5 : decode prog_5_method_7_code 5 = .ok (.aload_n 0, 1) := by decide +kernel
theorem d_Rd_stateInWord_6 : decode prog_5_method_7_code 6 = .ok (.getfield 59, 3) := by decide +kernel
theorem d_Rd_stateInWord_9 : decode prog_5_method_7_code 9 = .ok (.iload_n 1, 1) := by decide +kernel
theorem d_Rd_stateInWord_10 : decode prog_5_method_7_code 10 = .ok (.invokestatic 87, 3) := by decide +kernel
theorem d_Rd_stateInWord_13 : decode prog_5_method_7_code 13 = .ok (.iand, 1) := by decide +kernel
theorem d_Rd_stateInWord_14 : decode prog_5_method_7_code 14 = .ok (.putfield 68, 3) := by decide +kernel
theorem d_Rd_stateInWord_17 : decode prog_5_method_7_code 17 = .ok (.aload_n 0, 1) := by decide +kernel
theorem d_Rd_stateInWord_18 : decode prog_5_method_7_code 18 = .ok (.dup, 1) := by decide +kernel
theorem d_Rd_stateInWord_19 : decode prog_5_method_7_code 19 = .ok (.getfield 59, 3) := by decide +kernel
theorem d_Rd_stateInWord_22 : decode prog_5_method_7_code 22 = .ok (.iconst 1, 1) := by decide +kernel
theorem d_Rd_stateInWord_23 : decode prog_5_method_7_code 23 = .ok (.iadd, 1) := by decide +kernel
theorem d_Rd_stateInWord_24 : decode prog_5_method_7_code 24 = .ok (.putfield 59, 3) := by decide +kernel
theorem d_Rd_stateInWord_27 : decode prog_5_method_7_code 27 = .ok (.aload_n 0, 1) := by decide +kernel
theorem d_Rd_stateInWord_28 : decode prog_5_method_7_code 28 = .ok (.getfield 68, 3) := by decide +kernel
theorem d_Rd_stateInWord_31 : decode prog_5_method_7_code 31 = .ok (.ifCond .ne 5, 3) := by decide +kernel
theorem d_Rd_stateInWord_34 : decode prog_5_method_7_code 34 = .ok (.iconst (-1), 1) := by decide +kernel
theorem d_Rd_stateInWord_35 : decode prog_5_method_7_code 35 = .ok (.ireturn, 1) := by decide +kernel
theorem d_Rd_stateInWord_36 : decode prog_5_method_7_code 36 = .ok (.aload_n 0, 1) := by decide +kernel
theorem d_Rd_stateInWord_37 : decode prog_5_method_7_code 37 = .ok (.getfield 59, 3) := by decide +kernel
theorem d_Rd_stateInWord_40 : decode prog_5_method_7_code 40 = .ok (.iconst 3, 1) := by decide +kernel
theorem d_Rd_stateInWord_41 : decode prog_5_method_7_code 41 = .ok (.if_icmp .ge 5, 3) := by decide +kernel
theorem d_Rd_stateInWord_44 : decode prog_5_method_7_code 44 = .ok (.iconst 4, 1) := by decide +kernel
theorem d_Rd_stateInWord_45 : decode prog_5_method_7_code 45 = .ok (.ireturn, 1) := by decide +kernel
theorem d_Rd_stateInWord_46 : decode prog_5_method_7_code 46 = .ok (.aload_n 0, 1) := by decide +kernel
theorem d_Rd_stateInWord_47 : decode prog_5_method_7_code 47 = .ok (.getfield 12, 3) := by decide +kernel
theorem d_Rd_stateInWord_50 : decode prog_5_method_7_code 50 = .ok (.aload_n 0, 1) := by decide +kernel
theorem d_Rd_stateInWord_51 : decode prog_5_method_7_code 51 = .ok (.getfield 68, 3) := by decide +kernel
theorem d_Rd_stateInWord_54 : decode prog_5_method_7_code 54 = .ok (.invokestatic 91, 3) := by decide +kernel
theorem d_Rd_stateInWord_57 : decode prog_5_method_7_code 57 = .ok (.invokevirtual 96, 3) := by decide +kernel
theorem d_Rd_stateInWord_60 : decode prog_5_method_7_code 60 = .ok (.iconst 5, 1) := by decide +kernel
theorem d_Rd_stateInWord_61 : decode prog_5_method_7_code 61 = .ok (.ireturn, 1) := by decide +kernel
def f_Rd_stateInWord_0 (σ : pv_S) (x1 : Int32) : Option (Int32 × pv_S) :=
  ((f_Kd_withLetter σ (σ.1 2 2) x1).bind fun q1 =>
(if ((pv_uI (pv_uI q1.2 2 3 ((σ.1 2 3) &&& q1.1)) 2 2 (((pv_uI q1.2 2 3 ((σ.1 2 3) &&& q1.1)).1 2 2) + (1 : Int32))).1 2 3) = 0 then
  some ((-1 : Int32), (pv_uI (pv_uI q1.2 2 3 ((σ.1 2 3) &&& q1.1)) 2 2 (((pv_uI q1.2 2 3 ((σ.1 2 3) &&& q1.1)).1 2 2) + (1 : Int32))))
  else
  (if (3 : Int32) ≤ ((pv_uI (pv_uI q1.2 2 3 ((σ.1 2 3) &&& q1.1)) 2 2 (((pv_uI q1.2 2 3 ((σ.1 2 3) &&& q1.1)).1 2 2) + (1 : Int32))).1 2 2) then
  ((f_In_numberOfTrailingZeros (pv_uI (pv_uI q1.2 2 3 ((σ.1 2 3) &&& q1.1)) 2 2 (((pv_uI q1.2 2 3 ((σ.1 2 3) &&& q1.1)).1 2 2) + (1 : Int32))) ((pv_uI (pv_uI q1.2 2 3 ((σ.1 2 3) &&& q1.1)) 2 2 (((pv_uI q1.2 2 3 ((σ.1 2 3) &&& q1.1)).1 2 2) + (1 : Int32))).1 2 3)).bind fun q2 =>
((f_Pt_setKind q2.2 q2.1).bind fun q3 =>
some ((5 : Int32), q3)))
  else
  some ((4 : Int32), (pv_uI (pv_uI q1.2 2 3 ((σ.1 2 3) &&& q1.1)) 2 2 (((pv_uI q1.2 2 3 ((σ.1 2 3) &&& q1.1)).1 2 2) + (1 : Int32)))))))
set_option maxHeartbeats 4000000 in
set_option maxRecDepth 100000 in
theorem s_Rd_stateInWord_0 {p : Program} {l : Launch} {e : Env} {R : Room} {s : State} {m : MethodId} {args : Array Value} {below : List Frame} {meth : Method} {c : Code} {Q : State → Prop} {D : va_G} {q : Nat → ClassId} {a t : Nat → Nat} {A : Nat → Prop} (C : pv_C p s m args c prog_5_method_7_code 2 "PatchVoices$Reader" pv_TB D pv_cl (pv_ty q) 52 a A (pv_ZX t A)) (hmv : pv_mv A (pv_ZX t A)) (hRf : 5 ≤ R.frames) (hRl : 108 ≤ R.locals) {out : (Int32 × pv_S)} (hret : pv_Ri p l e R s m args below meth c prog_5_method_7_code D pv_cl 52 a (pv_FX q a) A Q out) {σ : pv_S} {x1 : Int32} {H : Heap} {locs : List Loc} {ls : Array Slot} (hl : lv_has ls 2 [(0, .ref (a 2)), (1, .int x1)]) (hP : pv_W D pv_cl 52 a (pv_FX q a) σ H) (hS : va_S A s.heap H locs) (hf : f_Rd_stateInWord_0 σ x1 = some out) : W p l e R s m args below meth c H locs 0 0 Q (F0 m 0 ls []) := by
  unfold f_Rd_stateInWord_0 at hf
  have hx := C.1
  have hb := C.2.1
  refine lv_aload_n hx hb d_Rd_stateInWord_0 rfl (lv_at hl 0 rfl) ?_
  refine lv_dup hx hb d_Rd_stateInWord_1 rfl ?_
  refine pv_get C hP (v := .int (σ.1 2 3)) (j := 3) (by decide) (fx_2 _ _ _ _) fl_Rd_68 rfl d_Rd_stateInWord_2 ?_
  refine lv_aload_n hx hb d_Rd_stateInWord_5 rfl (lv_at hl 0 rfl) ?_
  refine pv_get C hP (v := .int (σ.1 2 2)) (j := 2) (by decide) (fx_2 _ _ _ _) fl_Rd_59 rfl d_Rd_stateInWord_6 ?_
  refine lv_iload_n hx hb d_Rd_stateInWord_9 rfl (lv_at hl 1 rfl) ?_
  obtain ⟨q1, hc, hf⟩ := pv_b hf
  refine pv_callSi C hmv pv_good hP hS (As := [.int (σ.1 2 2), .int x1]) (rest := [.int (σ.1 2 3), .ref (a 2)]) (c_Kd_withLetter C.2.2.2.2.2.2.1 hmv hc) cs_Rd_87 ⟨rfl, rfl, Nat.le_trans (Nat.le_of_ble_eq_true rfl) hRf, Nat.le_trans (Nat.le_of_ble_eq_true rfl) hRl⟩ rfl hl.1 rfl (Nat.le_of_ble_eq_true rfl) d_Rd_stateInWord_10 ⟨Nat.zero_le _, Nat.zero_le _⟩ (fun H locs hP hS => ?_)
  refine lv_iand hx hb d_Rd_stateInWord_13 ?_
  refine pv_putI C hP hS (x := ((σ.1 2 3) &&& q1.1)) (by decide) (fx_2 _ _ _ _) fw_Rd_68 rfl rfl (Nat.le_of_ble_eq_true rfl) (fxs_2_3 _ _ _ _ _) d_Rd_stateInWord_14 (fun H locs hP hS => ?_)
  refine lv_aload_n hx hb d_Rd_stateInWord_17 rfl (lv_at hl 0 rfl) ?_
  refine lv_dup hx hb d_Rd_stateInWord_18 rfl ?_
  refine pv_get C hP (v := .int ((pv_uI q1.2 2 3 ((σ.1 2 3) &&& q1.1)).1 2 2)) (j := 2) (by decide) (fx_2 _ _ _ _) fl_Rd_59 rfl d_Rd_stateInWord_19 ?_
  refine lv_iconst (v := (1 : Int32)) hx hb d_Rd_stateInWord_22 (by decide) ?_
  refine lv_iadd hx hb d_Rd_stateInWord_23 ?_
  refine pv_putI C hP hS (x := (((pv_uI q1.2 2 3 ((σ.1 2 3) &&& q1.1)).1 2 2) + (1 : Int32))) (by decide) (fx_2 _ _ _ _) fw_Rd_59 rfl rfl (Nat.le_of_ble_eq_true rfl) (fxs_2_2 _ _ _ _ _) d_Rd_stateInWord_24 (fun H locs hP hS => ?_)
  refine lv_aload_n hx hb d_Rd_stateInWord_27 rfl (lv_at hl 0 rfl) ?_
  refine pv_get C hP (v := .int ((pv_uI (pv_uI q1.2 2 3 ((σ.1 2 3) &&& q1.1)) 2 2 (((pv_uI q1.2 2 3 ((σ.1 2 3) &&& q1.1)).1 2 2) + (1 : Int32))).1 2 3)) (j := 3) (by decide) (fx_2 _ _ _ _) fl_Rd_68 rfl d_Rd_stateInWord_28 ?_
  refine lv_if_ne (tgt := 36) hx hb d_Rd_stateInWord_31 (by decide) (fun h => ?_) (fun h => ?_)
  · have hf := pv_f hf h
    refine lv_aload_n hx hb d_Rd_stateInWord_36 rfl (lv_at hl 0 rfl) ?_
    refine pv_get C hP (v := .int ((pv_uI (pv_uI q1.2 2 3 ((σ.1 2 3) &&& q1.1)) 2 2 (((pv_uI q1.2 2 3 ((σ.1 2 3) &&& q1.1)).1 2 2) + (1 : Int32))).1 2 2)) (j := 2) (by decide) (fx_2 _ _ _ _) fl_Rd_59 rfl d_Rd_stateInWord_37 ?_
    refine lv_iconst (v := (3 : Int32)) hx hb d_Rd_stateInWord_40 (by decide) ?_
    refine lv_icmp_ge (tgt := 46) hx hb d_Rd_stateInWord_41 (by decide) (fun h => ?_) (fun h => ?_)
    · have hf := pv_t hf h
      refine lv_aload_n hx hb d_Rd_stateInWord_46 rfl (lv_at hl 0 rfl) ?_
      refine pv_get C hP (v := .ref (a 3)) (j := 0) (by decide) (fx_2 _ _ _ _) fl_Rd_12 rfl d_Rd_stateInWord_47 ?_
      refine lv_aload_n hx hb d_Rd_stateInWord_50 rfl (lv_at hl 0 rfl) ?_
      refine pv_get C hP (v := .int ((pv_uI (pv_uI q1.2 2 3 ((σ.1 2 3) &&& q1.1)) 2 2 (((pv_uI q1.2 2 3 ((σ.1 2 3) &&& q1.1)).1 2 2) + (1 : Int32))).1 2 3)) (j := 3) (by decide) (fx_2 _ _ _ _) fl_Rd_68 rfl d_Rd_stateInWord_51 ?_
      obtain ⟨q2, hc, hf⟩ := pv_b hf
      refine pv_callSi C hmv pv_good hP hS (As := [.int ((pv_uI (pv_uI q1.2 2 3 ((σ.1 2 3) &&& q1.1)) 2 2 (((pv_uI q1.2 2 3 ((σ.1 2 3) &&& q1.1)).1 2 2) + (1 : Int32))).1 2 3)]) (rest := [.ref (a 3)]) (c_In_numberOfTrailingZeros C.2.2.2.2.2.2.1 hmv hc) cs_Rd_91 ⟨rfl, rfl, Nat.le_trans (Nat.le_of_ble_eq_true rfl) hRf, Nat.le_trans (Nat.le_of_ble_eq_true rfl) hRl⟩ rfl hl.1 rfl (Nat.le_of_ble_eq_true rfl) d_Rd_stateInWord_54 ⟨Nat.zero_le _, Nat.zero_le _⟩ (fun H locs hP hS => ?_)
      obtain ⟨q3, hc, hf⟩ := pv_b hf
      refine pv_callVv C hmv pv_good hP hS (As := [.int q2.1]) (rest := []) (by decide) (fx_3 _ _ _ _) rfl (c_Pt_setKind C.2.2.2.2.2.2.1 hmv hc) cv_Rd_96 ⟨rfl, rfl, Nat.le_trans (Nat.le_of_ble_eq_true rfl) hRf, Nat.le_trans (Nat.le_of_ble_eq_true rfl) hRl⟩ rfl hl.1 rfl (Nat.le_of_ble_eq_true rfl) d_Rd_stateInWord_57 ⟨Nat.zero_le _, Nat.zero_le _⟩ (fun H locs hP hS => ?_)
      refine lv_iconst (v := (5 : Int32)) hx hb d_Rd_stateInWord_60 (by decide) ?_
      obtain rfl := Option.some.inj hf
      exact hret _ _ _ _ d_Rd_stateInWord_61 hP hS
    · have hf := pv_f hf h
      refine lv_iconst (v := (4 : Int32)) hx hb d_Rd_stateInWord_44 (by decide) ?_
      obtain rfl := Option.some.inj hf
      exact hret _ _ _ _ d_Rd_stateInWord_45 hP hS
  · have hf := pv_t hf h
    refine lv_iconst (v := (-1 : Int32)) hx hb d_Rd_stateInWord_34 (by decide) ?_
    obtain rfl := Option.some.inj hf
    exact hret _ _ _ _ d_Rd_stateInWord_35 hP hS
def f_Rd_stateInWord (σ : pv_S) (x1 : Int32) : Option (Int32 × pv_S) := f_Rd_stateInWord_0 σ x1
def rm_Rd_stateInWord : Room := { frames := 5, cells := 0, slots := 0, locals := 108 }
theorem c_Rd_stateInWord {l : Launch} {D : va_G} {q : Nat → ClassId} {a t : Nat → Nat} {A : Nat → Prop} (hD : pv_D 52 a A) (hmv : pv_mv A (pv_ZX t A)) {σ : pv_S} {x1 : Int32} {out : (Int32 × pv_S)} (hf : f_Rd_stateInWord σ x1 = some out) : pv_Mi l y_Rd_stateInWord (Cond.code y_Rd_stateInWord prog_5_method_7_code 2 (some .int) :: pv_TB) rm_Rd_stateInWord D pv_cl (pv_ty q) 52 a (pv_FX q a) A (pv_ZX t A) [.ref (a 2), .int x1] σ out :=
  pv_ofI (by decide) (Nat.le_of_ble_eq_true rfl) hD (fun p e s m args below meth c Q ls C hret hl hP => s_Rd_stateInWord_0 C hmv (Nat.le_refl _) (Nat.le_refl _) hret hl hP va_S.rf hf)
theorem d_Rd_stateInCord_0 : decode prog_5_method_6_code 0 = .ok (.aload_n 0, 1) := by decide +kernel
theorem d_Rd_stateInCord_1 : decode prog_5_method_6_code 1 = .ok (.getfield 12, 3) := by decide +kernel
theorem d_Rd_stateInCord_4 : decode prog_5_method_6_code 4 = .ok (.iload_n 1, 1) := by decide +kernel
theorem d_Rd_stateInCord_5 : decode prog_5_method_6_code 5 = .ok (.invokevirtual 84, 3) := by decide +kernel
theorem d_Rd_stateInCord_8 : decode prog_5_method_6_code 8 = .ok (.aload_n 0, 1) := by decide +kernel
theorem d_Rd_stateInCord_9 : decode prog_5_method_6_code 9 = .ok (.dup, 1) := by decide +kernel
theorem d_Rd_stateInCord_10 : decode prog_5_method_6_code 10 = .ok (.getfield 59, 3) := by decide +kernel
theorem d_Rd_stateInCord_13 : decode prog_5_method_6_code 13 = .ok (.iconst 1, 1) := by decide +kernel
theorem d_Rd_stateInCord_14 : decode prog_5_method_6_code 14 = .ok (.iadd, 1) := by decide +kernel
theorem d_Rd_stateInCord_15 : decode prog_5_method_6_code 15 = .ok (.putfield 59, 3) := by decide +kernel
theorem d_Rd_stateInCord_18 : decode prog_5_method_6_code 18 = .ok (.aload_n 0, 1) := by decide +kernel
theorem d_Rd_stateInCord_19 : decode prog_5_method_6_code 19 = .ok (.getfield 59, 3) := by decide +kernel
theorem d_Rd_stateInCord_22 : decode prog_5_method_6_code 22 = .ok (.iconst 4, 1) := by decide +kernel
theorem d_Rd_stateInCord_23 : decode prog_5_method_6_code 23 = .ok (.if_icmp .ge 8, 3) := by decide +kernel
theorem d_Rd_stateInCord_26 : decode prog_5_method_6_code 26 = .ok (.bipush 8, 2) := by decide +kernel
theorem d_Rd_stateInCord_28 : decode prog_5_method_6_code 28 = .ok (.goto 5, 3) := by decide +kernel
theorem d_Rd_stateInCord_31 : decode prog_5_method_6_code 31 = .ok (.bipush 11, 2) := by decide +kernel
theorem d_Rd_stateInCord_33 : decode prog_5_method_6_code 33 = .ok (.ireturn, 1) := by decide +kernel
def f_Rd_stateInCord_0 (σ : pv_S) (x1 : Int32) : Option (Int32 × pv_S) :=
  ((f_Pt_addToCord σ x1).bind fun q1 =>
(if (4 : Int32) ≤ ((pv_uI q1 2 2 ((q1.1 2 2) + (1 : Int32))).1 2 2) then
  some ((11 : Int32), (pv_uI q1 2 2 ((q1.1 2 2) + (1 : Int32))))
  else
  some ((8 : Int32), (pv_uI q1 2 2 ((q1.1 2 2) + (1 : Int32))))))
set_option maxHeartbeats 4000000 in
set_option maxRecDepth 100000 in
theorem s_Rd_stateInCord_0 {p : Program} {l : Launch} {e : Env} {R : Room} {s : State} {m : MethodId} {args : Array Value} {below : List Frame} {meth : Method} {c : Code} {Q : State → Prop} {D : va_G} {q : Nat → ClassId} {a t : Nat → Nat} {A : Nat → Prop} (C : pv_C p s m args c prog_5_method_6_code 2 "PatchVoices$Reader" pv_TB D pv_cl (pv_ty q) 52 a A (pv_ZX t A)) (hmv : pv_mv A (pv_ZX t A)) (hRf : 2 ≤ R.frames) (hRl : 43 ≤ R.locals) {out : (Int32 × pv_S)} (hret : pv_Ri p l e R s m args below meth c prog_5_method_6_code D pv_cl 52 a (pv_FX q a) A Q out) {σ : pv_S} {x1 : Int32} {H : Heap} {locs : List Loc} {ls : Array Slot} (hl : lv_has ls 2 [(0, .ref (a 2)), (1, .int x1)]) (hP : pv_W D pv_cl 52 a (pv_FX q a) σ H) (hS : va_S A s.heap H locs) (hf : f_Rd_stateInCord_0 σ x1 = some out) : W p l e R s m args below meth c H locs 0 0 Q (F0 m 0 ls []) := by
  unfold f_Rd_stateInCord_0 at hf
  have hx := C.1
  have hb := C.2.1
  refine lv_aload_n hx hb d_Rd_stateInCord_0 rfl (lv_at hl 0 rfl) ?_
  refine pv_get C hP (v := .ref (a 3)) (j := 0) (by decide) (fx_2 _ _ _ _) fl_Rd_12 rfl d_Rd_stateInCord_1 ?_
  refine lv_iload_n hx hb d_Rd_stateInCord_4 rfl (lv_at hl 1 rfl) ?_
  obtain ⟨q1, hc, hf⟩ := pv_b hf
  refine pv_callVv C hmv pv_good hP hS (As := [.int x1]) (rest := []) (by decide) (fx_3 _ _ _ _) rfl (c_Pt_addToCord C.2.2.2.2.2.2.1 hmv hc) cv_Rd_84 ⟨rfl, rfl, Nat.le_trans (Nat.le_of_ble_eq_true rfl) hRf, Nat.le_trans (Nat.le_of_ble_eq_true rfl) hRl⟩ rfl hl.1 rfl (Nat.le_of_ble_eq_true rfl) d_Rd_stateInCord_5 ⟨Nat.zero_le _, Nat.zero_le _⟩ (fun H locs hP hS => ?_)
  refine lv_aload_n hx hb d_Rd_stateInCord_8 rfl (lv_at hl 0 rfl) ?_
  refine lv_dup hx hb d_Rd_stateInCord_9 rfl ?_
  refine pv_get C hP (v := .int (q1.1 2 2)) (j := 2) (by decide) (fx_2 _ _ _ _) fl_Rd_59 rfl d_Rd_stateInCord_10 ?_
  refine lv_iconst (v := (1 : Int32)) hx hb d_Rd_stateInCord_13 (by decide) ?_
  refine lv_iadd hx hb d_Rd_stateInCord_14 ?_
  refine pv_putI C hP hS (x := ((q1.1 2 2) + (1 : Int32))) (by decide) (fx_2 _ _ _ _) fw_Rd_59 rfl rfl (Nat.le_of_ble_eq_true rfl) (fxs_2_2 _ _ _ _ _) d_Rd_stateInCord_15 (fun H locs hP hS => ?_)
  refine lv_aload_n hx hb d_Rd_stateInCord_18 rfl (lv_at hl 0 rfl) ?_
  refine pv_get C hP (v := .int ((pv_uI q1 2 2 ((q1.1 2 2) + (1 : Int32))).1 2 2)) (j := 2) (by decide) (fx_2 _ _ _ _) fl_Rd_59 rfl d_Rd_stateInCord_19 ?_
  refine lv_iconst (v := (4 : Int32)) hx hb d_Rd_stateInCord_22 (by decide) ?_
  refine lv_icmp_ge (tgt := 31) hx hb d_Rd_stateInCord_23 (by decide) (fun h => ?_) (fun h => ?_)
  · have hf := pv_t hf h
    refine lv_bipush (v := (11 : Int32)) hx hb d_Rd_stateInCord_31 (by decide) ?_
    obtain rfl := Option.some.inj hf
    exact hret _ _ _ _ d_Rd_stateInCord_33 hP hS
  · have hf := pv_f hf h
    refine lv_bipush (v := (8 : Int32)) hx hb d_Rd_stateInCord_26 (by decide) ?_
    refine lv_goto (tgt := 33) hx hb d_Rd_stateInCord_28 (by decide) ?_
    obtain rfl := Option.some.inj hf
    exact hret _ _ _ _ d_Rd_stateInCord_33 hP hS
def f_Rd_stateInCord (σ : pv_S) (x1 : Int32) : Option (Int32 × pv_S) := f_Rd_stateInCord_0 σ x1
def rm_Rd_stateInCord : Room := { frames := 2, cells := 0, slots := 0, locals := 43 }
theorem c_Rd_stateInCord {l : Launch} {D : va_G} {q : Nat → ClassId} {a t : Nat → Nat} {A : Nat → Prop} (hD : pv_D 52 a A) (hmv : pv_mv A (pv_ZX t A)) {σ : pv_S} {x1 : Int32} {out : (Int32 × pv_S)} (hf : f_Rd_stateInCord σ x1 = some out) : pv_Mi l y_Rd_stateInCord (Cond.code y_Rd_stateInCord prog_5_method_6_code 2 (some .int) :: pv_TB) rm_Rd_stateInCord D pv_cl (pv_ty q) 52 a (pv_FX q a) A (pv_ZX t A) [.ref (a 2), .int x1] σ out :=
  pv_ofI (by decide) (Nat.le_of_ble_eq_true rfl) hD (fun p e s m args below meth c Q ls C hret hl hP => s_Rd_stateInCord_0 C hmv (Nat.le_refl _) (Nat.le_refl _) hret hl hP va_S.rf hf)
theorem d_Rd_stateAfterLetter_0 : decode prog_5_method_4_code 0 = .ok (.aload_n 0, 1) := by decide +kernel
theorem d_Rd_stateAfterLetter_1 : decode prog_5_method_4_code 1 = .ok (.getfield 21, 3) := by decide +kernel
theorem d_Rd_stateAfterLetter_4 : decode prog_5_method_4_code 4 = .ok (.tableswitch 123 (0) (8) #[52, 70, 123, 76, 93, 123, 99, 99, 117], 52) := by decide +kernel
theorem d_Rd_stateAfterLetter_56 : decode prog_5_method_4_code 56 = .ok (.aload_n 0, 1) := by decide +kernel
theorem d_Rd_stateAfterLetter_57 : decode prog_5_method_4_code 57 = .ok (.getfield 12, 3) := by decide +kernel
theorem d_Rd_stateAfterLetter_60 : decode prog_5_method_4_code 60 = .ok (.invokevirtual 56, 3) := by decide +kernel
theorem d_Rd_stateAfterLetter_63 : decode prog_5_method_4_code 63 = .ok (.aload_n 0, 1) := by decide +kernel
theorem d_Rd_stateAfterLetter_64 : decode prog_5_method_4_code 64 = .ok (.iconst 0, 1) := by decide +kernel
theorem d_Rd_stateAfterLetter_65 : decode prog_5_method_4_code 65 = .ok (.putfield 59, 3) := by decide +kernel
theorem d_Rd_stateAfterLetter_68 : decode prog_5_method_4_code 68 = .ok (.aload_n 0, 1) := by decide +kernel
theorem d_Rd_stateAfterLetter_69 : decode prog_5_method_4_code 69 = .ok (.iload_n 1, 1) := by decide +kernel
theorem d_Rd_stateAfterLetter_70 : decode prog_5_method_4_code 70 = .ok (.invokevirtual 62, 3) := by decide +kernel
theorem d_Rd_stateAfterLetter_73 : decode prog_5_method_4_code 73 = .ok (.ireturn, 1) := by decide +kernel
theorem d_Rd_stateAfterLetter_74 : decode prog_5_method_4_code 74 = .ok (.aload_n 0, 1) := by decide +kernel
theorem d_Rd_stateAfterLetter_75 : decode prog_5_method_4_code 75 = .ok (.iload_n 1, 1) := by decide +kernel
theorem d_Rd_stateAfterLetter_76 : decode prog_5_method_4_code 76 = .ok (.invokevirtual 62, 3) := by decide +kernel
theorem d_Rd_stateAfterLetter_79 : decode prog_5_method_4_code 79 = .ok (.ireturn, 1) := by decide +kernel
theorem d_Rd_stateAfterLetter_80 : decode prog_5_method_4_code 80 = .ok (.aload_n 0, 1) := by decide +kernel
theorem d_Rd_stateAfterLetter_81 : decode prog_5_method_4_code 81 = .ok (.iconst 0, 1) := by decide +kernel
theorem d_Rd_stateAfterLetter_82 : decode prog_5_method_4_code 82 = .ok (.putfield 59, 3) := by decide +kernel
theorem d_Rd_stateAfterLetter_85 : decode prog_5_method_4_code 85 = .ok (.aload_n 0, 1) := by decide +kernel
theorem d_Rd_stateAfterLetter_86 : decode prog_5_method_4_code 86 = .ok (.ldc 67, 2) := by decide +kernel
theorem d_Rd_stateAfterLetter_88 : decode prog_5_method_4_code 88 = .ok (.putfield 68, 3) := by decide +kernel
theorem d_Rd_stateAfterLetter_91 : decode prog_5_method_4_code 91 = .ok (.aload_n 0, 1) := by decide +kernel
theorem d_Rd_stateAfterLetter_92 : decode prog_5_method_4_code 92 = .ok (.iload_n 1, 1) := by decide +kernel
theorem d_Rd_stateAfterLetter_93 : decode prog_5_method_4_code 93 = .ok (.invokevirtual 71, 3) := by decide +kernel
theorem d_Rd_stateAfterLetter_96 : decode prog_5_method_4_code 96 = .ok (.ireturn, 1) := by decide +kernel
theorem d_Rd_stateAfterLetter_97 : decode prog_5_method_4_code 97 = .ok (.aload_n 0, 1) := by decide +kernel
theorem d_Rd_stateAfterLetter_98 : decode prog_5_method_4_code 98 = .ok (.iload_n 1, 1) := by decide +kernel
theorem d_Rd_stateAfterLetter_99 : decode prog_5_method_4_code 99 = .ok (.invokevirtual 71, 3) := by decide +kernel
theorem d_Rd_stateAfterLetter_102 : decode prog_5_method_4_code 102 = .ok (.ireturn, 1) := by decide +kernel
theorem d_Rd_stateAfterLetter_103 : decode prog_5_method_4_code 103 = .ok (.aload_n 0, 1) := by decide +kernel
theorem d_Rd_stateAfterLetter_104 : decode prog_5_method_4_code 104 = .ok (.getfield 12, 3) := by decide +kernel
theorem d_Rd_stateAfterLetter_107 : decode prog_5_method_4_code 107 = .ok (.invokevirtual 74, 3) := by decide +kernel
theorem d_Rd_stateAfterLetter_110 : decode prog_5_method_4_code 110 = .ok (.aload_n 0, 1) := by decide +kernel
theorem d_Rd_stateAfterLetter_111 : decode prog_5_method_4_code 111 = .ok (.iconst 0, 1) := by decide +kernel
theorem d_Rd_stateAfterLetter_112 : decode prog_5_method_4_code 112 = .ok (.putfield 59, 3) := by decide +kernel
theorem d_Rd_stateAfterLetter_115 : decode prog_5_method_4_code 115 = .ok (.aload_n 0, 1) := by decide +kernel
theorem d_Rd_stateAfterLetter_116 : decode prog_5_method_4_code 116 = .ok (.iload_n 1, 1) := by decide +kernel
theorem d_Rd_stateAfterLetter_117 : decode prog_5_method_4_code 117 = .ok (.invokevirtual 77, 3) := by decide +kernel
theorem d_Rd_stateAfterLetter_120 : decode prog_5_method_4_code 120 = .ok (.ireturn, 1) := by decide +kernel
theorem d_Rd_stateAfterLetter_121 : decode prog_5_method_4_code 121 = .ok (.aload_n 0, 1) := by decide +kernel
theorem d_Rd_stateAfterLetter_122 : decode prog_5_method_4_code 122 = .ok (.iload_n 1, 1) := by decide +kernel
theorem d_Rd_stateAfterLetter_123 : decode prog_5_method_4_code 123 = .ok (.invokevirtual 77, 3) := by decide +kernel
theorem d_Rd_stateAfterLetter_126 : decode prog_5_method_4_code 126 = .ok (.ireturn, 1) := by decide +kernel
theorem d_Rd_stateAfterLetter_127 : decode prog_5_method_4_code 127 = .ok (.iconst (-1), 1) := by decide +kernel
theorem d_Rd_stateAfterLetter_128 : decode prog_5_method_4_code 128 = .ok (.ireturn, 1) := by decide +kernel
def f_Rd_stateAfterLetter_0 (σ : pv_S) (x1 : Int32) : Option (Int32 × pv_S) :=
  (if (σ.1 2 1) = (0 : Int32) then
  ((f_Pt_addModule σ).bind fun q1 =>
((f_Rd_stateInName (pv_uI q1 2 2 (0 : Int32)) x1).bind fun q2 =>
some (q2.1, q2.2)))
  else
(if (σ.1 2 1) = (1 : Int32) then
  ((f_Rd_stateInName σ x1).bind fun q3 =>
some (q3.1, q3.2))
  else
(if (σ.1 2 1) = (2 : Int32) then
  some ((-1 : Int32), σ)
  else
(if (σ.1 2 1) = (3 : Int32) then
  ((f_Rd_stateInWord (pv_uI (pv_uI σ 2 2 (0 : Int32)) 2 3 (1048575 : Int32)) x1).bind fun q4 =>
some (q4.1, q4.2))
  else
(if (σ.1 2 1) = (4 : Int32) then
  ((f_Rd_stateInWord σ x1).bind fun q5 =>
some (q5.1, q5.2))
  else
(if (σ.1 2 1) = (5 : Int32) then
  some ((-1 : Int32), σ)
  else
(if (σ.1 2 1) = (6 : Int32) then
  ((f_Pt_addInput σ).bind fun q6 =>
((f_Rd_stateInCord (pv_uI q6 2 2 (0 : Int32)) x1).bind fun q7 =>
some (q7.1, q7.2)))
  else
(if (σ.1 2 1) = (7 : Int32) then
  ((f_Pt_addInput σ).bind fun q8 =>
((f_Rd_stateInCord (pv_uI q8 2 2 (0 : Int32)) x1).bind fun q9 =>
some (q9.1, q9.2)))
  else
(if (σ.1 2 1) = (8 : Int32) then
  ((f_Rd_stateInCord σ x1).bind fun q10 =>
some (q10.1, q10.2))
  else
  some ((-1 : Int32), σ))))))))))
set_option maxHeartbeats 4000000 in
set_option maxRecDepth 100000 in
theorem s_Rd_stateAfterLetter_0 {p : Program} {l : Launch} {e : Env} {R : Room} {s : State} {m : MethodId} {args : Array Value} {below : List Frame} {meth : Method} {c : Code} {Q : State → Prop} {D : va_G} {q : Nat → ClassId} {a t : Nat → Nat} {A : Nat → Prop} (C : pv_C p s m args c prog_5_method_4_code 2 "PatchVoices$Reader" pv_TB D pv_cl (pv_ty q) 52 a A (pv_ZX t A)) (hmv : pv_mv A (pv_ZX t A)) (hRf : 6 ≤ R.frames) (hRl : 129 ≤ R.locals) {out : (Int32 × pv_S)} (hret : pv_Ri p l e R s m args below meth c prog_5_method_4_code D pv_cl 52 a (pv_FX q a) A Q out) {σ : pv_S} {x1 : Int32} {H : Heap} {locs : List Loc} {ls : Array Slot} (hl : lv_has ls 2 [(0, .ref (a 2)), (1, .int x1)]) (hP : pv_W D pv_cl 52 a (pv_FX q a) σ H) (hS : va_S A s.heap H locs) (hf : f_Rd_stateAfterLetter_0 σ x1 = some out) : W p l e R s m args below meth c H locs 0 0 Q (F0 m 0 ls []) := by
  unfold f_Rd_stateAfterLetter_0 at hf
  have hx := C.1
  have hb := C.2.1
  refine lv_aload_n hx hb d_Rd_stateAfterLetter_0 rfl (lv_at hl 0 rfl) ?_
  refine pv_get C hP (v := .int (σ.1 2 1)) (j := 1) (by decide) (fx_2 _ _ _ _) fl_Rd_21 rfl d_Rd_stateAfterLetter_1 ?_
  by_cases h0 : (σ.1 2 1) = (0 : Int32)
  · have hf := pv_t hf h0
    refine lv_tableIn (tgt := 56) hx hb d_Rd_stateAfterLetter_4 (by rw [h0]; decide) (by rw [h0]; decide) (by first | (rw [h0]; done) | (rw [h0]; rfl)) (by decide) ?_
    refine lv_aload_n hx hb d_Rd_stateAfterLetter_56 rfl (lv_at hl 0 rfl) ?_
    refine pv_get C hP (v := .ref (a 3)) (j := 0) (by decide) (fx_2 _ _ _ _) fl_Rd_12 rfl d_Rd_stateAfterLetter_57 ?_
    obtain ⟨q1, hc, hf⟩ := pv_b hf
    refine pv_callVv C hmv pv_good hP hS (As := []) (rest := []) (by decide) (fx_3 _ _ _ _) rfl (c_Pt_addModule C.2.2.2.2.2.2.1 hmv hc) cv_Rd_56 ⟨rfl, rfl, Nat.le_trans (Nat.le_of_ble_eq_true rfl) hRf, Nat.le_trans (Nat.le_of_ble_eq_true rfl) hRl⟩ rfl hl.1 rfl (Nat.le_of_ble_eq_true rfl) d_Rd_stateAfterLetter_60 ⟨Nat.zero_le _, Nat.zero_le _⟩ (fun H locs hP hS => ?_)
    refine lv_aload_n hx hb d_Rd_stateAfterLetter_63 rfl (lv_at hl 0 rfl) ?_
    refine lv_iconst (v := (0 : Int32)) hx hb d_Rd_stateAfterLetter_64 (by decide) ?_
    refine pv_putI C hP hS (x := (0 : Int32)) (by decide) (fx_2 _ _ _ _) fw_Rd_59 rfl rfl (Nat.le_of_ble_eq_true rfl) (fxs_2_2 _ _ _ _ _) d_Rd_stateAfterLetter_65 (fun H locs hP hS => ?_)
    refine lv_aload_n hx hb d_Rd_stateAfterLetter_68 rfl (lv_at hl 0 rfl) ?_
    refine lv_iload_n hx hb d_Rd_stateAfterLetter_69 rfl (lv_at hl 1 rfl) ?_
    obtain ⟨q2, hc, hf⟩ := pv_b hf
    refine pv_callVi C hmv pv_good hP hS (As := [.int x1]) (rest := []) (by decide) (fx_2 _ _ _ _) rfl (c_Rd_stateInName C.2.2.2.2.2.2.1 hmv hc) cv_Rd_62 ⟨rfl, rfl, Nat.le_trans (Nat.le_of_ble_eq_true rfl) hRf, Nat.le_trans (Nat.le_of_ble_eq_true rfl) hRl⟩ rfl hl.1 rfl (Nat.le_of_ble_eq_true rfl) d_Rd_stateAfterLetter_70 ⟨Nat.zero_le _, Nat.zero_le _⟩ (fun H locs hP hS => ?_)
    obtain rfl := Option.some.inj hf
    exact hret _ _ _ _ d_Rd_stateAfterLetter_73 hP hS
  · have hf := pv_f hf h0
    by_cases h1 : (σ.1 2 1) = (1 : Int32)
    · have hf := pv_t hf h1
      refine lv_tableIn (tgt := 74) hx hb d_Rd_stateAfterLetter_4 (by rw [h1]; decide) (by rw [h1]; decide) (by first | (rw [h1]; done) | (rw [h1]; rfl)) (by decide) ?_
      refine lv_aload_n hx hb d_Rd_stateAfterLetter_74 rfl (lv_at hl 0 rfl) ?_
      refine lv_iload_n hx hb d_Rd_stateAfterLetter_75 rfl (lv_at hl 1 rfl) ?_
      obtain ⟨q3, hc, hf⟩ := pv_b hf
      refine pv_callVi C hmv pv_good hP hS (As := [.int x1]) (rest := []) (by decide) (fx_2 _ _ _ _) rfl (c_Rd_stateInName C.2.2.2.2.2.2.1 hmv hc) cv_Rd_62 ⟨rfl, rfl, Nat.le_trans (Nat.le_of_ble_eq_true rfl) hRf, Nat.le_trans (Nat.le_of_ble_eq_true rfl) hRl⟩ rfl hl.1 rfl (Nat.le_of_ble_eq_true rfl) d_Rd_stateAfterLetter_76 ⟨Nat.zero_le _, Nat.zero_le _⟩ (fun H locs hP hS => ?_)
      obtain rfl := Option.some.inj hf
      exact hret _ _ _ _ d_Rd_stateAfterLetter_79 hP hS
    · have hf := pv_f hf h1
      by_cases h2 : (σ.1 2 1) = (2 : Int32)
      · have hf := pv_t hf h2
        refine lv_tableIn (tgt := 127) hx hb d_Rd_stateAfterLetter_4 (by rw [h2]; decide) (by rw [h2]; decide) (by first | (rw [h2]; done) | (rw [h2]; rfl)) (by decide) ?_
        refine lv_iconst (v := (-1 : Int32)) hx hb d_Rd_stateAfterLetter_127 (by decide) ?_
        obtain rfl := Option.some.inj hf
        exact hret _ _ _ _ d_Rd_stateAfterLetter_128 hP hS
      · have hf := pv_f hf h2
        by_cases h3 : (σ.1 2 1) = (3 : Int32)
        · have hf := pv_t hf h3
          refine lv_tableIn (tgt := 80) hx hb d_Rd_stateAfterLetter_4 (by rw [h3]; decide) (by rw [h3]; decide) (by first | (rw [h3]; done) | (rw [h3]; rfl)) (by decide) ?_
          refine lv_aload_n hx hb d_Rd_stateAfterLetter_80 rfl (lv_at hl 0 rfl) ?_
          refine lv_iconst (v := (0 : Int32)) hx hb d_Rd_stateAfterLetter_81 (by decide) ?_
          refine pv_putI C hP hS (x := (0 : Int32)) (by decide) (fx_2 _ _ _ _) fw_Rd_59 rfl rfl (Nat.le_of_ble_eq_true rfl) (fxs_2_2 _ _ _ _ _) d_Rd_stateAfterLetter_82 (fun H locs hP hS => ?_)
          refine lv_aload_n hx hb d_Rd_stateAfterLetter_85 rfl (lv_at hl 0 rfl) ?_
          refine lv_ldc (v := (1048575 : Int32)) hx hb C.2.2.2.1 (C.2.2.2.2.1 _ w_431) d_Rd_stateAfterLetter_86 ?_
          refine pv_putI C hP hS (x := (1048575 : Int32)) (by decide) (fx_2 _ _ _ _) fw_Rd_68 rfl rfl (Nat.le_of_ble_eq_true rfl) (fxs_2_3 _ _ _ _ _) d_Rd_stateAfterLetter_88 (fun H locs hP hS => ?_)
          refine lv_aload_n hx hb d_Rd_stateAfterLetter_91 rfl (lv_at hl 0 rfl) ?_
          refine lv_iload_n hx hb d_Rd_stateAfterLetter_92 rfl (lv_at hl 1 rfl) ?_
          obtain ⟨q4, hc, hf⟩ := pv_b hf
          refine pv_callVi C hmv pv_good hP hS (As := [.int x1]) (rest := []) (by decide) (fx_2 _ _ _ _) rfl (c_Rd_stateInWord C.2.2.2.2.2.2.1 hmv hc) cv_Rd_71 ⟨rfl, rfl, Nat.le_trans (Nat.le_of_ble_eq_true rfl) hRf, Nat.le_trans (Nat.le_of_ble_eq_true rfl) hRl⟩ rfl hl.1 rfl (Nat.le_of_ble_eq_true rfl) d_Rd_stateAfterLetter_93 ⟨Nat.zero_le _, Nat.zero_le _⟩ (fun H locs hP hS => ?_)
          obtain rfl := Option.some.inj hf
          exact hret _ _ _ _ d_Rd_stateAfterLetter_96 hP hS
        · have hf := pv_f hf h3
          by_cases h4 : (σ.1 2 1) = (4 : Int32)
          · have hf := pv_t hf h4
            refine lv_tableIn (tgt := 97) hx hb d_Rd_stateAfterLetter_4 (by rw [h4]; decide) (by rw [h4]; decide) (by first | (rw [h4]; done) | (rw [h4]; rfl)) (by decide) ?_
            refine lv_aload_n hx hb d_Rd_stateAfterLetter_97 rfl (lv_at hl 0 rfl) ?_
            refine lv_iload_n hx hb d_Rd_stateAfterLetter_98 rfl (lv_at hl 1 rfl) ?_
            obtain ⟨q5, hc, hf⟩ := pv_b hf
            refine pv_callVi C hmv pv_good hP hS (As := [.int x1]) (rest := []) (by decide) (fx_2 _ _ _ _) rfl (c_Rd_stateInWord C.2.2.2.2.2.2.1 hmv hc) cv_Rd_71 ⟨rfl, rfl, Nat.le_trans (Nat.le_of_ble_eq_true rfl) hRf, Nat.le_trans (Nat.le_of_ble_eq_true rfl) hRl⟩ rfl hl.1 rfl (Nat.le_of_ble_eq_true rfl) d_Rd_stateAfterLetter_99 ⟨Nat.zero_le _, Nat.zero_le _⟩ (fun H locs hP hS => ?_)
            obtain rfl := Option.some.inj hf
            exact hret _ _ _ _ d_Rd_stateAfterLetter_102 hP hS
          · have hf := pv_f hf h4
            by_cases h5 : (σ.1 2 1) = (5 : Int32)
            · have hf := pv_t hf h5
              refine lv_tableIn (tgt := 127) hx hb d_Rd_stateAfterLetter_4 (by rw [h5]; decide) (by rw [h5]; decide) (by first | (rw [h5]; done) | (rw [h5]; rfl)) (by decide) ?_
              refine lv_iconst (v := (-1 : Int32)) hx hb d_Rd_stateAfterLetter_127 (by decide) ?_
              obtain rfl := Option.some.inj hf
              exact hret _ _ _ _ d_Rd_stateAfterLetter_128 hP hS
            · have hf := pv_f hf h5
              by_cases h6 : (σ.1 2 1) = (6 : Int32)
              · have hf := pv_t hf h6
                refine lv_tableIn (tgt := 103) hx hb d_Rd_stateAfterLetter_4 (by rw [h6]; decide) (by rw [h6]; decide) (by first | (rw [h6]; done) | (rw [h6]; rfl)) (by decide) ?_
                refine lv_aload_n hx hb d_Rd_stateAfterLetter_103 rfl (lv_at hl 0 rfl) ?_
                refine pv_get C hP (v := .ref (a 3)) (j := 0) (by decide) (fx_2 _ _ _ _) fl_Rd_12 rfl d_Rd_stateAfterLetter_104 ?_
                obtain ⟨q6, hc, hf⟩ := pv_b hf
                refine pv_callVv C hmv pv_good hP hS (As := []) (rest := []) (by decide) (fx_3 _ _ _ _) rfl (c_Pt_addInput C.2.2.2.2.2.2.1 hmv hc) cv_Rd_74 ⟨rfl, rfl, Nat.le_trans (Nat.le_of_ble_eq_true rfl) hRf, Nat.le_trans (Nat.le_of_ble_eq_true rfl) hRl⟩ rfl hl.1 rfl (Nat.le_of_ble_eq_true rfl) d_Rd_stateAfterLetter_107 ⟨Nat.zero_le _, Nat.zero_le _⟩ (fun H locs hP hS => ?_)
                refine lv_aload_n hx hb d_Rd_stateAfterLetter_110 rfl (lv_at hl 0 rfl) ?_
                refine lv_iconst (v := (0 : Int32)) hx hb d_Rd_stateAfterLetter_111 (by decide) ?_
                refine pv_putI C hP hS (x := (0 : Int32)) (by decide) (fx_2 _ _ _ _) fw_Rd_59 rfl rfl (Nat.le_of_ble_eq_true rfl) (fxs_2_2 _ _ _ _ _) d_Rd_stateAfterLetter_112 (fun H locs hP hS => ?_)
                refine lv_aload_n hx hb d_Rd_stateAfterLetter_115 rfl (lv_at hl 0 rfl) ?_
                refine lv_iload_n hx hb d_Rd_stateAfterLetter_116 rfl (lv_at hl 1 rfl) ?_
                obtain ⟨q7, hc, hf⟩ := pv_b hf
                refine pv_callVi C hmv pv_good hP hS (As := [.int x1]) (rest := []) (by decide) (fx_2 _ _ _ _) rfl (c_Rd_stateInCord C.2.2.2.2.2.2.1 hmv hc) cv_Rd_77 ⟨rfl, rfl, Nat.le_trans (Nat.le_of_ble_eq_true rfl) hRf, Nat.le_trans (Nat.le_of_ble_eq_true rfl) hRl⟩ rfl hl.1 rfl (Nat.le_of_ble_eq_true rfl) d_Rd_stateAfterLetter_117 ⟨Nat.zero_le _, Nat.zero_le _⟩ (fun H locs hP hS => ?_)
                obtain rfl := Option.some.inj hf
                exact hret _ _ _ _ d_Rd_stateAfterLetter_120 hP hS
              · have hf := pv_f hf h6
                by_cases h7 : (σ.1 2 1) = (7 : Int32)
                · have hf := pv_t hf h7
                  refine lv_tableIn (tgt := 103) hx hb d_Rd_stateAfterLetter_4 (by rw [h7]; decide) (by rw [h7]; decide) (by first | (rw [h7]; done) | (rw [h7]; rfl)) (by decide) ?_
                  refine lv_aload_n hx hb d_Rd_stateAfterLetter_103 rfl (lv_at hl 0 rfl) ?_
                  refine pv_get C hP (v := .ref (a 3)) (j := 0) (by decide) (fx_2 _ _ _ _) fl_Rd_12 rfl d_Rd_stateAfterLetter_104 ?_
                  obtain ⟨q8, hc, hf⟩ := pv_b hf
                  refine pv_callVv C hmv pv_good hP hS (As := []) (rest := []) (by decide) (fx_3 _ _ _ _) rfl (c_Pt_addInput C.2.2.2.2.2.2.1 hmv hc) cv_Rd_74 ⟨rfl, rfl, Nat.le_trans (Nat.le_of_ble_eq_true rfl) hRf, Nat.le_trans (Nat.le_of_ble_eq_true rfl) hRl⟩ rfl hl.1 rfl (Nat.le_of_ble_eq_true rfl) d_Rd_stateAfterLetter_107 ⟨Nat.zero_le _, Nat.zero_le _⟩ (fun H locs hP hS => ?_)
                  refine lv_aload_n hx hb d_Rd_stateAfterLetter_110 rfl (lv_at hl 0 rfl) ?_
                  refine lv_iconst (v := (0 : Int32)) hx hb d_Rd_stateAfterLetter_111 (by decide) ?_
                  refine pv_putI C hP hS (x := (0 : Int32)) (by decide) (fx_2 _ _ _ _) fw_Rd_59 rfl rfl (Nat.le_of_ble_eq_true rfl) (fxs_2_2 _ _ _ _ _) d_Rd_stateAfterLetter_112 (fun H locs hP hS => ?_)
                  refine lv_aload_n hx hb d_Rd_stateAfterLetter_115 rfl (lv_at hl 0 rfl) ?_
                  refine lv_iload_n hx hb d_Rd_stateAfterLetter_116 rfl (lv_at hl 1 rfl) ?_
                  obtain ⟨q9, hc, hf⟩ := pv_b hf
                  refine pv_callVi C hmv pv_good hP hS (As := [.int x1]) (rest := []) (by decide) (fx_2 _ _ _ _) rfl (c_Rd_stateInCord C.2.2.2.2.2.2.1 hmv hc) cv_Rd_77 ⟨rfl, rfl, Nat.le_trans (Nat.le_of_ble_eq_true rfl) hRf, Nat.le_trans (Nat.le_of_ble_eq_true rfl) hRl⟩ rfl hl.1 rfl (Nat.le_of_ble_eq_true rfl) d_Rd_stateAfterLetter_117 ⟨Nat.zero_le _, Nat.zero_le _⟩ (fun H locs hP hS => ?_)
                  obtain rfl := Option.some.inj hf
                  exact hret _ _ _ _ d_Rd_stateAfterLetter_120 hP hS
                · have hf := pv_f hf h7
                  by_cases h8 : (σ.1 2 1) = (8 : Int32)
                  · have hf := pv_t hf h8
                    refine lv_tableIn (tgt := 121) hx hb d_Rd_stateAfterLetter_4 (by rw [h8]; decide) (by rw [h8]; decide) (by first | (rw [h8]; done) | (rw [h8]; rfl)) (by decide) ?_
                    refine lv_aload_n hx hb d_Rd_stateAfterLetter_121 rfl (lv_at hl 0 rfl) ?_
                    refine lv_iload_n hx hb d_Rd_stateAfterLetter_122 rfl (lv_at hl 1 rfl) ?_
                    obtain ⟨q10, hc, hf⟩ := pv_b hf
                    refine pv_callVi C hmv pv_good hP hS (As := [.int x1]) (rest := []) (by decide) (fx_2 _ _ _ _) rfl (c_Rd_stateInCord C.2.2.2.2.2.2.1 hmv hc) cv_Rd_77 ⟨rfl, rfl, Nat.le_trans (Nat.le_of_ble_eq_true rfl) hRf, Nat.le_trans (Nat.le_of_ble_eq_true rfl) hRl⟩ rfl hl.1 rfl (Nat.le_of_ble_eq_true rfl) d_Rd_stateAfterLetter_123 ⟨Nat.zero_le _, Nat.zero_le _⟩ (fun H locs hP hS => ?_)
                    obtain rfl := Option.some.inj hf
                    exact hret _ _ _ _ d_Rd_stateAfterLetter_126 hP hS
                  · have hf := pv_f hf h8
                    refine lv_tableOut (tgt := 127) hx hb d_Rd_stateAfterLetter_4 (by have z0 := lv_neT h0 (a := 0) (by decide); have z1 := lv_neT h1 (a := 1) (by decide); have z2 := lv_neT h2 (a := 2) (by decide); have z3 := lv_neT h3 (a := 3) (by decide); have z4 := lv_neT h4 (a := 4) (by decide); have z5 := lv_neT h5 (a := 5) (by decide); have z6 := lv_neT h6 (a := 6) (by decide); have z7 := lv_neT h7 (a := 7) (by decide); have z8 := lv_neT h8 (a := 8) (by decide); omega) (by decide) ?_
                    refine lv_iconst (v := (-1 : Int32)) hx hb d_Rd_stateAfterLetter_127 (by decide) ?_
                    obtain rfl := Option.some.inj hf
                    exact hret _ _ _ _ d_Rd_stateAfterLetter_128 hP hS
def f_Rd_stateAfterLetter (σ : pv_S) (x1 : Int32) : Option (Int32 × pv_S) := f_Rd_stateAfterLetter_0 σ x1
def rm_Rd_stateAfterLetter : Room := { frames := 6, cells := 0, slots := 0, locals := 129 }
theorem c_Rd_stateAfterLetter {l : Launch} {D : va_G} {q : Nat → ClassId} {a t : Nat → Nat} {A : Nat → Prop} (hD : pv_D 52 a A) (hmv : pv_mv A (pv_ZX t A)) {σ : pv_S} {x1 : Int32} {out : (Int32 × pv_S)} (hf : f_Rd_stateAfterLetter σ x1 = some out) : pv_Mi l y_Rd_stateAfterLetter (Cond.code y_Rd_stateAfterLetter prog_5_method_4_code 2 (some .int) :: pv_TB) rm_Rd_stateAfterLetter D pv_cl (pv_ty q) 52 a (pv_FX q a) A (pv_ZX t A) [.ref (a 2), .int x1] σ out :=
  pv_ofI (by decide) (Nat.le_of_ble_eq_true rfl) hD (fun p e s m args below meth c Q ls C hret hl hP => s_Rd_stateAfterLetter_0 C hmv (Nat.le_refl _) (Nat.le_refl _) hret hl hP va_S.rf hf)
theorem d_Rd_stateInNumber_0 : decode prog_5_method_9_code 0 = .ok (.aload_n 0, 1) := by decide +kernel
theorem d_Rd_stateInNumber_1 : decode prog_5_method_9_code 1 = .ok (.getfield 12, 3) := by decide +kernel
theorem d_Rd_stateInNumber_4 : decode prog_5_method_9_code 4 = .ok (.aload_n 0, 1) := by decide +kernel
theorem d_Rd_stateInNumber_5 : decode prog_5_method_9_code 5 = .ok (.getfield 100, 3) := by decide +kernel
theorem d_Rd_stateInNumber_8 : decode prog_5_method_9_code 8 = .ok (.iload_n 1, 1) := by decide +kernel
theorem d_Rd_stateInNumber_9 : decode prog_5_method_9_code 9 = .ok (.imul, 1) := by decide +kernel
theorem d_Rd_stateInNumber_10 : decode prog_5_method_9_code 10 = .ok (.invokevirtual 106, 3) := by decide +kernel
theorem d_Rd_stateInNumber_13 : decode prog_5_method_9_code 13 = .ok (.aload_n 0, 1) := by decide +kernel
theorem d_Rd_stateInNumber_14 : decode prog_5_method_9_code 14 = .ok (.dup, 1) := by decide +kernel
theorem d_Rd_stateInNumber_15 : decode prog_5_method_9_code 15 = .ok (.getfield 59, 3) := by decide +kernel
theorem d_Rd_stateInNumber_18 : decode prog_5_method_9_code 18 = .ok (.iconst 1, 1) := by decide +kernel
theorem d_Rd_stateInNumber_19 : decode prog_5_method_9_code 19 = .ok (.iadd, 1) := by decide +kernel
theorem d_Rd_stateInNumber_20 : decode prog_5_method_9_code 20 = .ok (.putfield 59, 3) := by decide +kernel
theorem d_Rd_stateInNumber_23 : decode prog_5_method_9_code 23 = .ok (.aload_n 0, 1) := by decide +kernel
theorem d_Rd_stateInNumber_24 : decode prog_5_method_9_code 24 = .ok (.getfield 59, 3) := by decide +kernel
theorem d_Rd_stateInNumber_27 : decode prog_5_method_9_code 27 = .ok (.bipush 9, 2) := by decide +kernel
theorem d_Rd_stateInNumber_29 : decode prog_5_method_9_code 29 = .ok (.if_icmp .ge 8, 3) := by decide +kernel
theorem d_Rd_stateInNumber_32 : decode prog_5_method_9_code 32 = .ok (.bipush 10, 2) := by decide +kernel
theorem d_Rd_stateInNumber_34 : decode prog_5_method_9_code 34 = .ok (.goto 5, 3) := by decide +kernel
theorem d_Rd_stateInNumber_37 : decode prog_5_method_9_code 37 = .ok (.bipush 11, 2) := by decide +kernel
theorem d_Rd_stateInNumber_39 : decode prog_5_method_9_code 39 = .ok (.ireturn, 1) := by decide +kernel
def f_Rd_stateInNumber_0 (σ : pv_S) (x1 : Int32) : Option (Int32 × pv_S) :=
  ((f_Pt_addToNumber σ ((σ.1 2 4) * x1)).bind fun q1 =>
(if (9 : Int32) ≤ ((pv_uI q1 2 2 ((q1.1 2 2) + (1 : Int32))).1 2 2) then
  some ((11 : Int32), (pv_uI q1 2 2 ((q1.1 2 2) + (1 : Int32))))
  else
  some ((10 : Int32), (pv_uI q1 2 2 ((q1.1 2 2) + (1 : Int32))))))
set_option maxHeartbeats 4000000 in
set_option maxRecDepth 100000 in
theorem s_Rd_stateInNumber_0 {p : Program} {l : Launch} {e : Env} {R : Room} {s : State} {m : MethodId} {args : Array Value} {below : List Frame} {meth : Method} {c : Code} {Q : State → Prop} {D : va_G} {q : Nat → ClassId} {a t : Nat → Nat} {A : Nat → Prop} (C : pv_C p s m args c prog_5_method_9_code 2 "PatchVoices$Reader" pv_TB D pv_cl (pv_ty q) 52 a A (pv_ZX t A)) (hmv : pv_mv A (pv_ZX t A)) (hRf : 2 ≤ R.frames) (hRl : 42 ≤ R.locals) {out : (Int32 × pv_S)} (hret : pv_Ri p l e R s m args below meth c prog_5_method_9_code D pv_cl 52 a (pv_FX q a) A Q out) {σ : pv_S} {x1 : Int32} {H : Heap} {locs : List Loc} {ls : Array Slot} (hl : lv_has ls 2 [(0, .ref (a 2)), (1, .int x1)]) (hP : pv_W D pv_cl 52 a (pv_FX q a) σ H) (hS : va_S A s.heap H locs) (hf : f_Rd_stateInNumber_0 σ x1 = some out) : W p l e R s m args below meth c H locs 0 0 Q (F0 m 0 ls []) := by
  unfold f_Rd_stateInNumber_0 at hf
  have hx := C.1
  have hb := C.2.1
  refine lv_aload_n hx hb d_Rd_stateInNumber_0 rfl (lv_at hl 0 rfl) ?_
  refine pv_get C hP (v := .ref (a 3)) (j := 0) (by decide) (fx_2 _ _ _ _) fl_Rd_12 rfl d_Rd_stateInNumber_1 ?_
  refine lv_aload_n hx hb d_Rd_stateInNumber_4 rfl (lv_at hl 0 rfl) ?_
  refine pv_get C hP (v := .int (σ.1 2 4)) (j := 4) (by decide) (fx_2 _ _ _ _) fl_Rd_100 rfl d_Rd_stateInNumber_5 ?_
  refine lv_iload_n hx hb d_Rd_stateInNumber_8 rfl (lv_at hl 1 rfl) ?_
  refine lv_imul hx hb d_Rd_stateInNumber_9 ?_
  obtain ⟨q1, hc, hf⟩ := pv_b hf
  refine pv_callVv C hmv pv_good hP hS (As := [.int ((σ.1 2 4) * x1)]) (rest := []) (by decide) (fx_3 _ _ _ _) rfl (c_Pt_addToNumber C.2.2.2.2.2.2.1 hmv hc) cv_Rd_106 ⟨rfl, rfl, Nat.le_trans (Nat.le_of_ble_eq_true rfl) hRf, Nat.le_trans (Nat.le_of_ble_eq_true rfl) hRl⟩ rfl hl.1 rfl (Nat.le_of_ble_eq_true rfl) d_Rd_stateInNumber_10 ⟨Nat.zero_le _, Nat.zero_le _⟩ (fun H locs hP hS => ?_)
  refine lv_aload_n hx hb d_Rd_stateInNumber_13 rfl (lv_at hl 0 rfl) ?_
  refine lv_dup hx hb d_Rd_stateInNumber_14 rfl ?_
  refine pv_get C hP (v := .int (q1.1 2 2)) (j := 2) (by decide) (fx_2 _ _ _ _) fl_Rd_59 rfl d_Rd_stateInNumber_15 ?_
  refine lv_iconst (v := (1 : Int32)) hx hb d_Rd_stateInNumber_18 (by decide) ?_
  refine lv_iadd hx hb d_Rd_stateInNumber_19 ?_
  refine pv_putI C hP hS (x := ((q1.1 2 2) + (1 : Int32))) (by decide) (fx_2 _ _ _ _) fw_Rd_59 rfl rfl (Nat.le_of_ble_eq_true rfl) (fxs_2_2 _ _ _ _ _) d_Rd_stateInNumber_20 (fun H locs hP hS => ?_)
  refine lv_aload_n hx hb d_Rd_stateInNumber_23 rfl (lv_at hl 0 rfl) ?_
  refine pv_get C hP (v := .int ((pv_uI q1 2 2 ((q1.1 2 2) + (1 : Int32))).1 2 2)) (j := 2) (by decide) (fx_2 _ _ _ _) fl_Rd_59 rfl d_Rd_stateInNumber_24 ?_
  refine lv_bipush (v := (9 : Int32)) hx hb d_Rd_stateInNumber_27 (by decide) ?_
  refine lv_icmp_ge (tgt := 37) hx hb d_Rd_stateInNumber_29 (by decide) (fun h => ?_) (fun h => ?_)
  · have hf := pv_t hf h
    refine lv_bipush (v := (11 : Int32)) hx hb d_Rd_stateInNumber_37 (by decide) ?_
    obtain rfl := Option.some.inj hf
    exact hret _ _ _ _ d_Rd_stateInNumber_39 hP hS
  · have hf := pv_f hf h
    refine lv_bipush (v := (10 : Int32)) hx hb d_Rd_stateInNumber_32 (by decide) ?_
    refine lv_goto (tgt := 39) hx hb d_Rd_stateInNumber_34 (by decide) ?_
    obtain rfl := Option.some.inj hf
    exact hret _ _ _ _ d_Rd_stateInNumber_39 hP hS
def f_Rd_stateInNumber (σ : pv_S) (x1 : Int32) : Option (Int32 × pv_S) := f_Rd_stateInNumber_0 σ x1
def rm_Rd_stateInNumber : Room := { frames := 2, cells := 0, slots := 0, locals := 42 }
theorem c_Rd_stateInNumber {l : Launch} {D : va_G} {q : Nat → ClassId} {a t : Nat → Nat} {A : Nat → Prop} (hD : pv_D 52 a A) (hmv : pv_mv A (pv_ZX t A)) {σ : pv_S} {x1 : Int32} {out : (Int32 × pv_S)} (hf : f_Rd_stateInNumber σ x1 = some out) : pv_Mi l y_Rd_stateInNumber (Cond.code y_Rd_stateInNumber prog_5_method_9_code 2 (some .int) :: pv_TB) rm_Rd_stateInNumber D pv_cl (pv_ty q) 52 a (pv_FX q a) A (pv_ZX t A) [.ref (a 2), .int x1] σ out :=
  pv_ofI (by decide) (Nat.le_of_ble_eq_true rfl) hD (fun p e s m args below meth c Q ls C hret hl hP => s_Rd_stateInNumber_0 C hmv (Nat.le_refl _) (Nat.le_refl _) hret hl hP va_S.rf hf)
theorem d_Rd_stateAfterDigit_0 : decode prog_5_method_8_code 0 = .ok (.aload_n 0, 1) := by decide +kernel
theorem d_Rd_stateAfterDigit_1 : decode prog_5_method_8_code 1 = .ok (.getfield 21, 3) := by decide +kernel
theorem d_Rd_stateAfterDigit_4 : decode prog_5_method_8_code 4 = .ok (.tableswitch 65 (6) (10) #[36, 36, 65, 59, 59], 36) := by decide +kernel
theorem d_Rd_stateAfterDigit_40 : decode prog_5_method_8_code 40 = .ok (.aload_n 0, 1) := by decide +kernel
theorem d_Rd_stateAfterDigit_41 : decode prog_5_method_8_code 41 = .ok (.getfield 12, 3) := by decide +kernel
theorem d_Rd_stateAfterDigit_44 : decode prog_5_method_8_code 44 = .ok (.invokevirtual 74, 3) := by decide +kernel
theorem d_Rd_stateAfterDigit_47 : decode prog_5_method_8_code 47 = .ok (.aload_n 0, 1) := by decide +kernel
theorem d_Rd_stateAfterDigit_48 : decode prog_5_method_8_code 48 = .ok (.iconst 0, 1) := by decide +kernel
theorem d_Rd_stateAfterDigit_49 : decode prog_5_method_8_code 49 = .ok (.putfield 59, 3) := by decide +kernel
theorem d_Rd_stateAfterDigit_52 : decode prog_5_method_8_code 52 = .ok (.aload_n 0, 1) := by decide +kernel
theorem d_Rd_stateAfterDigit_53 : decode prog_5_method_8_code 53 = .ok (.iconst 1, 1) := by decide +kernel
theorem d_Rd_stateAfterDigit_54 : decode prog_5_method_8_code 54 = .ok (.putfield 100, 3) := by decide +kernel
theorem d_Rd_stateAfterDigit_57 : decode prog_5_method_8_code 57 = .ok (.aload_n 0, 1) := by decide +kernel
theorem d_Rd_stateAfterDigit_58 : decode prog_5_method_8_code 58 = .ok (.iload_n 1, 1) := by decide +kernel
theorem d_Rd_stateAfterDigit_59 : decode prog_5_method_8_code 59 = .ok (.invokevirtual 103, 3) := by decide +kernel
theorem d_Rd_stateAfterDigit_62 : decode prog_5_method_8_code 62 = .ok (.ireturn, 1) := by decide +kernel
theorem d_Rd_stateAfterDigit_63 : decode prog_5_method_8_code 63 = .ok (.aload_n 0, 1) := by decide +kernel
theorem d_Rd_stateAfterDigit_64 : decode prog_5_method_8_code 64 = .ok (.iload_n 1, 1) := by decide +kernel
theorem d_Rd_stateAfterDigit_65 : decode prog_5_method_8_code 65 = .ok (.invokevirtual 103, 3) := by decide +kernel
theorem d_Rd_stateAfterDigit_68 : decode prog_5_method_8_code 68 = .ok (.ireturn, 1) := by decide +kernel
theorem d_Rd_stateAfterDigit_69 : decode prog_5_method_8_code 69 = .ok (.iconst (-1), 1) := by decide +kernel
theorem d_Rd_stateAfterDigit_70 : decode prog_5_method_8_code 70 = .ok (.ireturn, 1) := by decide +kernel
def f_Rd_stateAfterDigit_0 (σ : pv_S) (x1 : Int32) : Option (Int32 × pv_S) :=
  (if (σ.1 2 1) = (6 : Int32) then
  ((f_Pt_addInput σ).bind fun q1 =>
((f_Rd_stateInNumber (pv_uI (pv_uI q1 2 2 (0 : Int32)) 2 4 (1 : Int32)) x1).bind fun q2 =>
some (q2.1, q2.2)))
  else
(if (σ.1 2 1) = (7 : Int32) then
  ((f_Pt_addInput σ).bind fun q3 =>
((f_Rd_stateInNumber (pv_uI (pv_uI q3 2 2 (0 : Int32)) 2 4 (1 : Int32)) x1).bind fun q4 =>
some (q4.1, q4.2)))
  else
(if (σ.1 2 1) = (8 : Int32) then
  some ((-1 : Int32), σ)
  else
(if (σ.1 2 1) = (9 : Int32) then
  ((f_Rd_stateInNumber σ x1).bind fun q5 =>
some (q5.1, q5.2))
  else
(if (σ.1 2 1) = (10 : Int32) then
  ((f_Rd_stateInNumber σ x1).bind fun q6 =>
some (q6.1, q6.2))
  else
  some ((-1 : Int32), σ))))))
set_option maxHeartbeats 4000000 in
set_option maxRecDepth 100000 in
theorem s_Rd_stateAfterDigit_0 {p : Program} {l : Launch} {e : Env} {R : Room} {s : State} {m : MethodId} {args : Array Value} {below : List Frame} {meth : Method} {c : Code} {Q : State → Prop} {D : va_G} {q : Nat → ClassId} {a t : Nat → Nat} {A : Nat → Prop} (C : pv_C p s m args c prog_5_method_8_code 2 "PatchVoices$Reader" pv_TB D pv_cl (pv_ty q) 52 a A (pv_ZX t A)) (hmv : pv_mv A (pv_ZX t A)) (hRf : 3 ≤ R.frames) (hRl : 63 ≤ R.locals) {out : (Int32 × pv_S)} (hret : pv_Ri p l e R s m args below meth c prog_5_method_8_code D pv_cl 52 a (pv_FX q a) A Q out) {σ : pv_S} {x1 : Int32} {H : Heap} {locs : List Loc} {ls : Array Slot} (hl : lv_has ls 2 [(0, .ref (a 2)), (1, .int x1)]) (hP : pv_W D pv_cl 52 a (pv_FX q a) σ H) (hS : va_S A s.heap H locs) (hf : f_Rd_stateAfterDigit_0 σ x1 = some out) : W p l e R s m args below meth c H locs 0 0 Q (F0 m 0 ls []) := by
  unfold f_Rd_stateAfterDigit_0 at hf
  have hx := C.1
  have hb := C.2.1
  refine lv_aload_n hx hb d_Rd_stateAfterDigit_0 rfl (lv_at hl 0 rfl) ?_
  refine pv_get C hP (v := .int (σ.1 2 1)) (j := 1) (by decide) (fx_2 _ _ _ _) fl_Rd_21 rfl d_Rd_stateAfterDigit_1 ?_
  by_cases h6 : (σ.1 2 1) = (6 : Int32)
  · have hf := pv_t hf h6
    refine lv_tableIn (tgt := 40) hx hb d_Rd_stateAfterDigit_4 (by rw [h6]; decide) (by rw [h6]; decide) (by first | (rw [h6]; done) | (rw [h6]; rfl)) (by decide) ?_
    refine lv_aload_n hx hb d_Rd_stateAfterDigit_40 rfl (lv_at hl 0 rfl) ?_
    refine pv_get C hP (v := .ref (a 3)) (j := 0) (by decide) (fx_2 _ _ _ _) fl_Rd_12 rfl d_Rd_stateAfterDigit_41 ?_
    obtain ⟨q1, hc, hf⟩ := pv_b hf
    refine pv_callVv C hmv pv_good hP hS (As := []) (rest := []) (by decide) (fx_3 _ _ _ _) rfl (c_Pt_addInput C.2.2.2.2.2.2.1 hmv hc) cv_Rd_74 ⟨rfl, rfl, Nat.le_trans (Nat.le_of_ble_eq_true rfl) hRf, Nat.le_trans (Nat.le_of_ble_eq_true rfl) hRl⟩ rfl hl.1 rfl (Nat.le_of_ble_eq_true rfl) d_Rd_stateAfterDigit_44 ⟨Nat.zero_le _, Nat.zero_le _⟩ (fun H locs hP hS => ?_)
    refine lv_aload_n hx hb d_Rd_stateAfterDigit_47 rfl (lv_at hl 0 rfl) ?_
    refine lv_iconst (v := (0 : Int32)) hx hb d_Rd_stateAfterDigit_48 (by decide) ?_
    refine pv_putI C hP hS (x := (0 : Int32)) (by decide) (fx_2 _ _ _ _) fw_Rd_59 rfl rfl (Nat.le_of_ble_eq_true rfl) (fxs_2_2 _ _ _ _ _) d_Rd_stateAfterDigit_49 (fun H locs hP hS => ?_)
    refine lv_aload_n hx hb d_Rd_stateAfterDigit_52 rfl (lv_at hl 0 rfl) ?_
    refine lv_iconst (v := (1 : Int32)) hx hb d_Rd_stateAfterDigit_53 (by decide) ?_
    refine pv_putI C hP hS (x := (1 : Int32)) (by decide) (fx_2 _ _ _ _) fw_Rd_100 rfl rfl (Nat.le_of_ble_eq_true rfl) (fxs_2_4 _ _ _ _ _) d_Rd_stateAfterDigit_54 (fun H locs hP hS => ?_)
    refine lv_aload_n hx hb d_Rd_stateAfterDigit_57 rfl (lv_at hl 0 rfl) ?_
    refine lv_iload_n hx hb d_Rd_stateAfterDigit_58 rfl (lv_at hl 1 rfl) ?_
    obtain ⟨q2, hc, hf⟩ := pv_b hf
    refine pv_callVi C hmv pv_good hP hS (As := [.int x1]) (rest := []) (by decide) (fx_2 _ _ _ _) rfl (c_Rd_stateInNumber C.2.2.2.2.2.2.1 hmv hc) cv_Rd_103 ⟨rfl, rfl, Nat.le_trans (Nat.le_of_ble_eq_true rfl) hRf, Nat.le_trans (Nat.le_of_ble_eq_true rfl) hRl⟩ rfl hl.1 rfl (Nat.le_of_ble_eq_true rfl) d_Rd_stateAfterDigit_59 ⟨Nat.zero_le _, Nat.zero_le _⟩ (fun H locs hP hS => ?_)
    obtain rfl := Option.some.inj hf
    exact hret _ _ _ _ d_Rd_stateAfterDigit_62 hP hS
  · have hf := pv_f hf h6
    by_cases h7 : (σ.1 2 1) = (7 : Int32)
    · have hf := pv_t hf h7
      refine lv_tableIn (tgt := 40) hx hb d_Rd_stateAfterDigit_4 (by rw [h7]; decide) (by rw [h7]; decide) (by first | (rw [h7]; done) | (rw [h7]; rfl)) (by decide) ?_
      refine lv_aload_n hx hb d_Rd_stateAfterDigit_40 rfl (lv_at hl 0 rfl) ?_
      refine pv_get C hP (v := .ref (a 3)) (j := 0) (by decide) (fx_2 _ _ _ _) fl_Rd_12 rfl d_Rd_stateAfterDigit_41 ?_
      obtain ⟨q3, hc, hf⟩ := pv_b hf
      refine pv_callVv C hmv pv_good hP hS (As := []) (rest := []) (by decide) (fx_3 _ _ _ _) rfl (c_Pt_addInput C.2.2.2.2.2.2.1 hmv hc) cv_Rd_74 ⟨rfl, rfl, Nat.le_trans (Nat.le_of_ble_eq_true rfl) hRf, Nat.le_trans (Nat.le_of_ble_eq_true rfl) hRl⟩ rfl hl.1 rfl (Nat.le_of_ble_eq_true rfl) d_Rd_stateAfterDigit_44 ⟨Nat.zero_le _, Nat.zero_le _⟩ (fun H locs hP hS => ?_)
      refine lv_aload_n hx hb d_Rd_stateAfterDigit_47 rfl (lv_at hl 0 rfl) ?_
      refine lv_iconst (v := (0 : Int32)) hx hb d_Rd_stateAfterDigit_48 (by decide) ?_
      refine pv_putI C hP hS (x := (0 : Int32)) (by decide) (fx_2 _ _ _ _) fw_Rd_59 rfl rfl (Nat.le_of_ble_eq_true rfl) (fxs_2_2 _ _ _ _ _) d_Rd_stateAfterDigit_49 (fun H locs hP hS => ?_)
      refine lv_aload_n hx hb d_Rd_stateAfterDigit_52 rfl (lv_at hl 0 rfl) ?_
      refine lv_iconst (v := (1 : Int32)) hx hb d_Rd_stateAfterDigit_53 (by decide) ?_
      refine pv_putI C hP hS (x := (1 : Int32)) (by decide) (fx_2 _ _ _ _) fw_Rd_100 rfl rfl (Nat.le_of_ble_eq_true rfl) (fxs_2_4 _ _ _ _ _) d_Rd_stateAfterDigit_54 (fun H locs hP hS => ?_)
      refine lv_aload_n hx hb d_Rd_stateAfterDigit_57 rfl (lv_at hl 0 rfl) ?_
      refine lv_iload_n hx hb d_Rd_stateAfterDigit_58 rfl (lv_at hl 1 rfl) ?_
      obtain ⟨q4, hc, hf⟩ := pv_b hf
      refine pv_callVi C hmv pv_good hP hS (As := [.int x1]) (rest := []) (by decide) (fx_2 _ _ _ _) rfl (c_Rd_stateInNumber C.2.2.2.2.2.2.1 hmv hc) cv_Rd_103 ⟨rfl, rfl, Nat.le_trans (Nat.le_of_ble_eq_true rfl) hRf, Nat.le_trans (Nat.le_of_ble_eq_true rfl) hRl⟩ rfl hl.1 rfl (Nat.le_of_ble_eq_true rfl) d_Rd_stateAfterDigit_59 ⟨Nat.zero_le _, Nat.zero_le _⟩ (fun H locs hP hS => ?_)
      obtain rfl := Option.some.inj hf
      exact hret _ _ _ _ d_Rd_stateAfterDigit_62 hP hS
    · have hf := pv_f hf h7
      by_cases h8 : (σ.1 2 1) = (8 : Int32)
      · have hf := pv_t hf h8
        refine lv_tableIn (tgt := 69) hx hb d_Rd_stateAfterDigit_4 (by rw [h8]; decide) (by rw [h8]; decide) (by first | (rw [h8]; done) | (rw [h8]; rfl)) (by decide) ?_
        refine lv_iconst (v := (-1 : Int32)) hx hb d_Rd_stateAfterDigit_69 (by decide) ?_
        obtain rfl := Option.some.inj hf
        exact hret _ _ _ _ d_Rd_stateAfterDigit_70 hP hS
      · have hf := pv_f hf h8
        by_cases h9 : (σ.1 2 1) = (9 : Int32)
        · have hf := pv_t hf h9
          refine lv_tableIn (tgt := 63) hx hb d_Rd_stateAfterDigit_4 (by rw [h9]; decide) (by rw [h9]; decide) (by first | (rw [h9]; done) | (rw [h9]; rfl)) (by decide) ?_
          refine lv_aload_n hx hb d_Rd_stateAfterDigit_63 rfl (lv_at hl 0 rfl) ?_
          refine lv_iload_n hx hb d_Rd_stateAfterDigit_64 rfl (lv_at hl 1 rfl) ?_
          obtain ⟨q5, hc, hf⟩ := pv_b hf
          refine pv_callVi C hmv pv_good hP hS (As := [.int x1]) (rest := []) (by decide) (fx_2 _ _ _ _) rfl (c_Rd_stateInNumber C.2.2.2.2.2.2.1 hmv hc) cv_Rd_103 ⟨rfl, rfl, Nat.le_trans (Nat.le_of_ble_eq_true rfl) hRf, Nat.le_trans (Nat.le_of_ble_eq_true rfl) hRl⟩ rfl hl.1 rfl (Nat.le_of_ble_eq_true rfl) d_Rd_stateAfterDigit_65 ⟨Nat.zero_le _, Nat.zero_le _⟩ (fun H locs hP hS => ?_)
          obtain rfl := Option.some.inj hf
          exact hret _ _ _ _ d_Rd_stateAfterDigit_68 hP hS
        · have hf := pv_f hf h9
          by_cases h10 : (σ.1 2 1) = (10 : Int32)
          · have hf := pv_t hf h10
            refine lv_tableIn (tgt := 63) hx hb d_Rd_stateAfterDigit_4 (by rw [h10]; decide) (by rw [h10]; decide) (by first | (rw [h10]; done) | (rw [h10]; rfl)) (by decide) ?_
            refine lv_aload_n hx hb d_Rd_stateAfterDigit_63 rfl (lv_at hl 0 rfl) ?_
            refine lv_iload_n hx hb d_Rd_stateAfterDigit_64 rfl (lv_at hl 1 rfl) ?_
            obtain ⟨q6, hc, hf⟩ := pv_b hf
            refine pv_callVi C hmv pv_good hP hS (As := [.int x1]) (rest := []) (by decide) (fx_2 _ _ _ _) rfl (c_Rd_stateInNumber C.2.2.2.2.2.2.1 hmv hc) cv_Rd_103 ⟨rfl, rfl, Nat.le_trans (Nat.le_of_ble_eq_true rfl) hRf, Nat.le_trans (Nat.le_of_ble_eq_true rfl) hRl⟩ rfl hl.1 rfl (Nat.le_of_ble_eq_true rfl) d_Rd_stateAfterDigit_65 ⟨Nat.zero_le _, Nat.zero_le _⟩ (fun H locs hP hS => ?_)
            obtain rfl := Option.some.inj hf
            exact hret _ _ _ _ d_Rd_stateAfterDigit_68 hP hS
          · have hf := pv_f hf h10
            refine lv_tableOut (tgt := 69) hx hb d_Rd_stateAfterDigit_4 (by have z0 := lv_neT h6 (a := 6) (by decide); have z1 := lv_neT h7 (a := 7) (by decide); have z2 := lv_neT h8 (a := 8) (by decide); have z3 := lv_neT h9 (a := 9) (by decide); have z4 := lv_neT h10 (a := 10) (by decide); omega) (by decide) ?_
            refine lv_iconst (v := (-1 : Int32)) hx hb d_Rd_stateAfterDigit_69 (by decide) ?_
            obtain rfl := Option.some.inj hf
            exact hret _ _ _ _ d_Rd_stateAfterDigit_70 hP hS
def f_Rd_stateAfterDigit (σ : pv_S) (x1 : Int32) : Option (Int32 × pv_S) := f_Rd_stateAfterDigit_0 σ x1
def rm_Rd_stateAfterDigit : Room := { frames := 3, cells := 0, slots := 0, locals := 63 }
theorem c_Rd_stateAfterDigit {l : Launch} {D : va_G} {q : Nat → ClassId} {a t : Nat → Nat} {A : Nat → Prop} (hD : pv_D 52 a A) (hmv : pv_mv A (pv_ZX t A)) {σ : pv_S} {x1 : Int32} {out : (Int32 × pv_S)} (hf : f_Rd_stateAfterDigit σ x1 = some out) : pv_Mi l y_Rd_stateAfterDigit (Cond.code y_Rd_stateAfterDigit prog_5_method_8_code 2 (some .int) :: pv_TB) rm_Rd_stateAfterDigit D pv_cl (pv_ty q) 52 a (pv_FX q a) A (pv_ZX t A) [.ref (a 2), .int x1] σ out :=
  pv_ofI (by decide) (Nat.le_of_ble_eq_true rfl) hD (fun p e s m args below meth c Q ls C hret hl hP => s_Rd_stateAfterDigit_0 C hmv (Nat.le_refl _) (Nat.le_refl _) hret hl hP va_S.rf hf)
theorem d_Rd_stateAfterBlank_0 : decode prog_5_method_11_code 0 = .ok (.aload_n 0, 1) := by decide +kernel
theorem d_Rd_stateAfterBlank_1 : decode prog_5_method_11_code 1 = .ok (.getfield 21, 3) := by decide +kernel
theorem d_Rd_stateAfterBlank_4 : decode prog_5_method_11_code 4 = .ok (.tableswitch 63 (1) (10) #[56, 63, 63, 61, 63, 63, 63, 58, 61, 58], 56) := by decide +kernel
theorem d_Rd_stateAfterBlank_60 : decode prog_5_method_11_code 60 = .ok (.iconst 2, 1) := by decide +kernel
theorem d_Rd_stateAfterBlank_61 : decode prog_5_method_11_code 61 = .ok (.ireturn, 1) := by decide +kernel
theorem d_Rd_stateAfterBlank_62 : decode prog_5_method_11_code 62 = .ok (.bipush 11, 2) := by decide +kernel
theorem d_Rd_stateAfterBlank_64 : decode prog_5_method_11_code 64 = .ok (.ireturn, 1) := by decide +kernel
theorem d_Rd_stateAfterBlank_65 : decode prog_5_method_11_code 65 = .ok (.iconst (-1), 1) := by decide +kernel
theorem d_Rd_stateAfterBlank_66 : decode prog_5_method_11_code 66 = .ok (.ireturn, 1) := by decide +kernel
theorem d_Rd_stateAfterBlank_67 : decode prog_5_method_11_code 67 = .ok (.aload_n 0, 1) := by decide +kernel
theorem d_Rd_stateAfterBlank_68 : decode prog_5_method_11_code 68 = .ok (.getfield 21, 3) := by decide +kernel
theorem d_Rd_stateAfterBlank_71 : decode prog_5_method_11_code 71 = .ok (.ireturn, 1) := by decide +kernel
def f_Rd_stateAfterBlank_0 (σ : pv_S) : Option (Int32 × pv_S) :=
  (if (σ.1 2 1) = (1 : Int32) then
  some ((2 : Int32), σ)
  else
(if (σ.1 2 1) = (2 : Int32) then
  some ((σ.1 2 1), σ)
  else
(if (σ.1 2 1) = (3 : Int32) then
  some ((σ.1 2 1), σ)
  else
(if (σ.1 2 1) = (4 : Int32) then
  some ((-1 : Int32), σ)
  else
(if (σ.1 2 1) = (5 : Int32) then
  some ((σ.1 2 1), σ)
  else
(if (σ.1 2 1) = (6 : Int32) then
  some ((σ.1 2 1), σ)
  else
(if (σ.1 2 1) = (7 : Int32) then
  some ((σ.1 2 1), σ)
  else
(if (σ.1 2 1) = (8 : Int32) then
  some ((11 : Int32), σ)
  else
(if (σ.1 2 1) = (9 : Int32) then
  some ((-1 : Int32), σ)
  else
(if (σ.1 2 1) = (10 : Int32) then
  some ((11 : Int32), σ)
  else
  some ((σ.1 2 1), σ)))))))))))
set_option maxHeartbeats 4000000 in
set_option maxRecDepth 100000 in
theorem s_Rd_stateAfterBlank_0 {p : Program} {l : Launch} {e : Env} {R : Room} {s : State} {m : MethodId} {args : Array Value} {below : List Frame} {meth : Method} {c : Code} {Q : State → Prop} {D : va_G} {q : Nat → ClassId} {a t : Nat → Nat} {A : Nat → Prop} (C : pv_C p s m args c prog_5_method_11_code 1 "PatchVoices$Reader" pv_TB D pv_cl (pv_ty q) 52 a A (pv_ZX t A)) (hmv : pv_mv A (pv_ZX t A)) (hRf : 0 ≤ R.frames) (hRl : 0 ≤ R.locals) {out : (Int32 × pv_S)} (hret : pv_Ri p l e R s m args below meth c prog_5_method_11_code D pv_cl 52 a (pv_FX q a) A Q out) {σ : pv_S} {H : Heap} {locs : List Loc} {ls : Array Slot} (hl : lv_has ls 1 [(0, .ref (a 2))]) (hP : pv_W D pv_cl 52 a (pv_FX q a) σ H) (hS : va_S A s.heap H locs) (hf : f_Rd_stateAfterBlank_0 σ = some out) : W p l e R s m args below meth c H locs 0 0 Q (F0 m 0 ls []) := by
  unfold f_Rd_stateAfterBlank_0 at hf
  have hx := C.1
  have hb := C.2.1
  refine lv_aload_n hx hb d_Rd_stateAfterBlank_0 rfl (lv_at hl 0 rfl) ?_
  refine pv_get C hP (v := .int (σ.1 2 1)) (j := 1) (by decide) (fx_2 _ _ _ _) fl_Rd_21 rfl d_Rd_stateAfterBlank_1 ?_
  by_cases h1 : (σ.1 2 1) = (1 : Int32)
  · have hf := pv_t hf h1
    refine lv_tableIn (tgt := 60) hx hb d_Rd_stateAfterBlank_4 (by rw [h1]; decide) (by rw [h1]; decide) (by first | (rw [h1]; done) | (rw [h1]; rfl)) (by decide) ?_
    refine lv_iconst (v := (2 : Int32)) hx hb d_Rd_stateAfterBlank_60 (by decide) ?_
    obtain rfl := Option.some.inj hf
    exact hret _ _ _ _ d_Rd_stateAfterBlank_61 hP hS
  · have hf := pv_f hf h1
    by_cases h2 : (σ.1 2 1) = (2 : Int32)
    · have hf := pv_t hf h2
      refine lv_tableIn (tgt := 67) hx hb d_Rd_stateAfterBlank_4 (by rw [h2]; decide) (by rw [h2]; decide) (by first | (rw [h2]; done) | (rw [h2]; rfl)) (by decide) ?_
      refine lv_aload_n hx hb d_Rd_stateAfterBlank_67 rfl (lv_at hl 0 rfl) ?_
      refine pv_get C hP (v := .int (σ.1 2 1)) (j := 1) (by decide) (fx_2 _ _ _ _) fl_Rd_21 rfl d_Rd_stateAfterBlank_68 ?_
      obtain rfl := Option.some.inj hf
      exact hret _ _ _ _ d_Rd_stateAfterBlank_71 hP hS
    · have hf := pv_f hf h2
      by_cases h3 : (σ.1 2 1) = (3 : Int32)
      · have hf := pv_t hf h3
        refine lv_tableIn (tgt := 67) hx hb d_Rd_stateAfterBlank_4 (by rw [h3]; decide) (by rw [h3]; decide) (by first | (rw [h3]; done) | (rw [h3]; rfl)) (by decide) ?_
        refine lv_aload_n hx hb d_Rd_stateAfterBlank_67 rfl (lv_at hl 0 rfl) ?_
        refine pv_get C hP (v := .int (σ.1 2 1)) (j := 1) (by decide) (fx_2 _ _ _ _) fl_Rd_21 rfl d_Rd_stateAfterBlank_68 ?_
        obtain rfl := Option.some.inj hf
        exact hret _ _ _ _ d_Rd_stateAfterBlank_71 hP hS
      · have hf := pv_f hf h3
        by_cases h4 : (σ.1 2 1) = (4 : Int32)
        · have hf := pv_t hf h4
          refine lv_tableIn (tgt := 65) hx hb d_Rd_stateAfterBlank_4 (by rw [h4]; decide) (by rw [h4]; decide) (by first | (rw [h4]; done) | (rw [h4]; rfl)) (by decide) ?_
          refine lv_iconst (v := (-1 : Int32)) hx hb d_Rd_stateAfterBlank_65 (by decide) ?_
          obtain rfl := Option.some.inj hf
          exact hret _ _ _ _ d_Rd_stateAfterBlank_66 hP hS
        · have hf := pv_f hf h4
          by_cases h5 : (σ.1 2 1) = (5 : Int32)
          · have hf := pv_t hf h5
            refine lv_tableIn (tgt := 67) hx hb d_Rd_stateAfterBlank_4 (by rw [h5]; decide) (by rw [h5]; decide) (by first | (rw [h5]; done) | (rw [h5]; rfl)) (by decide) ?_
            refine lv_aload_n hx hb d_Rd_stateAfterBlank_67 rfl (lv_at hl 0 rfl) ?_
            refine pv_get C hP (v := .int (σ.1 2 1)) (j := 1) (by decide) (fx_2 _ _ _ _) fl_Rd_21 rfl d_Rd_stateAfterBlank_68 ?_
            obtain rfl := Option.some.inj hf
            exact hret _ _ _ _ d_Rd_stateAfterBlank_71 hP hS
          · have hf := pv_f hf h5
            by_cases h6 : (σ.1 2 1) = (6 : Int32)
            · have hf := pv_t hf h6
              refine lv_tableIn (tgt := 67) hx hb d_Rd_stateAfterBlank_4 (by rw [h6]; decide) (by rw [h6]; decide) (by first | (rw [h6]; done) | (rw [h6]; rfl)) (by decide) ?_
              refine lv_aload_n hx hb d_Rd_stateAfterBlank_67 rfl (lv_at hl 0 rfl) ?_
              refine pv_get C hP (v := .int (σ.1 2 1)) (j := 1) (by decide) (fx_2 _ _ _ _) fl_Rd_21 rfl d_Rd_stateAfterBlank_68 ?_
              obtain rfl := Option.some.inj hf
              exact hret _ _ _ _ d_Rd_stateAfterBlank_71 hP hS
            · have hf := pv_f hf h6
              by_cases h7 : (σ.1 2 1) = (7 : Int32)
              · have hf := pv_t hf h7
                refine lv_tableIn (tgt := 67) hx hb d_Rd_stateAfterBlank_4 (by rw [h7]; decide) (by rw [h7]; decide) (by first | (rw [h7]; done) | (rw [h7]; rfl)) (by decide) ?_
                refine lv_aload_n hx hb d_Rd_stateAfterBlank_67 rfl (lv_at hl 0 rfl) ?_
                refine pv_get C hP (v := .int (σ.1 2 1)) (j := 1) (by decide) (fx_2 _ _ _ _) fl_Rd_21 rfl d_Rd_stateAfterBlank_68 ?_
                obtain rfl := Option.some.inj hf
                exact hret _ _ _ _ d_Rd_stateAfterBlank_71 hP hS
              · have hf := pv_f hf h7
                by_cases h8 : (σ.1 2 1) = (8 : Int32)
                · have hf := pv_t hf h8
                  refine lv_tableIn (tgt := 62) hx hb d_Rd_stateAfterBlank_4 (by rw [h8]; decide) (by rw [h8]; decide) (by first | (rw [h8]; done) | (rw [h8]; rfl)) (by decide) ?_
                  refine lv_bipush (v := (11 : Int32)) hx hb d_Rd_stateAfterBlank_62 (by decide) ?_
                  obtain rfl := Option.some.inj hf
                  exact hret _ _ _ _ d_Rd_stateAfterBlank_64 hP hS
                · have hf := pv_f hf h8
                  by_cases h9 : (σ.1 2 1) = (9 : Int32)
                  · have hf := pv_t hf h9
                    refine lv_tableIn (tgt := 65) hx hb d_Rd_stateAfterBlank_4 (by rw [h9]; decide) (by rw [h9]; decide) (by first | (rw [h9]; done) | (rw [h9]; rfl)) (by decide) ?_
                    refine lv_iconst (v := (-1 : Int32)) hx hb d_Rd_stateAfterBlank_65 (by decide) ?_
                    obtain rfl := Option.some.inj hf
                    exact hret _ _ _ _ d_Rd_stateAfterBlank_66 hP hS
                  · have hf := pv_f hf h9
                    by_cases h10 : (σ.1 2 1) = (10 : Int32)
                    · have hf := pv_t hf h10
                      refine lv_tableIn (tgt := 62) hx hb d_Rd_stateAfterBlank_4 (by rw [h10]; decide) (by rw [h10]; decide) (by first | (rw [h10]; done) | (rw [h10]; rfl)) (by decide) ?_
                      refine lv_bipush (v := (11 : Int32)) hx hb d_Rd_stateAfterBlank_62 (by decide) ?_
                      obtain rfl := Option.some.inj hf
                      exact hret _ _ _ _ d_Rd_stateAfterBlank_64 hP hS
                    · have hf := pv_f hf h10
                      refine lv_tableOut (tgt := 67) hx hb d_Rd_stateAfterBlank_4 (by have z0 := lv_neT h1 (a := 1) (by decide); have z1 := lv_neT h2 (a := 2) (by decide); have z2 := lv_neT h3 (a := 3) (by decide); have z3 := lv_neT h4 (a := 4) (by decide); have z4 := lv_neT h5 (a := 5) (by decide); have z5 := lv_neT h6 (a := 6) (by decide); have z6 := lv_neT h7 (a := 7) (by decide); have z7 := lv_neT h8 (a := 8) (by decide); have z8 := lv_neT h9 (a := 9) (by decide); have z9 := lv_neT h10 (a := 10) (by decide); omega) (by decide) ?_
                      refine lv_aload_n hx hb d_Rd_stateAfterBlank_67 rfl (lv_at hl 0 rfl) ?_
                      refine pv_get C hP (v := .int (σ.1 2 1)) (j := 1) (by decide) (fx_2 _ _ _ _) fl_Rd_21 rfl d_Rd_stateAfterBlank_68 ?_
                      obtain rfl := Option.some.inj hf
                      exact hret _ _ _ _ d_Rd_stateAfterBlank_71 hP hS
def f_Rd_stateAfterBlank (σ : pv_S) : Option (Int32 × pv_S) := f_Rd_stateAfterBlank_0 σ
def rm_Rd_stateAfterBlank : Room := { frames := 0, cells := 0, slots := 0, locals := 0 }
theorem c_Rd_stateAfterBlank {l : Launch} {D : va_G} {q : Nat → ClassId} {a t : Nat → Nat} {A : Nat → Prop} (hD : pv_D 52 a A) (hmv : pv_mv A (pv_ZX t A)) {σ : pv_S} {out : (Int32 × pv_S)} (hf : f_Rd_stateAfterBlank σ = some out) : pv_Mi l y_Rd_stateAfterBlank (Cond.code y_Rd_stateAfterBlank prog_5_method_11_code 1 (some .int) :: pv_TB) rm_Rd_stateAfterBlank D pv_cl (pv_ty q) 52 a (pv_FX q a) A (pv_ZX t A) [.ref (a 2)] σ out :=
  pv_ofI (by decide) (Nat.le_of_ble_eq_true rfl) hD (fun p e s m args below meth c Q ls C hret hl hP => s_Rd_stateAfterBlank_0 C hmv (Nat.le_refl _) (Nat.le_refl _) hret hl hP va_S.rf hf)
theorem d_Rd_stateAfterEquals_0 : decode prog_5_method_12_code 0 = .ok (.aload_n 0, 1) := by decide +kernel
theorem d_Rd_stateAfterEquals_1 : decode prog_5_method_12_code 1 = .ok (.getfield 21, 3) := by decide +kernel
theorem d_Rd_stateAfterEquals_4 : decode prog_5_method_12_code 4 = .ok (.iconst 1, 1) := by decide +kernel
theorem d_Rd_stateAfterEquals_5 : decode prog_5_method_12_code 5 = .ok (.if_icmp .eq 11, 3) := by decide +kernel
theorem d_Rd_stateAfterEquals_8 : decode prog_5_method_12_code 8 = .ok (.aload_n 0, 1) := by decide +kernel
theorem d_Rd_stateAfterEquals_9 : decode prog_5_method_12_code 9 = .ok (.getfield 21, 3) := by decide +kernel
theorem d_Rd_stateAfterEquals_12 : decode prog_5_method_12_code 12 = .ok (.iconst 2, 1) := by decide +kernel
theorem d_Rd_stateAfterEquals_13 : decode prog_5_method_12_code 13 = .ok (.if_icmp .ne 7, 3) := by decide +kernel
theorem d_Rd_stateAfterEquals_16 : decode prog_5_method_12_code 16 = .ok (.iconst 3, 1) := by decide +kernel
theorem d_Rd_stateAfterEquals_17 : decode prog_5_method_12_code 17 = .ok (.goto 4, 3) := by decide +kernel
theorem d_Rd_stateAfterEquals_20 : decode prog_5_method_12_code 20 = .ok (.iconst (-1), 1) := by decide +kernel
theorem d_Rd_stateAfterEquals_21 : decode prog_5_method_12_code 21 = .ok (.ireturn, 1) := by decide +kernel
def f_Rd_stateAfterEquals_0 (σ : pv_S) : Option (Int32 × pv_S) :=
  (if (σ.1 2 1) = (1 : Int32) then
  some ((3 : Int32), σ)
  else
  (if (σ.1 2 1) = (2 : Int32) then
  some ((3 : Int32), σ)
  else
  some ((-1 : Int32), σ)))
set_option maxHeartbeats 4000000 in
set_option maxRecDepth 100000 in
theorem s_Rd_stateAfterEquals_0 {p : Program} {l : Launch} {e : Env} {R : Room} {s : State} {m : MethodId} {args : Array Value} {below : List Frame} {meth : Method} {c : Code} {Q : State → Prop} {D : va_G} {q : Nat → ClassId} {a t : Nat → Nat} {A : Nat → Prop} (C : pv_C p s m args c prog_5_method_12_code 1 "PatchVoices$Reader" pv_TB D pv_cl (pv_ty q) 52 a A (pv_ZX t A)) (hmv : pv_mv A (pv_ZX t A)) (hRf : 0 ≤ R.frames) (hRl : 0 ≤ R.locals) {out : (Int32 × pv_S)} (hret : pv_Ri p l e R s m args below meth c prog_5_method_12_code D pv_cl 52 a (pv_FX q a) A Q out) {σ : pv_S} {H : Heap} {locs : List Loc} {ls : Array Slot} (hl : lv_has ls 1 [(0, .ref (a 2))]) (hP : pv_W D pv_cl 52 a (pv_FX q a) σ H) (hS : va_S A s.heap H locs) (hf : f_Rd_stateAfterEquals_0 σ = some out) : W p l e R s m args below meth c H locs 0 0 Q (F0 m 0 ls []) := by
  unfold f_Rd_stateAfterEquals_0 at hf
  have hx := C.1
  have hb := C.2.1
  refine lv_aload_n hx hb d_Rd_stateAfterEquals_0 rfl (lv_at hl 0 rfl) ?_
  refine pv_get C hP (v := .int (σ.1 2 1)) (j := 1) (by decide) (fx_2 _ _ _ _) fl_Rd_21 rfl d_Rd_stateAfterEquals_1 ?_
  refine lv_iconst (v := (1 : Int32)) hx hb d_Rd_stateAfterEquals_4 (by decide) ?_
  refine lv_icmp_eq (tgt := 16) hx hb d_Rd_stateAfterEquals_5 (by decide) (fun h => ?_) (fun h => ?_)
  · have hf := pv_t hf h
    refine lv_iconst (v := (3 : Int32)) hx hb d_Rd_stateAfterEquals_16 (by decide) ?_
    refine lv_goto (tgt := 21) hx hb d_Rd_stateAfterEquals_17 (by decide) ?_
    obtain rfl := Option.some.inj hf
    exact hret _ _ _ _ d_Rd_stateAfterEquals_21 hP hS
  · have hf := pv_f hf h
    refine lv_aload_n hx hb d_Rd_stateAfterEquals_8 rfl (lv_at hl 0 rfl) ?_
    refine pv_get C hP (v := .int (σ.1 2 1)) (j := 1) (by decide) (fx_2 _ _ _ _) fl_Rd_21 rfl d_Rd_stateAfterEquals_9 ?_
    refine lv_iconst (v := (2 : Int32)) hx hb d_Rd_stateAfterEquals_12 (by decide) ?_
    refine lv_icmp_ne (tgt := 20) hx hb d_Rd_stateAfterEquals_13 (by decide) (fun h => ?_) (fun h => ?_)
    · have hf := pv_f hf h
      refine lv_iconst (v := (-1 : Int32)) hx hb d_Rd_stateAfterEquals_20 (by decide) ?_
      obtain rfl := Option.some.inj hf
      exact hret _ _ _ _ d_Rd_stateAfterEquals_21 hP hS
    · have hf := pv_t hf h
      refine lv_iconst (v := (3 : Int32)) hx hb d_Rd_stateAfterEquals_16 (by decide) ?_
      refine lv_goto (tgt := 21) hx hb d_Rd_stateAfterEquals_17 (by decide) ?_
      obtain rfl := Option.some.inj hf
      exact hret _ _ _ _ d_Rd_stateAfterEquals_21 hP hS
def f_Rd_stateAfterEquals (σ : pv_S) : Option (Int32 × pv_S) := f_Rd_stateAfterEquals_0 σ
def rm_Rd_stateAfterEquals : Room := { frames := 0, cells := 0, slots := 0, locals := 0 }
theorem c_Rd_stateAfterEquals {l : Launch} {D : va_G} {q : Nat → ClassId} {a t : Nat → Nat} {A : Nat → Prop} (hD : pv_D 52 a A) (hmv : pv_mv A (pv_ZX t A)) {σ : pv_S} {out : (Int32 × pv_S)} (hf : f_Rd_stateAfterEquals σ = some out) : pv_Mi l y_Rd_stateAfterEquals (Cond.code y_Rd_stateAfterEquals prog_5_method_12_code 1 (some .int) :: pv_TB) rm_Rd_stateAfterEquals D pv_cl (pv_ty q) 52 a (pv_FX q a) A (pv_ZX t A) [.ref (a 2)] σ out :=
  pv_ofI (by decide) (Nat.le_of_ble_eq_true rfl) hD (fun p e s m args below meth c Q ls C hret hl hP => s_Rd_stateAfterEquals_0 C hmv (Nat.le_refl _) (Nat.le_refl _) hret hl hP va_S.rf hf)
theorem d_Rd_stateAfterMinus_0 : decode prog_5_method_10_code 0 = .ok (.aload_n 0, 1) := by decide +kernel
theorem d_Rd_stateAfterMinus_1 : decode prog_5_method_10_code 1 = .ok (.getfield 21, 3) := by decide +kernel
theorem d_Rd_stateAfterMinus_4 : decode prog_5_method_10_code 4 = .ok (.bipush 6, 2) := by decide +kernel
theorem d_Rd_stateAfterMinus_6 : decode prog_5_method_10_code 6 = .ok (.if_icmp .eq 14, 3) := by decide +kernel
theorem d_Rd_stateAfterMinus_9 : decode prog_5_method_10_code 9 = .ok (.aload_n 0, 1) := by decide +kernel
theorem d_Rd_stateAfterMinus_10 : decode prog_5_method_10_code 10 = .ok (.getfield 21, 3) := by decide +kernel
theorem d_Rd_stateAfterMinus_13 : decode prog_5_method_10_code 13 = .ok (.bipush 7, 2) := by decide +kernel
theorem d_Rd_stateAfterMinus_15 : decode prog_5_method_10_code 15 = .ok (.if_icmp .eq 5, 3) := by decide +kernel
theorem d_Rd_stateAfterMinus_18 : decode prog_5_method_10_code 18 = .ok (.iconst (-1), 1) := by decide +kernel
theorem d_Rd_stateAfterMinus_19 : decode prog_5_method_10_code 19 = .ok (.ireturn, 1) := by decide +kernel
theorem d_Rd_stateAfterMinus_20 : decode prog_5_method_10_code 20 = .ok (.aload_n 0, 1) := by decide +kernel
theorem d_Rd_stateAfterMinus_21 : decode prog_5_method_10_code 21 = .ok (.getfield 12, 3) := by decide +kernel
theorem d_Rd_stateAfterMinus_24 : decode prog_5_method_10_code 24 = .ok (.invokevirtual 74, 3) := by decide +kernel
theorem d_Rd_stateAfterMinus_27 : decode prog_5_method_10_code 27 = .ok (.aload_n 0, 1) := by decide +kernel
theorem d_Rd_stateAfterMinus_28 : decode prog_5_method_10_code 28 = .ok (.iconst 0, 1) := by decide +kernel
theorem d_Rd_stateAfterMinus_29 : decode prog_5_method_10_code 29 = .ok (.putfield 59, 3) := by decide +kernel
theorem d_Rd_stateAfterMinus_32 : decode prog_5_method_10_code 32 = .ok (.aload_n 0, 1) := by decide +kernel
theorem d_Rd_stateAfterMinus_33 : decode prog_5_method_10_code 33 = .ok (.iconst (-1), 1) := by decide +kernel
theorem d_Rd_stateAfterMinus_34 : decode prog_5_method_10_code 34 = .ok (.putfield 100, 3) := by decide +kernel
theorem d_Rd_stateAfterMinus_37 : decode prog_5_method_10_code 37 = .ok (.bipush 9, 2) := by decide +kernel
theorem d_Rd_stateAfterMinus_39 : decode prog_5_method_10_code 39 = .ok (.ireturn, 1) := by decide +kernel
def f_Rd_stateAfterMinus_20 (σ : pv_S) : Option (Int32 × pv_S) :=
  ((f_Pt_addInput σ).bind fun q1 =>
some ((9 : Int32), (pv_uI (pv_uI q1 2 2 (0 : Int32)) 2 4 (-1 : Int32))))
set_option maxHeartbeats 4000000 in
set_option maxRecDepth 100000 in
theorem s_Rd_stateAfterMinus_20 {p : Program} {l : Launch} {e : Env} {R : Room} {s : State} {m : MethodId} {args : Array Value} {below : List Frame} {meth : Method} {c : Code} {Q : State → Prop} {D : va_G} {q : Nat → ClassId} {a t : Nat → Nat} {A : Nat → Prop} (C : pv_C p s m args c prog_5_method_10_code 1 "PatchVoices$Reader" pv_TB D pv_cl (pv_ty q) 52 a A (pv_ZX t A)) (hmv : pv_mv A (pv_ZX t A)) (hRf : 1 ≤ R.frames) (hRl : 20 ≤ R.locals) {out : (Int32 × pv_S)} (hret : pv_Ri p l e R s m args below meth c prog_5_method_10_code D pv_cl 52 a (pv_FX q a) A Q out) {σ : pv_S} {H : Heap} {locs : List Loc} {ls : Array Slot} (hl : lv_has ls 1 [(0, .ref (a 2))]) (hP : pv_W D pv_cl 52 a (pv_FX q a) σ H) (hS : va_S A s.heap H locs) (hf : f_Rd_stateAfterMinus_20 σ = some out) : W p l e R s m args below meth c H locs 0 0 Q (F0 m 20 ls []) := by
  unfold f_Rd_stateAfterMinus_20 at hf
  have hx := C.1
  have hb := C.2.1
  refine lv_aload_n hx hb d_Rd_stateAfterMinus_20 rfl (lv_at hl 0 rfl) ?_
  refine pv_get C hP (v := .ref (a 3)) (j := 0) (by decide) (fx_2 _ _ _ _) fl_Rd_12 rfl d_Rd_stateAfterMinus_21 ?_
  obtain ⟨q1, hc, hf⟩ := pv_b hf
  refine pv_callVv C hmv pv_good hP hS (As := []) (rest := []) (by decide) (fx_3 _ _ _ _) rfl (c_Pt_addInput C.2.2.2.2.2.2.1 hmv hc) cv_Rd_74 ⟨rfl, rfl, Nat.le_trans (Nat.le_of_ble_eq_true rfl) hRf, Nat.le_trans (Nat.le_of_ble_eq_true rfl) hRl⟩ rfl hl.1 rfl (Nat.le_of_ble_eq_true rfl) d_Rd_stateAfterMinus_24 ⟨Nat.zero_le _, Nat.zero_le _⟩ (fun H locs hP hS => ?_)
  refine lv_aload_n hx hb d_Rd_stateAfterMinus_27 rfl (lv_at hl 0 rfl) ?_
  refine lv_iconst (v := (0 : Int32)) hx hb d_Rd_stateAfterMinus_28 (by decide) ?_
  refine pv_putI C hP hS (x := (0 : Int32)) (by decide) (fx_2 _ _ _ _) fw_Rd_59 rfl rfl (Nat.le_of_ble_eq_true rfl) (fxs_2_2 _ _ _ _ _) d_Rd_stateAfterMinus_29 (fun H locs hP hS => ?_)
  refine lv_aload_n hx hb d_Rd_stateAfterMinus_32 rfl (lv_at hl 0 rfl) ?_
  refine lv_iconst (v := (-1 : Int32)) hx hb d_Rd_stateAfterMinus_33 (by decide) ?_
  refine pv_putI C hP hS (x := (-1 : Int32)) (by decide) (fx_2 _ _ _ _) fw_Rd_100 rfl rfl (Nat.le_of_ble_eq_true rfl) (fxs_2_4 _ _ _ _ _) d_Rd_stateAfterMinus_34 (fun H locs hP hS => ?_)
  refine lv_bipush (v := (9 : Int32)) hx hb d_Rd_stateAfterMinus_37 (by decide) ?_
  obtain rfl := Option.some.inj hf
  exact hret _ _ _ _ d_Rd_stateAfterMinus_39 hP hS
def f_Rd_stateAfterMinus_0 (σ : pv_S) : Option (Int32 × pv_S) :=
  (if (σ.1 2 1) = (6 : Int32) then
  f_Rd_stateAfterMinus_20 σ
  else
  (if (σ.1 2 1) = (7 : Int32) then
  f_Rd_stateAfterMinus_20 σ
  else
  some ((-1 : Int32), σ)))
set_option maxHeartbeats 4000000 in
set_option maxRecDepth 100000 in
theorem s_Rd_stateAfterMinus_0 {p : Program} {l : Launch} {e : Env} {R : Room} {s : State} {m : MethodId} {args : Array Value} {below : List Frame} {meth : Method} {c : Code} {Q : State → Prop} {D : va_G} {q : Nat → ClassId} {a t : Nat → Nat} {A : Nat → Prop} (C : pv_C p s m args c prog_5_method_10_code 1 "PatchVoices$Reader" pv_TB D pv_cl (pv_ty q) 52 a A (pv_ZX t A)) (hmv : pv_mv A (pv_ZX t A)) (hRf : 1 ≤ R.frames) (hRl : 20 ≤ R.locals) {out : (Int32 × pv_S)} (hret : pv_Ri p l e R s m args below meth c prog_5_method_10_code D pv_cl 52 a (pv_FX q a) A Q out) {σ : pv_S} {H : Heap} {locs : List Loc} {ls : Array Slot} (hl : lv_has ls 1 [(0, .ref (a 2))]) (hP : pv_W D pv_cl 52 a (pv_FX q a) σ H) (hS : va_S A s.heap H locs) (hf : f_Rd_stateAfterMinus_0 σ = some out) : W p l e R s m args below meth c H locs 0 0 Q (F0 m 0 ls []) := by
  unfold f_Rd_stateAfterMinus_0 at hf
  have hx := C.1
  have hb := C.2.1
  refine lv_aload_n hx hb d_Rd_stateAfterMinus_0 rfl (lv_at hl 0 rfl) ?_
  refine pv_get C hP (v := .int (σ.1 2 1)) (j := 1) (by decide) (fx_2 _ _ _ _) fl_Rd_21 rfl d_Rd_stateAfterMinus_1 ?_
  refine lv_bipush (v := (6 : Int32)) hx hb d_Rd_stateAfterMinus_4 (by decide) ?_
  refine lv_icmp_eq (tgt := 20) hx hb d_Rd_stateAfterMinus_6 (by decide) (fun h => ?_) (fun h => ?_)
  · have hf := pv_t hf h
    exact s_Rd_stateAfterMinus_20 C hmv hRf hRl hret (lv_sub hl [0] rfl) hP hS hf
  · have hf := pv_f hf h
    refine lv_aload_n hx hb d_Rd_stateAfterMinus_9 rfl (lv_at hl 0 rfl) ?_
    refine pv_get C hP (v := .int (σ.1 2 1)) (j := 1) (by decide) (fx_2 _ _ _ _) fl_Rd_21 rfl d_Rd_stateAfterMinus_10 ?_
    refine lv_bipush (v := (7 : Int32)) hx hb d_Rd_stateAfterMinus_13 (by decide) ?_
    refine lv_icmp_eq (tgt := 20) hx hb d_Rd_stateAfterMinus_15 (by decide) (fun h => ?_) (fun h => ?_)
    · have hf := pv_t hf h
      exact s_Rd_stateAfterMinus_20 C hmv hRf hRl hret (lv_sub hl [0] rfl) hP hS hf
    · have hf := pv_f hf h
      refine lv_iconst (v := (-1 : Int32)) hx hb d_Rd_stateAfterMinus_18 (by decide) ?_
      obtain rfl := Option.some.inj hf
      exact hret _ _ _ _ d_Rd_stateAfterMinus_19 hP hS
def f_Rd_stateAfterMinus (σ : pv_S) : Option (Int32 × pv_S) := f_Rd_stateAfterMinus_0 σ
def rm_Rd_stateAfterMinus : Room := { frames := 1, cells := 0, slots := 0, locals := 20 }
theorem c_Rd_stateAfterMinus {l : Launch} {D : va_G} {q : Nat → ClassId} {a t : Nat → Nat} {A : Nat → Prop} (hD : pv_D 52 a A) (hmv : pv_mv A (pv_ZX t A)) {σ : pv_S} {out : (Int32 × pv_S)} (hf : f_Rd_stateAfterMinus σ = some out) : pv_Mi l y_Rd_stateAfterMinus (Cond.code y_Rd_stateAfterMinus prog_5_method_10_code 1 (some .int) :: pv_TB) rm_Rd_stateAfterMinus D pv_cl (pv_ty q) 52 a (pv_FX q a) A (pv_ZX t A) [.ref (a 2)] σ out :=
  pv_ofI (by decide) (Nat.le_of_ble_eq_true rfl) hD (fun p e s m args below meth c Q ls C hret hl hP => s_Rd_stateAfterMinus_0 C hmv (Nat.le_refl _) (Nat.le_refl _) hret hl hP va_S.rf hf)
theorem d_Rd_hasInputBehind_0 : decode prog_5_method_13_code 0 = .ok (.aload_n 0, 1) := by decide +kernel
theorem d_Rd_hasInputBehind_1 : decode prog_5_method_13_code 1 = .ok (.getfield 21, 3) := by decide +kernel
theorem d_Rd_hasInputBehind_4 : decode prog_5_method_13_code 4 = .ok (.bipush 8, 2) := by decide +kernel
theorem d_Rd_hasInputBehind_6 : decode prog_5_method_13_code 6 = .ok (.if_icmp .eq 21, 3) := by decide +kernel
theorem d_Rd_hasInputBehind_9 : decode prog_5_method_13_code 9 = .ok (.aload_n 0, 1) := by decide +kernel
theorem d_Rd_hasInputBehind_10 : decode prog_5_method_13_code 10 = .ok (.getfield 21, 3) := by decide +kernel
theorem d_Rd_hasInputBehind_13 : decode prog_5_method_13_code 13 = .ok (.bipush 10, 2) := by decide +kernel
theorem d_Rd_hasInputBehind_15 : decode prog_5_method_13_code 15 = .ok (.if_icmp .eq 12, 3) := by decide +kernel
theorem d_Rd_hasInputBehind_18 : decode prog_5_method_13_code 18 = .ok (.aload_n 0, 1) := by decide +kernel
theorem d_Rd_hasInputBehind_19 : decode prog_5_method_13_code 19 = .ok (.getfield 21, 3) := by decide +kernel
theorem d_Rd_hasInputBehind_22 : decode prog_5_method_13_code 22 = .ok (.bipush 11, 2) := by decide +kernel
theorem d_Rd_hasInputBehind_24 : decode prog_5_method_13_code 24 = .ok (.if_icmp .ne 7, 3) := by decide +kernel
theorem d_Rd_hasInputBehind_27 : decode prog_5_method_13_code 27 = .ok (.iconst 1, 1) := by decide +kernel
theorem d_Rd_hasInputBehind_28 : decode prog_5_method_13_code 28 = .ok (.goto 4, 3) := by decide +kernel
theorem d_Rd_hasInputBehind_31 : decode prog_5_method_13_code 31 = .ok (.iconst 0, 1) := by decide +kernel
theorem d_Rd_hasInputBehind_32 : decode prog_5_method_13_code 32 = .ok (.ireturn, 1) := by decide +kernel
def f_Rd_hasInputBehind_0 (σ : pv_S) : Option (Int32 × pv_S) :=
  (if (σ.1 2 1) = (8 : Int32) then
  some ((1 : Int32), σ)
  else
  (if (σ.1 2 1) = (10 : Int32) then
  some ((1 : Int32), σ)
  else
  (if (σ.1 2 1) = (11 : Int32) then
  some ((1 : Int32), σ)
  else
  some ((0 : Int32), σ))))
set_option maxHeartbeats 4000000 in
set_option maxRecDepth 100000 in
theorem s_Rd_hasInputBehind_0 {p : Program} {l : Launch} {e : Env} {R : Room} {s : State} {m : MethodId} {args : Array Value} {below : List Frame} {meth : Method} {c : Code} {Q : State → Prop} {D : va_G} {q : Nat → ClassId} {a t : Nat → Nat} {A : Nat → Prop} (C : pv_C p s m args c prog_5_method_13_code 1 "PatchVoices$Reader" pv_TB D pv_cl (pv_ty q) 52 a A (pv_ZX t A)) (hmv : pv_mv A (pv_ZX t A)) (hRf : 0 ≤ R.frames) (hRl : 0 ≤ R.locals) {out : (Int32 × pv_S)} (hret : pv_Rz p l e R s m args below meth c prog_5_method_13_code D pv_cl 52 a (pv_FX q a) A Q out) {σ : pv_S} {H : Heap} {locs : List Loc} {ls : Array Slot} (hl : lv_has ls 1 [(0, .ref (a 2))]) (hP : pv_W D pv_cl 52 a (pv_FX q a) σ H) (hS : va_S A s.heap H locs) (hf : f_Rd_hasInputBehind_0 σ = some out) : W p l e R s m args below meth c H locs 0 0 Q (F0 m 0 ls []) := by
  unfold f_Rd_hasInputBehind_0 at hf
  have hx := C.1
  have hb := C.2.1
  refine lv_aload_n hx hb d_Rd_hasInputBehind_0 rfl (lv_at hl 0 rfl) ?_
  refine pv_get C hP (v := .int (σ.1 2 1)) (j := 1) (by decide) (fx_2 _ _ _ _) fl_Rd_21 rfl d_Rd_hasInputBehind_1 ?_
  refine lv_bipush (v := (8 : Int32)) hx hb d_Rd_hasInputBehind_4 (by decide) ?_
  refine lv_icmp_eq (tgt := 27) hx hb d_Rd_hasInputBehind_6 (by decide) (fun h => ?_) (fun h => ?_)
  · have hf := pv_t hf h
    refine lv_iconst (v := (1 : Int32)) hx hb d_Rd_hasInputBehind_27 (by decide) ?_
    refine lv_goto (tgt := 32) hx hb d_Rd_hasInputBehind_28 (by decide) ?_
    obtain rfl := Option.some.inj hf
    exact hret _ _ _ _ d_Rd_hasInputBehind_32 rfl hP hS
  · have hf := pv_f hf h
    refine lv_aload_n hx hb d_Rd_hasInputBehind_9 rfl (lv_at hl 0 rfl) ?_
    refine pv_get C hP (v := .int (σ.1 2 1)) (j := 1) (by decide) (fx_2 _ _ _ _) fl_Rd_21 rfl d_Rd_hasInputBehind_10 ?_
    refine lv_bipush (v := (10 : Int32)) hx hb d_Rd_hasInputBehind_13 (by decide) ?_
    refine lv_icmp_eq (tgt := 27) hx hb d_Rd_hasInputBehind_15 (by decide) (fun h => ?_) (fun h => ?_)
    · have hf := pv_t hf h
      refine lv_iconst (v := (1 : Int32)) hx hb d_Rd_hasInputBehind_27 (by decide) ?_
      refine lv_goto (tgt := 32) hx hb d_Rd_hasInputBehind_28 (by decide) ?_
      obtain rfl := Option.some.inj hf
      exact hret _ _ _ _ d_Rd_hasInputBehind_32 rfl hP hS
    · have hf := pv_f hf h
      refine lv_aload_n hx hb d_Rd_hasInputBehind_18 rfl (lv_at hl 0 rfl) ?_
      refine pv_get C hP (v := .int (σ.1 2 1)) (j := 1) (by decide) (fx_2 _ _ _ _) fl_Rd_21 rfl d_Rd_hasInputBehind_19 ?_
      refine lv_bipush (v := (11 : Int32)) hx hb d_Rd_hasInputBehind_22 (by decide) ?_
      refine lv_icmp_ne (tgt := 31) hx hb d_Rd_hasInputBehind_24 (by decide) (fun h => ?_) (fun h => ?_)
      · have hf := pv_f hf h
        refine lv_iconst (v := (0 : Int32)) hx hb d_Rd_hasInputBehind_31 (by decide) ?_
        obtain rfl := Option.some.inj hf
        exact hret _ _ _ _ d_Rd_hasInputBehind_32 rfl hP hS
      · have hf := pv_t hf h
        refine lv_iconst (v := (1 : Int32)) hx hb d_Rd_hasInputBehind_27 (by decide) ?_
        refine lv_goto (tgt := 32) hx hb d_Rd_hasInputBehind_28 (by decide) ?_
        obtain rfl := Option.some.inj hf
        exact hret _ _ _ _ d_Rd_hasInputBehind_32 rfl hP hS
def f_Rd_hasInputBehind (σ : pv_S) : Option (Int32 × pv_S) := f_Rd_hasInputBehind_0 σ
def rm_Rd_hasInputBehind : Room := { frames := 0, cells := 0, slots := 0, locals := 0 }
theorem c_Rd_hasInputBehind {l : Launch} {D : va_G} {q : Nat → ClassId} {a t : Nat → Nat} {A : Nat → Prop} (hD : pv_D 52 a A) (hmv : pv_mv A (pv_ZX t A)) {σ : pv_S} {out : (Int32 × pv_S)} (hf : f_Rd_hasInputBehind σ = some out) : pv_Mi l y_Rd_hasInputBehind (Cond.code y_Rd_hasInputBehind prog_5_method_13_code 1 (some .boolean) :: pv_TB) rm_Rd_hasInputBehind D pv_cl (pv_ty q) 52 a (pv_FX q a) A (pv_ZX t A) [.ref (a 2)] σ out :=
  pv_ofZ (by decide) (Nat.le_of_ble_eq_true rfl) hD (fun p e s m args below meth c Q ls C hret hl hP => s_Rd_hasInputBehind_0 C hmv (Nat.le_refl _) (Nat.le_refl _) hret hl hP va_S.rf hf)
theorem d_Rd_stateAfter_0 : decode prog_5_method_3_code 0 = .ok (.iload_n 1, 1) := by decide +kernel
theorem d_Rd_stateAfter_1 : decode prog_5_method_3_code 1 = .ok (.bipush 97, 2) := by decide +kernel
theorem d_Rd_stateAfter_3 : decode prog_5_method_3_code 3 = .ok (.if_icmp .lt 15, 3) := by decide +kernel
theorem d_Rd_stateAfter_6 : decode prog_5_method_3_code 6 = .ok (.iload_n 1, 1) := by decide +kernel
theorem d_Rd_stateAfter_7 : decode prog_5_method_3_code 7 = .ok (.bipush 122, 2) := by decide +kernel
theorem d_Rd_stateAfter_9 : decode prog_5_method_3_code 9 = .ok (.if_icmp .gt 9, 3) := by decide +kernel
theorem d_Rd_stateAfter_12 : decode prog_5_method_3_code 12 = .ok (.aload_n 0, 1) := by decide +kernel
theorem d_Rd_stateAfter_13 : decode prog_5_method_3_code 13 = .ok (.iload_n 1, 1) := by decide +kernel
theorem d_Rd_stateAfter_14 : decode prog_5_method_3_code 14 = .ok (.invokevirtual 32, 3) := by decide +kernel
theorem d_Rd_stateAfter_17 : decode prog_5_method_3_code 17 = .ok (.ireturn, 1) := by decide +kernel
theorem d_Rd_stateAfter_18 : decode prog_5_method_3_code 18 = .ok (.iload_n 1, 1) := by decide +kernel
theorem d_Rd_stateAfter_19 : decode prog_5_method_3_code 19 = .ok (.bipush 48, 2) := by decide +kernel
theorem d_Rd_stateAfter_21 : decode prog_5_method_3_code 21 = .ok (.if_icmp .lt 18, 3) := by decide +kernel
theorem d_Rd_stateAfter_24 : decode prog_5_method_3_code 24 = .ok (.iload_n 1, 1) := by decide +kernel
theorem d_Rd_stateAfter_25 : decode prog_5_method_3_code 25 = .ok (.bipush 57, 2) := by decide +kernel
theorem d_Rd_stateAfter_27 : decode prog_5_method_3_code 27 = .ok (.if_icmp .gt 12, 3) := by decide +kernel
theorem d_Rd_stateAfter_30 : decode prog_5_method_3_code 30 = .ok (.aload_n 0, 1) := by decide +kernel
theorem d_Rd_stateAfter_31 : decode prog_5_method_3_code 31 = .ok (.iload_n 1, 1) := by decide +kernel
theorem d_Rd_stateAfter_32 : decode prog_5_method_3_code 32 = .ok (.bipush 48, 2) := by decide +kernel
theorem d_Rd_stateAfter_34 : decode prog_5_method_3_code 34 = .ok (.isub, 1) := by decide +kernel
theorem d_Rd_stateAfter_35 : decode prog_5_method_3_code 35 = .ok (.invokevirtual 35, 3) := by decide +kernel
theorem d_Rd_stateAfter_38 : decode prog_5_method_3_code 38 = .ok (.ireturn, 1) := by decide +kernel
theorem d_Rd_stateAfter_39 : decode prog_5_method_3_code 39 = .ok (.iload_n 1, 1) := by decide +kernel
theorem d_Rd_stateAfter_40 : decode prog_5_method_3_code 40 = .ok (.lookupswitch 160 #[(32, 68), (40, 78), (41, 122), (44, 98), (45, 93), (59, 145), (61, 73)], 68) := by decide +kernel
theorem d_Rd_stateAfter_108 : decode prog_5_method_3_code 108 = .ok (.aload_n 0, 1) := by decide +kernel
theorem d_Rd_stateAfter_109 : decode prog_5_method_3_code 109 = .ok (.invokevirtual 39, 3) := by decide +kernel
theorem d_Rd_stateAfter_112 : decode prog_5_method_3_code 112 = .ok (.ireturn, 1) := by decide +kernel
theorem d_Rd_stateAfter_113 : decode prog_5_method_3_code 113 = .ok (.aload_n 0, 1) := by decide +kernel
theorem d_Rd_stateAfter_114 : decode prog_5_method_3_code 114 = .ok (.invokevirtual 43, 3) := by decide +kernel
theorem d_Rd_stateAfter_117 : decode prog_5_method_3_code 117 = .ok (.ireturn, 1) := by decide +kernel
theorem d_Rd_stateAfter_118 : decode prog_5_method_3_code 118 = .ok (.aload_n 0, 1) := by decide +kernel
theorem d_Rd_stateAfter_119 : decode prog_5_method_3_code 119 = .ok (.getfield 21, 3) := by decide +kernel
theorem d_Rd_stateAfter_122 : decode prog_5_method_3_code 122 = .ok (.iconst 5, 1) := by decide +kernel
theorem d_Rd_stateAfter_123 : decode prog_5_method_3_code 123 = .ok (.if_icmp .ne 8, 3) := by decide +kernel
theorem d_Rd_stateAfter_126 : decode prog_5_method_3_code 126 = .ok (.bipush 6, 2) := by decide +kernel
theorem d_Rd_stateAfter_128 : decode prog_5_method_3_code 128 = .ok (.goto 4, 3) := by decide +kernel
theorem d_Rd_stateAfter_131 : decode prog_5_method_3_code 131 = .ok (.iconst (-1), 1) := by decide +kernel
theorem d_Rd_stateAfter_132 : decode prog_5_method_3_code 132 = .ok (.ireturn, 1) := by decide +kernel
theorem d_Rd_stateAfter_133 : decode prog_5_method_3_code 133 = .ok (.aload_n 0, 1) := by decide +kernel
theorem d_Rd_stateAfter_134 : decode prog_5_method_3_code 134 = .ok (.invokevirtual 46, 3) := by decide +kernel
theorem d_Rd_stateAfter_137 : decode prog_5_method_3_code 137 = .ok (.ireturn, 1) := by decide +kernel
theorem d_Rd_stateAfter_138 : decode prog_5_method_3_code 138 = .ok (.aload_n 0, 1) := by decide +kernel
theorem d_Rd_stateAfter_139 : decode prog_5_method_3_code 139 = .ok (.invokevirtual 49, 3) := by decide +kernel
theorem d_Rd_stateAfter_142 : decode prog_5_method_3_code 142 = .ok (.ifCond .eq 18, 3) := by decide +kernel
theorem d_Rd_stateAfter_145 : decode prog_5_method_3_code 145 = .ok (.aload_n 0, 1) := by decide +kernel
theorem d_Rd_stateAfter_146 : decode prog_5_method_3_code 146 = .ok (.getfield 12, 3) := by decide +kernel
theorem d_Rd_stateAfter_149 : decode prog_5_method_3_code 149 = .ok (.invokevirtual 53, 3) := by decide +kernel
theorem d_Rd_stateAfter_152 : decode prog_5_method_3_code 152 = .ok (.ifCond .eq 8, 3) := by decide +kernel
theorem d_Rd_stateAfter_155 : decode prog_5_method_3_code 155 = .ok (.bipush 7, 2) := by decide +kernel
theorem d_Rd_stateAfter_157 : decode prog_5_method_3_code 157 = .ok (.goto 4, 3) := by decide +kernel
theorem d_Rd_stateAfter_160 : decode prog_5_method_3_code 160 = .ok (.iconst (-1), 1) := by decide +kernel
theorem d_Rd_stateAfter_161 : decode prog_5_method_3_code 161 = .ok (.ireturn, 1) := by decide +kernel
theorem d_Rd_stateAfter_162 : decode prog_5_method_3_code 162 = .ok (.aload_n 0, 1) := by decide +kernel
theorem d_Rd_stateAfter_163 : decode prog_5_method_3_code 163 = .ok (.invokevirtual 49, 3) := by decide +kernel
theorem d_Rd_stateAfter_166 : decode prog_5_method_3_code 166 = .ok (.ifCond .ne 12, 3) := by decide +kernel
theorem d_Rd_stateAfter_169 : decode prog_5_method_3_code 169 = .ok (.aload_n 0, 1) := by decide +kernel
theorem d_Rd_stateAfter_170 : decode prog_5_method_3_code 170 = .ok (.getfield 21, 3) := by decide +kernel
theorem d_Rd_stateAfter_173 : decode prog_5_method_3_code 173 = .ok (.bipush 6, 2) := by decide +kernel
theorem d_Rd_stateAfter_175 : decode prog_5_method_3_code 175 = .ok (.if_icmp .ne 8, 3) := by decide +kernel
theorem d_Rd_stateAfter_178 : decode prog_5_method_3_code 178 = .ok (.bipush 12, 2) := by decide +kernel
theorem d_Rd_stateAfter_180 : decode prog_5_method_3_code 180 = .ok (.goto 4, 3) := by decide +kernel
theorem d_Rd_stateAfter_183 : decode prog_5_method_3_code 183 = .ok (.iconst (-1), 1) := by decide +kernel
theorem d_Rd_stateAfter_184 : decode prog_5_method_3_code 184 = .ok (.ireturn, 1) := by decide +kernel
theorem d_Rd_stateAfter_185 : decode prog_5_method_3_code 185 = .ok (.aload_n 0, 1) := by decide +kernel
theorem d_Rd_stateAfter_186 : decode prog_5_method_3_code 186 = .ok (.getfield 21, 3) := by decide +kernel
theorem d_Rd_stateAfter_189 : decode prog_5_method_3_code 189 = .ok (.bipush 12, 2) := by decide +kernel
theorem d_Rd_stateAfter_191 : decode prog_5_method_3_code 191 = .ok (.if_icmp .ne 7, 3) := by decide +kernel
theorem d_Rd_stateAfter_194 : decode prog_5_method_3_code 194 = .ok (.iconst 0, 1) := by decide +kernel
theorem d_Rd_stateAfter_195 : decode prog_5_method_3_code 195 = .ok (.goto 4, 3) := by decide +kernel
theorem d_Rd_stateAfter_198 : decode prog_5_method_3_code 198 = .ok (.iconst (-1), 1) := by decide +kernel
theorem d_Rd_stateAfter_199 : decode prog_5_method_3_code 199 = .ok (.ireturn, 1) := by decide +kernel
theorem d_Rd_stateAfter_200 : decode prog_5_method_3_code 200 = .ok (.iconst (-1), 1) := by decide +kernel
theorem d_Rd_stateAfter_201 : decode prog_5_method_3_code 201 = .ok (.ireturn, 1) := by decide +kernel
def f_Rd_stateAfter_39 (σ : pv_S) (x1 : Int32) : Option (Int32 × pv_S) :=
  (if x1 = (32 : Int32) then
  ((f_Rd_stateAfterBlank σ).bind fun q3 =>
some (q3.1, q3.2))
  else
(if x1 = (40 : Int32) then
  (if (σ.1 2 1) = (5 : Int32) then
  some ((6 : Int32), σ)
  else
  some ((-1 : Int32), σ))
  else
(if x1 = (41 : Int32) then
  ((f_Rd_hasInputBehind σ).bind fun q4 =>
(if q4.1 = 0 then
  (if (q4.2.1 2 1) = (6 : Int32) then
  some ((12 : Int32), q4.2)
  else
  some ((-1 : Int32), q4.2))
  else
  some ((12 : Int32), q4.2)))
  else
(if x1 = (44 : Int32) then
  ((f_Rd_hasInputBehind σ).bind fun q5 =>
(if q5.1 = 0 then
  some ((-1 : Int32), q5.2)
  else
  ((f_Pt_hasRoomForInput q5.2).bind fun q6 =>
(if q6.1 = 0 then
  some ((-1 : Int32), q6.2)
  else
  some ((7 : Int32), q6.2)))))
  else
(if x1 = (45 : Int32) then
  ((f_Rd_stateAfterMinus σ).bind fun q7 =>
some (q7.1, q7.2))
  else
(if x1 = (59 : Int32) then
  (if (σ.1 2 1) = (12 : Int32) then
  some ((0 : Int32), σ)
  else
  some ((-1 : Int32), σ))
  else
(if x1 = (61 : Int32) then
  ((f_Rd_stateAfterEquals σ).bind fun q8 =>
some (q8.1, q8.2))
  else
  some ((-1 : Int32), σ))))))))
set_option maxHeartbeats 4000000 in
set_option maxRecDepth 100000 in
theorem s_Rd_stateAfter_39 {p : Program} {l : Launch} {e : Env} {R : Room} {s : State} {m : MethodId} {args : Array Value} {below : List Frame} {meth : Method} {c : Code} {Q : State → Prop} {D : va_G} {q : Nat → ClassId} {a t : Nat → Nat} {A : Nat → Prop} (C : pv_C p s m args c prog_5_method_3_code 2 "PatchVoices$Reader" pv_TB D pv_cl (pv_ty q) 52 a A (pv_ZX t A)) (hmv : pv_mv A (pv_ZX t A)) (hRf : 7 ≤ R.frames) (hRl : 150 ≤ R.locals) {out : (Int32 × pv_S)} (hret : pv_Ri p l e R s m args below meth c prog_5_method_3_code D pv_cl 52 a (pv_FX q a) A Q out) {σ : pv_S} {x1 : Int32} {H : Heap} {locs : List Loc} {ls : Array Slot} (hl : lv_has ls 2 [(0, .ref (a 2)), (1, .int x1)]) (hP : pv_W D pv_cl 52 a (pv_FX q a) σ H) (hS : va_S A s.heap H locs) (hf : f_Rd_stateAfter_39 σ x1 = some out) : W p l e R s m args below meth c H locs 0 0 Q (F0 m 39 ls []) := by
  unfold f_Rd_stateAfter_39 at hf
  have hx := C.1
  have hb := C.2.1
  refine lv_iload_n hx hb d_Rd_stateAfter_39 rfl (lv_at hl 1 rfl) ?_
  by_cases h32 : x1 = (32 : Int32)
  · have hf := pv_t hf h32
    refine lv_lookup (tgt := 108) (off := 68) hx hb d_Rd_stateAfter_40 (by decide) (by first | (rw [h32]; done) | (rw [h32]; rfl)) (by decide) ?_
    refine lv_aload_n hx hb d_Rd_stateAfter_108 rfl (lv_at hl 0 rfl) ?_
    obtain ⟨q3, hc, hf⟩ := pv_b hf
    refine pv_callVi C hmv pv_good hP hS (As := []) (rest := []) (by decide) (fx_2 _ _ _ _) rfl (c_Rd_stateAfterBlank C.2.2.2.2.2.2.1 hmv hc) cv_Rd_39 ⟨rfl, rfl, Nat.le_trans (Nat.le_of_ble_eq_true rfl) hRf, Nat.le_trans (Nat.le_of_ble_eq_true rfl) hRl⟩ rfl hl.1 rfl (Nat.le_of_ble_eq_true rfl) d_Rd_stateAfter_109 ⟨Nat.zero_le _, Nat.zero_le _⟩ (fun H locs hP hS => ?_)
    obtain rfl := Option.some.inj hf
    exact hret _ _ _ _ d_Rd_stateAfter_112 hP hS
  · have hf := pv_f hf h32
    by_cases h40 : x1 = (40 : Int32)
    · have hf := pv_t hf h40
      refine lv_lookup (tgt := 118) (off := 78) hx hb d_Rd_stateAfter_40 (by decide) (by first | (rw [h40]; done) | (rw [h40]; rfl)) (by decide) ?_
      refine lv_aload_n hx hb d_Rd_stateAfter_118 rfl (lv_at hl 0 rfl) ?_
      refine pv_get C hP (v := .int (σ.1 2 1)) (j := 1) (by decide) (fx_2 _ _ _ _) fl_Rd_21 rfl d_Rd_stateAfter_119 ?_
      refine lv_iconst (v := (5 : Int32)) hx hb d_Rd_stateAfter_122 (by decide) ?_
      refine lv_icmp_ne (tgt := 131) hx hb d_Rd_stateAfter_123 (by decide) (fun h => ?_) (fun h => ?_)
      · have hf := pv_f hf h
        refine lv_iconst (v := (-1 : Int32)) hx hb d_Rd_stateAfter_131 (by decide) ?_
        obtain rfl := Option.some.inj hf
        exact hret _ _ _ _ d_Rd_stateAfter_132 hP hS
      · have hf := pv_t hf h
        refine lv_bipush (v := (6 : Int32)) hx hb d_Rd_stateAfter_126 (by decide) ?_
        refine lv_goto (tgt := 132) hx hb d_Rd_stateAfter_128 (by decide) ?_
        obtain rfl := Option.some.inj hf
        exact hret _ _ _ _ d_Rd_stateAfter_132 hP hS
    · have hf := pv_f hf h40
      by_cases h41 : x1 = (41 : Int32)
      · have hf := pv_t hf h41
        refine lv_lookup (tgt := 162) (off := 122) hx hb d_Rd_stateAfter_40 (by decide) (by first | (rw [h41]; done) | (rw [h41]; rfl)) (by decide) ?_
        refine lv_aload_n hx hb d_Rd_stateAfter_162 rfl (lv_at hl 0 rfl) ?_
        obtain ⟨q4, hc, hf⟩ := pv_b hf
        refine pv_callVi C hmv pv_good hP hS (As := []) (rest := []) (by decide) (fx_2 _ _ _ _) rfl (c_Rd_hasInputBehind C.2.2.2.2.2.2.1 hmv hc) cv_Rd_49 ⟨rfl, rfl, Nat.le_trans (Nat.le_of_ble_eq_true rfl) hRf, Nat.le_trans (Nat.le_of_ble_eq_true rfl) hRl⟩ rfl hl.1 rfl (Nat.le_of_ble_eq_true rfl) d_Rd_stateAfter_163 ⟨Nat.zero_le _, Nat.zero_le _⟩ (fun H locs hP hS => ?_)
        refine lv_if_ne (tgt := 178) hx hb d_Rd_stateAfter_166 (by decide) (fun h => ?_) (fun h => ?_)
        · have hf := pv_f hf h
          refine lv_bipush (v := (12 : Int32)) hx hb d_Rd_stateAfter_178 (by decide) ?_
          refine lv_goto (tgt := 184) hx hb d_Rd_stateAfter_180 (by decide) ?_
          obtain rfl := Option.some.inj hf
          exact hret _ _ _ _ d_Rd_stateAfter_184 hP hS
        · have hf := pv_t hf h
          refine lv_aload_n hx hb d_Rd_stateAfter_169 rfl (lv_at hl 0 rfl) ?_
          refine pv_get C hP (v := .int (q4.2.1 2 1)) (j := 1) (by decide) (fx_2 _ _ _ _) fl_Rd_21 rfl d_Rd_stateAfter_170 ?_
          refine lv_bipush (v := (6 : Int32)) hx hb d_Rd_stateAfter_173 (by decide) ?_
          refine lv_icmp_ne (tgt := 183) hx hb d_Rd_stateAfter_175 (by decide) (fun h => ?_) (fun h => ?_)
          · have hf := pv_f hf h
            refine lv_iconst (v := (-1 : Int32)) hx hb d_Rd_stateAfter_183 (by decide) ?_
            obtain rfl := Option.some.inj hf
            exact hret _ _ _ _ d_Rd_stateAfter_184 hP hS
          · have hf := pv_t hf h
            refine lv_bipush (v := (12 : Int32)) hx hb d_Rd_stateAfter_178 (by decide) ?_
            refine lv_goto (tgt := 184) hx hb d_Rd_stateAfter_180 (by decide) ?_
            obtain rfl := Option.some.inj hf
            exact hret _ _ _ _ d_Rd_stateAfter_184 hP hS
      · have hf := pv_f hf h41
        by_cases h44 : x1 = (44 : Int32)
        · have hf := pv_t hf h44
          refine lv_lookup (tgt := 138) (off := 98) hx hb d_Rd_stateAfter_40 (by decide) (by first | (rw [h44]; done) | (rw [h44]; rfl)) (by decide) ?_
          refine lv_aload_n hx hb d_Rd_stateAfter_138 rfl (lv_at hl 0 rfl) ?_
          obtain ⟨q5, hc, hf⟩ := pv_b hf
          refine pv_callVi C hmv pv_good hP hS (As := []) (rest := []) (by decide) (fx_2 _ _ _ _) rfl (c_Rd_hasInputBehind C.2.2.2.2.2.2.1 hmv hc) cv_Rd_49 ⟨rfl, rfl, Nat.le_trans (Nat.le_of_ble_eq_true rfl) hRf, Nat.le_trans (Nat.le_of_ble_eq_true rfl) hRl⟩ rfl hl.1 rfl (Nat.le_of_ble_eq_true rfl) d_Rd_stateAfter_139 ⟨Nat.zero_le _, Nat.zero_le _⟩ (fun H locs hP hS => ?_)
          refine lv_if_eq (tgt := 160) hx hb d_Rd_stateAfter_142 (by decide) (fun h => ?_) (fun h => ?_)
          · have hf := pv_t hf h
            refine lv_iconst (v := (-1 : Int32)) hx hb d_Rd_stateAfter_160 (by decide) ?_
            obtain rfl := Option.some.inj hf
            exact hret _ _ _ _ d_Rd_stateAfter_161 hP hS
          · have hf := pv_f hf h
            refine lv_aload_n hx hb d_Rd_stateAfter_145 rfl (lv_at hl 0 rfl) ?_
            refine pv_get C hP (v := .ref (a 3)) (j := 0) (by decide) (fx_2 _ _ _ _) fl_Rd_12 rfl d_Rd_stateAfter_146 ?_
            obtain ⟨q6, hc, hf⟩ := pv_b hf
            refine pv_callVi C hmv pv_good hP hS (As := []) (rest := []) (by decide) (fx_3 _ _ _ _) rfl (c_Pt_hasRoomForInput C.2.2.2.2.2.2.1 hmv hc) cv_Rd_53 ⟨rfl, rfl, Nat.le_trans (Nat.le_of_ble_eq_true rfl) hRf, Nat.le_trans (Nat.le_of_ble_eq_true rfl) hRl⟩ rfl hl.1 rfl (Nat.le_of_ble_eq_true rfl) d_Rd_stateAfter_149 ⟨Nat.zero_le _, Nat.zero_le _⟩ (fun H locs hP hS => ?_)
            refine lv_if_eq (tgt := 160) hx hb d_Rd_stateAfter_152 (by decide) (fun h => ?_) (fun h => ?_)
            · have hf := pv_t hf h
              refine lv_iconst (v := (-1 : Int32)) hx hb d_Rd_stateAfter_160 (by decide) ?_
              obtain rfl := Option.some.inj hf
              exact hret _ _ _ _ d_Rd_stateAfter_161 hP hS
            · have hf := pv_f hf h
              refine lv_bipush (v := (7 : Int32)) hx hb d_Rd_stateAfter_155 (by decide) ?_
              refine lv_goto (tgt := 161) hx hb d_Rd_stateAfter_157 (by decide) ?_
              obtain rfl := Option.some.inj hf
              exact hret _ _ _ _ d_Rd_stateAfter_161 hP hS
        · have hf := pv_f hf h44
          by_cases h45 : x1 = (45 : Int32)
          · have hf := pv_t hf h45
            refine lv_lookup (tgt := 133) (off := 93) hx hb d_Rd_stateAfter_40 (by decide) (by first | (rw [h45]; done) | (rw [h45]; rfl)) (by decide) ?_
            refine lv_aload_n hx hb d_Rd_stateAfter_133 rfl (lv_at hl 0 rfl) ?_
            obtain ⟨q7, hc, hf⟩ := pv_b hf
            refine pv_callVi C hmv pv_good hP hS (As := []) (rest := []) (by decide) (fx_2 _ _ _ _) rfl (c_Rd_stateAfterMinus C.2.2.2.2.2.2.1 hmv hc) cv_Rd_46 ⟨rfl, rfl, Nat.le_trans (Nat.le_of_ble_eq_true rfl) hRf, Nat.le_trans (Nat.le_of_ble_eq_true rfl) hRl⟩ rfl hl.1 rfl (Nat.le_of_ble_eq_true rfl) d_Rd_stateAfter_134 ⟨Nat.zero_le _, Nat.zero_le _⟩ (fun H locs hP hS => ?_)
            obtain rfl := Option.some.inj hf
            exact hret _ _ _ _ d_Rd_stateAfter_137 hP hS
          · have hf := pv_f hf h45
            by_cases h59 : x1 = (59 : Int32)
            · have hf := pv_t hf h59
              refine lv_lookup (tgt := 185) (off := 145) hx hb d_Rd_stateAfter_40 (by decide) (by first | (rw [h59]; done) | (rw [h59]; rfl)) (by decide) ?_
              refine lv_aload_n hx hb d_Rd_stateAfter_185 rfl (lv_at hl 0 rfl) ?_
              refine pv_get C hP (v := .int (σ.1 2 1)) (j := 1) (by decide) (fx_2 _ _ _ _) fl_Rd_21 rfl d_Rd_stateAfter_186 ?_
              refine lv_bipush (v := (12 : Int32)) hx hb d_Rd_stateAfter_189 (by decide) ?_
              refine lv_icmp_ne (tgt := 198) hx hb d_Rd_stateAfter_191 (by decide) (fun h => ?_) (fun h => ?_)
              · have hf := pv_f hf h
                refine lv_iconst (v := (-1 : Int32)) hx hb d_Rd_stateAfter_198 (by decide) ?_
                obtain rfl := Option.some.inj hf
                exact hret _ _ _ _ d_Rd_stateAfter_199 hP hS
              · have hf := pv_t hf h
                refine lv_iconst (v := (0 : Int32)) hx hb d_Rd_stateAfter_194 (by decide) ?_
                refine lv_goto (tgt := 199) hx hb d_Rd_stateAfter_195 (by decide) ?_
                obtain rfl := Option.some.inj hf
                exact hret _ _ _ _ d_Rd_stateAfter_199 hP hS
            · have hf := pv_f hf h59
              by_cases h61 : x1 = (61 : Int32)
              · have hf := pv_t hf h61
                refine lv_lookup (tgt := 113) (off := 73) hx hb d_Rd_stateAfter_40 (by decide) (by first | (rw [h61]; done) | (rw [h61]; rfl)) (by decide) ?_
                refine lv_aload_n hx hb d_Rd_stateAfter_113 rfl (lv_at hl 0 rfl) ?_
                obtain ⟨q8, hc, hf⟩ := pv_b hf
                refine pv_callVi C hmv pv_good hP hS (As := []) (rest := []) (by decide) (fx_2 _ _ _ _) rfl (c_Rd_stateAfterEquals C.2.2.2.2.2.2.1 hmv hc) cv_Rd_43 ⟨rfl, rfl, Nat.le_trans (Nat.le_of_ble_eq_true rfl) hRf, Nat.le_trans (Nat.le_of_ble_eq_true rfl) hRl⟩ rfl hl.1 rfl (Nat.le_of_ble_eq_true rfl) d_Rd_stateAfter_114 ⟨Nat.zero_le _, Nat.zero_le _⟩ (fun H locs hP hS => ?_)
                obtain rfl := Option.some.inj hf
                exact hret _ _ _ _ d_Rd_stateAfter_117 hP hS
              · have hf := pv_f hf h61
                refine lv_lookup (tgt := 200) (off := 160) hx hb d_Rd_stateAfter_40 (by decide) ((lv_osw h32 (by decide)).trans ((lv_osw h40 (by decide)).trans ((lv_osw h41 (by decide)).trans ((lv_osw h44 (by decide)).trans ((lv_osw h45 (by decide)).trans ((lv_osw h59 (by decide)).trans ((lv_osw h61 (by decide)).trans (rfl)))))))) (by decide) ?_
                refine lv_iconst (v := (-1 : Int32)) hx hb d_Rd_stateAfter_200 (by decide) ?_
                obtain rfl := Option.some.inj hf
                exact hret _ _ _ _ d_Rd_stateAfter_201 hP hS
def f_Rd_stateAfter_18 (σ : pv_S) (x1 : Int32) : Option (Int32 × pv_S) :=
  (if x1 < (48 : Int32) then
  f_Rd_stateAfter_39 σ x1
  else
  (if (57 : Int32) < x1 then
  f_Rd_stateAfter_39 σ x1
  else
  ((f_Rd_stateAfterDigit σ (x1 - (48 : Int32))).bind fun q2 =>
some (q2.1, q2.2))))
set_option maxHeartbeats 4000000 in
set_option maxRecDepth 100000 in
theorem s_Rd_stateAfter_18 {p : Program} {l : Launch} {e : Env} {R : Room} {s : State} {m : MethodId} {args : Array Value} {below : List Frame} {meth : Method} {c : Code} {Q : State → Prop} {D : va_G} {q : Nat → ClassId} {a t : Nat → Nat} {A : Nat → Prop} (C : pv_C p s m args c prog_5_method_3_code 2 "PatchVoices$Reader" pv_TB D pv_cl (pv_ty q) 52 a A (pv_ZX t A)) (hmv : pv_mv A (pv_ZX t A)) (hRf : 7 ≤ R.frames) (hRl : 150 ≤ R.locals) {out : (Int32 × pv_S)} (hret : pv_Ri p l e R s m args below meth c prog_5_method_3_code D pv_cl 52 a (pv_FX q a) A Q out) {σ : pv_S} {x1 : Int32} {H : Heap} {locs : List Loc} {ls : Array Slot} (hl : lv_has ls 2 [(0, .ref (a 2)), (1, .int x1)]) (hP : pv_W D pv_cl 52 a (pv_FX q a) σ H) (hS : va_S A s.heap H locs) (hf : f_Rd_stateAfter_18 σ x1 = some out) : W p l e R s m args below meth c H locs 0 0 Q (F0 m 18 ls []) := by
  unfold f_Rd_stateAfter_18 at hf
  have hx := C.1
  have hb := C.2.1
  refine lv_iload_n hx hb d_Rd_stateAfter_18 rfl (lv_at hl 1 rfl) ?_
  refine lv_bipush (v := (48 : Int32)) hx hb d_Rd_stateAfter_19 (by decide) ?_
  refine lv_icmp_lt (tgt := 39) hx hb d_Rd_stateAfter_21 (by decide) (fun h => ?_) (fun h => ?_)
  · have hf := pv_t hf h
    exact s_Rd_stateAfter_39 C hmv hRf hRl hret (lv_sub hl [0, 1] rfl) hP hS hf
  · have hf := pv_f hf h
    refine lv_iload_n hx hb d_Rd_stateAfter_24 rfl (lv_at hl 1 rfl) ?_
    refine lv_bipush (v := (57 : Int32)) hx hb d_Rd_stateAfter_25 (by decide) ?_
    refine lv_icmp_gt (tgt := 39) hx hb d_Rd_stateAfter_27 (by decide) (fun h => ?_) (fun h => ?_)
    · have hf := pv_t hf h
      exact s_Rd_stateAfter_39 C hmv hRf hRl hret (lv_sub hl [0, 1] rfl) hP hS hf
    · have hf := pv_f hf h
      refine lv_aload_n hx hb d_Rd_stateAfter_30 rfl (lv_at hl 0 rfl) ?_
      refine lv_iload_n hx hb d_Rd_stateAfter_31 rfl (lv_at hl 1 rfl) ?_
      refine lv_bipush (v := (48 : Int32)) hx hb d_Rd_stateAfter_32 (by decide) ?_
      refine lv_isub hx hb d_Rd_stateAfter_34 ?_
      obtain ⟨q2, hc, hf⟩ := pv_b hf
      refine pv_callVi C hmv pv_good hP hS (As := [.int (x1 - (48 : Int32))]) (rest := []) (by decide) (fx_2 _ _ _ _) rfl (c_Rd_stateAfterDigit C.2.2.2.2.2.2.1 hmv hc) cv_Rd_35 ⟨rfl, rfl, Nat.le_trans (Nat.le_of_ble_eq_true rfl) hRf, Nat.le_trans (Nat.le_of_ble_eq_true rfl) hRl⟩ rfl hl.1 rfl (Nat.le_of_ble_eq_true rfl) d_Rd_stateAfter_35 ⟨Nat.zero_le _, Nat.zero_le _⟩ (fun H locs hP hS => ?_)
      obtain rfl := Option.some.inj hf
      exact hret _ _ _ _ d_Rd_stateAfter_38 hP hS
def f_Rd_stateAfter_0 (σ : pv_S) (x1 : Int32) : Option (Int32 × pv_S) :=
  (if x1 < (97 : Int32) then
  f_Rd_stateAfter_18 σ x1
  else
  (if (122 : Int32) < x1 then
  f_Rd_stateAfter_18 σ x1
  else
  ((f_Rd_stateAfterLetter σ x1).bind fun q1 =>
some (q1.1, q1.2))))
set_option maxHeartbeats 4000000 in
set_option maxRecDepth 100000 in
theorem s_Rd_stateAfter_0 {p : Program} {l : Launch} {e : Env} {R : Room} {s : State} {m : MethodId} {args : Array Value} {below : List Frame} {meth : Method} {c : Code} {Q : State → Prop} {D : va_G} {q : Nat → ClassId} {a t : Nat → Nat} {A : Nat → Prop} (C : pv_C p s m args c prog_5_method_3_code 2 "PatchVoices$Reader" pv_TB D pv_cl (pv_ty q) 52 a A (pv_ZX t A)) (hmv : pv_mv A (pv_ZX t A)) (hRf : 7 ≤ R.frames) (hRl : 150 ≤ R.locals) {out : (Int32 × pv_S)} (hret : pv_Ri p l e R s m args below meth c prog_5_method_3_code D pv_cl 52 a (pv_FX q a) A Q out) {σ : pv_S} {x1 : Int32} {H : Heap} {locs : List Loc} {ls : Array Slot} (hl : lv_has ls 2 [(0, .ref (a 2)), (1, .int x1)]) (hP : pv_W D pv_cl 52 a (pv_FX q a) σ H) (hS : va_S A s.heap H locs) (hf : f_Rd_stateAfter_0 σ x1 = some out) : W p l e R s m args below meth c H locs 0 0 Q (F0 m 0 ls []) := by
  unfold f_Rd_stateAfter_0 at hf
  have hx := C.1
  have hb := C.2.1
  refine lv_iload_n hx hb d_Rd_stateAfter_0 rfl (lv_at hl 1 rfl) ?_
  refine lv_bipush (v := (97 : Int32)) hx hb d_Rd_stateAfter_1 (by decide) ?_
  refine lv_icmp_lt (tgt := 18) hx hb d_Rd_stateAfter_3 (by decide) (fun h => ?_) (fun h => ?_)
  · have hf := pv_t hf h
    exact s_Rd_stateAfter_18 C hmv hRf hRl hret (lv_sub hl [0, 1] rfl) hP hS hf
  · have hf := pv_f hf h
    refine lv_iload_n hx hb d_Rd_stateAfter_6 rfl (lv_at hl 1 rfl) ?_
    refine lv_bipush (v := (122 : Int32)) hx hb d_Rd_stateAfter_7 (by decide) ?_
    refine lv_icmp_gt (tgt := 18) hx hb d_Rd_stateAfter_9 (by decide) (fun h => ?_) (fun h => ?_)
    · have hf := pv_t hf h
      exact s_Rd_stateAfter_18 C hmv hRf hRl hret (lv_sub hl [0, 1] rfl) hP hS hf
    · have hf := pv_f hf h
      refine lv_aload_n hx hb d_Rd_stateAfter_12 rfl (lv_at hl 0 rfl) ?_
      refine lv_iload_n hx hb d_Rd_stateAfter_13 rfl (lv_at hl 1 rfl) ?_
      obtain ⟨q1, hc, hf⟩ := pv_b hf
      refine pv_callVi C hmv pv_good hP hS (As := [.int x1]) (rest := []) (by decide) (fx_2 _ _ _ _) rfl (c_Rd_stateAfterLetter C.2.2.2.2.2.2.1 hmv hc) cv_Rd_32 ⟨rfl, rfl, Nat.le_trans (Nat.le_of_ble_eq_true rfl) hRf, Nat.le_trans (Nat.le_of_ble_eq_true rfl) hRl⟩ rfl hl.1 rfl (Nat.le_of_ble_eq_true rfl) d_Rd_stateAfter_14 ⟨Nat.zero_le _, Nat.zero_le _⟩ (fun H locs hP hS => ?_)
      obtain rfl := Option.some.inj hf
      exact hret _ _ _ _ d_Rd_stateAfter_17 hP hS
def f_Rd_stateAfter (σ : pv_S) (x1 : Int32) : Option (Int32 × pv_S) := f_Rd_stateAfter_0 σ x1
def rm_Rd_stateAfter : Room := { frames := 7, cells := 0, slots := 0, locals := 150 }
theorem c_Rd_stateAfter {l : Launch} {D : va_G} {q : Nat → ClassId} {a t : Nat → Nat} {A : Nat → Prop} (hD : pv_D 52 a A) (hmv : pv_mv A (pv_ZX t A)) {σ : pv_S} {x1 : Int32} {out : (Int32 × pv_S)} (hf : f_Rd_stateAfter σ x1 = some out) : pv_Mi l y_Rd_stateAfter (Cond.code y_Rd_stateAfter prog_5_method_3_code 2 (some .int) :: pv_TB) rm_Rd_stateAfter D pv_cl (pv_ty q) 52 a (pv_FX q a) A (pv_ZX t A) [.ref (a 2), .int x1] σ out :=
  pv_ofI (by decide) (Nat.le_of_ble_eq_true rfl) hD (fun p e s m args below meth c Q ls C hret hl hP => s_Rd_stateAfter_0 C hmv (Nat.le_refl _) (Nat.le_refl _) hret hl hP va_S.rf hf)
theorem d_Rd_read_0 : decode prog_5_method_2_code 0 = .ok (.aload_n 0, 1) := by decide +kernel
theorem d_Rd_read_1 : decode prog_5_method_2_code 1 = .ok (.getfield 12, 3) := by decide +kernel
theorem d_Rd_read_4 : decode prog_5_method_2_code 4 = .ok (.invokevirtual 18, 3) := by decide +kernel
theorem d_Rd_read_7 : decode prog_5_method_2_code 7 = .ok (.aload_n 0, 1) := by decide +kernel
theorem d_Rd_read_8 : decode prog_5_method_2_code 8 = .ok (.iconst 0, 1) := by decide +kernel
theorem d_Rd_read_9 : decode prog_5_method_2_code 9 = .ok (.putfield 21, 3) := by decide +kernel
theorem d_Rd_read_12 : decode prog_5_method_2_code 12 = .ok (.iconst 0, 1) := by decide +kernel
theorem d_Rd_read_13 : decode prog_5_method_2_code 13 = .ok (.istore_n 3, 1) := by decide +kernel
theorem d_Rd_read_14 : decode prog_5_method_2_code 14 = .ok (.iload_n 3, 1) := by decide +kernel
theorem d_Rd_read_15 : decode prog_5_method_2_code 15 = .ok (.iload_n 2, 1) := by decide +kernel
theorem d_Rd_read_16 : decode prog_5_method_2_code 16 = .ok (.if_icmp .ge 32, 3) := by decide +kernel
theorem d_Rd_read_19 : decode prog_5_method_2_code 19 = .ok (.aload_n 0, 1) := by decide +kernel
theorem d_Rd_read_20 : decode prog_5_method_2_code 20 = .ok (.aload_n 1, 1) := by decide +kernel
theorem d_Rd_read_21 : decode prog_5_method_2_code 21 = .ok (.iload_n 3, 1) := by decide +kernel
theorem d_Rd_read_22 : decode prog_5_method_2_code 22 = .ok (.caload, 1) := by decide +kernel
theorem d_Rd_read_23 : decode prog_5_method_2_code 23 = .ok (.invokevirtual 25, 3) := by decide +kernel
theorem d_Rd_read_26 : decode prog_5_method_2_code 26 = .ok (.istore 4, 2) := by decide +kernel
theorem d_Rd_read_28 : decode prog_5_method_2_code 28 = .ok (.iload 4, 2) := by decide +kernel
theorem d_Rd_read_30 : decode prog_5_method_2_code 30 = .ok (.iconst (-1), 1) := by decide +kernel
theorem d_Rd_read_31 : decode prog_5_method_2_code 31 = .ok (.if_icmp .ne 5, 3) := by decide +kernel
theorem d_Rd_read_34 : decode prog_5_method_2_code 34 = .ok (.iload_n 3, 1) := by decide +kernel
theorem d_Rd_read_35 : decode prog_5_method_2_code 35 = .ok (.ireturn, 1) := by decide +kernel
theorem d_Rd_read_36 : decode prog_5_method_2_code 36 = .ok (.aload_n 0, 1) := by decide +kernel
theorem d_Rd_read_37 : decode prog_5_method_2_code 37 = .ok (.iload 4, 2) := by decide +kernel
theorem d_Rd_read_39 : decode prog_5_method_2_code 39 = .ok (.putfield 21, 3) := by decide +kernel
theorem d_Rd_read_42 : decode prog_5_method_2_code 42 = .ok (.iinc 3 1, 3) := by decide +kernel
theorem d_Rd_read_45 : decode prog_5_method_2_code 45 = .ok (.goto (-31), 3) := by decide +kernel
theorem d_Rd_read_48 : decode prog_5_method_2_code 48 = .ok (.aload_n 0, 1) := by decide +kernel
theorem d_Rd_read_49 : decode prog_5_method_2_code 49 = .ok (.getfield 21, 3) := by decide +kernel
theorem d_Rd_read_52 : decode prog_5_method_2_code 52 = .ok (.ifCond .ne 17, 3) := by decide +kernel
theorem d_Rd_read_55 : decode prog_5_method_2_code 55 = .ok (.aload_n 0, 1) := by decide +kernel
theorem d_Rd_read_56 : decode prog_5_method_2_code 56 = .ok (.getfield 12, 3) := by decide +kernel
theorem d_Rd_read_59 : decode prog_5_method_2_code 59 = .ok (.getfield 29, 3) := by decide +kernel
theorem d_Rd_read_62 : decode prog_5_method_2_code 62 = .ok (.ifCond .le 7, 3) := by decide +kernel
theorem d_Rd_read_65 : decode prog_5_method_2_code 65 = .ok (.iconst (-1), 1) := by decide +kernel
theorem d_Rd_read_66 : decode prog_5_method_2_code 66 = .ok (.goto 4, 3) := by decide +kernel
theorem d_Rd_read_69 : decode prog_5_method_2_code 69 = .ok (.iload_n 2, 1) := by decide +kernel
theorem d_Rd_read_70 : decode prog_5_method_2_code 70 = .ok (.ireturn, 1) := by decide +kernel
def f_Rd_read_14b (k_14 : pv_S → Int32 → Int32 → Option (Int32 × pv_S)) (σ : pv_S) (x2 : Int32) (x3 : Int32) : Option (Int32 × pv_S) :=
  (if x2 ≤ x3 then
  (if (σ.1 2 1) = 0 then
  (if (σ.1 3 0) ≤ 0 then
  some (x2, σ)
  else
  some ((-1 : Int32), σ))
  else
  some (x2, σ))
  else
  (if pv_in x3 300 = true then
((f_Rd_stateAfter σ (σ.1 1 (x3).toNatClampNeg)).bind fun q2 =>
(if q2.1 = (-1 : Int32) then
  some (x3, q2.2)
  else
  k_14 (pv_uI q2.2 2 1 q2.1) x2 (x3 + (1 : Int32))))
  else none))
set_option maxHeartbeats 4000000 in
set_option maxRecDepth 100000 in
theorem s_Rd_read_14b {p : Program} {l : Launch} {e : Env} {R : Room} {s : State} {m : MethodId} {args : Array Value} {below : List Frame} {meth : Method} {c : Code} {Q : State → Prop} {D : va_G} {q : Nat → ClassId} {a t : Nat → Nat} {A : Nat → Prop} (C : pv_C p s m args c prog_5_method_2_code 5 "PatchVoices$Reader" pv_TB D pv_cl (pv_ty q) 52 a A (pv_ZX t A)) (hmv : pv_mv A (pv_ZX t A)) (hRf : 8 ≤ R.frames) (hRl : 171 ≤ R.locals) {out : (Int32 × pv_S)} (hret : pv_Ri p l e R s m args below meth c prog_5_method_2_code D pv_cl 52 a (pv_FX q a) A Q out) {k_14 : pv_S → Int32 → Int32 → Option (Int32 × pv_S)} (hk_14 : ∀ (σ : pv_S) (x2 : Int32) (x3 : Int32) (H : Heap) (locs : List Loc) (ls : Array Slot), k_14 σ x2 x3 = some out → lv_has ls 5 [(0, .ref (a 2)), (1, .ref (a 1)), (2, .int x2), (3, .int x3)] → pv_W D pv_cl 52 a (pv_FX q a) σ H → va_S A s.heap H locs → W p l e R s m args below meth c H locs 0 0 Q (F0 m 14 ls [])) {σ : pv_S} {x2 : Int32} {x3 : Int32} {H : Heap} {locs : List Loc} {ls : Array Slot} (hl : lv_has ls 5 [(0, .ref (a 2)), (1, .ref (a 1)), (2, .int x2), (3, .int x3)]) (hP : pv_W D pv_cl 52 a (pv_FX q a) σ H) (hS : va_S A s.heap H locs) (hf : f_Rd_read_14b k_14 σ x2 x3 = some out) : W p l e R s m args below meth c H locs 0 0 Q (F0 m 14 ls []) := by
  unfold f_Rd_read_14b at hf
  have hx := C.1
  have hb := C.2.1
  refine lv_iload_n hx hb d_Rd_read_14 rfl (lv_at hl 3 rfl) ?_
  refine lv_iload_n hx hb d_Rd_read_15 rfl (lv_at hl 2 rfl) ?_
  refine lv_icmp_ge (tgt := 48) hx hb d_Rd_read_16 (by decide) (fun h => ?_) (fun h => ?_)
  · have hf := pv_t hf h
    refine lv_aload_n hx hb d_Rd_read_48 rfl (lv_at hl 0 rfl) ?_
    refine pv_get C hP (v := .int (σ.1 2 1)) (j := 1) (by decide) (fx_2 _ _ _ _) fl_Rd_21 rfl d_Rd_read_49 ?_
    refine lv_if_ne (tgt := 69) hx hb d_Rd_read_52 (by decide) (fun h => ?_) (fun h => ?_)
    · have hf := pv_f hf h
      refine lv_iload_n hx hb d_Rd_read_69 rfl (lv_at hl 2 rfl) ?_
      obtain rfl := Option.some.inj hf
      exact hret _ _ _ _ d_Rd_read_70 hP hS
    · have hf := pv_t hf h
      refine lv_aload_n hx hb d_Rd_read_55 rfl (lv_at hl 0 rfl) ?_
      refine pv_get C hP (v := .ref (a 3)) (j := 0) (by decide) (fx_2 _ _ _ _) fl_Rd_12 rfl d_Rd_read_56 ?_
      refine pv_get C hP (v := .int (σ.1 3 0)) (j := 0) (by decide) (fx_3 _ _ _ _) fl_Rd_29 rfl d_Rd_read_59 ?_
      refine lv_if_le (tgt := 69) hx hb d_Rd_read_62 (by decide) (fun h => ?_) (fun h => ?_)
      · have hf := pv_t hf h
        refine lv_iload_n hx hb d_Rd_read_69 rfl (lv_at hl 2 rfl) ?_
        obtain rfl := Option.some.inj hf
        exact hret _ _ _ _ d_Rd_read_70 hP hS
      · have hf := pv_f hf h
        refine lv_iconst (v := (-1 : Int32)) hx hb d_Rd_read_65 (by decide) ?_
        refine lv_goto (tgt := 70) hx hb d_Rd_read_66 (by decide) ?_
        obtain rfl := Option.some.inj hf
        exact hret _ _ _ _ d_Rd_read_70 hP hS
  · have hf := pv_f hf h
    refine lv_aload_n hx hb d_Rd_read_19 rfl (lv_at hl 0 rfl) ?_
    refine lv_aload_n hx hb d_Rd_read_20 rfl (lv_at hl 1 rfl) ?_
    refine lv_iload_n hx hb d_Rd_read_21 rfl (lv_at hl 3 rfl) ?_
    obtain ⟨hg, hf⟩ := pv_g hf
    refine pv_cald C hP (t0 := 1) (by decide) (fx_1 _ _ _ _) rfl hg d_Rd_read_22 ?_
    obtain ⟨q2, hc, hf⟩ := pv_b hf
    refine pv_callVi C hmv pv_good hP hS (As := [.int (σ.1 1 (x3).toNatClampNeg)]) (rest := []) (by decide) (fx_2 _ _ _ _) rfl (c_Rd_stateAfter C.2.2.2.2.2.2.1 hmv hc) cv_Rd_25 ⟨rfl, rfl, Nat.le_trans (Nat.le_of_ble_eq_true rfl) hRf, Nat.le_trans (Nat.le_of_ble_eq_true rfl) hRl⟩ rfl hl.1 rfl (Nat.le_of_ble_eq_true rfl) d_Rd_read_23 ⟨Nat.zero_le _, Nat.zero_le _⟩ (fun H locs hP hS => ?_)
    refine lv_istore (lv' := [(4, .int q2.1), (0, .ref (a 2)), (1, .ref (a 1)), (2, .int x2), (3, .int x3)]) hx hb d_Rd_read_26 hl (by decide) rfl (fun ls hl => ?_)
    refine lv_iload hx hb d_Rd_read_28 (lv_at hl 0 rfl) ?_
    refine lv_iconst (v := (-1 : Int32)) hx hb d_Rd_read_30 (by decide) ?_
    refine lv_icmp_ne (tgt := 36) hx hb d_Rd_read_31 (by decide) (fun h => ?_) (fun h => ?_)
    · have hf := pv_f hf h
      refine lv_aload_n hx hb d_Rd_read_36 rfl (lv_at hl 1 rfl) ?_
      refine lv_iload hx hb d_Rd_read_37 (lv_at hl 0 rfl) ?_
      refine pv_putI C hP hS (x := q2.1) (by decide) (fx_2 _ _ _ _) fw_Rd_21 rfl rfl (Nat.le_of_ble_eq_true rfl) (fxs_2_1 _ _ _ _ _) d_Rd_read_39 (fun H locs hP hS => ?_)
      refine lv_iinc (k := 4) (v := (x3 + (1 : Int32))) (lv' := [(3, .int (x3 + (1 : Int32))), (4, .int q2.1), (0, .ref (a 2)), (1, .ref (a 1)), (2, .int x2)]) hx hb d_Rd_read_42 hl rfl (pv_inc (by decide)) (by decide) rfl (fun ls hl => ?_)
      refine lv_goto (tgt := 14) hx hb d_Rd_read_45 (by decide) ?_
      exact hk_14 _ _ _ _ _ _ hf (lv_sub hl [2, 3, 4, 0] rfl) hP hS
    · have hf := pv_t hf h
      refine lv_iload_n hx hb d_Rd_read_34 rfl (lv_at hl 4 rfl) ?_
      obtain rfl := Option.some.inj hf
      exact hret _ _ _ _ d_Rd_read_35 hP hS
def f_Rd_read_14 : Nat → pv_S → Int32 → Int32 → Option (Int32 × pv_S)
  | 0 => fun _ _ _ => none
  | n + 1 => f_Rd_read_14b (f_Rd_read_14 n)
set_option maxHeartbeats 4000000 in
theorem s_Rd_read_14 {p : Program} {l : Launch} {e : Env} {R : Room} {s : State} {m : MethodId} {args : Array Value} {below : List Frame} {meth : Method} {c : Code} {Q : State → Prop} {D : va_G} {q : Nat → ClassId} {a t : Nat → Nat} {A : Nat → Prop} (C : pv_C p s m args c prog_5_method_2_code 5 "PatchVoices$Reader" pv_TB D pv_cl (pv_ty q) 52 a A (pv_ZX t A)) (hmv : pv_mv A (pv_ZX t A)) (hRf : 8 ≤ R.frames) (hRl : 171 ≤ R.locals) {out : (Int32 × pv_S)} (hret : pv_Ri p l e R s m args below meth c prog_5_method_2_code D pv_cl 52 a (pv_FX q a) A Q out) (n : Nat) : ∀ {σ : pv_S} {x2 : Int32} {x3 : Int32} {H : Heap} {locs : List Loc} {ls : Array Slot}, lv_has ls 5 [(0, .ref (a 2)), (1, .ref (a 1)), (2, .int x2), (3, .int x3)] → pv_W D pv_cl 52 a (pv_FX q a) σ H → va_S A s.heap H locs → f_Rd_read_14 n σ x2 x3 = some out → W p l e R s m args below meth c H locs 0 0 Q (F0 m 14 ls []) := by
  induction n with
  | zero => intro σ x2 x3 H locs ls hl hP hS hf; cases hf
  | succ n ih => intro σ x2 x3 H locs ls hl hP hS hf; exact s_Rd_read_14b C hmv hRf hRl hret (fun σ x2 x3 H locs ls hf hl hP hS => ih hl hP hS hf) hl hP hS hf
def f_Rd_read_0 (σ : pv_S) (x2 : Int32) : Option (Int32 × pv_S) :=
  ((f_Pt_clear σ).bind fun q1 =>
f_Rd_read_14 pv_fu (pv_uI q1 2 1 (0 : Int32)) x2 (0 : Int32))
set_option maxHeartbeats 4000000 in
set_option maxRecDepth 100000 in
theorem s_Rd_read_0 {p : Program} {l : Launch} {e : Env} {R : Room} {s : State} {m : MethodId} {args : Array Value} {below : List Frame} {meth : Method} {c : Code} {Q : State → Prop} {D : va_G} {q : Nat → ClassId} {a t : Nat → Nat} {A : Nat → Prop} (C : pv_C p s m args c prog_5_method_2_code 5 "PatchVoices$Reader" pv_TB D pv_cl (pv_ty q) 52 a A (pv_ZX t A)) (hmv : pv_mv A (pv_ZX t A)) (hRf : 8 ≤ R.frames) (hRl : 171 ≤ R.locals) {out : (Int32 × pv_S)} (hret : pv_Ri p l e R s m args below meth c prog_5_method_2_code D pv_cl 52 a (pv_FX q a) A Q out) {σ : pv_S} {x2 : Int32} {H : Heap} {locs : List Loc} {ls : Array Slot} (hl : lv_has ls 5 [(0, .ref (a 2)), (1, .ref (a 1)), (2, .int x2)]) (hP : pv_W D pv_cl 52 a (pv_FX q a) σ H) (hS : va_S A s.heap H locs) (hf : f_Rd_read_0 σ x2 = some out) : W p l e R s m args below meth c H locs 0 0 Q (F0 m 0 ls []) := by
  unfold f_Rd_read_0 at hf
  have hx := C.1
  have hb := C.2.1
  refine lv_aload_n hx hb d_Rd_read_0 rfl (lv_at hl 0 rfl) ?_
  refine pv_get C hP (v := .ref (a 3)) (j := 0) (by decide) (fx_2 _ _ _ _) fl_Rd_12 rfl d_Rd_read_1 ?_
  obtain ⟨q1, hc, hf⟩ := pv_b hf
  refine pv_callVv C hmv pv_good hP hS (As := []) (rest := []) (by decide) (fx_3 _ _ _ _) rfl (c_Pt_clear C.2.2.2.2.2.2.1 hmv hc) cv_Rd_18 ⟨rfl, rfl, Nat.le_trans (Nat.le_of_ble_eq_true rfl) hRf, Nat.le_trans (Nat.le_of_ble_eq_true rfl) hRl⟩ rfl hl.1 rfl (Nat.le_of_ble_eq_true rfl) d_Rd_read_4 ⟨Nat.zero_le _, Nat.zero_le _⟩ (fun H locs hP hS => ?_)
  refine lv_aload_n hx hb d_Rd_read_7 rfl (lv_at hl 0 rfl) ?_
  refine lv_iconst (v := (0 : Int32)) hx hb d_Rd_read_8 (by decide) ?_
  refine pv_putI C hP hS (x := (0 : Int32)) (by decide) (fx_2 _ _ _ _) fw_Rd_21 rfl rfl (Nat.le_of_ble_eq_true rfl) (fxs_2_1 _ _ _ _ _) d_Rd_read_9 (fun H locs hP hS => ?_)
  refine lv_iconst (v := (0 : Int32)) hx hb d_Rd_read_12 (by decide) ?_
  refine lv_istore_n (lv' := [(3, .int (0 : Int32)), (0, .ref (a 2)), (1, .ref (a 1)), (2, .int x2)]) hx hb d_Rd_read_13 rfl hl (by decide) rfl (fun ls hl => ?_)
  exact s_Rd_read_14 C hmv hRf hRl hret pv_fu (lv_sub hl [1, 2, 3, 0] rfl) hP hS hf
def f_Rd_read (σ : pv_S) (x2 : Int32) : Option (Int32 × pv_S) := f_Rd_read_0 σ x2
def rm_Rd_read : Room := { frames := 8, cells := 0, slots := 0, locals := 171 }
theorem c_Rd_read {l : Launch} {D : va_G} {q : Nat → ClassId} {a t : Nat → Nat} {A : Nat → Prop} (hD : pv_D 52 a A) (hmv : pv_mv A (pv_ZX t A)) {σ : pv_S} {x2 : Int32} {out : (Int32 × pv_S)} (hf : f_Rd_read σ x2 = some out) : pv_Mi l y_Rd_read (Cond.code y_Rd_read prog_5_method_2_code 5 (some .int) :: pv_TB) rm_Rd_read D pv_cl (pv_ty q) 52 a (pv_FX q a) A (pv_ZX t A) [.ref (a 2), .ref (a 1), .int x2] σ out :=
  pv_ofI (by decide) (Nat.le_of_ble_eq_true rfl) hD (fun p e s m args below meth c Q ls C hret hl hP => s_Rd_read_0 C hmv (Nat.le_refl _) (Nat.le_refl _) hret hl hP va_S.rf hf)
