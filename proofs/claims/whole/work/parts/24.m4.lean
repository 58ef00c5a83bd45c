theorem d_Md_wave_0 : decode prog_9_method_52_code 0 = .ok (.iload_n 1, 1) := by decide +kernel
theorem d_Md_wave_1 : decode prog_9_method_52_code 1 = .ok (.bipush 16, 2) := by decide +kernel
theorem d_Md_wave_3 : decode prog_9_method_52_code 3 = .ok (.ishr, 1) := by decide +kernel
theorem d_Md_wave_4 : decode prog_9_method_52_code 4 = .ok (.istore_n 2, 1) := by decide +kernel
theorem d_Md_wave_5 : decode prog_9_method_52_code 5 = .ok (.iload_n 2, 1) := by decide +kernel
theorem d_Md_wave_6 : decode prog_9_method_52_code 6 = .ok (.ifCond .ge 8, 3) := by decide +kernel
theorem d_Md_wave_9 : decode prog_9_method_52_code 9 = .ok (.iload_n 2, 1) := by decide +kernel
theorem d_Md_wave_10 : decode prog_9_method_52_code 10 = .ok (.ineg, 1) := by decide +kernel
theorem d_Md_wave_11 : decode prog_9_method_52_code 11 = .ok (.goto 4, 3) := by decide +kernel
theorem d_Md_wave_14 : decode prog_9_method_52_code 14 = .ok (.iload_n 2, 1) := by decide +kernel
theorem d_Md_wave_15 : decode prog_9_method_52_code 15 = .ok (.istore_n 3, 1) := by decide +kernel
theorem d_Md_wave_16 : decode prog_9_method_52_code 16 = .ok (.iload_n 0, 1) := by decide +kernel
theorem d_Md_wave_17 : decode prog_9_method_52_code 17 = .ok (.bipush 13, 2) := by decide +kernel
theorem d_Md_wave_19 : decode prog_9_method_52_code 19 = .ok (.if_icmp .ge 27, 3) := by decide +kernel
theorem d_Md_wave_22 : decode prog_9_method_52_code 22 = .ok (.iload_n 0, 1) := by decide +kernel
theorem d_Md_wave_23 : decode prog_9_method_52_code 23 = .ok (.bipush 11, 2) := by decide +kernel
theorem d_Md_wave_25 : decode prog_9_method_52_code 25 = .ok (.if_icmp .ne 7, 3) := by decide +kernel
theorem d_Md_wave_28 : decode prog_9_method_52_code 28 = .ok (.iload_n 2, 1) := by decide +kernel
theorem d_Md_wave_29 : decode prog_9_method_52_code 29 = .ok (.goto 16, 3) := by decide +kernel
theorem d_Md_wave_32 : decode prog_9_method_52_code 32 = .ok (.iload_n 2, 1) := by decide +kernel
theorem d_Md_wave_33 : decode prog_9_method_52_code 33 = .ok (.ifCond .lt 9, 3) := by decide +kernel
theorem d_Md_wave_36 : decode prog_9_method_52_code 36 = .ok (.sipush 32767, 3) := by decide +kernel
theorem d_Md_wave_39 : decode prog_9_method_52_code 39 = .ok (.goto 6, 3) := by decide +kernel
theorem d_Md_wave_42 : decode prog_9_method_52_code 42 = .ok (.sipush (-32767), 3) := by decide +kernel
theorem d_Md_wave_45 : decode prog_9_method_52_code 45 = .ok (.ireturn, 1) := by decide +kernel
theorem d_Md_wave_46 : decode prog_9_method_52_code 46 = .ok (.iload_n 0, 1) := by decide +kernel
theorem d_Md_wave_47 : decode prog_9_method_52_code 47 = .ok (.bipush 13, 2) := by decide +kernel
theorem d_Md_wave_49 : decode prog_9_method_52_code 49 = .ok (.if_icmp .ne 13, 3) := by decide +kernel
theorem d_Md_wave_52 : decode prog_9_method_52_code 52 = .ok (.ldc_w 302, 3) := by decide +kernel
theorem d_Md_wave_55 : decode prog_9_method_52_code 55 = .ok (.iconst 2, 1) := by decide +kernel
theorem d_Md_wave_56 : decode prog_9_method_52_code 56 = .ok (.iload_n 3, 1) := by decide +kernel
theorem d_Md_wave_57 : decode prog_9_method_52_code 57 = .ok (.imul, 1) := by decide +kernel
theorem d_Md_wave_58 : decode prog_9_method_52_code 58 = .ok (.isub, 1) := by decide +kernel
theorem d_Md_wave_59 : decode prog_9_method_52_code 59 = .ok (.goto 14, 3) := by decide +kernel
theorem d_Md_wave_62 : decode prog_9_method_52_code 62 = .ok (.iload_n 2, 1) := by decide +kernel
theorem d_Md_wave_63 : decode prog_9_method_52_code 63 = .ok (.ldc_w 302, 3) := by decide +kernel
theorem d_Md_wave_66 : decode prog_9_method_52_code 66 = .ok (.iload_n 3, 1) := by decide +kernel
theorem d_Md_wave_67 : decode prog_9_method_52_code 67 = .ok (.isub, 1) := by decide +kernel
theorem d_Md_wave_68 : decode prog_9_method_52_code 68 = .ok (.imul, 1) := by decide +kernel
theorem d_Md_wave_69 : decode prog_9_method_52_code 69 = .ok (.sipush 8192, 3) := by decide +kernel
theorem d_Md_wave_72 : decode prog_9_method_52_code 72 = .ok (.idiv, 1) := by decide +kernel
theorem d_Md_wave_73 : decode prog_9_method_52_code 73 = .ok (.ireturn, 1) := by decide +kernel
def f_Md_wave_15 (σ : pv_S) (x0 : Int32) (x2 : Int32) (s0 : Int32) : Option (Int32 × pv_S) :=
  (if (13 : Int32) ≤ x0 then
  (if x0 = (13 : Int32) then
  some (((32768 : Int32) - ((2 : Int32) * s0)), σ)
  else
  some (((x2 * ((32768 : Int32) - s0)) / (8192 : Int32)), σ))
  else
  (if x0 = (11 : Int32) then
  some (x2, σ)
  else
  (if x2 < 0 then
  some ((-32767 : Int32), σ)
  else
  some ((32767 : Int32), σ))))
set_option maxHeartbeats 4000000 in
set_option maxRecDepth 100000 in
theorem s_Md_wave_15 {p : Program} {l : Launch} {e : Env} {R : Room} {s : State} {m : MethodId} {args : Array Value} {below : List Frame} {meth : Method} {c : Code} {Q : State → Prop} {D : va_G} {q : Nat → ClassId} {a : Nat → Nat} {A : Nat → Prop} (C : pv_C p s m args c prog_9_method_52_code 4 "PatchVoicesModel" pv_TB D pv_cl (pv_ty q) 36 a A (pv_ZM)) (hmv : pv_mv A (pv_ZM)) (hRf : 0 ≤ R.frames) (hRl : 0 ≤ R.locals) {out : (Int32 × pv_S)} (hret : pv_Ri p l e R s m args below meth c prog_9_method_52_code D pv_cl 36 a (pv_FM q a) A Q out) {σ : pv_S} {x0 : Int32} {x2 : Int32} {s0 : Int32} {H : Heap} {locs : List Loc} {ls : Array Slot} (hl : lv_has ls 4 [(0, .int x0), (2, .int x2)]) (hP : pv_W D pv_cl 36 a (pv_FM q a) σ H) (hS : va_S A s.heap H locs) (hf : f_Md_wave_15 σ x0 x2 s0 = some out) : W p l e R s m args below meth c H locs 0 0 Q (F0 m 15 ls [.int s0]) := by
  unfold f_Md_wave_15 at hf
  have hx := C.1
  have hb := C.2.1
  refine lv_istore_n (lv' := [(3, .int s0), (0, .int x0), (2, .int x2)]) hx hb d_Md_wave_15 rfl hl (by decide) rfl (fun ls hl => ?_)
  refine lv_iload_n hx hb d_Md_wave_16 rfl (lv_at hl 1 rfl) ?_
  refine lv_bipush (v := (13 : Int32)) hx hb d_Md_wave_17 (by decide) ?_
  refine lv_icmp_ge (tgt := 46) hx hb d_Md_wave_19 (by decide) (fun h => ?_) (fun h => ?_)
  · have hf := pv_t hf h
    refine lv_iload_n hx hb d_Md_wave_46 rfl (lv_at hl 1 rfl) ?_
    refine lv_bipush (v := (13 : Int32)) hx hb d_Md_wave_47 (by decide) ?_
    refine lv_icmp_ne (tgt := 62) hx hb d_Md_wave_49 (by decide) (fun h => ?_) (fun h => ?_)
    · have hf := pv_f hf h
      refine lv_iload_n hx hb d_Md_wave_62 rfl (lv_at hl 2 rfl) ?_
      refine lv_ldcw (v := (32768 : Int32)) hx hb C.2.2.2.1 (C.2.2.2.2.1 _ w_1473) d_Md_wave_63 ?_
      refine lv_iload_n hx hb d_Md_wave_66 rfl (lv_at hl 0 rfl) ?_
      refine lv_isub hx hb d_Md_wave_67 ?_
      refine lv_imul hx hb d_Md_wave_68 ?_
      refine lv_sipush (v := (8192 : Int32)) hx hb d_Md_wave_69 (by decide) ?_
      refine lv_idiv hx hb d_Md_wave_72 (by decide) ?_
      obtain rfl := Option.some.inj hf
      exact hret _ _ _ _ d_Md_wave_73 hP hS
    · have hf := pv_t hf h
      refine lv_ldcw (v := (32768 : Int32)) hx hb C.2.2.2.1 (C.2.2.2.2.1 _ w_1473) d_Md_wave_52 ?_
      refine lv_iconst (v := (2 : Int32)) hx hb d_Md_wave_55 (by decide) ?_
      refine lv_iload_n hx hb d_Md_wave_56 rfl (lv_at hl 0 rfl) ?_
      refine lv_imul hx hb d_Md_wave_57 ?_
      refine lv_isub hx hb d_Md_wave_58 ?_
      refine lv_goto (tgt := 73) hx hb d_Md_wave_59 (by decide) ?_
      obtain rfl := Option.some.inj hf
      exact hret _ _ _ _ d_Md_wave_73 hP hS
  · have hf := pv_f hf h
    refine lv_iload_n hx hb d_Md_wave_22 rfl (lv_at hl 1 rfl) ?_
    refine lv_bipush (v := (11 : Int32)) hx hb d_Md_wave_23 (by decide) ?_
    refine lv_icmp_ne (tgt := 32) hx hb d_Md_wave_25 (by decide) (fun h => ?_) (fun h => ?_)
    · have hf := pv_f hf h
      refine lv_iload_n hx hb d_Md_wave_32 rfl (lv_at hl 2 rfl) ?_
      refine lv_if_lt (tgt := 42) hx hb d_Md_wave_33 (by decide) (fun h => ?_) (fun h => ?_)
      · have hf := pv_t hf h
        refine lv_sipush (v := (-32767 : Int32)) hx hb d_Md_wave_42 (by decide) ?_
        obtain rfl := Option.some.inj hf
        exact hret _ _ _ _ d_Md_wave_45 hP hS
      · have hf := pv_f hf h
        refine lv_sipush (v := (32767 : Int32)) hx hb d_Md_wave_36 (by decide) ?_
        refine lv_goto (tgt := 45) hx hb d_Md_wave_39 (by decide) ?_
        obtain rfl := Option.some.inj hf
        exact hret _ _ _ _ d_Md_wave_45 hP hS
    · have hf := pv_t hf h
      refine lv_iload_n hx hb d_Md_wave_28 rfl (lv_at hl 2 rfl) ?_
      refine lv_goto (tgt := 45) hx hb d_Md_wave_29 (by decide) ?_
      obtain rfl := Option.some.inj hf
      exact hret _ _ _ _ d_Md_wave_45 hP hS
def f_Md_wave_0 (σ : pv_S) (x0 : Int32) (x1 : Int32) : Option (Int32 × pv_S) :=
  (if 0 ≤ (x1 >>> ((16 : Int32) &&& 31)) then
  f_Md_wave_15 σ x0 (x1 >>> ((16 : Int32) &&& 31)) (x1 >>> ((16 : Int32) &&& 31))
  else
  f_Md_wave_15 σ x0 (x1 >>> ((16 : Int32) &&& 31)) (-(x1 >>> ((16 : Int32) &&& 31))))
set_option maxHeartbeats 4000000 in
set_option maxRecDepth 100000 in
theorem s_Md_wave_0 {p : Program} {l : Launch} {e : Env} {R : Room} {s : State} {m : MethodId} {args : Array Value} {below : List Frame} {meth : Method} {c : Code} {Q : State → Prop} {D : va_G} {q : Nat → ClassId} {a : Nat → Nat} {A : Nat → Prop} (C : pv_C p s m args c prog_9_method_52_code 4 "PatchVoicesModel" pv_TB D pv_cl (pv_ty q) 36 a A (pv_ZM)) (hmv : pv_mv A (pv_ZM)) (hRf : 0 ≤ R.frames) (hRl : 0 ≤ R.locals) {out : (Int32 × pv_S)} (hret : pv_Ri p l e R s m args below meth c prog_9_method_52_code D pv_cl 36 a (pv_FM q a) A Q out) {σ : pv_S} {x0 : Int32} {x1 : Int32} {H : Heap} {locs : List Loc} {ls : Array Slot} (hl : lv_has ls 4 [(0, .int x0), (1, .int x1)]) (hP : pv_W D pv_cl 36 a (pv_FM q a) σ H) (hS : va_S A s.heap H locs) (hf : f_Md_wave_0 σ x0 x1 = some out) : W p l e R s m args below meth c H locs 0 0 Q (F0 m 0 ls []) := by
  unfold f_Md_wave_0 at hf
  have hx := C.1
  have hb := C.2.1
  refine lv_iload_n hx hb d_Md_wave_0 rfl (lv_at hl 1 rfl) ?_
  refine lv_bipush (v := (16 : Int32)) hx hb d_Md_wave_1 (by decide) ?_
  refine lv_ishr hx hb d_Md_wave_3 ?_
  refine lv_istore_n (lv' := [(2, .int (x1 >>> ((16 : Int32) &&& 31))), (0, .int x0), (1, .int x1)]) hx hb d_Md_wave_4 rfl hl (by decide) rfl (fun ls hl => ?_)
  refine lv_iload_n hx hb d_Md_wave_5 rfl (lv_at hl 0 rfl) ?_
  refine lv_if_ge (tgt := 14) hx hb d_Md_wave_6 (by decide) (fun h => ?_) (fun h => ?_)
  · have hf := pv_t hf h
    refine lv_iload_n hx hb d_Md_wave_14 rfl (lv_at hl 0 rfl) ?_
    exact s_Md_wave_15 C hmv hRf hRl hret (lv_sub hl [1, 0] rfl) hP hS hf
  · have hf := pv_f hf h
    refine lv_iload_n hx hb d_Md_wave_9 rfl (lv_at hl 0 rfl) ?_
    refine lv_ineg hx hb d_Md_wave_10 ?_
    refine lv_goto (tgt := 15) hx hb d_Md_wave_11 (by decide) ?_
    exact s_Md_wave_15 C hmv hRf hRl hret (lv_sub hl [1, 0] rfl) hP hS hf
def f_Md_wave (σ : pv_S) (x0 : Int32) (x1 : Int32) : Option (Int32 × pv_S) := f_Md_wave_0 σ x0 x1
def rm_Md_wave : Room := { frames := 0, cells := 0, slots := 0, locals := 0 }
theorem c_Md_wave {l : Launch} {D : va_G} {q : Nat → ClassId} {a : Nat → Nat} {A : Nat → Prop} (hD : pv_D 36 a A) (hmv : pv_mv A (pv_ZM)) {σ : pv_S} {x0 : Int32} {x1 : Int32} {out : (Int32 × pv_S)} (hf : f_Md_wave σ x0 x1 = some out) : pv_Mi l y_Md_wave (Cond.code y_Md_wave prog_9_method_52_code 4 (some .int) :: pv_TB) rm_Md_wave D pv_cl (pv_ty q) 36 a (pv_FM q a) A (pv_ZM) [.int x0, .int x1] σ out :=
  pv_ofI (by decide) (Nat.le_of_ble_eq_true rfl) hD (fun p e s m args below meth c Q ls C hret hl hP => s_Md_wave_0 C hmv (Nat.le_refl _) (Nat.le_refl _) hret hl hP va_S.rf hf)
theorem d_Md_noise_0 : decode prog_9_method_53_code 0 = .ok (.aload_n 0, 1) := by decide +kernel
theorem d_Md_noise_1 : decode prog_9_method_53_code 1 = .ok (.getfield 108, 3) := by decide +kernel
theorem d_Md_noise_4 : decode prog_9_method_53_code 4 = .ok (.iload_n 1, 1) := by decide +kernel
theorem d_Md_noise_5 : decode prog_9_method_53_code 5 = .ok (.iaload, 1) := by decide +kernel
theorem d_Md_noise_6 : decode prog_9_method_53_code 6 = .ok (.istore_n 2, 1) := by decide +kernel
theorem d_Md_noise_7 : decode prog_9_method_53_code 7 = .ok (.aload_n 0, 1) := by decide +kernel
theorem d_Md_noise_8 : decode prog_9_method_53_code 8 = .ok (.getfield 108, 3) := by decide +kernel
theorem d_Md_noise_11 : decode prog_9_method_53_code 11 = .ok (.iload_n 1, 1) := by decide +kernel
theorem d_Md_noise_12 : decode prog_9_method_53_code 12 = .ok (.iload_n 2, 1) := by decide +kernel
theorem d_Md_noise_13 : decode prog_9_method_53_code 13 = .ok (.iconst 1, 1) := by decide +kernel
theorem d_Md_noise_14 : decode prog_9_method_53_code 14 = .ok (.iand, 1) := by decide +kernel
theorem d_Md_noise_15 : decode prog_9_method_53_code 15 = .ok (.iconst 1, 1) := by decide +kernel
theorem d_Md_noise_16 : decode prog_9_method_53_code 16 = .ok (.if_icmp .ne 13, 3) := by decide +kernel
theorem d_Md_noise_19 : decode prog_9_method_53_code 19 = .ok (.iload_n 2, 1) := by decide +kernel
theorem d_Md_noise_20 : decode prog_9_method_53_code 20 = .ok (.iconst 1, 1) := by decide +kernel
theorem d_Md_noise_21 : decode prog_9_method_53_code 21 = .ok (.iushr, 1) := by decide +kernel
theorem d_Md_noise_22 : decode prog_9_method_53_code 22 = .ok (.ldc_w 303, 3) := by decide +kernel
theorem d_Md_noise_25 : decode prog_9_method_53_code 25 = .ok (.ixor, 1) := by decide +kernel
theorem d_Md_noise_26 : decode prog_9_method_53_code 26 = .ok (.goto 6, 3) := by decide +kernel
theorem d_Md_noise_29 : decode prog_9_method_53_code 29 = .ok (.iload_n 2, 1) := by decide +kernel
theorem d_Md_noise_30 : decode prog_9_method_53_code 30 = .ok (.iconst 1, 1) := by decide +kernel
theorem d_Md_noise_31 : decode prog_9_method_53_code 31 = .ok (.iushr, 1) := by decide +kernel
theorem d_Md_noise_32 : decode prog_9_method_53_code 32 = .ok (.iastore, 1) := by decide +kernel
theorem d_Md_noise_33 : decode prog_9_method_53_code 33 = .ok (.aload_n 0, 1) := by decide +kernel
theorem d_Md_noise_34 : decode prog_9_method_53_code 34 = .ok (.getfield 108, 3) := by decide +kernel
theorem d_Md_noise_37 : decode prog_9_method_53_code 37 = .ok (.iload_n 1, 1) := by decide +kernel
theorem d_Md_noise_38 : decode prog_9_method_53_code 38 = .ok (.iaload, 1) := by decide +kernel
theorem d_Md_noise_39 : decode prog_9_method_53_code 39 = .ok (.bipush 16, 2) := by decide +kernel
theorem d_Md_noise_41 : decode prog_9_method_53_code 41 = .ok (.ishr, 1) := by decide +kernel
theorem d_Md_noise_42 : decode prog_9_method_53_code 42 = .ok (.ireturn, 1) := by decide +kernel
def f_Md_noise_32 (σ : pv_S) (x1 : Int32) (s0 : Int32) (s1 : Int32) : Option (Int32 × pv_S) :=
  (if pv_in s1 96 = true then
(if pv_in x1 96 = true then
some ((((pv_uI σ 31 (s1).toNatClampNeg s0).1 31 (x1).toNatClampNeg) >>> ((16 : Int32) &&& 31)), (pv_uI σ 31 (s1).toNatClampNeg s0))
  else none)
  else none)
set_option maxHeartbeats 4000000 in
set_option maxRecDepth 100000 in
theorem s_Md_noise_32 {p : Program} {l : Launch} {e : Env} {R : Room} {s : State} {m : MethodId} {args : Array Value} {below : List Frame} {meth : Method} {c : Code} {Q : State → Prop} {D : va_G} {q : Nat → ClassId} {a : Nat → Nat} {A : Nat → Prop} (C : pv_C p s m args c prog_9_method_53_code 3 "PatchVoicesModel" pv_TB D pv_cl (pv_ty q) 36 a A (pv_ZM)) (hmv : pv_mv A (pv_ZM)) (hRf : 0 ≤ R.frames) (hRl : 0 ≤ R.locals) {out : (Int32 × pv_S)} (hret : pv_Ri p l e R s m args below meth c prog_9_method_53_code D pv_cl 36 a (pv_FM q a) A Q out) {σ : pv_S} {x1 : Int32} {s0 : Int32} {s1 : Int32} {H : Heap} {locs : List Loc} {ls : Array Slot} (hl : lv_has ls 3 [(0, .ref (a 0)), (1, .int x1)]) (hP : pv_W D pv_cl 36 a (pv_FM q a) σ H) (hS : va_S A s.heap H locs) (hf : f_Md_noise_32 σ x1 s0 s1 = some out) : W p l e R s m args below meth c H locs 0 0 Q (F0 m 32 ls [.int s0, .int s1, .ref (a 31)]) := by
  unfold f_Md_noise_32 at hf
  have hx := C.1
  have hb := C.2.1
  obtain ⟨hg, hf⟩ := pv_g hf
  refine pv_iast C hP hS (t0 := 0) (x := s0) (by decide) (fun f g => (fm_31 _ _ f g)) rfl hg d_Md_noise_32 (fun H locs hP hS => ?_)
  refine lv_aload_n hx hb d_Md_noise_33 rfl (lv_at hl 0 rfl) ?_
  refine pv_get C hP (v := .ref (a 31)) (j := 43) (by decide) (fm_0 _ _ _ _) fl_Md_108 rfl d_Md_noise_34 ?_
  refine lv_iload_n hx hb d_Md_noise_37 rfl (lv_at hl 1 rfl) ?_
  obtain ⟨hg, hf⟩ := pv_g hf
  refine pv_iald C hP (t0 := 0) (by decide) (fm_31 _ _ _ _) rfl hg d_Md_noise_38 ?_
  refine lv_bipush (v := (16 : Int32)) hx hb d_Md_noise_39 (by decide) ?_
  refine lv_ishr hx hb d_Md_noise_41 ?_
  obtain rfl := Option.some.inj hf
  exact hret _ _ _ _ d_Md_noise_42 hP hS
def f_Md_noise_0 (σ : pv_S) (x1 : Int32) : Option (Int32 × pv_S) :=
  (if pv_in x1 96 = true then
(if ((σ.1 31 (x1).toNatClampNeg) &&& (1 : Int32)) = (1 : Int32) then
  f_Md_noise_32 σ x1 (((((σ.1 31 (x1).toNatClampNeg)).toUInt32 >>> (((1 : Int32)).toUInt32 &&& Int32.toUInt32 31)).toInt32) ^^^ (-1262693540 : Int32)) x1
  else
  f_Md_noise_32 σ x1 ((((σ.1 31 (x1).toNatClampNeg)).toUInt32 >>> (((1 : Int32)).toUInt32 &&& Int32.toUInt32 31)).toInt32) x1)
  else none)
set_option maxHeartbeats 4000000 in
set_option maxRecDepth 100000 in
theorem s_Md_noise_0 {p : Program} {l : Launch} {e : Env} {R : Room} {s : State} {m : MethodId} {args : Array Value} {below : List Frame} {meth : Method} {c : Code} {Q : State → Prop} {D : va_G} {q : Nat → ClassId} {a : Nat → Nat} {A : Nat → Prop} (C : pv_C p s m args c prog_9_method_53_code 3 "PatchVoicesModel" pv_TB D pv_cl (pv_ty q) 36 a A (pv_ZM)) (hmv : pv_mv A (pv_ZM)) (hRf : 0 ≤ R.frames) (hRl : 0 ≤ R.locals) {out : (Int32 × pv_S)} (hret : pv_Ri p l e R s m args below meth c prog_9_method_53_code D pv_cl 36 a (pv_FM q a) A Q out) {σ : pv_S} {x1 : Int32} {H : Heap} {locs : List Loc} {ls : Array Slot} (hl : lv_has ls 3 [(0, .ref (a 0)), (1, .int x1)]) (hP : pv_W D pv_cl 36 a (pv_FM q a) σ H) (hS : va_S A s.heap H locs) (hf : f_Md_noise_0 σ x1 = some out) : W p l e R s m args below meth c H locs 0 0 Q (F0 m 0 ls []) := by
  unfold f_Md_noise_0 at hf
  have hx := C.1
  have hb := C.2.1
  refine lv_aload_n hx hb d_Md_noise_0 rfl (lv_at hl 0 rfl) ?_
  refine pv_get C hP (v := .ref (a 31)) (j := 43) (by decide) (fm_0 _ _ _ _) fl_Md_108 rfl d_Md_noise_1 ?_
  refine lv_iload_n hx hb d_Md_noise_4 rfl (lv_at hl 1 rfl) ?_
  obtain ⟨hg, hf⟩ := pv_g hf
  refine pv_iald C hP (t0 := 0) (by decide) (fm_31 _ _ _ _) rfl hg d_Md_noise_5 ?_
  refine lv_istore_n (lv' := [(2, .int (σ.1 31 (x1).toNatClampNeg)), (0, .ref (a 0)), (1, .int x1)]) hx hb d_Md_noise_6 rfl hl (by decide) rfl (fun ls hl => ?_)
  refine lv_aload_n hx hb d_Md_noise_7 rfl (lv_at hl 1 rfl) ?_
  refine pv_get C hP (v := .ref (a 31)) (j := 43) (by decide) (fm_0 _ _ _ _) fl_Md_108 rfl d_Md_noise_8 ?_
  refine lv_iload_n hx hb d_Md_noise_11 rfl (lv_at hl 2 rfl) ?_
  refine lv_iload_n hx hb d_Md_noise_12 rfl (lv_at hl 0 rfl) ?_
  refine lv_iconst (v := (1 : Int32)) hx hb d_Md_noise_13 (by decide) ?_
  refine lv_iand hx hb d_Md_noise_14 ?_
  refine lv_iconst (v := (1 : Int32)) hx hb d_Md_noise_15 (by decide) ?_
  refine lv_icmp_ne (tgt := 29) hx hb d_Md_noise_16 (by decide) (fun h => ?_) (fun h => ?_)
  · have hf := pv_f hf h
    refine lv_iload_n hx hb d_Md_noise_29 rfl (lv_at hl 0 rfl) ?_
    refine lv_iconst (v := (1 : Int32)) hx hb d_Md_noise_30 (by decide) ?_
    refine lv_iushr (v := (((σ.1 31 (x1).toNatClampNeg)).toUInt32 >>> (((1 : Int32)).toUInt32 &&& Int32.toUInt32 31)).toInt32) hx hb d_Md_noise_31 rfl ?_
    exact s_Md_noise_32 C hmv hRf hRl hret (lv_sub hl [1, 2] rfl) hP hS hf
  · have hf := pv_t hf h
    refine lv_iload_n hx hb d_Md_noise_19 rfl (lv_at hl 0 rfl) ?_
    refine lv_iconst (v := (1 : Int32)) hx hb d_Md_noise_20 (by decide) ?_
    refine lv_iushr (v := (((σ.1 31 (x1).toNatClampNeg)).toUInt32 >>> (((1 : Int32)).toUInt32 &&& Int32.toUInt32 31)).toInt32) hx hb d_Md_noise_21 rfl ?_
    refine lv_ldcw (v := (-1262693540 : Int32)) hx hb C.2.2.2.1 (C.2.2.2.2.1 _ w_1484) d_Md_noise_22 ?_
    refine lv_ixor hx hb d_Md_noise_25 ?_
    refine lv_goto (tgt := 32) hx hb d_Md_noise_26 (by decide) ?_
    exact s_Md_noise_32 C hmv hRf hRl hret (lv_sub hl [1, 2] rfl) hP hS hf
def f_Md_noise (σ : pv_S) (x1 : Int32) : Option (Int32 × pv_S) := f_Md_noise_0 σ x1
def rm_Md_noise : Room := { frames := 0, cells := 0, slots := 0, locals := 0 }
theorem c_Md_noise {l : Launch} {D : va_G} {q : Nat → ClassId} {a : Nat → Nat} {A : Nat → Prop} (hD : pv_D 36 a A) (hmv : pv_mv A (pv_ZM)) {σ : pv_S} {x1 : Int32} {out : (Int32 × pv_S)} (hf : f_Md_noise σ x1 = some out) : pv_Mi l y_Md_noise (Cond.code y_Md_noise prog_9_method_53_code 3 (some .int) :: pv_TB) rm_Md_noise D pv_cl (pv_ty q) 36 a (pv_FM q a) A (pv_ZM) [.ref (a 0), .int x1] σ out :=
  pv_ofI (by decide) (Nat.le_of_ble_eq_true rfl) hD (fun p e s m args below meth c Q ls C hret hl hP => s_Md_noise_0 C hmv (Nat.le_refl _) (Nat.le_refl _) hret hl hP va_S.rf hf)
theorem d_Md_envelope_0 : decode prog_9_method_54_code 0 = .ok (.aload_n 0, 1) := by decide +kernel
theorem d_Md_envelope_1 : decode prog_9_method_54_code 1 = .ok (.getfield 111, 3) := by decide +kernel
theorem d_Md_envelope_4 : decode prog_9_method_54_code 4 = .ok (.iload_n 1, 1) := by decide +kernel
theorem d_Md_envelope_5 : decode prog_9_method_54_code 5 = .ok (.iaload, 1) := by decide +kernel
theorem d_Md_envelope_6 : decode prog_9_method_54_code 6 = .ok (.istore 6, 2) := by decide +kernel
theorem d_Md_envelope_8 : decode prog_9_method_54_code 8 = .ok (.iload_n 2, 1) := by decide +kernel
theorem d_Md_envelope_9 : decode prog_9_method_54_code 9 = .ok (.ifCond .le 18, 3) := by decide +kernel
theorem d_Md_envelope_12 : decode prog_9_method_54_code 12 = .ok (.iload 6, 2) := by decide +kernel
theorem d_Md_envelope_14 : decode prog_9_method_54_code 14 = .ok (.ifCond .eq 9, 3) := by decide +kernel
theorem d_Md_envelope_17 : decode prog_9_method_54_code 17 = .ok (.iload 6, 2) := by decide +kernel
theorem d_Md_envelope_19 : decode prog_9_method_54_code 19 = .ok (.iconst 4, 1) := by decide +kernel
theorem d_Md_envelope_20 : decode prog_9_method_54_code 20 = .ok (.if_icmp .ne 7, 3) := by decide +kernel
theorem d_Md_envelope_23 : decode prog_9_method_54_code 23 = .ok (.iconst 1, 1) := by decide +kernel
theorem d_Md_envelope_24 : decode prog_9_method_54_code 24 = .ok (.goto 24, 3) := by decide +kernel
theorem d_Md_envelope_27 : decode prog_9_method_54_code 27 = .ok (.iload_n 2, 1) := by decide +kernel
theorem d_Md_envelope_28 : decode prog_9_method_54_code 28 = .ok (.ifCond .gt 18, 3) := by decide +kernel
theorem d_Md_envelope_31 : decode prog_9_method_54_code 31 = .ok (.iload 6, 2) := by decide +kernel
theorem d_Md_envelope_33 : decode prog_9_method_54_code 33 = .ok (.ifCond .le 13, 3) := by decide +kernel
theorem d_Md_envelope_36 : decode prog_9_method_54_code 36 = .ok (.iload 6, 2) := by decide +kernel
theorem d_Md_envelope_38 : decode prog_9_method_54_code 38 = .ok (.iconst 4, 1) := by decide +kernel
theorem d_Md_envelope_39 : decode prog_9_method_54_code 39 = .ok (.if_icmp .ge 7, 3) := by decide +kernel
theorem d_Md_envelope_42 : decode prog_9_method_54_code 42 = .ok (.iconst 4, 1) := by decide +kernel
theorem d_Md_envelope_43 : decode prog_9_method_54_code 43 = .ok (.goto 5, 3) := by decide +kernel
theorem d_Md_envelope_46 : decode prog_9_method_54_code 46 = .ok (.iload 6, 2) := by decide +kernel
theorem d_Md_envelope_48 : decode prog_9_method_54_code 48 = .ok (.istore 6, 2) := by decide +kernel
theorem d_Md_envelope_50 : decode prog_9_method_54_code 50 = .ok (.aload_n 0, 1) := by decide +kernel
theorem d_Md_envelope_51 : decode prog_9_method_54_code 51 = .ok (.getfield 108, 3) := by decide +kernel
theorem d_Md_envelope_54 : decode prog_9_method_54_code 54 = .ok (.iload_n 1, 1) := by decide +kernel
theorem d_Md_envelope_55 : decode prog_9_method_54_code 55 = .ok (.iaload, 1) := by decide +kernel
theorem d_Md_envelope_56 : decode prog_9_method_54_code 56 = .ok (.i2l, 1) := by decide +kernel
theorem d_Md_envelope_57 : decode prog_9_method_54_code 57 = .ok (.lstore 7, 2) := by decide +kernel
theorem d_Md_envelope_59 : decode prog_9_method_54_code 59 = .ok (.iload 6, 2) := by decide +kernel
theorem d_Md_envelope_61 : decode prog_9_method_54_code 61 = .ok (.iconst 1, 1) := by decide +kernel
theorem d_Md_envelope_62 : decode prog_9_method_54_code 62 = .ok (.if_icmp .ne 56, 3) := by decide +kernel
theorem d_Md_envelope_65 : decode prog_9_method_54_code 65 = .ok (.lload 7, 2) := by decide +kernel
theorem d_Md_envelope_67 : decode prog_9_method_54_code 67 = .ok (.iload_n 3, 1) := by decide +kernel
theorem d_Md_envelope_68 : decode prog_9_method_54_code 68 = .ok (.ifCond .ge 7, 3) := by decide +kernel
theorem d_Md_envelope_71 : decode prog_9_method_54_code 71 = .ok (.iconst 0, 1) := by decide +kernel
theorem d_Md_envelope_72 : decode prog_9_method_54_code 72 = .ok (.goto 4, 3) := by decide +kernel
theorem d_Md_envelope_75 : decode prog_9_method_54_code 75 = .ok (.iload_n 3, 1) := by decide +kernel
theorem d_Md_envelope_76 : decode prog_9_method_54_code 76 = .ok (.i2l, 1) := by decide +kernel
theorem d_Md_envelope_77 : decode prog_9_method_54_code 77 = .ok (.ladd, 1) := by decide +kernel
theorem d_Md_envelope_78 : decode prog_9_method_54_code 78 = .ok (.lstore 7, 2) := by decide +kernel
theorem d_Md_envelope_80 : decode prog_9_method_54_code 80 = .ok (.lload 7, 2) := by decide +kernel
theorem d_Md_envelope_82 : decode prog_9_method_54_code 82 = .ok (.ldc2_w 304, 3) := by decide +kernel
theorem d_Md_envelope_85 : decode prog_9_method_54_code 85 = .ok (.lcmp, 1) := by decide +kernel
theorem d_Md_envelope_86 : decode prog_9_method_54_code 86 = .ok (.ifCond .lt 7, 3) := by decide +kernel
theorem d_Md_envelope_89 : decode prog_9_method_54_code 89 = .ok (.iconst 2, 1) := by decide +kernel
theorem d_Md_envelope_90 : decode prog_9_method_54_code 90 = .ok (.goto 4, 3) := by decide +kernel
theorem d_Md_envelope_93 : decode prog_9_method_54_code 93 = .ok (.iconst 1, 1) := by decide +kernel
theorem d_Md_envelope_94 : decode prog_9_method_54_code 94 = .ok (.istore 6, 2) := by decide +kernel
theorem d_Md_envelope_96 : decode prog_9_method_54_code 96 = .ok (.lload 7, 2) := by decide +kernel
theorem d_Md_envelope_98 : decode prog_9_method_54_code 98 = .ok (.ldc2_w 304, 3) := by decide +kernel
theorem d_Md_envelope_101 : decode prog_9_method_54_code 101 = .ok (.lcmp, 1) := by decide +kernel
theorem d_Md_envelope_102 : decode prog_9_method_54_code 102 = .ok (.ifCond .lt 9, 3) := by decide +kernel
theorem d_Md_envelope_105 : decode prog_9_method_54_code 105 = .ok (.ldc2_w 304, 3) := by decide +kernel
theorem d_Md_envelope_108 : decode prog_9_method_54_code 108 = .ok (.goto 5, 3) := by decide +kernel
theorem d_Md_envelope_111 : decode prog_9_method_54_code 111 = .ok (.lload 7, 2) := by decide +kernel
theorem d_Md_envelope_113 : decode prog_9_method_54_code 113 = .ok (.lstore 7, 2) := by decide +kernel
theorem d_Md_envelope_115 : decode prog_9_method_54_code 115 = .ok (.goto 116, 3) := by decide +kernel
theorem d_Md_envelope_118 : decode prog_9_method_54_code 118 = .ok (.iload 6, 2) := by decide +kernel
theorem d_Md_envelope_120 : decode prog_9_method_54_code 120 = .ok (.iconst 2, 1) := by decide +kernel
theorem d_Md_envelope_121 : decode prog_9_method_54_code 121 = .ok (.if_icmp .ne 58, 3) := by decide +kernel
theorem d_Md_envelope_124 : decode prog_9_method_54_code 124 = .ok (.lload 7, 2) := by decide +kernel
theorem d_Md_envelope_126 : decode prog_9_method_54_code 126 = .ok (.iload 4, 2) := by decide +kernel
theorem d_Md_envelope_128 : decode prog_9_method_54_code 128 = .ok (.ifCond .ge 7, 3) := by decide +kernel
theorem d_Md_envelope_131 : decode prog_9_method_54_code 131 = .ok (.iconst 0, 1) := by decide +kernel
theorem d_Md_envelope_132 : decode prog_9_method_54_code 132 = .ok (.goto 5, 3) := by decide +kernel
theorem d_Md_envelope_135 : decode prog_9_method_54_code 135 = .ok (.iload 4, 2) := by decide +kernel
theorem d_Md_envelope_137 : decode prog_9_method_54_code 137 = .ok (.i2l, 1) := by decide +kernel
theorem d_Md_envelope_138 : decode prog_9_method_54_code 138 = .ok (.lsub, 1) := by decide +kernel
theorem d_Md_envelope_139 : decode prog_9_method_54_code 139 = .ok (.lstore 7, 2) := by decide +kernel
theorem d_Md_envelope_141 : decode prog_9_method_54_code 141 = .ok (.lload 7, 2) := by decide +kernel
theorem d_Md_envelope_143 : decode prog_9_method_54_code 143 = .ok (.ldc2_w 306, 3) := by decide +kernel
theorem d_Md_envelope_146 : decode prog_9_method_54_code 146 = .ok (.lcmp, 1) := by decide +kernel
theorem d_Md_envelope_147 : decode prog_9_method_54_code 147 = .ok (.ifCond .gt 7, 3) := by decide +kernel
theorem d_Md_envelope_150 : decode prog_9_method_54_code 150 = .ok (.iconst 3, 1) := by decide +kernel
theorem d_Md_envelope_151 : decode prog_9_method_54_code 151 = .ok (.goto 4, 3) := by decide +kernel
theorem d_Md_envelope_154 : decode prog_9_method_54_code 154 = .ok (.iconst 2, 1) := by decide +kernel
theorem d_Md_envelope_155 : decode prog_9_method_54_code 155 = .ok (.istore 6, 2) := by decide +kernel
theorem d_Md_envelope_157 : decode prog_9_method_54_code 157 = .ok (.lload 7, 2) := by decide +kernel
theorem d_Md_envelope_159 : decode prog_9_method_54_code 159 = .ok (.ldc2_w 306, 3) := by decide +kernel
theorem d_Md_envelope_162 : decode prog_9_method_54_code 162 = .ok (.lcmp, 1) := by decide +kernel
theorem d_Md_envelope_163 : decode prog_9_method_54_code 163 = .ok (.ifCond .gt 9, 3) := by decide +kernel
theorem d_Md_envelope_166 : decode prog_9_method_54_code 166 = .ok (.ldc2_w 306, 3) := by decide +kernel
theorem d_Md_envelope_169 : decode prog_9_method_54_code 169 = .ok (.goto 5, 3) := by decide +kernel
theorem d_Md_envelope_172 : decode prog_9_method_54_code 172 = .ok (.lload 7, 2) := by decide +kernel
theorem d_Md_envelope_174 : decode prog_9_method_54_code 174 = .ok (.lstore 7, 2) := by decide +kernel
theorem d_Md_envelope_176 : decode prog_9_method_54_code 176 = .ok (.goto 55, 3) := by decide +kernel
theorem d_Md_envelope_179 : decode prog_9_method_54_code 179 = .ok (.iload 6, 2) := by decide +kernel
theorem d_Md_envelope_181 : decode prog_9_method_54_code 181 = .ok (.iconst 4, 1) := by decide +kernel
theorem d_Md_envelope_182 : decode prog_9_method_54_code 182 = .ok (.if_icmp .ne 49, 3) := by decide +kernel
theorem d_Md_envelope_185 : decode prog_9_method_54_code 185 = .ok (.lload 7, 2) := by decide +kernel
theorem d_Md_envelope_187 : decode prog_9_method_54_code 187 = .ok (.iload 5, 2) := by decide +kernel
theorem d_Md_envelope_189 : decode prog_9_method_54_code 189 = .ok (.ifCond .ge 7, 3) := by decide +kernel
theorem d_Md_envelope_192 : decode prog_9_method_54_code 192 = .ok (.iconst 0, 1) := by decide +kernel
theorem d_Md_envelope_193 : decode prog_9_method_54_code 193 = .ok (.goto 5, 3) := by decide +kernel
theorem d_Md_envelope_196 : decode prog_9_method_54_code 196 = .ok (.iload 5, 2) := by decide +kernel
theorem d_Md_envelope_198 : decode prog_9_method_54_code 198 = .ok (.i2l, 1) := by decide +kernel
theorem d_Md_envelope_199 : decode prog_9_method_54_code 199 = .ok (.lsub, 1) := by decide +kernel
theorem d_Md_envelope_200 : decode prog_9_method_54_code 200 = .ok (.lstore 7, 2) := by decide +kernel
theorem d_Md_envelope_202 : decode prog_9_method_54_code 202 = .ok (.lload 7, 2) := by decide +kernel
theorem d_Md_envelope_204 : decode prog_9_method_54_code 204 = .ok (.lconst 0, 1) := by decide +kernel
theorem d_Md_envelope_205 : decode prog_9_method_54_code 205 = .ok (.lcmp, 1) := by decide +kernel
theorem d_Md_envelope_206 : decode prog_9_method_54_code 206 = .ok (.ifCond .gt 7, 3) := by decide +kernel
theorem d_Md_envelope_209 : decode prog_9_method_54_code 209 = .ok (.iconst 0, 1) := by decide +kernel
theorem d_Md_envelope_210 : decode prog_9_method_54_code 210 = .ok (.goto 4, 3) := by decide +kernel
theorem d_Md_envelope_213 : decode prog_9_method_54_code 213 = .ok (.iconst 4, 1) := by decide +kernel
theorem d_Md_envelope_214 : decode prog_9_method_54_code 214 = .ok (.istore 6, 2) := by decide +kernel
theorem d_Md_envelope_216 : decode prog_9_method_54_code 216 = .ok (.lload 7, 2) := by decide +kernel
theorem d_Md_envelope_218 : decode prog_9_method_54_code 218 = .ok (.lconst 0, 1) := by decide +kernel
theorem d_Md_envelope_219 : decode prog_9_method_54_code 219 = .ok (.lcmp, 1) := by decide +kernel
theorem d_Md_envelope_220 : decode prog_9_method_54_code 220 = .ok (.ifCond .gt 7, 3) := by decide +kernel
theorem d_Md_envelope_223 : decode prog_9_method_54_code 223 = .ok (.lconst 0, 1) := by decide +kernel
theorem d_Md_envelope_224 : decode prog_9_method_54_code 224 = .ok (.goto 5, 3) := by decide +kernel
theorem d_Md_envelope_227 : decode prog_9_method_54_code 227 = .ok (.lload 7, 2) := by decide +kernel
theorem d_Md_envelope_229 : decode prog_9_method_54_code 229 = .ok (.lstore 7, 2) := by decide +kernel
theorem d_Md_envelope_231 : decode prog_9_method_54_code 231 = .ok (.aload_n 0, 1) := by decide +kernel
theorem d_Md_envelope_232 : decode prog_9_method_54_code 232 = .ok (.getfield 108, 3) := by decide +kernel
theorem d_Md_envelope_235 : decode prog_9_method_54_code 235 = .ok (.iload_n 1, 1) := by decide +kernel
theorem d_Md_envelope_236 : decode prog_9_method_54_code 236 = .ok (.lload 7, 2) := by decide +kernel
theorem d_Md_envelope_238 : decode prog_9_method_54_code 238 = .ok (.l2i, 1) := by decide +kernel
theorem d_Md_envelope_239 : decode prog_9_method_54_code 239 = .ok (.iastore, 1) := by decide +kernel
theorem d_Md_envelope_240 : decode prog_9_method_54_code 240 = .ok (.aload_n 0, 1) := by decide +kernel
theorem d_Md_envelope_241 : decode prog_9_method_54_code 241 = .ok (.getfield 111, 3) := by decide +kernel
theorem d_Md_envelope_244 : decode prog_9_method_54_code 244 = .ok (.iload_n 1, 1) := by decide +kernel
theorem d_Md_envelope_245 : decode prog_9_method_54_code 245 = .ok (.iload 6, 2) := by decide +kernel
theorem d_Md_envelope_247 : decode prog_9_method_54_code 247 = .ok (.iastore, 1) := by decide +kernel
theorem d_Md_envelope_248 : decode prog_9_method_54_code 248 = .ok (.aload_n 0, 1) := by decide +kernel
theorem d_Md_envelope_249 : decode prog_9_method_54_code 249 = .ok (.getfield 108, 3) := by decide +kernel
theorem d_Md_envelope_252 : decode prog_9_method_54_code 252 = .ok (.iload_n 1, 1) := by decide +kernel
theorem d_Md_envelope_253 : decode prog_9_method_54_code 253 = .ok (.iaload, 1) := by decide +kernel
theorem d_Md_envelope_254 : decode prog_9_method_54_code 254 = .ok (.ireturn, 1) := by decide +kernel
def f_Md_envelope_231 (σ : pv_S) (x1 : Int32) (x6 : Int32) (x7 : Int64) : Option (Int32 × pv_S) :=
  (if pv_in x1 96 = true then
(if pv_in x1 96 = true then
(if pv_in x1 96 = true then
some (((pv_uI (pv_uI σ 31 (x1).toNatClampNeg ((x7).toInt32)) 32 (x1).toNatClampNeg x6).1 31 (x1).toNatClampNeg), (pv_uI (pv_uI σ 31 (x1).toNatClampNeg ((x7).toInt32)) 32 (x1).toNatClampNeg x6))
  else none)
  else none)
  else none)
set_option maxHeartbeats 4000000 in
set_option maxRecDepth 100000 in
theorem s_Md_envelope_231 {p : Program} {l : Launch} {e : Env} {R : Room} {s : State} {m : MethodId} {args : Array Value} {below : List Frame} {meth : Method} {c : Code} {Q : State → Prop} {D : va_G} {q : Nat → ClassId} {a : Nat → Nat} {A : Nat → Prop} (C : pv_C p s m args c prog_9_method_54_code 9 "PatchVoicesModel" pv_TB D pv_cl (pv_ty q) 36 a A (pv_ZM)) (hmv : pv_mv A (pv_ZM)) (hRf : 0 ≤ R.frames) (hRl : 0 ≤ R.locals) {out : (Int32 × pv_S)} (hret : pv_Ri p l e R s m args below meth c prog_9_method_54_code D pv_cl 36 a (pv_FM q a) A Q out) {σ : pv_S} {x1 : Int32} {x6 : Int32} {x7 : Int64} {H : Heap} {locs : List Loc} {ls : Array Slot} (hl : lv_has ls 9 [(0, .ref (a 0)), (1, .int x1), (6, .int x6), (7, .long x7)]) (hP : pv_W D pv_cl 36 a (pv_FM q a) σ H) (hS : va_S A s.heap H locs) (hf : f_Md_envelope_231 σ x1 x6 x7 = some out) : W p l e R s m args below meth c H locs 0 0 Q (F0 m 231 ls []) := by
  unfold f_Md_envelope_231 at hf
  have hx := C.1
  have hb := C.2.1
  refine lv_aload_n hx hb d_Md_envelope_231 rfl (lv_at hl 0 rfl) ?_
  refine pv_get C hP (v := .ref (a 31)) (j := 43) (by decide) (fm_0 _ _ _ _) fl_Md_108 rfl d_Md_envelope_232 ?_
  refine lv_iload_n hx hb d_Md_envelope_235 rfl (lv_at hl 1 rfl) ?_
  refine lv_lload hx hb d_Md_envelope_236 (lv_at hl 3 rfl) ?_
  refine lv_l2i (v := (x7).toInt32) hx hb d_Md_envelope_238 rfl ?_
  obtain ⟨hg, hf⟩ := pv_g hf
  refine pv_iast C hP hS (t0 := 0) (x := ((x7).toInt32)) (by decide) (fun f g => (fm_31 _ _ f g)) rfl hg d_Md_envelope_239 (fun H locs hP hS => ?_)
  refine lv_aload_n hx hb d_Md_envelope_240 rfl (lv_at hl 0 rfl) ?_
  refine pv_get C hP (v := .ref (a 32)) (j := 44) (by decide) (fm_0 _ _ _ _) fl_Md_111 rfl d_Md_envelope_241 ?_
  refine lv_iload_n hx hb d_Md_envelope_244 rfl (lv_at hl 1 rfl) ?_
  refine lv_iload hx hb d_Md_envelope_245 (lv_at hl 2 rfl) ?_
  obtain ⟨hg, hf⟩ := pv_g hf
  refine pv_iast C hP hS (t0 := 0) (x := x6) (by decide) (fun f g => (fm_32 _ _ f g)) rfl hg d_Md_envelope_247 (fun H locs hP hS => ?_)
  refine lv_aload_n hx hb d_Md_envelope_248 rfl (lv_at hl 0 rfl) ?_
  refine pv_get C hP (v := .ref (a 31)) (j := 43) (by decide) (fm_0 _ _ _ _) fl_Md_108 rfl d_Md_envelope_249 ?_
  refine lv_iload_n hx hb d_Md_envelope_252 rfl (lv_at hl 1 rfl) ?_
  obtain ⟨hg, hf⟩ := pv_g hf
  refine pv_iald C hP (t0 := 0) (by decide) (fm_31 _ _ _ _) rfl hg d_Md_envelope_253 ?_
  obtain rfl := Option.some.inj hf
  exact hret _ _ _ _ d_Md_envelope_254 hP hS
def f_Md_envelope_229 (σ : pv_S) (x1 : Int32) (x6 : Int32) (s0 : Int64) : Option (Int32 × pv_S) :=
  f_Md_envelope_231 σ x1 x6 s0
set_option maxHeartbeats 4000000 in
set_option maxRecDepth 100000 in
theorem s_Md_envelope_229 {p : Program} {l : Launch} {e : Env} {R : Room} {s : State} {m : MethodId} {args : Array Value} {below : List Frame} {meth : Method} {c : Code} {Q : State → Prop} {D : va_G} {q : Nat → ClassId} {a : Nat → Nat} {A : Nat → Prop} (C : pv_C p s m args c prog_9_method_54_code 9 "PatchVoicesModel" pv_TB D pv_cl (pv_ty q) 36 a A (pv_ZM)) (hmv : pv_mv A (pv_ZM)) (hRf : 0 ≤ R.frames) (hRl : 0 ≤ R.locals) {out : (Int32 × pv_S)} (hret : pv_Ri p l e R s m args below meth c prog_9_method_54_code D pv_cl 36 a (pv_FM q a) A Q out) {σ : pv_S} {x1 : Int32} {x6 : Int32} {s0 : Int64} {H : Heap} {locs : List Loc} {ls : Array Slot} (hl : lv_has ls 9 [(0, .ref (a 0)), (1, .int x1), (6, .int x6)]) (hP : pv_W D pv_cl 36 a (pv_FM q a) σ H) (hS : va_S A s.heap H locs) (hf : f_Md_envelope_229 σ x1 x6 s0 = some out) : W p l e R s m args below meth c H locs 0 0 Q (F0 m 229 ls [.long s0]) := by
  unfold f_Md_envelope_229 at hf
  have hx := C.1
  have hb := C.2.1
  refine lv_lstore (lv' := [(7, .long s0), (0, .ref (a 0)), (1, .int x1), (6, .int x6)]) hx hb d_Md_envelope_229 hl (by decide) rfl (fun ls hl => ?_)
  exact s_Md_envelope_231 C hmv hRf hRl hret (lv_sub hl [1, 2, 3, 0] rfl) hP hS hf
def f_Md_envelope_214 (σ : pv_S) (x1 : Int32) (x7 : Int64) (s0 : Int32) : Option (Int32 × pv_S) :=
  (if 0 < (lg_cmp x7 (0 : Int64)) then
  f_Md_envelope_229 σ x1 s0 x7
  else
  f_Md_envelope_229 σ x1 s0 (0 : Int64))
set_option maxHeartbeats 4000000 in
set_option maxRecDepth 100000 in
theorem s_Md_envelope_214 {p : Program} {l : Launch} {e : Env} {R : Room} {s : State} {m : MethodId} {args : Array Value} {below : List Frame} {meth : Method} {c : Code} {Q : State → Prop} {D : va_G} {q : Nat → ClassId} {a : Nat → Nat} {A : Nat → Prop} (C : pv_C p s m args c prog_9_method_54_code 9 "PatchVoicesModel" pv_TB D pv_cl (pv_ty q) 36 a A (pv_ZM)) (hmv : pv_mv A (pv_ZM)) (hRf : 0 ≤ R.frames) (hRl : 0 ≤ R.locals) {out : (Int32 × pv_S)} (hret : pv_Ri p l e R s m args below meth c prog_9_method_54_code D pv_cl 36 a (pv_FM q a) A Q out) {σ : pv_S} {x1 : Int32} {x7 : Int64} {s0 : Int32} {H : Heap} {locs : List Loc} {ls : Array Slot} (hl : lv_has ls 9 [(0, .ref (a 0)), (1, .int x1), (7, .long x7)]) (hP : pv_W D pv_cl 36 a (pv_FM q a) σ H) (hS : va_S A s.heap H locs) (hf : f_Md_envelope_214 σ x1 x7 s0 = some out) : W p l e R s m args below meth c H locs 0 0 Q (F0 m 214 ls [.int s0]) := by
  unfold f_Md_envelope_214 at hf
  have hx := C.1
  have hb := C.2.1
  refine lv_istore (lv' := [(6, .int s0), (0, .ref (a 0)), (1, .int x1), (7, .long x7)]) hx hb d_Md_envelope_214 hl (by decide) rfl (fun ls hl => ?_)
  refine lv_lload hx hb d_Md_envelope_216 (lv_at hl 3 rfl) ?_
  refine lv_lconst (v := (0 : Int64)) hx hb d_Md_envelope_218 (by decide) ?_
  refine W.lcmp hx hb d_Md_envelope_219 ?_
  refine lv_if_gt (tgt := 227) hx hb d_Md_envelope_220 (by decide) (fun h => ?_) (fun h => ?_)
  · have hf := pv_t hf h
    refine lv_lload hx hb d_Md_envelope_227 (lv_at hl 3 rfl) ?_
    exact s_Md_envelope_229 C hmv hRf hRl hret (lv_sub hl [1, 2, 0] rfl) hP hS hf
  · have hf := pv_f hf h
    refine lv_lconst (v := (0 : Int64)) hx hb d_Md_envelope_223 (by decide) ?_
    refine lv_goto (tgt := 229) hx hb d_Md_envelope_224 (by decide) ?_
    exact s_Md_envelope_229 C hmv hRf hRl hret (lv_sub hl [1, 2, 0] rfl) hP hS hf
def f_Md_envelope_198 (σ : pv_S) (x1 : Int32) (s0 : Int32) (s1 : Int64) : Option (Int32 × pv_S) :=
  (if 0 < (lg_cmp (s1 - ((s0).toInt64)) (0 : Int64)) then
  f_Md_envelope_214 σ x1 (s1 - ((s0).toInt64)) (4 : Int32)
  else
  f_Md_envelope_214 σ x1 (s1 - ((s0).toInt64)) (0 : Int32))
set_option maxHeartbeats 4000000 in
set_option maxRecDepth 100000 in
theorem s_Md_envelope_198 {p : Program} {l : Launch} {e : Env} {R : Room} {s : State} {m : MethodId} {args : Array Value} {below : List Frame} {meth : Method} {c : Code} {Q : State → Prop} {D : va_G} {q : Nat → ClassId} {a : Nat → Nat} {A : Nat → Prop} (C : pv_C p s m args c prog_9_method_54_code 9 "PatchVoicesModel" pv_TB D pv_cl (pv_ty q) 36 a A (pv_ZM)) (hmv : pv_mv A (pv_ZM)) (hRf : 0 ≤ R.frames) (hRl : 0 ≤ R.locals) {out : (Int32 × pv_S)} (hret : pv_Ri p l e R s m args below meth c prog_9_method_54_code D pv_cl 36 a (pv_FM q a) A Q out) {σ : pv_S} {x1 : Int32} {s0 : Int32} {s1 : Int64} {H : Heap} {locs : List Loc} {ls : Array Slot} (hl : lv_has ls 9 [(0, .ref (a 0)), (1, .int x1)]) (hP : pv_W D pv_cl 36 a (pv_FM q a) σ H) (hS : va_S A s.heap H locs) (hf : f_Md_envelope_198 σ x1 s0 s1 = some out) : W p l e R s m args below meth c H locs 0 0 Q (F0 m 198 ls [.int s0, .long s1]) := by
  unfold f_Md_envelope_198 at hf
  have hx := C.1
  have hb := C.2.1
  refine lv_i2l (v := (s0).toInt64) hx hb d_Md_envelope_198 rfl ?_
  refine lv_lsub hx hb d_Md_envelope_199 ?_
  refine lv_lstore (lv' := [(7, .long (s1 - ((s0).toInt64))), (0, .ref (a 0)), (1, .int x1)]) hx hb d_Md_envelope_200 hl (by decide) rfl (fun ls hl => ?_)
  refine lv_lload hx hb d_Md_envelope_202 (lv_at hl 0 rfl) ?_
  refine lv_lconst (v := (0 : Int64)) hx hb d_Md_envelope_204 (by decide) ?_
  refine W.lcmp hx hb d_Md_envelope_205 ?_
  refine lv_if_gt (tgt := 213) hx hb d_Md_envelope_206 (by decide) (fun h => ?_) (fun h => ?_)
  · have hf := pv_t hf h
    refine lv_iconst (v := (4 : Int32)) hx hb d_Md_envelope_213 (by decide) ?_
    exact s_Md_envelope_214 C hmv hRf hRl hret (lv_sub hl [1, 2, 0] rfl) hP hS hf
  · have hf := pv_f hf h
    refine lv_iconst (v := (0 : Int32)) hx hb d_Md_envelope_209 (by decide) ?_
    refine lv_goto (tgt := 214) hx hb d_Md_envelope_210 (by decide) ?_
    exact s_Md_envelope_214 C hmv hRf hRl hret (lv_sub hl [1, 2, 0] rfl) hP hS hf
def f_Md_envelope_174 (σ : pv_S) (x1 : Int32) (x6 : Int32) (s0 : Int64) : Option (Int32 × pv_S) :=
  f_Md_envelope_231 σ x1 x6 s0
set_option maxHeartbeats 4000000 in
set_option maxRecDepth 100000 in
theorem s_Md_envelope_174 {p : Program} {l : Launch} {e : Env} {R : Room} {s : State} {m : MethodId} {args : Array Value} {below : List Frame} {meth : Method} {c : Code} {Q : State → Prop} {D : va_G} {q : Nat → ClassId} {a : Nat → Nat} {A : Nat → Prop} (C : pv_C p s m args c prog_9_method_54_code 9 "PatchVoicesModel" pv_TB D pv_cl (pv_ty q) 36 a A (pv_ZM)) (hmv : pv_mv A (pv_ZM)) (hRf : 0 ≤ R.frames) (hRl : 0 ≤ R.locals) {out : (Int32 × pv_S)} (hret : pv_Ri p l e R s m args below meth c prog_9_method_54_code D pv_cl 36 a (pv_FM q a) A Q out) {σ : pv_S} {x1 : Int32} {x6 : Int32} {s0 : Int64} {H : Heap} {locs : List Loc} {ls : Array Slot} (hl : lv_has ls 9 [(0, .ref (a 0)), (1, .int x1), (6, .int x6)]) (hP : pv_W D pv_cl 36 a (pv_FM q a) σ H) (hS : va_S A s.heap H locs) (hf : f_Md_envelope_174 σ x1 x6 s0 = some out) : W p l e R s m args below meth c H locs 0 0 Q (F0 m 174 ls [.long s0]) := by
  unfold f_Md_envelope_174 at hf
  have hx := C.1
  have hb := C.2.1
  refine lv_lstore (lv' := [(7, .long s0), (0, .ref (a 0)), (1, .int x1), (6, .int x6)]) hx hb d_Md_envelope_174 hl (by decide) rfl (fun ls hl => ?_)
  refine lv_goto (tgt := 231) hx hb d_Md_envelope_176 (by decide) ?_
  exact s_Md_envelope_231 C hmv hRf hRl hret (lv_sub hl [1, 2, 3, 0] rfl) hP hS hf
def f_Md_envelope_155 (σ : pv_S) (x1 : Int32) (x7 : Int64) (s0 : Int32) : Option (Int32 × pv_S) :=
  (if 0 < (lg_cmp x7 (32768 : Int64)) then
  f_Md_envelope_174 σ x1 s0 x7
  else
  f_Md_envelope_174 σ x1 s0 (32768 : Int64))
set_option maxHeartbeats 4000000 in
set_option maxRecDepth 100000 in
theorem s_Md_envelope_155 {p : Program} {l : Launch} {e : Env} {R : Room} {s : State} {m : MethodId} {args : Array Value} {below : List Frame} {meth : Method} {c : Code} {Q : State → Prop} {D : va_G} {q : Nat → ClassId} {a : Nat → Nat} {A : Nat → Prop} (C : pv_C p s m args c prog_9_method_54_code 9 "PatchVoicesModel" pv_TB D pv_cl (pv_ty q) 36 a A (pv_ZM)) (hmv : pv_mv A (pv_ZM)) (hRf : 0 ≤ R.frames) (hRl : 0 ≤ R.locals) {out : (Int32 × pv_S)} (hret : pv_Ri p l e R s m args below meth c prog_9_method_54_code D pv_cl 36 a (pv_FM q a) A Q out) {σ : pv_S} {x1 : Int32} {x7 : Int64} {s0 : Int32} {H : Heap} {locs : List Loc} {ls : Array Slot} (hl : lv_has ls 9 [(0, .ref (a 0)), (1, .int x1), (7, .long x7)]) (hP : pv_W D pv_cl 36 a (pv_FM q a) σ H) (hS : va_S A s.heap H locs) (hf : f_Md_envelope_155 σ x1 x7 s0 = some out) : W p l e R s m args below meth c H locs 0 0 Q (F0 m 155 ls [.int s0]) := by
  unfold f_Md_envelope_155 at hf
  have hx := C.1
  have hb := C.2.1
  refine lv_istore (lv' := [(6, .int s0), (0, .ref (a 0)), (1, .int x1), (7, .long x7)]) hx hb d_Md_envelope_155 hl (by decide) rfl (fun ls hl => ?_)
  refine lv_lload hx hb d_Md_envelope_157 (lv_at hl 3 rfl) ?_
  refine lv_ldc2 (v := (32768 : Int64)) hx hb C.2.2.2.1 (C.2.2.2.2.1 _ w_1479) d_Md_envelope_159 ?_
  refine W.lcmp hx hb d_Md_envelope_162 ?_
  refine lv_if_gt (tgt := 172) hx hb d_Md_envelope_163 (by decide) (fun h => ?_) (fun h => ?_)
  · have hf := pv_t hf h
    refine lv_lload hx hb d_Md_envelope_172 (lv_at hl 3 rfl) ?_
    exact s_Md_envelope_174 C hmv hRf hRl hret (lv_sub hl [1, 2, 0] rfl) hP hS hf
  · have hf := pv_f hf h
    refine lv_ldc2 (v := (32768 : Int64)) hx hb C.2.2.2.1 (C.2.2.2.2.1 _ w_1479) d_Md_envelope_166 ?_
    refine lv_goto (tgt := 174) hx hb d_Md_envelope_169 (by decide) ?_
    exact s_Md_envelope_174 C hmv hRf hRl hret (lv_sub hl [1, 2, 0] rfl) hP hS hf
def f_Md_envelope_137 (σ : pv_S) (x1 : Int32) (s0 : Int32) (s1 : Int64) : Option (Int32 × pv_S) :=
  (if 0 < (lg_cmp (s1 - ((s0).toInt64)) (32768 : Int64)) then
  f_Md_envelope_155 σ x1 (s1 - ((s0).toInt64)) (2 : Int32)
  else
  f_Md_envelope_155 σ x1 (s1 - ((s0).toInt64)) (3 : Int32))
set_option maxHeartbeats 4000000 in
set_option maxRecDepth 100000 in
theorem s_Md_envelope_137 {p : Program} {l : Launch} {e : Env} {R : Room} {s : State} {m : MethodId} {args : Array Value} {below : List Frame} {meth : Method} {c : Code} {Q : State → Prop} {D : va_G} {q : Nat → ClassId} {a : Nat → Nat} {A : Nat → Prop} (C : pv_C p s m args c prog_9_method_54_code 9 "PatchVoicesModel" pv_TB D pv_cl (pv_ty q) 36 a A (pv_ZM)) (hmv : pv_mv A (pv_ZM)) (hRf : 0 ≤ R.frames) (hRl : 0 ≤ R.locals) {out : (Int32 × pv_S)} (hret : pv_Ri p l e R s m args below meth c prog_9_method_54_code D pv_cl 36 a (pv_FM q a) A Q out) {σ : pv_S} {x1 : Int32} {s0 : Int32} {s1 : Int64} {H : Heap} {locs : List Loc} {ls : Array Slot} (hl : lv_has ls 9 [(0, .ref (a 0)), (1, .int x1)]) (hP : pv_W D pv_cl 36 a (pv_FM q a) σ H) (hS : va_S A s.heap H locs) (hf : f_Md_envelope_137 σ x1 s0 s1 = some out) : W p l e R s m args below meth c H locs 0 0 Q (F0 m 137 ls [.int s0, .long s1]) := by
  unfold f_Md_envelope_137 at hf
  have hx := C.1
  have hb := C.2.1
  refine lv_i2l (v := (s0).toInt64) hx hb d_Md_envelope_137 rfl ?_
  refine lv_lsub hx hb d_Md_envelope_138 ?_
  refine lv_lstore (lv' := [(7, .long (s1 - ((s0).toInt64))), (0, .ref (a 0)), (1, .int x1)]) hx hb d_Md_envelope_139 hl (by decide) rfl (fun ls hl => ?_)
  refine lv_lload hx hb d_Md_envelope_141 (lv_at hl 0 rfl) ?_
  refine lv_ldc2 (v := (32768 : Int64)) hx hb C.2.2.2.1 (C.2.2.2.2.1 _ w_1479) d_Md_envelope_143 ?_
  refine W.lcmp hx hb d_Md_envelope_146 ?_
  refine lv_if_gt (tgt := 154) hx hb d_Md_envelope_147 (by decide) (fun h => ?_) (fun h => ?_)
  · have hf := pv_t hf h
    refine lv_iconst (v := (2 : Int32)) hx hb d_Md_envelope_154 (by decide) ?_
    exact s_Md_envelope_155 C hmv hRf hRl hret (lv_sub hl [1, 2, 0] rfl) hP hS hf
  · have hf := pv_f hf h
    refine lv_iconst (v := (3 : Int32)) hx hb d_Md_envelope_150 (by decide) ?_
    refine lv_goto (tgt := 155) hx hb d_Md_envelope_151 (by decide) ?_
    exact s_Md_envelope_155 C hmv hRf hRl hret (lv_sub hl [1, 2, 0] rfl) hP hS hf
def f_Md_envelope_113 (σ : pv_S) (x1 : Int32) (x6 : Int32) (s0 : Int64) : Option (Int32 × pv_S) :=
  f_Md_envelope_231 σ x1 x6 s0
set_option maxHeartbeats 4000000 in
set_option maxRecDepth 100000 in
theorem s_Md_envelope_113 {p : Program} {l : Launch} {e : Env} {R : Room} {s : State} {m : MethodId} {args : Array Value} {below : List Frame} {meth : Method} {c : Code} {Q : State → Prop} {D : va_G} {q : Nat → ClassId} {a : Nat → Nat} {A : Nat → Prop} (C : pv_C p s m args c prog_9_method_54_code 9 "PatchVoicesModel" pv_TB D pv_cl (pv_ty q) 36 a A (pv_ZM)) (hmv : pv_mv A (pv_ZM)) (hRf : 0 ≤ R.frames) (hRl : 0 ≤ R.locals) {out : (Int32 × pv_S)} (hret : pv_Ri p l e R s m args below meth c prog_9_method_54_code D pv_cl 36 a (pv_FM q a) A Q out) {σ : pv_S} {x1 : Int32} {x6 : Int32} {s0 : Int64} {H : Heap} {locs : List Loc} {ls : Array Slot} (hl : lv_has ls 9 [(0, .ref (a 0)), (1, .int x1), (6, .int x6)]) (hP : pv_W D pv_cl 36 a (pv_FM q a) σ H) (hS : va_S A s.heap H locs) (hf : f_Md_envelope_113 σ x1 x6 s0 = some out) : W p l e R s m args below meth c H locs 0 0 Q (F0 m 113 ls [.long s0]) := by
  unfold f_Md_envelope_113 at hf
  have hx := C.1
  have hb := C.2.1
  refine lv_lstore (lv' := [(7, .long s0), (0, .ref (a 0)), (1, .int x1), (6, .int x6)]) hx hb d_Md_envelope_113 hl (by decide) rfl (fun ls hl => ?_)
  refine lv_goto (tgt := 231) hx hb d_Md_envelope_115 (by decide) ?_
  exact s_Md_envelope_231 C hmv hRf hRl hret (lv_sub hl [1, 2, 3, 0] rfl) hP hS hf
def f_Md_envelope_94 (σ : pv_S) (x1 : Int32) (x7 : Int64) (s0 : Int32) : Option (Int32 × pv_S) :=
  (if (lg_cmp x7 (65536 : Int64)) < 0 then
  f_Md_envelope_113 σ x1 s0 x7
  else
  f_Md_envelope_113 σ x1 s0 (65536 : Int64))
set_option maxHeartbeats 4000000 in
set_option maxRecDepth 100000 in
theorem s_Md_envelope_94 {p : Program} {l : Launch} {e : Env} {R : Room} {s : State} {m : MethodId} {args : Array Value} {below : List Frame} {meth : Method} {c : Code} {Q : State → Prop} {D : va_G} {q : Nat → ClassId} {a : Nat → Nat} {A : Nat → Prop} (C : pv_C p s m args c prog_9_method_54_code 9 "PatchVoicesModel" pv_TB D pv_cl (pv_ty q) 36 a A (pv_ZM)) (hmv : pv_mv A (pv_ZM)) (hRf : 0 ≤ R.frames) (hRl : 0 ≤ R.locals) {out : (Int32 × pv_S)} (hret : pv_Ri p l e R s m args below meth c prog_9_method_54_code D pv_cl 36 a (pv_FM q a) A Q out) {σ : pv_S} {x1 : Int32} {x7 : Int64} {s0 : Int32} {H : Heap} {locs : List Loc} {ls : Array Slot} (hl : lv_has ls 9 [(0, .ref (a 0)), (1, .int x1), (7, .long x7)]) (hP : pv_W D pv_cl 36 a (pv_FM q a) σ H) (hS : va_S A s.heap H locs) (hf : f_Md_envelope_94 σ x1 x7 s0 = some out) : W p l e R s m args below meth c H locs 0 0 Q (F0 m 94 ls [.int s0]) := by
  unfold f_Md_envelope_94 at hf
  have hx := C.1
  have hb := C.2.1
  refine lv_istore (lv' := [(6, .int s0), (0, .ref (a 0)), (1, .int x1), (7, .long x7)]) hx hb d_Md_envelope_94 hl (by decide) rfl (fun ls hl => ?_)
  refine lv_lload hx hb d_Md_envelope_96 (lv_at hl 3 rfl) ?_
  refine lv_ldc2 (v := (65536 : Int64)) hx hb C.2.2.2.1 (C.2.2.2.2.1 _ w_1478) d_Md_envelope_98 ?_
  refine W.lcmp hx hb d_Md_envelope_101 ?_
  refine lv_if_lt (tgt := 111) hx hb d_Md_envelope_102 (by decide) (fun h => ?_) (fun h => ?_)
  · have hf := pv_t hf h
    refine lv_lload hx hb d_Md_envelope_111 (lv_at hl 3 rfl) ?_
    exact s_Md_envelope_113 C hmv hRf hRl hret (lv_sub hl [1, 2, 0] rfl) hP hS hf
  · have hf := pv_f hf h
    refine lv_ldc2 (v := (65536 : Int64)) hx hb C.2.2.2.1 (C.2.2.2.2.1 _ w_1478) d_Md_envelope_105 ?_
    refine lv_goto (tgt := 113) hx hb d_Md_envelope_108 (by decide) ?_
    exact s_Md_envelope_113 C hmv hRf hRl hret (lv_sub hl [1, 2, 0] rfl) hP hS hf
def f_Md_envelope_76 (σ : pv_S) (x1 : Int32) (s0 : Int32) (s1 : Int64) : Option (Int32 × pv_S) :=
  (if (lg_cmp (s1 + ((s0).toInt64)) (65536 : Int64)) < 0 then
  f_Md_envelope_94 σ x1 (s1 + ((s0).toInt64)) (1 : Int32)
  else
  f_Md_envelope_94 σ x1 (s1 + ((s0).toInt64)) (2 : Int32))
set_option maxHeartbeats 4000000 in
set_option maxRecDepth 100000 in
theorem s_Md_envelope_76 {p : Program} {l : Launch} {e : Env} {R : Room} {s : State} {m : MethodId} {args : Array Value} {below : List Frame} {meth : Method} {c : Code} {Q : State → Prop} {D : va_G} {q : Nat → ClassId} {a : Nat → Nat} {A : Nat → Prop} (C : pv_C p s m args c prog_9_method_54_code 9 "PatchVoicesModel" pv_TB D pv_cl (pv_ty q) 36 a A (pv_ZM)) (hmv : pv_mv A (pv_ZM)) (hRf : 0 ≤ R.frames) (hRl : 0 ≤ R.locals) {out : (Int32 × pv_S)} (hret : pv_Ri p l e R s m args below meth c prog_9_method_54_code D pv_cl 36 a (pv_FM q a) A Q out) {σ : pv_S} {x1 : Int32} {s0 : Int32} {s1 : Int64} {H : Heap} {locs : List Loc} {ls : Array Slot} (hl : lv_has ls 9 [(0, .ref (a 0)), (1, .int x1)]) (hP : pv_W D pv_cl 36 a (pv_FM q a) σ H) (hS : va_S A s.heap H locs) (hf : f_Md_envelope_76 σ x1 s0 s1 = some out) : W p l e R s m args below meth c H locs 0 0 Q (F0 m 76 ls [.int s0, .long s1]) := by
  unfold f_Md_envelope_76 at hf
  have hx := C.1
  have hb := C.2.1
  refine lv_i2l (v := (s0).toInt64) hx hb d_Md_envelope_76 rfl ?_
  refine lv_ladd hx hb d_Md_envelope_77 ?_
  refine lv_lstore (lv' := [(7, .long (s1 + ((s0).toInt64))), (0, .ref (a 0)), (1, .int x1)]) hx hb d_Md_envelope_78 hl (by decide) rfl (fun ls hl => ?_)
  refine lv_lload hx hb d_Md_envelope_80 (lv_at hl 0 rfl) ?_
  refine lv_ldc2 (v := (65536 : Int64)) hx hb C.2.2.2.1 (C.2.2.2.2.1 _ w_1478) d_Md_envelope_82 ?_
  refine W.lcmp hx hb d_Md_envelope_85 ?_
  refine lv_if_lt (tgt := 93) hx hb d_Md_envelope_86 (by decide) (fun h => ?_) (fun h => ?_)
  · have hf := pv_t hf h
    refine lv_iconst (v := (1 : Int32)) hx hb d_Md_envelope_93 (by decide) ?_
    exact s_Md_envelope_94 C hmv hRf hRl hret (lv_sub hl [1, 2, 0] rfl) hP hS hf
  · have hf := pv_f hf h
    refine lv_iconst (v := (2 : Int32)) hx hb d_Md_envelope_89 (by decide) ?_
    refine lv_goto (tgt := 94) hx hb d_Md_envelope_90 (by decide) ?_
    exact s_Md_envelope_94 C hmv hRf hRl hret (lv_sub hl [1, 2, 0] rfl) hP hS hf
def f_Md_envelope_48 (σ : pv_S) (x1 : Int32) (x3 : Int32) (x4 : Int32) (x5 : Int32) (s0 : Int32) : Option (Int32 × pv_S) :=
  (if pv_in x1 96 = true then
(if s0 = (1 : Int32) then
  (if 0 ≤ x3 then
  f_Md_envelope_76 σ x1 x3 (((σ.1 31 (x1).toNatClampNeg)).toInt64)
  else
  f_Md_envelope_76 σ x1 (0 : Int32) (((σ.1 31 (x1).toNatClampNeg)).toInt64))
  else
  (if s0 = (2 : Int32) then
  (if 0 ≤ x4 then
  f_Md_envelope_137 σ x1 x4 (((σ.1 31 (x1).toNatClampNeg)).toInt64)
  else
  f_Md_envelope_137 σ x1 (0 : Int32) (((σ.1 31 (x1).toNatClampNeg)).toInt64))
  else
  (if s0 = (4 : Int32) then
  (if 0 ≤ x5 then
  f_Md_envelope_198 σ x1 x5 (((σ.1 31 (x1).toNatClampNeg)).toInt64)
  else
  f_Md_envelope_198 σ x1 (0 : Int32) (((σ.1 31 (x1).toNatClampNeg)).toInt64))
  else
  f_Md_envelope_231 σ x1 s0 (((σ.1 31 (x1).toNatClampNeg)).toInt64))))
  else none)
set_option maxHeartbeats 4000000 in
set_option maxRecDepth 100000 in
theorem s_Md_envelope_48 {p : Program} {l : Launch} {e : Env} {R : Room} {s : State} {m : MethodId} {args : Array Value} {below : List Frame} {meth : Method} {c : Code} {Q : State → Prop} {D : va_G} {q : Nat → ClassId} {a : Nat → Nat} {A : Nat → Prop} (C : pv_C p s m args c prog_9_method_54_code 9 "PatchVoicesModel" pv_TB D pv_cl (pv_ty q) 36 a A (pv_ZM)) (hmv : pv_mv A (pv_ZM)) (hRf : 0 ≤ R.frames) (hRl : 0 ≤ R.locals) {out : (Int32 × pv_S)} (hret : pv_Ri p l e R s m args below meth c prog_9_method_54_code D pv_cl 36 a (pv_FM q a) A Q out) {σ : pv_S} {x1 : Int32} {x3 : Int32} {x4 : Int32} {x5 : Int32} {s0 : Int32} {H : Heap} {locs : List Loc} {ls : Array Slot} (hl : lv_has ls 9 [(0, .ref (a 0)), (1, .int x1), (3, .int x3), (4, .int x4), (5, .int x5)]) (hP : pv_W D pv_cl 36 a (pv_FM q a) σ H) (hS : va_S A s.heap H locs) (hf : f_Md_envelope_48 σ x1 x3 x4 x5 s0 = some out) : W p l e R s m args below meth c H locs 0 0 Q (F0 m 48 ls [.int s0]) := by
  unfold f_Md_envelope_48 at hf
  have hx := C.1
  have hb := C.2.1
  refine lv_istore (lv' := [(6, .int s0), (0, .ref (a 0)), (1, .int x1), (3, .int x3), (4, .int x4), (5, .int x5)]) hx hb d_Md_envelope_48 hl (by decide) rfl (fun ls hl => ?_)
  refine lv_aload_n hx hb d_Md_envelope_50 rfl (lv_at hl 1 rfl) ?_
  refine pv_get C hP (v := .ref (a 31)) (j := 43) (by decide) (fm_0 _ _ _ _) fl_Md_108 rfl d_Md_envelope_51 ?_
  refine lv_iload_n hx hb d_Md_envelope_54 rfl (lv_at hl 2 rfl) ?_
  obtain ⟨hg, hf⟩ := pv_g hf
  refine pv_iald C hP (t0 := 0) (by decide) (fm_31 _ _ _ _) rfl hg d_Md_envelope_55 ?_
  refine lv_i2l (v := ((σ.1 31 (x1).toNatClampNeg)).toInt64) hx hb d_Md_envelope_56 rfl ?_
  refine lv_lstore (lv' := [(7, .long (((σ.1 31 (x1).toNatClampNeg)).toInt64)), (6, .int s0), (0, .ref (a 0)), (1, .int x1), (3, .int x3), (4, .int x4), (5, .int x5)]) hx hb d_Md_envelope_57 hl (by decide) rfl (fun ls hl => ?_)
  refine lv_iload hx hb d_Md_envelope_59 (lv_at hl 1 rfl) ?_
  refine lv_iconst (v := (1 : Int32)) hx hb d_Md_envelope_61 (by decide) ?_
  refine lv_icmp_ne (tgt := 118) hx hb d_Md_envelope_62 (by decide) (fun h => ?_) (fun h => ?_)
  · have hf := pv_f hf h
    refine lv_iload hx hb d_Md_envelope_118 (lv_at hl 1 rfl) ?_
    refine lv_iconst (v := (2 : Int32)) hx hb d_Md_envelope_120 (by decide) ?_
    refine lv_icmp_ne (tgt := 179) hx hb d_Md_envelope_121 (by decide) (fun h => ?_) (fun h => ?_)
    · have hf := pv_f hf h
      refine lv_iload hx hb d_Md_envelope_179 (lv_at hl 1 rfl) ?_
      refine lv_iconst (v := (4 : Int32)) hx hb d_Md_envelope_181 (by decide) ?_
      refine lv_icmp_ne (tgt := 231) hx hb d_Md_envelope_182 (by decide) (fun h => ?_) (fun h => ?_)
      · have hf := pv_f hf h
        exact s_Md_envelope_231 C hmv hRf hRl hret (lv_sub hl [2, 3, 1, 0] rfl) hP hS hf
      · have hf := pv_t hf h
        refine lv_lload hx hb d_Md_envelope_185 (lv_at hl 0 rfl) ?_
        refine lv_iload hx hb d_Md_envelope_187 (lv_at hl 6 rfl) ?_
        refine lv_if_ge (tgt := 196) hx hb d_Md_envelope_189 (by decide) (fun h => ?_) (fun h => ?_)
        · have hf := pv_t hf h
          refine lv_iload hx hb d_Md_envelope_196 (lv_at hl 6 rfl) ?_
          exact s_Md_envelope_198 C hmv hRf hRl hret (lv_sub hl [2, 3] rfl) hP hS hf
        · have hf := pv_f hf h
          refine lv_iconst (v := (0 : Int32)) hx hb d_Md_envelope_192 (by decide) ?_
          refine lv_goto (tgt := 198) hx hb d_Md_envelope_193 (by decide) ?_
          exact s_Md_envelope_198 C hmv hRf hRl hret (lv_sub hl [2, 3] rfl) hP hS hf
    · have hf := pv_t hf h
      refine lv_lload hx hb d_Md_envelope_124 (lv_at hl 0 rfl) ?_
      refine lv_iload hx hb d_Md_envelope_126 (lv_at hl 5 rfl) ?_
      refine lv_if_ge (tgt := 135) hx hb d_Md_envelope_128 (by decide) (fun h => ?_) (fun h => ?_)
      · have hf := pv_t hf h
        refine lv_iload hx hb d_Md_envelope_135 (lv_at hl 5 rfl) ?_
        exact s_Md_envelope_137 C hmv hRf hRl hret (lv_sub hl [2, 3] rfl) hP hS hf
      · have hf := pv_f hf h
        refine lv_iconst (v := (0 : Int32)) hx hb d_Md_envelope_131 (by decide) ?_
        refine lv_goto (tgt := 137) hx hb d_Md_envelope_132 (by decide) ?_
        exact s_Md_envelope_137 C hmv hRf hRl hret (lv_sub hl [2, 3] rfl) hP hS hf
  · have hf := pv_t hf h
    refine lv_lload hx hb d_Md_envelope_65 (lv_at hl 0 rfl) ?_
    refine lv_iload_n hx hb d_Md_envelope_67 rfl (lv_at hl 4 rfl) ?_
    refine lv_if_ge (tgt := 75) hx hb d_Md_envelope_68 (by decide) (fun h => ?_) (fun h => ?_)
    · have hf := pv_t hf h
      refine lv_iload_n hx hb d_Md_envelope_75 rfl (lv_at hl 4 rfl) ?_
      exact s_Md_envelope_76 C hmv hRf hRl hret (lv_sub hl [2, 3] rfl) hP hS hf
    · have hf := pv_f hf h
      refine lv_iconst (v := (0 : Int32)) hx hb d_Md_envelope_71 (by decide) ?_
      refine lv_goto (tgt := 76) hx hb d_Md_envelope_72 (by decide) ?_
      exact s_Md_envelope_76 C hmv hRf hRl hret (lv_sub hl [2, 3] rfl) hP hS hf
def f_Md_envelope_46 (σ : pv_S) (x1 : Int32) (x3 : Int32) (x4 : Int32) (x5 : Int32) (x6 : Int32) : Option (Int32 × pv_S) :=
  f_Md_envelope_48 σ x1 x3 x4 x5 x6
set_option maxHeartbeats 4000000 in
set_option maxRecDepth 100000 in
theorem s_Md_envelope_46 {p : Program} {l : Launch} {e : Env} {R : Room} {s : State} {m : MethodId} {args : Array Value} {below : List Frame} {meth : Method} {c : Code} {Q : State → Prop} {D : va_G} {q : Nat → ClassId} {a : Nat → Nat} {A : Nat → Prop} (C : pv_C p s m args c prog_9_method_54_code 9 "PatchVoicesModel" pv_TB D pv_cl (pv_ty q) 36 a A (pv_ZM)) (hmv : pv_mv A (pv_ZM)) (hRf : 0 ≤ R.frames) (hRl : 0 ≤ R.locals) {out : (Int32 × pv_S)} (hret : pv_Ri p l e R s m args below meth c prog_9_method_54_code D pv_cl 36 a (pv_FM q a) A Q out) {σ : pv_S} {x1 : Int32} {x3 : Int32} {x4 : Int32} {x5 : Int32} {x6 : Int32} {H : Heap} {locs : List Loc} {ls : Array Slot} (hl : lv_has ls 9 [(0, .ref (a 0)), (1, .int x1), (3, .int x3), (4, .int x4), (5, .int x5), (6, .int x6)]) (hP : pv_W D pv_cl 36 a (pv_FM q a) σ H) (hS : va_S A s.heap H locs) (hf : f_Md_envelope_46 σ x1 x3 x4 x5 x6 = some out) : W p l e R s m args below meth c H locs 0 0 Q (F0 m 46 ls []) := by
  unfold f_Md_envelope_46 at hf
  have hx := C.1
  have hb := C.2.1
  refine lv_iload hx hb d_Md_envelope_46 (lv_at hl 5 rfl) ?_
  exact s_Md_envelope_48 C hmv hRf hRl hret (lv_sub hl [0, 1, 2, 3, 4] rfl) hP hS hf
def f_Md_envelope_27 (σ : pv_S) (x1 : Int32) (x2 : Int32) (x3 : Int32) (x4 : Int32) (x5 : Int32) (x6 : Int32) : Option (Int32 × pv_S) :=
  (if 0 < x2 then
  f_Md_envelope_46 σ x1 x3 x4 x5 x6
  else
  (if x6 ≤ 0 then
  f_Md_envelope_46 σ x1 x3 x4 x5 x6
  else
  (if (4 : Int32) ≤ x6 then
  f_Md_envelope_46 σ x1 x3 x4 x5 x6
  else
  f_Md_envelope_48 σ x1 x3 x4 x5 (4 : Int32))))
set_option maxHeartbeats 4000000 in
set_option maxRecDepth 100000 in
theorem s_Md_envelope_27 {p : Program} {l : Launch} {e : Env} {R : Room} {s : State} {m : MethodId} {args : Array Value} {below : List Frame} {meth : Method} {c : Code} {Q : State → Prop} {D : va_G} {q : Nat → ClassId} {a : Nat → Nat} {A : Nat → Prop} (C : pv_C p s m args c prog_9_method_54_code 9 "PatchVoicesModel" pv_TB D pv_cl (pv_ty q) 36 a A (pv_ZM)) (hmv : pv_mv A (pv_ZM)) (hRf : 0 ≤ R.frames) (hRl : 0 ≤ R.locals) {out : (Int32 × pv_S)} (hret : pv_Ri p l e R s m args below meth c prog_9_method_54_code D pv_cl 36 a (pv_FM q a) A Q out) {σ : pv_S} {x1 : Int32} {x2 : Int32} {x3 : Int32} {x4 : Int32} {x5 : Int32} {x6 : Int32} {H : Heap} {locs : List Loc} {ls : Array Slot} (hl : lv_has ls 9 [(0, .ref (a 0)), (1, .int x1), (2, .int x2), (3, .int x3), (4, .int x4), (5, .int x5), (6, .int x6)]) (hP : pv_W D pv_cl 36 a (pv_FM q a) σ H) (hS : va_S A s.heap H locs) (hf : f_Md_envelope_27 σ x1 x2 x3 x4 x5 x6 = some out) : W p l e R s m args below meth c H locs 0 0 Q (F0 m 27 ls []) := by
  unfold f_Md_envelope_27 at hf
  have hx := C.1
  have hb := C.2.1
  refine lv_iload_n hx hb d_Md_envelope_27 rfl (lv_at hl 2 rfl) ?_
  refine lv_if_gt (tgt := 46) hx hb d_Md_envelope_28 (by decide) (fun h => ?_) (fun h => ?_)
  · have hf := pv_t hf h
    exact s_Md_envelope_46 C hmv hRf hRl hret (lv_sub hl [0, 1, 3, 4, 5, 6] rfl) hP hS hf
  · have hf := pv_f hf h
    refine lv_iload hx hb d_Md_envelope_31 (lv_at hl 6 rfl) ?_
    refine lv_if_le (tgt := 46) hx hb d_Md_envelope_33 (by decide) (fun h => ?_) (fun h => ?_)
    · have hf := pv_t hf h
      exact s_Md_envelope_46 C hmv hRf hRl hret (lv_sub hl [0, 1, 3, 4, 5, 6] rfl) hP hS hf
    · have hf := pv_f hf h
      refine lv_iload hx hb d_Md_envelope_36 (lv_at hl 6 rfl) ?_
      refine lv_iconst (v := (4 : Int32)) hx hb d_Md_envelope_38 (by decide) ?_
      refine lv_icmp_ge (tgt := 46) hx hb d_Md_envelope_39 (by decide) (fun h => ?_) (fun h => ?_)
      · have hf := pv_t hf h
        exact s_Md_envelope_46 C hmv hRf hRl hret (lv_sub hl [0, 1, 3, 4, 5, 6] rfl) hP hS hf
      · have hf := pv_f hf h
        refine lv_iconst (v := (4 : Int32)) hx hb d_Md_envelope_42 (by decide) ?_
        refine lv_goto (tgt := 48) hx hb d_Md_envelope_43 (by decide) ?_
        exact s_Md_envelope_48 C hmv hRf hRl hret (lv_sub hl [0, 1, 3, 4, 5] rfl) hP hS hf
def f_Md_envelope_23 (σ : pv_S) (x1 : Int32) (x3 : Int32) (x4 : Int32) (x5 : Int32) : Option (Int32 × pv_S) :=
  f_Md_envelope_48 σ x1 x3 x4 x5 (1 : Int32)
set_option maxHeartbeats 4000000 in
set_option maxRecDepth 100000 in
theorem s_Md_envelope_23 {p : Program} {l : Launch} {e : Env} {R : Room} {s : State} {m : MethodId} {args : Array Value} {below : List Frame} {meth : Method} {c : Code} {Q : State → Prop} {D : va_G} {q : Nat → ClassId} {a : Nat → Nat} {A : Nat → Prop} (C : pv_C p s m args c prog_9_method_54_code 9 "PatchVoicesModel" pv_TB D pv_cl (pv_ty q) 36 a A (pv_ZM)) (hmv : pv_mv A (pv_ZM)) (hRf : 0 ≤ R.frames) (hRl : 0 ≤ R.locals) {out : (Int32 × pv_S)} (hret : pv_Ri p l e R s m args below meth c prog_9_method_54_code D pv_cl 36 a (pv_FM q a) A Q out) {σ : pv_S} {x1 : Int32} {x3 : Int32} {x4 : Int32} {x5 : Int32} {H : Heap} {locs : List Loc} {ls : Array Slot} (hl : lv_has ls 9 [(0, .ref (a 0)), (1, .int x1), (3, .int x3), (4, .int x4), (5, .int x5)]) (hP : pv_W D pv_cl 36 a (pv_FM q a) σ H) (hS : va_S A s.heap H locs) (hf : f_Md_envelope_23 σ x1 x3 x4 x5 = some out) : W p l e R s m args below meth c H locs 0 0 Q (F0 m 23 ls []) := by
  unfold f_Md_envelope_23 at hf
  have hx := C.1
  have hb := C.2.1
  refine lv_iconst (v := (1 : Int32)) hx hb d_Md_envelope_23 (by decide) ?_
  refine lv_goto (tgt := 48) hx hb d_Md_envelope_24 (by decide) ?_
  exact s_Md_envelope_48 C hmv hRf hRl hret (lv_sub hl [0, 1, 2, 3, 4] rfl) hP hS hf
def f_Md_envelope_0 (σ : pv_S) (x1 : Int32) (x2 : Int32) (x3 : Int32) (x4 : Int32) (x5 : Int32) : Option (Int32 × pv_S) :=
  (if pv_in x1 96 = true then
(if x2 ≤ 0 then
  f_Md_envelope_27 σ x1 x2 x3 x4 x5 (σ.1 32 (x1).toNatClampNeg)
  else
  (if (σ.1 32 (x1).toNatClampNeg) = 0 then
  f_Md_envelope_23 σ x1 x3 x4 x5
  else
  (if (σ.1 32 (x1).toNatClampNeg) = (4 : Int32) then
  f_Md_envelope_23 σ x1 x3 x4 x5
  else
  f_Md_envelope_27 σ x1 x2 x3 x4 x5 (σ.1 32 (x1).toNatClampNeg))))
  else none)
set_option maxHeartbeats 4000000 in
set_option maxRecDepth 100000 in
theorem s_Md_envelope_0 {p : Program} {l : Launch} {e : Env} {R : Room} {s : State} {m : MethodId} {args : Array Value} {below : List Frame} {meth : Method} {c : Code} {Q : State → Prop} {D : va_G} {q : Nat → ClassId} {a : Nat → Nat} {A : Nat → Prop} (C : pv_C p s m args c prog_9_method_54_code 9 "PatchVoicesModel" pv_TB D pv_cl (pv_ty q) 36 a A (pv_ZM)) (hmv : pv_mv A (pv_ZM)) (hRf : 0 ≤ R.frames) (hRl : 0 ≤ R.locals) {out : (Int32 × pv_S)} (hret : pv_Ri p l e R s m args below meth c prog_9_method_54_code D pv_cl 36 a (pv_FM q a) A Q out) {σ : pv_S} {x1 : Int32} {x2 : Int32} {x3 : Int32} {x4 : Int32} {x5 : Int32} {H : Heap} {locs : List Loc} {ls : Array Slot} (hl : lv_has ls 9 [(0, .ref (a 0)), (1, .int x1), (2, .int x2), (3, .int x3), (4, .int x4), (5, .int x5)]) (hP : pv_W D pv_cl 36 a (pv_FM q a) σ H) (hS : va_S A s.heap H locs) (hf : f_Md_envelope_0 σ x1 x2 x3 x4 x5 = some out) : W p l e R s m args below meth c H locs 0 0 Q (F0 m 0 ls []) := by
  unfold f_Md_envelope_0 at hf
  have hx := C.1
  have hb := C.2.1
  refine lv_aload_n hx hb d_Md_envelope_0 rfl (lv_at hl 0 rfl) ?_
  refine pv_get C hP (v := .ref (a 32)) (j := 44) (by decide) (fm_0 _ _ _ _) fl_Md_111 rfl d_Md_envelope_1 ?_
  refine lv_iload_n hx hb d_Md_envelope_4 rfl (lv_at hl 1 rfl) ?_
  obtain ⟨hg, hf⟩ := pv_g hf
  refine pv_iald C hP (t0 := 0) (by decide) (fm_32 _ _ _ _) rfl hg d_Md_envelope_5 ?_
  refine lv_istore (lv' := [(6, .int (σ.1 32 (x1).toNatClampNeg)), (0, .ref (a 0)), (1, .int x1), (2, .int x2), (3, .int x3), (4, .int x4), (5, .int x5)]) hx hb d_Md_envelope_6 hl (by decide) rfl (fun ls hl => ?_)
  refine lv_iload_n hx hb d_Md_envelope_8 rfl (lv_at hl 3 rfl) ?_
  refine lv_if_le (tgt := 27) hx hb d_Md_envelope_9 (by decide) (fun h => ?_) (fun h => ?_)
  · have hf := pv_t hf h
    exact s_Md_envelope_27 C hmv hRf hRl hret (lv_sub hl [1, 2, 3, 4, 5, 6, 0] rfl) hP hS hf
  · have hf := pv_f hf h
    refine lv_iload hx hb d_Md_envelope_12 (lv_at hl 0 rfl) ?_
    refine lv_if_eq (tgt := 23) hx hb d_Md_envelope_14 (by decide) (fun h => ?_) (fun h => ?_)
    · have hf := pv_t hf h
      exact s_Md_envelope_23 C hmv hRf hRl hret (lv_sub hl [1, 2, 4, 5, 6] rfl) hP hS hf
    · have hf := pv_f hf h
      refine lv_iload hx hb d_Md_envelope_17 (lv_at hl 0 rfl) ?_
      refine lv_iconst (v := (4 : Int32)) hx hb d_Md_envelope_19 (by decide) ?_
      refine lv_icmp_ne (tgt := 27) hx hb d_Md_envelope_20 (by decide) (fun h => ?_) (fun h => ?_)
      · have hf := pv_f hf h
        exact s_Md_envelope_27 C hmv hRf hRl hret (lv_sub hl [1, 2, 3, 4, 5, 6, 0] rfl) hP hS hf
      · have hf := pv_t hf h
        exact s_Md_envelope_23 C hmv hRf hRl hret (lv_sub hl [1, 2, 4, 5, 6] rfl) hP hS hf
def f_Md_envelope (σ : pv_S) (x1 : Int32) (x2 : Int32) (x3 : Int32) (x4 : Int32) (x5 : Int32) : Option (Int32 × pv_S) := f_Md_envelope_0 σ x1 x2 x3 x4 x5
def rm_Md_envelope : Room := { frames := 0, cells := 0, slots := 0, locals := 0 }
theorem c_Md_envelope {l : Launch} {D : va_G} {q : Nat → ClassId} {a : Nat → Nat} {A : Nat → Prop} (hD : pv_D 36 a A) (hmv : pv_mv A (pv_ZM)) {σ : pv_S} {x1 : Int32} {x2 : Int32} {x3 : Int32} {x4 : Int32} {x5 : Int32} {out : (Int32 × pv_S)} (hf : f_Md_envelope σ x1 x2 x3 x4 x5 = some out) : pv_Mi l y_Md_envelope (Cond.code y_Md_envelope prog_9_method_54_code 9 (some .int) :: pv_TB) rm_Md_envelope D pv_cl (pv_ty q) 36 a (pv_FM q a) A (pv_ZM) [.ref (a 0), .int x1, .int x2, .int x3, .int x4, .int x5] σ out :=
  pv_ofI (by decide) (Nat.le_of_ble_eq_true rfl) hD (fun p e s m args below meth c Q ls C hret hl hP => s_Md_envelope_0 C hmv (Nat.le_refl _) (Nat.le_refl _) hret hl hP va_S.rf hf)
theorem d_Md_filter_0 : decode prog_9_method_55_code 0 = .ok (.iload_n 2, 1) := by decide +kernel
theorem d_Md_filter_1 : decode prog_9_method_55_code 1 = .ok (.i2l, 1) := by decide +kernel
theorem d_Md_filter_2 : decode prog_9_method_55_code 2 = .ok (.aload_n 0, 1) := by decide +kernel
theorem d_Md_filter_3 : decode prog_9_method_55_code 3 = .ok (.getfield 108, 3) := by decide +kernel
theorem d_Md_filter_6 : decode prog_9_method_55_code 6 = .ok (.iload_n 1, 1) := by decide +kernel
theorem d_Md_filter_7 : decode prog_9_method_55_code 7 = .ok (.iaload, 1) := by decide +kernel
theorem d_Md_filter_8 : decode prog_9_method_55_code 8 = .ok (.i2l, 1) := by decide +kernel
theorem d_Md_filter_9 : decode prog_9_method_55_code 9 = .ok (.lsub, 1) := by decide +kernel
theorem d_Md_filter_10 : decode prog_9_method_55_code 10 = .ok (.iload 4, 2) := by decide +kernel
theorem d_Md_filter_12 : decode prog_9_method_55_code 12 = .ok (.i2l, 1) := by decide +kernel
theorem d_Md_filter_13 : decode prog_9_method_55_code 13 = .ok (.aload_n 0, 1) := by decide +kernel
theorem d_Md_filter_14 : decode prog_9_method_55_code 14 = .ok (.getfield 111, 3) := by decide +kernel
theorem d_Md_filter_17 : decode prog_9_method_55_code 17 = .ok (.iload_n 1, 1) := by decide +kernel
theorem d_Md_filter_18 : decode prog_9_method_55_code 18 = .ok (.iaload, 1) := by decide +kernel
theorem d_Md_filter_19 : decode prog_9_method_55_code 19 = .ok (.i2l, 1) := by decide +kernel
theorem d_Md_filter_20 : decode prog_9_method_55_code 20 = .ok (.lmul, 1) := by decide +kernel
theorem d_Md_filter_21 : decode prog_9_method_55_code 21 = .ok (.bipush 16, 2) := by decide +kernel
theorem d_Md_filter_23 : decode prog_9_method_55_code 23 = .ok (.lshr, 1) := by decide +kernel
theorem d_Md_filter_24 : decode prog_9_method_55_code 24 = .ok (.lsub, 1) := by decide +kernel
theorem d_Md_filter_25 : decode prog_9_method_55_code 25 = .ok (.invokestatic 297, 3) := by decide +kernel
theorem d_Md_filter_28 : decode prog_9_method_55_code 28 = .ok (.istore 5, 2) := by decide +kernel
theorem d_Md_filter_30 : decode prog_9_method_55_code 30 = .ok (.aload_n 0, 1) := by decide +kernel
theorem d_Md_filter_31 : decode prog_9_method_55_code 31 = .ok (.getfield 111, 3) := by decide +kernel
theorem d_Md_filter_34 : decode prog_9_method_55_code 34 = .ok (.iload_n 1, 1) := by decide +kernel
theorem d_Md_filter_35 : decode prog_9_method_55_code 35 = .ok (.aload_n 0, 1) := by decide +kernel
theorem d_Md_filter_36 : decode prog_9_method_55_code 36 = .ok (.getfield 111, 3) := by decide +kernel
theorem d_Md_filter_39 : decode prog_9_method_55_code 39 = .ok (.iload_n 1, 1) := by decide +kernel
theorem d_Md_filter_40 : decode prog_9_method_55_code 40 = .ok (.iaload, 1) := by decide +kernel
theorem d_Md_filter_41 : decode prog_9_method_55_code 41 = .ok (.i2l, 1) := by decide +kernel
theorem d_Md_filter_42 : decode prog_9_method_55_code 42 = .ok (.iload_n 3, 1) := by decide +kernel
theorem d_Md_filter_43 : decode prog_9_method_55_code 43 = .ok (.i2l, 1) := by decide +kernel
theorem d_Md_filter_44 : decode prog_9_method_55_code 44 = .ok (.iload 5, 2) := by decide +kernel
theorem d_Md_filter_46 : decode prog_9_method_55_code 46 = .ok (.i2l, 1) := by decide +kernel
theorem d_Md_filter_47 : decode prog_9_method_55_code 47 = .ok (.lmul, 1) := by decide +kernel
theorem d_Md_filter_48 : decode prog_9_method_55_code 48 = .ok (.bipush 16, 2) := by decide +kernel
theorem d_Md_filter_50 : decode prog_9_method_55_code 50 = .ok (.lshr, 1) := by decide +kernel
theorem d_Md_filter_51 : decode prog_9_method_55_code 51 = .ok (.ladd, 1) := by decide +kernel
theorem d_Md_filter_52 : decode prog_9_method_55_code 52 = .ok (.invokestatic 297, 3) := by decide +kernel
theorem d_Md_filter_55 : decode prog_9_method_55_code 55 = .ok (.iastore, 1) := by decide +kernel
theorem d_Md_filter_56 : decode prog_9_method_55_code 56 = .ok (.aload_n 0, 1) := by decide +kernel
theorem d_Md_filter_57 : decode prog_9_method_55_code 57 = .ok (.getfield 108, 3) := by decide +kernel
theorem d_Md_filter_60 : decode prog_9_method_55_code 60 = .ok (.iload_n 1, 1) := by decide +kernel
theorem d_Md_filter_61 : decode prog_9_method_55_code 61 = .ok (.aload_n 0, 1) := by decide +kernel
theorem d_Md_filter_62 : decode prog_9_method_55_code 62 = .ok (.getfield 108, 3) := by decide +kernel
theorem d_Md_filter_65 : decode prog_9_method_55_code 65 = .ok (.iload_n 1, 1) := by decide +kernel
theorem d_Md_filter_66 : decode prog_9_method_55_code 66 = .ok (.iaload, 1) := by decide +kernel
theorem d_Md_filter_67 : decode prog_9_method_55_code 67 = .ok (.i2l, 1) := by decide +kernel
theorem d_Md_filter_68 : decode prog_9_method_55_code 68 = .ok (.iload_n 3, 1) := by decide +kernel
theorem d_Md_filter_69 : decode prog_9_method_55_code 69 = .ok (.i2l, 1) := by decide +kernel
theorem d_Md_filter_70 : decode prog_9_method_55_code 70 = .ok (.aload_n 0, 1) := by decide +kernel
theorem d_Md_filter_71 : decode prog_9_method_55_code 71 = .ok (.getfield 111, 3) := by decide +kernel
theorem d_Md_filter_74 : decode prog_9_method_55_code 74 = .ok (.iload_n 1, 1) := by decide +kernel
theorem d_Md_filter_75 : decode prog_9_method_55_code 75 = .ok (.iaload, 1) := by decide +kernel
theorem d_Md_filter_76 : decode prog_9_method_55_code 76 = .ok (.i2l, 1) := by decide +kernel
theorem d_Md_filter_77 : decode prog_9_method_55_code 77 = .ok (.lmul, 1) := by decide +kernel
theorem d_Md_filter_78 : decode prog_9_method_55_code 78 = .ok (.bipush 16, 2) := by decide +kernel
theorem d_Md_filter_80 : decode prog_9_method_55_code 80 = .ok (.lshr, 1) := by decide +kernel
theorem d_Md_filter_81 : decode prog_9_method_55_code 81 = .ok (.ladd, 1) := by decide +kernel
theorem d_Md_filter_82 : decode prog_9_method_55_code 82 = .ok (.invokestatic 297, 3) := by decide +kernel
theorem d_Md_filter_85 : decode prog_9_method_55_code 85 = .ok (.iastore, 1) := by decide +kernel
theorem d_Md_filter_86 : decode prog_9_method_55_code 86 = .ok (.aload_n 0, 1) := by decide +kernel
theorem d_Md_filter_87 : decode prog_9_method_55_code 87 = .ok (.getfield 108, 3) := by decide +kernel
theorem d_Md_filter_90 : decode prog_9_method_55_code 90 = .ok (.iload_n 1, 1) := by decide +kernel
theorem d_Md_filter_91 : decode prog_9_method_55_code 91 = .ok (.iaload, 1) := by decide +kernel
theorem d_Md_filter_92 : decode prog_9_method_55_code 92 = .ok (.ireturn, 1) := by decide +kernel
def f_Md_filter_0 (σ : pv_S) (x1 : Int32) (x2 : Int32) (x3 : Int32) (x4 : Int32) : Option (Int32 × pv_S) :=
  (if pv_in x1 96 = true then
(if pv_in x1 96 = true then
((f_Md_stop σ ((((x2).toInt64) - (((σ.1 31 (x1).toNatClampNeg)).toInt64)) - ((((x4).toInt64) * (((σ.1 32 (x1).toNatClampNeg)).toInt64)) >>> (((16 : Int32)).toInt64 &&& 63)))).bind fun q1 =>
(if pv_in x1 96 = true then
((f_Md_stop q1.2 ((((q1.2.1 32 (x1).toNatClampNeg)).toInt64) + ((((x3).toInt64) * ((q1.1).toInt64)) >>> (((16 : Int32)).toInt64 &&& 63)))).bind fun q2 =>
(if pv_in x1 96 = true then
(if pv_in x1 96 = true then
(if pv_in x1 96 = true then
((f_Md_stop (pv_uI q2.2 32 (x1).toNatClampNeg q2.1) (((((pv_uI q2.2 32 (x1).toNatClampNeg q2.1).1 31 (x1).toNatClampNeg)).toInt64) + ((((x3).toInt64) * ((((pv_uI q2.2 32 (x1).toNatClampNeg q2.1).1 32 (x1).toNatClampNeg)).toInt64)) >>> (((16 : Int32)).toInt64 &&& 63)))).bind fun q3 =>
(if pv_in x1 96 = true then
(if pv_in x1 96 = true then
some (((pv_uI q3.2 31 (x1).toNatClampNeg q3.1).1 31 (x1).toNatClampNeg), (pv_uI q3.2 31 (x1).toNatClampNeg q3.1))
  else none)
  else none))
  else none)
  else none)
  else none))
  else none))
  else none)
  else none)
set_option maxHeartbeats 4000000 in
set_option maxRecDepth 100000 in
theorem s_Md_filter_0 {p : Program} {l : Launch} {e : Env} {R : Room} {s : State} {m : MethodId} {args : Array Value} {below : List Frame} {meth : Method} {c : Code} {Q : State → Prop} {D : va_G} {q : Nat → ClassId} {a : Nat → Nat} {A : Nat → Prop} (C : pv_C p s m args c prog_9_method_55_code 6 "PatchVoicesModel" pv_TB D pv_cl (pv_ty q) 36 a A (pv_ZM)) (hmv : pv_mv A (pv_ZM)) (hRf : 1 ≤ R.frames) (hRl : 21 ≤ R.locals) {out : (Int32 × pv_S)} (hret : pv_Ri p l e R s m args below meth c prog_9_method_55_code D pv_cl 36 a (pv_FM q a) A Q out) {σ : pv_S} {x1 : Int32} {x2 : Int32} {x3 : Int32} {x4 : Int32} {H : Heap} {locs : List Loc} {ls : Array Slot} (hl : lv_has ls 6 [(0, .ref (a 0)), (1, .int x1), (2, .int x2), (3, .int x3), (4, .int x4)]) (hP : pv_W D pv_cl 36 a (pv_FM q a) σ H) (hS : va_S A s.heap H locs) (hf : f_Md_filter_0 σ x1 x2 x3 x4 = some out) : W p l e R s m args below meth c H locs 0 0 Q (F0 m 0 ls []) := by
  unfold f_Md_filter_0 at hf
  have hx := C.1
  have hb := C.2.1
  refine lv_iload_n hx hb d_Md_filter_0 rfl (lv_at hl 2 rfl) ?_
  refine lv_i2l (v := (x2).toInt64) hx hb d_Md_filter_1 rfl ?_
  refine lv_aload_n hx hb d_Md_filter_2 rfl (lv_at hl 0 rfl) ?_
  refine pv_get C hP (v := .ref (a 31)) (j := 43) (by decide) (fm_0 _ _ _ _) fl_Md_108 rfl d_Md_filter_3 ?_
  refine lv_iload_n hx hb d_Md_filter_6 rfl (lv_at hl 1 rfl) ?_
  obtain ⟨hg, hf⟩ := pv_g hf
  refine pv_iald C hP (t0 := 0) (by decide) (fm_31 _ _ _ _) rfl hg d_Md_filter_7 ?_
  refine lv_i2l (v := ((σ.1 31 (x1).toNatClampNeg)).toInt64) hx hb d_Md_filter_8 rfl ?_
  refine lv_lsub hx hb d_Md_filter_9 ?_
  refine lv_iload hx hb d_Md_filter_10 (lv_at hl 4 rfl) ?_
  refine lv_i2l (v := (x4).toInt64) hx hb d_Md_filter_12 rfl ?_
  refine lv_aload_n hx hb d_Md_filter_13 rfl (lv_at hl 0 rfl) ?_
  refine pv_get C hP (v := .ref (a 32)) (j := 44) (by decide) (fm_0 _ _ _ _) fl_Md_111 rfl d_Md_filter_14 ?_
  refine lv_iload_n hx hb d_Md_filter_17 rfl (lv_at hl 1 rfl) ?_
  obtain ⟨hg, hf⟩ := pv_g hf
  refine pv_iald C hP (t0 := 0) (by decide) (fm_32 _ _ _ _) rfl hg d_Md_filter_18 ?_
  refine lv_i2l (v := ((σ.1 32 (x1).toNatClampNeg)).toInt64) hx hb d_Md_filter_19 rfl ?_
  refine lv_lmul hx hb d_Md_filter_20 ?_
  refine lv_bipush (v := (16 : Int32)) hx hb d_Md_filter_21 (by decide) ?_
  refine lv_lshr (v := (((x4).toInt64) * (((σ.1 32 (x1).toNatClampNeg)).toInt64)) >>> (((16 : Int32)).toInt64 &&& 63)) hx hb d_Md_filter_23 rfl ?_
  refine lv_lsub hx hb d_Md_filter_24 ?_
  obtain ⟨q1, hc, hf⟩ := pv_b hf
  refine pv_callSi C hmv pv_good hP hS (As := [.long ((((x2).toInt64) - (((σ.1 31 (x1).toNatClampNeg)).toInt64)) - ((((x4).toInt64) * (((σ.1 32 (x1).toNatClampNeg)).toInt64)) >>> (((16 : Int32)).toInt64 &&& 63)))]) (rest := []) (c_Md_stop C.2.2.2.2.2.2.1 hmv hc) cs_Md_297 ⟨rfl, rfl, Nat.le_trans (Nat.le_of_ble_eq_true rfl) hRf, Nat.le_trans (Nat.le_of_ble_eq_true rfl) hRl⟩ rfl hl.1 rfl (Nat.le_of_ble_eq_true rfl) d_Md_filter_25 ⟨Nat.zero_le _, Nat.zero_le _⟩ (fun H locs hP hS => ?_)
  refine lv_istore (lv' := [(5, .int q1.1), (0, .ref (a 0)), (1, .int x1), (2, .int x2), (3, .int x3), (4, .int x4)]) hx hb d_Md_filter_28 hl (by decide) rfl (fun ls hl => ?_)
  refine lv_aload_n hx hb d_Md_filter_30 rfl (lv_at hl 1 rfl) ?_
  refine pv_get C hP (v := .ref (a 32)) (j := 44) (by decide) (fm_0 _ _ _ _) fl_Md_111 rfl d_Md_filter_31 ?_
  refine lv_iload_n hx hb d_Md_filter_34 rfl (lv_at hl 2 rfl) ?_
  refine lv_aload_n hx hb d_Md_filter_35 rfl (lv_at hl 1 rfl) ?_
  refine pv_get C hP (v := .ref (a 32)) (j := 44) (by decide) (fm_0 _ _ _ _) fl_Md_111 rfl d_Md_filter_36 ?_
  refine lv_iload_n hx hb d_Md_filter_39 rfl (lv_at hl 2 rfl) ?_
  obtain ⟨hg, hf⟩ := pv_g hf
  refine pv_iald C hP (t0 := 0) (by decide) (fm_32 _ _ _ _) rfl hg d_Md_filter_40 ?_
  refine lv_i2l (v := ((q1.2.1 32 (x1).toNatClampNeg)).toInt64) hx hb d_Md_filter_41 rfl ?_
  refine lv_iload_n hx hb d_Md_filter_42 rfl (lv_at hl 4 rfl) ?_
  refine lv_i2l (v := (x3).toInt64) hx hb d_Md_filter_43 rfl ?_
  refine lv_iload hx hb d_Md_filter_44 (lv_at hl 0 rfl) ?_
  refine lv_i2l (v := (q1.1).toInt64) hx hb d_Md_filter_46 rfl ?_
  refine lv_lmul hx hb d_Md_filter_47 ?_
  refine lv_bipush (v := (16 : Int32)) hx hb d_Md_filter_48 (by decide) ?_
  refine lv_lshr (v := (((x3).toInt64) * ((q1.1).toInt64)) >>> (((16 : Int32)).toInt64 &&& 63)) hx hb d_Md_filter_50 rfl ?_
  refine lv_ladd hx hb d_Md_filter_51 ?_
  obtain ⟨q2, hc, hf⟩ := pv_b hf
  refine pv_callSi C hmv pv_good hP hS (As := [.long ((((q1.2.1 32 (x1).toNatClampNeg)).toInt64) + ((((x3).toInt64) * ((q1.1).toInt64)) >>> (((16 : Int32)).toInt64 &&& 63)))]) (rest := [.int x1, .ref (a 32)]) (c_Md_stop C.2.2.2.2.2.2.1 hmv hc) cs_Md_297 ⟨rfl, rfl, Nat.le_trans (Nat.le_of_ble_eq_true rfl) hRf, Nat.le_trans (Nat.le_of_ble_eq_true rfl) hRl⟩ rfl hl.1 rfl (Nat.le_of_ble_eq_true rfl) d_Md_filter_52 ⟨Nat.zero_le _, Nat.zero_le _⟩ (fun H locs hP hS => ?_)
  obtain ⟨hg, hf⟩ := pv_g hf
  refine pv_iast C hP hS (t0 := 0) (x := q2.1) (by decide) (fun f g => (fm_32 _ _ f g)) rfl hg d_Md_filter_55 (fun H locs hP hS => ?_)
  refine lv_aload_n hx hb d_Md_filter_56 rfl (lv_at hl 1 rfl) ?_
  refine pv_get C hP (v := .ref (a 31)) (j := 43) (by decide) (fm_0 _ _ _ _) fl_Md_108 rfl d_Md_filter_57 ?_
  refine lv_iload_n hx hb d_Md_filter_60 rfl (lv_at hl 2 rfl) ?_
  refine lv_aload_n hx hb d_Md_filter_61 rfl (lv_at hl 1 rfl) ?_
  refine pv_get C hP (v := .ref (a 31)) (j := 43) (by decide) (fm_0 _ _ _ _) fl_Md_108 rfl d_Md_filter_62 ?_
  refine lv_iload_n hx hb d_Md_filter_65 rfl (lv_at hl 2 rfl) ?_
  obtain ⟨hg, hf⟩ := pv_g hf
  refine pv_iald C hP (t0 := 0) (by decide) (fm_31 _ _ _ _) rfl hg d_Md_filter_66 ?_
  refine lv_i2l (v := (((pv_uI q2.2 32 (x1).toNatClampNeg q2.1).1 31 (x1).toNatClampNeg)).toInt64) hx hb d_Md_filter_67 rfl ?_
  refine lv_iload_n hx hb d_Md_filter_68 rfl (lv_at hl 4 rfl) ?_
  refine lv_i2l (v := (x3).toInt64) hx hb d_Md_filter_69 rfl ?_
  refine lv_aload_n hx hb d_Md_filter_70 rfl (lv_at hl 1 rfl) ?_
  refine pv_get C hP (v := .ref (a 32)) (j := 44) (by decide) (fm_0 _ _ _ _) fl_Md_111 rfl d_Md_filter_71 ?_
  refine lv_iload_n hx hb d_Md_filter_74 rfl (lv_at hl 2 rfl) ?_
  obtain ⟨hg, hf⟩ := pv_g hf
  refine pv_iald C hP (t0 := 0) (by decide) (fm_32 _ _ _ _) rfl hg d_Md_filter_75 ?_
  refine lv_i2l (v := (((pv_uI q2.2 32 (x1).toNatClampNeg q2.1).1 32 (x1).toNatClampNeg)).toInt64) hx hb d_Md_filter_76 rfl ?_
  refine lv_lmul hx hb d_Md_filter_77 ?_
  refine lv_bipush (v := (16 : Int32)) hx hb d_Md_filter_78 (by decide) ?_
  refine lv_lshr (v := (((x3).toInt64) * ((((pv_uI q2.2 32 (x1).toNatClampNeg q2.1).1 32 (x1).toNatClampNeg)).toInt64)) >>> (((16 : Int32)).toInt64 &&& 63)) hx hb d_Md_filter_80 rfl ?_
  refine lv_ladd hx hb d_Md_filter_81 ?_
  obtain ⟨q3, hc, hf⟩ := pv_b hf
  refine pv_callSi C hmv pv_good hP hS (As := [.long (((((pv_uI q2.2 32 (x1).toNatClampNeg q2.1).1 31 (x1).toNatClampNeg)).toInt64) + ((((x3).toInt64) * ((((pv_uI q2.2 32 (x1).toNatClampNeg q2.1).1 32 (x1).toNatClampNeg)).toInt64)) >>> (((16 : Int32)).toInt64 &&& 63)))]) (rest := [.int x1, .ref (a 31)]) (c_Md_stop C.2.2.2.2.2.2.1 hmv hc) cs_Md_297 ⟨rfl, rfl, Nat.le_trans (Nat.le_of_ble_eq_true rfl) hRf, Nat.le_trans (Nat.le_of_ble_eq_true rfl) hRl⟩ rfl hl.1 rfl (Nat.le_of_ble_eq_true rfl) d_Md_filter_82 ⟨Nat.zero_le _, Nat.zero_le _⟩ (fun H locs hP hS => ?_)
  obtain ⟨hg, hf⟩ := pv_g hf
  refine pv_iast C hP hS (t0 := 0) (x := q3.1) (by decide) (fun f g => (fm_31 _ _ f g)) rfl hg d_Md_filter_85 (fun H locs hP hS => ?_)
  refine lv_aload_n hx hb d_Md_filter_86 rfl (lv_at hl 1 rfl) ?_
  refine pv_get C hP (v := .ref (a 31)) (j := 43) (by decide) (fm_0 _ _ _ _) fl_Md_108 rfl d_Md_filter_87 ?_
  refine lv_iload_n hx hb d_Md_filter_90 rfl (lv_at hl 2 rfl) ?_
  obtain ⟨hg, hf⟩ := pv_g hf
  refine pv_iald C hP (t0 := 0) (by decide) (fm_31 _ _ _ _) rfl hg d_Md_filter_91 ?_
  obtain rfl := Option.some.inj hf
  exact hret _ _ _ _ d_Md_filter_92 hP hS
def f_Md_filter (σ : pv_S) (x1 : Int32) (x2 : Int32) (x3 : Int32) (x4 : Int32) : Option (Int32 × pv_S) := f_Md_filter_0 σ x1 x2 x3 x4
def rm_Md_filter : Room := { frames := 1, cells := 0, slots := 0, locals := 21 }
theorem c_Md_filter {l : Launch} {D : va_G} {q : Nat → ClassId} {a : Nat → Nat} {A : Nat → Prop} (hD : pv_D 36 a A) (hmv : pv_mv A (pv_ZM)) {σ : pv_S} {x1 : Int32} {x2 : Int32} {x3 : Int32} {x4 : Int32} {out : (Int32 × pv_S)} (hf : f_Md_filter σ x1 x2 x3 x4 = some out) : pv_Mi l y_Md_filter (Cond.code y_Md_filter prog_9_method_55_code 6 (some .int) :: pv_TB) rm_Md_filter D pv_cl (pv_ty q) 36 a (pv_FM q a) A (pv_ZM) [.ref (a 0), .int x1, .int x2, .int x3, .int x4] σ out :=
  pv_ofI (by decide) (Nat.le_of_ble_eq_true rfl) hD (fun p e s m args below meth c Q ls C hret hl hP => s_Md_filter_0 C hmv (Nat.le_refl _) (Nat.le_refl _) hret hl hP va_S.rf hf)
theorem d_Md_hold_0 : decode prog_9_method_56_code 0 = .ok (.aload_n 0, 1) := by decide +kernel
theorem d_Md_hold_1 : decode prog_9_method_56_code 1 = .ok (.getfield 108, 3) := by decide +kernel
theorem d_Md_hold_4 : decode prog_9_method_56_code 4 = .ok (.iload_n 1, 1) := by decide +kernel
theorem d_Md_hold_5 : decode prog_9_method_56_code 5 = .ok (.iload_n 3, 1) := by decide +kernel
theorem d_Md_hold_6 : decode prog_9_method_56_code 6 = .ok (.ifCond .le 16, 3) := by decide +kernel
theorem d_Md_hold_9 : decode prog_9_method_56_code 9 = .ok (.aload_n 0, 1) := by decide +kernel
theorem d_Md_hold_10 : decode prog_9_method_56_code 10 = .ok (.getfield 111, 3) := by decide +kernel
theorem d_Md_hold_13 : decode prog_9_method_56_code 13 = .ok (.iload_n 1, 1) := by decide +kernel
theorem d_Md_hold_14 : decode prog_9_method_56_code 14 = .ok (.iaload, 1) := by decide +kernel
theorem d_Md_hold_15 : decode prog_9_method_56_code 15 = .ok (.ifCond .ne 7, 3) := by decide +kernel
theorem d_Md_hold_18 : decode prog_9_method_56_code 18 = .ok (.iload_n 2, 1) := by decide +kernel
theorem d_Md_hold_19 : decode prog_9_method_56_code 19 = .ok (.goto 9, 3) := by decide +kernel
theorem d_Md_hold_22 : decode prog_9_method_56_code 22 = .ok (.aload_n 0, 1) := by decide +kernel
theorem d_Md_hold_23 : decode prog_9_method_56_code 23 = .ok (.getfield 108, 3) := by decide +kernel
theorem d_Md_hold_26 : decode prog_9_method_56_code 26 = .ok (.iload_n 1, 1) := by decide +kernel
theorem d_Md_hold_27 : decode prog_9_method_56_code 27 = .ok (.iaload, 1) := by decide +kernel
theorem d_Md_hold_28 : decode prog_9_method_56_code 28 = .ok (.iastore, 1) := by decide +kernel
theorem d_Md_hold_29 : decode prog_9_method_56_code 29 = .ok (.aload_n 0, 1) := by decide +kernel
theorem d_Md_hold_30 : decode prog_9_method_56_code 30 = .ok (.getfield 111, 3) := by decide +kernel
theorem d_Md_hold_33 : decode prog_9_method_56_code 33 = .ok (.iload_n 1, 1) := by decide +kernel
theorem d_Md_hold_34 : decode prog_9_method_56_code 34 = .ok (.iload_n 3, 1) := by decide +kernel
theorem d_Md_hold_35 : decode prog_9_method_56_code 35 = .ok (.ifCond .le 7, 3) := by decide +kernel
theorem d_Md_hold_38 : decode prog_9_method_56_code 38 = .ok (.iconst 1, 1) := by decide +kernel
theorem d_Md_hold_39 : decode prog_9_method_56_code 39 = .ok (.goto 4, 3) := by decide +kernel
theorem d_Md_hold_42 : decode prog_9_method_56_code 42 = .ok (.iconst 0, 1) := by decide +kernel
theorem d_Md_hold_43 : decode prog_9_method_56_code 43 = .ok (.iastore, 1) := by decide +kernel
theorem d_Md_hold_44 : decode prog_9_method_56_code 44 = .ok (.aload_n 0, 1) := by decide +kernel
theorem d_Md_hold_45 : decode prog_9_method_56_code 45 = .ok (.getfield 108, 3) := by decide +kernel
theorem d_Md_hold_48 : decode prog_9_method_56_code 48 = .ok (.iload_n 1, 1) := by decide +kernel
theorem d_Md_hold_49 : decode prog_9_method_56_code 49 = .ok (.iaload, 1) := by decide +kernel
theorem d_Md_hold_50 : decode prog_9_method_56_code 50 = .ok (.ireturn, 1) := by decide +kernel
def f_Md_hold_28 (σ : pv_S) (x1 : Int32) (x3 : Int32) (s0 : Int32) (s1 : Int32) : Option (Int32 × pv_S) :=
  (if pv_in s1 96 = true then
(if x3 ≤ 0 then
  (if pv_in x1 96 = true then
(if pv_in x1 96 = true then
some (((pv_uI (pv_uI σ 31 (s1).toNatClampNeg s0) 32 (x1).toNatClampNeg (0 : Int32)).1 31 (x1).toNatClampNeg), (pv_uI (pv_uI σ 31 (s1).toNatClampNeg s0) 32 (x1).toNatClampNeg (0 : Int32)))
  else none)
  else none)
  else
  (if pv_in x1 96 = true then
(if pv_in x1 96 = true then
some (((pv_uI (pv_uI σ 31 (s1).toNatClampNeg s0) 32 (x1).toNatClampNeg (1 : Int32)).1 31 (x1).toNatClampNeg), (pv_uI (pv_uI σ 31 (s1).toNatClampNeg s0) 32 (x1).toNatClampNeg (1 : Int32)))
  else none)
  else none))
  else none)
set_option maxHeartbeats 4000000 in
set_option maxRecDepth 100000 in
theorem s_Md_hold_28 {p : Program} {l : Launch} {e : Env} {R : Room} {s : State} {m : MethodId} {args : Array Value} {below : List Frame} {meth : Method} {c : Code} {Q : State → Prop} {D : va_G} {q : Nat → ClassId} {a : Nat → Nat} {A : Nat → Prop} (C : pv_C p s m args c prog_9_method_56_code 4 "PatchVoicesModel" pv_TB D pv_cl (pv_ty q) 36 a A (pv_ZM)) (hmv : pv_mv A (pv_ZM)) (hRf : 0 ≤ R.frames) (hRl : 0 ≤ R.locals) {out : (Int32 × pv_S)} (hret : pv_Ri p l e R s m args below meth c prog_9_method_56_code D pv_cl 36 a (pv_FM q a) A Q out) {σ : pv_S} {x1 : Int32} {x3 : Int32} {s0 : Int32} {s1 : Int32} {H : Heap} {locs : List Loc} {ls : Array Slot} (hl : lv_has ls 4 [(0, .ref (a 0)), (1, .int x1), (3, .int x3)]) (hP : pv_W D pv_cl 36 a (pv_FM q a) σ H) (hS : va_S A s.heap H locs) (hf : f_Md_hold_28 σ x1 x3 s0 s1 = some out) : W p l e R s m args below meth c H locs 0 0 Q (F0 m 28 ls [.int s0, .int s1, .ref (a 31)]) := by
  unfold f_Md_hold_28 at hf
  have hx := C.1
  have hb := C.2.1
  obtain ⟨hg, hf⟩ := pv_g hf
  refine pv_iast C hP hS (t0 := 0) (x := s0) (by decide) (fun f g => (fm_31 _ _ f g)) rfl hg d_Md_hold_28 (fun H locs hP hS => ?_)
  refine lv_aload_n hx hb d_Md_hold_29 rfl (lv_at hl 0 rfl) ?_
  refine pv_get C hP (v := .ref (a 32)) (j := 44) (by decide) (fm_0 _ _ _ _) fl_Md_111 rfl d_Md_hold_30 ?_
  refine lv_iload_n hx hb d_Md_hold_33 rfl (lv_at hl 1 rfl) ?_
  refine lv_iload_n hx hb d_Md_hold_34 rfl (lv_at hl 2 rfl) ?_
  refine lv_if_le (tgt := 42) hx hb d_Md_hold_35 (by decide) (fun h => ?_) (fun h => ?_)
  · have hf := pv_t hf h
    refine lv_iconst (v := (0 : Int32)) hx hb d_Md_hold_42 (by decide) ?_
    obtain ⟨hg, hf⟩ := pv_g hf
    refine pv_iast C hP hS (t0 := 0) (x := (0 : Int32)) (by decide) (fun f g => (fm_32 _ _ f g)) rfl hg d_Md_hold_43 (fun H locs hP hS => ?_)
    refine lv_aload_n hx hb d_Md_hold_44 rfl (lv_at hl 0 rfl) ?_
    refine pv_get C hP (v := .ref (a 31)) (j := 43) (by decide) (fm_0 _ _ _ _) fl_Md_108 rfl d_Md_hold_45 ?_
    refine lv_iload_n hx hb d_Md_hold_48 rfl (lv_at hl 1 rfl) ?_
    obtain ⟨hg, hf⟩ := pv_g hf
    refine pv_iald C hP (t0 := 0) (by decide) (fm_31 _ _ _ _) rfl hg d_Md_hold_49 ?_
    obtain rfl := Option.some.inj hf
    exact hret _ _ _ _ d_Md_hold_50 hP hS
  · have hf := pv_f hf h
    refine lv_iconst (v := (1 : Int32)) hx hb d_Md_hold_38 (by decide) ?_
    refine lv_goto (tgt := 43) hx hb d_Md_hold_39 (by decide) ?_
    obtain ⟨hg, hf⟩ := pv_g hf
    refine pv_iast C hP hS (t0 := 0) (x := (1 : Int32)) (by decide) (fun f g => (fm_32 _ _ f g)) rfl hg d_Md_hold_43 (fun H locs hP hS => ?_)
    refine lv_aload_n hx hb d_Md_hold_44 rfl (lv_at hl 0 rfl) ?_
    refine pv_get C hP (v := .ref (a 31)) (j := 43) (by decide) (fm_0 _ _ _ _) fl_Md_108 rfl d_Md_hold_45 ?_
    refine lv_iload_n hx hb d_Md_hold_48 rfl (lv_at hl 1 rfl) ?_
    obtain ⟨hg, hf⟩ := pv_g hf
    refine pv_iald C hP (t0 := 0) (by decide) (fm_31 _ _ _ _) rfl hg d_Md_hold_49 ?_
    obtain rfl := Option.some.inj hf
    exact hret _ _ _ _ d_Md_hold_50 hP hS
def f_Md_hold_22 (σ : pv_S) (x1 : Int32) (x3 : Int32) (s0 : Int32) : Option (Int32 × pv_S) :=
  (if pv_in x1 96 = true then
f_Md_hold_28 σ x1 x3 (σ.1 31 (x1).toNatClampNeg) s0
  else none)
set_option maxHeartbeats 4000000 in
set_option maxRecDepth 100000 in
theorem s_Md_hold_22 {p : Program} {l : Launch} {e : Env} {R : Room} {s : State} {m : MethodId} {args : Array Value} {below : List Frame} {meth : Method} {c : Code} {Q : State → Prop} {D : va_G} {q : Nat → ClassId} {a : Nat → Nat} {A : Nat → Prop} (C : pv_C p s m args c prog_9_method_56_code 4 "PatchVoicesModel" pv_TB D pv_cl (pv_ty q) 36 a A (pv_ZM)) (hmv : pv_mv A (pv_ZM)) (hRf : 0 ≤ R.frames) (hRl : 0 ≤ R.locals) {out : (Int32 × pv_S)} (hret : pv_Ri p l e R s m args below meth c prog_9_method_56_code D pv_cl 36 a (pv_FM q a) A Q out) {σ : pv_S} {x1 : Int32} {x3 : Int32} {s0 : Int32} {H : Heap} {locs : List Loc} {ls : Array Slot} (hl : lv_has ls 4 [(0, .ref (a 0)), (1, .int x1), (3, .int x3)]) (hP : pv_W D pv_cl 36 a (pv_FM q a) σ H) (hS : va_S A s.heap H locs) (hf : f_Md_hold_22 σ x1 x3 s0 = some out) : W p l e R s m args below meth c H locs 0 0 Q (F0 m 22 ls [.int s0, .ref (a 31)]) := by
  unfold f_Md_hold_22 at hf
  have hx := C.1
  have hb := C.2.1
  refine lv_aload_n hx hb d_Md_hold_22 rfl (lv_at hl 0 rfl) ?_
  refine pv_get C hP (v := .ref (a 31)) (j := 43) (by decide) (fm_0 _ _ _ _) fl_Md_108 rfl d_Md_hold_23 ?_
  refine lv_iload_n hx hb d_Md_hold_26 rfl (lv_at hl 1 rfl) ?_
  obtain ⟨hg, hf⟩ := pv_g hf
  refine pv_iald C hP (t0 := 0) (by decide) (fm_31 _ _ _ _) rfl hg d_Md_hold_27 ?_
  exact s_Md_hold_28 C hmv hRf hRl hret (lv_sub hl [0, 1, 2] rfl) hP hS hf
def f_Md_hold_0 (σ : pv_S) (x1 : Int32) (x2 : Int32) (x3 : Int32) : Option (Int32 × pv_S) :=
  (if x3 ≤ 0 then
  f_Md_hold_22 σ x1 x3 x1
  else
  (if pv_in x1 96 = true then
(if (σ.1 32 (x1).toNatClampNeg) = 0 then
  f_Md_hold_28 σ x1 x3 x2 x1
  else
  f_Md_hold_22 σ x1 x3 x1)
  else none))
set_option maxHeartbeats 4000000 in
set_option maxRecDepth 100000 in
theorem s_Md_hold_0 {p : Program} {l : Launch} {e : Env} {R : Room} {s : State} {m : MethodId} {args : Array Value} {below : List Frame} {meth : Method} {c : Code} {Q : State → Prop} {D : va_G} {q : Nat → ClassId} {a : Nat → Nat} {A : Nat → Prop} (C : pv_C p s m args c prog_9_method_56_code 4 "PatchVoicesModel" pv_TB D pv_cl (pv_ty q) 36 a A (pv_ZM)) (hmv : pv_mv A (pv_ZM)) (hRf : 0 ≤ R.frames) (hRl : 0 ≤ R.locals) {out : (Int32 × pv_S)} (hret : pv_Ri p l e R s m args below meth c prog_9_method_56_code D pv_cl 36 a (pv_FM q a) A Q out) {σ : pv_S} {x1 : Int32} {x2 : Int32} {x3 : Int32} {H : Heap} {locs : List Loc} {ls : Array Slot} (hl : lv_has ls 4 [(0, .ref (a 0)), (1, .int x1), (2, .int x2), (3, .int x3)]) (hP : pv_W D pv_cl 36 a (pv_FM q a) σ H) (hS : va_S A s.heap H locs) (hf : f_Md_hold_0 σ x1 x2 x3 = some out) : W p l e R s m args below meth c H locs 0 0 Q (F0 m 0 ls []) := by
  unfold f_Md_hold_0 at hf
  have hx := C.1
  have hb := C.2.1
  refine lv_aload_n hx hb d_Md_hold_0 rfl (lv_at hl 0 rfl) ?_
  refine pv_get C hP (v := .ref (a 31)) (j := 43) (by decide) (fm_0 _ _ _ _) fl_Md_108 rfl d_Md_hold_1 ?_
  refine lv_iload_n hx hb d_Md_hold_4 rfl (lv_at hl 1 rfl) ?_
  refine lv_iload_n hx hb d_Md_hold_5 rfl (lv_at hl 3 rfl) ?_
  refine lv_if_le (tgt := 22) hx hb d_Md_hold_6 (by decide) (fun h => ?_) (fun h => ?_)
  · have hf := pv_t hf h
    exact s_Md_hold_22 C hmv hRf hRl hret (lv_sub hl [0, 1, 3] rfl) hP hS hf
  · have hf := pv_f hf h
    refine lv_aload_n hx hb d_Md_hold_9 rfl (lv_at hl 0 rfl) ?_
    refine pv_get C hP (v := .ref (a 32)) (j := 44) (by decide) (fm_0 _ _ _ _) fl_Md_111 rfl d_Md_hold_10 ?_
    refine lv_iload_n hx hb d_Md_hold_13 rfl (lv_at hl 1 rfl) ?_
    obtain ⟨hg, hf⟩ := pv_g hf
    refine pv_iald C hP (t0 := 0) (by decide) (fm_32 _ _ _ _) rfl hg d_Md_hold_14 ?_
    refine lv_if_ne (tgt := 22) hx hb d_Md_hold_15 (by decide) (fun h => ?_) (fun h => ?_)
    · have hf := pv_f hf h
      exact s_Md_hold_22 C hmv hRf hRl hret (lv_sub hl [0, 1, 3] rfl) hP hS hf
    · have hf := pv_t hf h
      refine lv_iload_n hx hb d_Md_hold_18 rfl (lv_at hl 2 rfl) ?_
      refine lv_goto (tgt := 28) hx hb d_Md_hold_19 (by decide) ?_
      exact s_Md_hold_28 C hmv hRf hRl hret (lv_sub hl [0, 1, 3] rfl) hP hS hf
def f_Md_hold (σ : pv_S) (x1 : Int32) (x2 : Int32) (x3 : Int32) : Option (Int32 × pv_S) := f_Md_hold_0 σ x1 x2 x3
def rm_Md_hold : Room := { frames := 0, cells := 0, slots := 0, locals := 0 }
theorem c_Md_hold {l : Launch} {D : va_G} {q : Nat → ClassId} {a : Nat → Nat} {A : Nat → Prop} (hD : pv_D 36 a A) (hmv : pv_mv A (pv_ZM)) {σ : pv_S} {x1 : Int32} {x2 : Int32} {x3 : Int32} {out : (Int32 × pv_S)} (hf : f_Md_hold σ x1 x2 x3 = some out) : pv_Mi l y_Md_hold (Cond.code y_Md_hold prog_9_method_56_code 4 (some .int) :: pv_TB) rm_Md_hold D pv_cl (pv_ty q) 36 a (pv_FM q a) A (pv_ZM) [.ref (a 0), .int x1, .int x2, .int x3] σ out :=
  pv_ofI (by decide) (Nat.le_of_ble_eq_true rfl) hD (fun p e s m args below meth c Q ls C hret hl hP => s_Md_hold_0 C hmv (Nat.le_refl _) (Nat.le_refl _) hret hl hP va_S.rf hf)
theorem d_Md_inputOf_0 : decode prog_9_method_57_code 0 = .ok (.aload_n 0, 1) := by decide +kernel
theorem d_Md_inputOf_1 : decode prog_9_method_57_code 1 = .ok (.getfield 44, 3) := by decide +kernel
theorem d_Md_inputOf_4 : decode prog_9_method_57_code 4 = .ok (.iload_n 2, 1) := by decide +kernel
theorem d_Md_inputOf_5 : decode prog_9_method_57_code 5 = .ok (.iaload, 1) := by decide +kernel
theorem d_Md_inputOf_6 : decode prog_9_method_57_code 6 = .ok (.ifCond .ge 12, 3) := by decide +kernel
theorem d_Md_inputOf_9 : decode prog_9_method_57_code 9 = .ok (.aload_n 0, 1) := by decide +kernel
theorem d_Md_inputOf_10 : decode prog_9_method_57_code 10 = .ok (.getfield 47, 3) := by decide +kernel
theorem d_Md_inputOf_13 : decode prog_9_method_57_code 13 = .ok (.iload_n 2, 1) := by decide +kernel
theorem d_Md_inputOf_14 : decode prog_9_method_57_code 14 = .ok (.iaload, 1) := by decide +kernel
theorem d_Md_inputOf_15 : decode prog_9_method_57_code 15 = .ok (.goto 19, 3) := by decide +kernel
theorem d_Md_inputOf_18 : decode prog_9_method_57_code 18 = .ok (.aload_n 0, 1) := by decide +kernel
theorem d_Md_inputOf_19 : decode prog_9_method_57_code 19 = .ok (.getfield 114, 3) := by decide +kernel
theorem d_Md_inputOf_22 : decode prog_9_method_57_code 22 = .ok (.bipush 24, 2) := by decide +kernel
theorem d_Md_inputOf_24 : decode prog_9_method_57_code 24 = .ok (.iload_n 1, 1) := by decide +kernel
theorem d_Md_inputOf_25 : decode prog_9_method_57_code 25 = .ok (.imul, 1) := by decide +kernel
theorem d_Md_inputOf_26 : decode prog_9_method_57_code 26 = .ok (.aload_n 0, 1) := by decide +kernel
theorem d_Md_inputOf_27 : decode prog_9_method_57_code 27 = .ok (.getfield 44, 3) := by decide +kernel
theorem d_Md_inputOf_30 : decode prog_9_method_57_code 30 = .ok (.iload_n 2, 1) := by decide +kernel
theorem d_Md_inputOf_31 : decode prog_9_method_57_code 31 = .ok (.iaload, 1) := by decide +kernel
theorem d_Md_inputOf_32 : decode prog_9_method_57_code 32 = .ok (.iadd, 1) := by decide +kernel
theorem d_Md_inputOf_33 : decode prog_9_method_57_code 33 = .ok (.iaload, 1) := by decide +kernel
theorem d_Md_inputOf_34 : decode prog_9_method_57_code 34 = .ok (.ireturn, 1) := by decide +kernel
def f_Md_inputOf_0 (σ : pv_S) (x1 : Int32) (x2 : Int32) : Option (Int32 × pv_S) :=
  (if pv_in x2 96 = true then
(if 0 ≤ (σ.1 11 (x2).toNatClampNeg) then
  (if pv_in x2 96 = true then
(if pv_in (((24 : Int32) * x1) + (σ.1 11 (x2).toNatClampNeg)) 96 = true then
some ((σ.1 33 ((((24 : Int32) * x1) + (σ.1 11 (x2).toNatClampNeg))).toNatClampNeg), σ)
  else none)
  else none)
  else
  (if pv_in x2 96 = true then
some ((σ.1 12 (x2).toNatClampNeg), σ)
  else none))
  else none)
set_option maxHeartbeats 4000000 in
set_option maxRecDepth 100000 in
theorem s_Md_inputOf_0 {p : Program} {l : Launch} {e : Env} {R : Room} {s : State} {m : MethodId} {args : Array Value} {below : List Frame} {meth : Method} {c : Code} {Q : State → Prop} {D : va_G} {q : Nat → ClassId} {a : Nat → Nat} {A : Nat → Prop} (C : pv_C p s m args c prog_9_method_57_code 3 "PatchVoicesModel" pv_TB D pv_cl (pv_ty q) 36 a A (pv_ZM)) (hmv : pv_mv A (pv_ZM)) (hRf : 0 ≤ R.frames) (hRl : 0 ≤ R.locals) {out : (Int32 × pv_S)} (hret : pv_Ri p l e R s m args below meth c prog_9_method_57_code D pv_cl 36 a (pv_FM q a) A Q out) {σ : pv_S} {x1 : Int32} {x2 : Int32} {H : Heap} {locs : List Loc} {ls : Array Slot} (hl : lv_has ls 3 [(0, .ref (a 0)), (1, .int x1), (2, .int x2)]) (hP : pv_W D pv_cl 36 a (pv_FM q a) σ H) (hS : va_S A s.heap H locs) (hf : f_Md_inputOf_0 σ x1 x2 = some out) : W p l e R s m args below meth c H locs 0 0 Q (F0 m 0 ls []) := by
  unfold f_Md_inputOf_0 at hf
  have hx := C.1
  have hb := C.2.1
  refine lv_aload_n hx hb d_Md_inputOf_0 rfl (lv_at hl 0 rfl) ?_
  refine pv_get C hP (v := .ref (a 11)) (j := 21) (by decide) (fm_0 _ _ _ _) fl_Md_44 rfl d_Md_inputOf_1 ?_
  refine lv_iload_n hx hb d_Md_inputOf_4 rfl (lv_at hl 2 rfl) ?_
  obtain ⟨hg, hf⟩ := pv_g hf
  refine pv_iald C hP (t0 := 0) (by decide) (fm_11 _ _ _ _) rfl hg d_Md_inputOf_5 ?_
  refine lv_if_ge (tgt := 18) hx hb d_Md_inputOf_6 (by decide) (fun h => ?_) (fun h => ?_)
  · have hf := pv_t hf h
    refine lv_aload_n hx hb d_Md_inputOf_18 rfl (lv_at hl 0 rfl) ?_
    refine pv_get C hP (v := .ref (a 33)) (j := 45) (by decide) (fm_0 _ _ _ _) fl_Md_114 rfl d_Md_inputOf_19 ?_
    refine lv_bipush (v := (24 : Int32)) hx hb d_Md_inputOf_22 (by decide) ?_
    refine lv_iload_n hx hb d_Md_inputOf_24 rfl (lv_at hl 1 rfl) ?_
    refine lv_imul hx hb d_Md_inputOf_25 ?_
    refine lv_aload_n hx hb d_Md_inputOf_26 rfl (lv_at hl 0 rfl) ?_
    refine pv_get C hP (v := .ref (a 11)) (j := 21) (by decide) (fm_0 _ _ _ _) fl_Md_44 rfl d_Md_inputOf_27 ?_
    refine lv_iload_n hx hb d_Md_inputOf_30 rfl (lv_at hl 2 rfl) ?_
    obtain ⟨hg, hf⟩ := pv_g hf
    refine pv_iald C hP (t0 := 0) (by decide) (fm_11 _ _ _ _) rfl hg d_Md_inputOf_31 ?_
    refine lv_iadd hx hb d_Md_inputOf_32 ?_
    obtain ⟨hg, hf⟩ := pv_g hf
    refine pv_iald C hP (t0 := 0) (by decide) (fm_33 _ _ _ _) rfl hg d_Md_inputOf_33 ?_
    obtain rfl := Option.some.inj hf
    exact hret _ _ _ _ d_Md_inputOf_34 hP hS
  · have hf := pv_f hf h
    refine lv_aload_n hx hb d_Md_inputOf_9 rfl (lv_at hl 0 rfl) ?_
    refine pv_get C hP (v := .ref (a 12)) (j := 22) (by decide) (fm_0 _ _ _ _) fl_Md_47 rfl d_Md_inputOf_10 ?_
    refine lv_iload_n hx hb d_Md_inputOf_13 rfl (lv_at hl 2 rfl) ?_
    obtain ⟨hg, hf⟩ := pv_g hf
    refine pv_iald C hP (t0 := 0) (by decide) (fm_12 _ _ _ _) rfl hg d_Md_inputOf_14 ?_
    refine lv_goto (tgt := 34) hx hb d_Md_inputOf_15 (by decide) ?_
    obtain rfl := Option.some.inj hf
    exact hret _ _ _ _ d_Md_inputOf_34 hP hS
def f_Md_inputOf (σ : pv_S) (x1 : Int32) (x2 : Int32) : Option (Int32 × pv_S) := f_Md_inputOf_0 σ x1 x2
def rm_Md_inputOf : Room := { frames := 0, cells := 0, slots := 0, locals := 0 }
theorem c_Md_inputOf {l : Launch} {D : va_G} {q : Nat → ClassId} {a : Nat → Nat} {A : Nat → Prop} (hD : pv_D 36 a A) (hmv : pv_mv A (pv_ZM)) {σ : pv_S} {x1 : Int32} {x2 : Int32} {out : (Int32 × pv_S)} (hf : f_Md_inputOf σ x1 x2 = some out) : pv_Mi l y_Md_inputOf (Cond.code y_Md_inputOf prog_9_method_57_code 3 (some .int) :: pv_TB) rm_Md_inputOf D pv_cl (pv_ty q) 36 a (pv_FM q a) A (pv_ZM) [.ref (a 0), .int x1, .int x2] σ out :=
  pv_ofI (by decide) (Nat.le_of_ble_eq_true rfl) hD (fun p e s m args below meth c Q ls C hret hl hP => s_Md_inputOf_0 C hmv (Nat.le_refl _) (Nat.le_refl _) hret hl hP va_S.rf hf)
theorem d_Md_reckon_0 : decode prog_9_method_58_code 0 = .ok (.bipush 24, 2) := by decide +kernel
theorem d_Md_reckon_2 : decode prog_9_method_58_code 2 = .ok (.iload_n 1, 1) := by decide +kernel
theorem d_Md_reckon_3 : decode prog_9_method_58_code 3 = .ok (.imul, 1) := by decide +kernel
theorem d_Md_reckon_4 : decode prog_9_method_58_code 4 = .ok (.iload_n 2, 1) := by decide +kernel
theorem d_Md_reckon_5 : decode prog_9_method_58_code 5 = .ok (.iadd, 1) := by decide +kernel
theorem d_Md_reckon_6 : decode prog_9_method_58_code 6 = .ok (.istore_n 3, 1) := by decide +kernel
theorem d_Md_reckon_7 : decode prog_9_method_58_code 7 = .ok (.aload_n 0, 1) := by decide +kernel
theorem d_Md_reckon_8 : decode prog_9_method_58_code 8 = .ok (.iload_n 1, 1) := by decide +kernel
theorem d_Md_reckon_9 : decode prog_9_method_58_code 9 = .ok (.iconst 4, 1) := by decide +kernel
theorem d_Md_reckon_10 : decode prog_9_method_58_code 10 = .ok (.iload_n 2, 1) := by decide +kernel
theorem d_Md_reckon_11 : decode prog_9_method_58_code 11 = .ok (.imul, 1) := by decide +kernel
theorem d_Md_reckon_12 : decode prog_9_method_58_code 12 = .ok (.invokevirtual 308, 3) := by decide +kernel
theorem d_Md_reckon_15 : decode prog_9_method_58_code 15 = .ok (.istore 4, 2) := by decide +kernel
theorem d_Md_reckon_17 : decode prog_9_method_58_code 17 = .ok (.aload_n 0, 1) := by decide +kernel
theorem d_Md_reckon_18 : decode prog_9_method_58_code 18 = .ok (.iload_n 1, 1) := by decide +kernel
theorem d_Md_reckon_19 : decode prog_9_method_58_code 19 = .ok (.iconst 4, 1) := by decide +kernel
theorem d_Md_reckon_20 : decode prog_9_method_58_code 20 = .ok (.iload_n 2, 1) := by decide +kernel
theorem d_Md_reckon_21 : decode prog_9_method_58_code 21 = .ok (.imul, 1) := by decide +kernel
theorem d_Md_reckon_22 : decode prog_9_method_58_code 22 = .ok (.iconst 1, 1) := by decide +kernel
theorem d_Md_reckon_23 : decode prog_9_method_58_code 23 = .ok (.iadd, 1) := by decide +kernel
theorem d_Md_reckon_24 : decode prog_9_method_58_code 24 = .ok (.invokevirtual 308, 3) := by decide +kernel
theorem d_Md_reckon_27 : decode prog_9_method_58_code 27 = .ok (.istore 5, 2) := by decide +kernel
theorem d_Md_reckon_29 : decode prog_9_method_58_code 29 = .ok (.aload_n 0, 1) := by decide +kernel
theorem d_Md_reckon_30 : decode prog_9_method_58_code 30 = .ok (.iload_n 1, 1) := by decide +kernel
theorem d_Md_reckon_31 : decode prog_9_method_58_code 31 = .ok (.iconst 4, 1) := by decide +kernel
theorem d_Md_reckon_32 : decode prog_9_method_58_code 32 = .ok (.iload_n 2, 1) := by decide +kernel
theorem d_Md_reckon_33 : decode prog_9_method_58_code 33 = .ok (.imul, 1) := by decide +kernel
theorem d_Md_reckon_34 : decode prog_9_method_58_code 34 = .ok (.iconst 2, 1) := by decide +kernel
theorem d_Md_reckon_35 : decode prog_9_method_58_code 35 = .ok (.iadd, 1) := by decide +kernel
theorem d_Md_reckon_36 : decode prog_9_method_58_code 36 = .ok (.invokevirtual 308, 3) := by decide +kernel
theorem d_Md_reckon_39 : decode prog_9_method_58_code 39 = .ok (.istore 6, 2) := by decide +kernel
theorem d_Md_reckon_41 : decode prog_9_method_58_code 41 = .ok (.aload_n 0, 1) := by decide +kernel
theorem d_Md_reckon_42 : decode prog_9_method_58_code 42 = .ok (.getfield 38, 3) := by decide +kernel
theorem d_Md_reckon_45 : decode prog_9_method_58_code 45 = .ok (.iload_n 2, 1) := by decide +kernel
theorem d_Md_reckon_46 : decode prog_9_method_58_code 46 = .ok (.iaload, 1) := by decide +kernel
theorem d_Md_reckon_47 : decode prog_9_method_58_code 47 = .ok (.istore 7, 2) := by decide +kernel
theorem d_Md_reckon_49 : decode prog_9_method_58_code 49 = .ok (.iload 7, 2) := by decide +kernel
theorem d_Md_reckon_51 : decode prog_9_method_58_code 51 = .ok (.bipush 7, 2) := by decide +kernel
theorem d_Md_reckon_53 : decode prog_9_method_58_code 53 = .ok (.if_icmp .ge 15, 3) := by decide +kernel
theorem d_Md_reckon_56 : decode prog_9_method_58_code 56 = .ok (.iload 7, 2) := by decide +kernel
theorem d_Md_reckon_58 : decode prog_9_method_58_code 58 = .ok (.iload 4, 2) := by decide +kernel
theorem d_Md_reckon_60 : decode prog_9_method_58_code 60 = .ok (.iload 5, 2) := by decide +kernel
theorem d_Md_reckon_62 : decode prog_9_method_58_code 62 = .ok (.iload 6, 2) := by decide +kernel
theorem d_Md_reckon_64 : decode prog_9_method_58_code 64 = .ok (.invokestatic 268, 3) := by decide +kernel
theorem d_Md_reckon_67 : decode prog_9_method_58_code 67 = .ok (.ireturn, 1) := by decide +kernel
theorem d_Md_reckon_68 : decode prog_9_method_58_code 68 = .ok (.iload 7, 2) := by decide +kernel
theorem d_Md_reckon_70 : decode prog_9_method_58_code 70 = .ok (.bipush 11, 2) := by decide +kernel
theorem d_Md_reckon_72 : decode prog_9_method_58_code 72 = .ok (.if_icmp .ge 73, 3) := by decide +kernel
theorem d_Md_reckon_75 : decode prog_9_method_58_code 75 = .ok (.iload 7, 2) := by decide +kernel
theorem d_Md_reckon_77 : decode prog_9_method_58_code 77 = .ok (.bipush 7, 2) := by decide +kernel
theorem d_Md_reckon_79 : decode prog_9_method_58_code 79 = .ok (.if_icmp .ne 13, 3) := by decide +kernel
theorem d_Md_reckon_82 : decode prog_9_method_58_code 82 = .ok (.aload_n 0, 1) := by decide +kernel
theorem d_Md_reckon_83 : decode prog_9_method_58_code 83 = .ok (.getfield 78, 3) := by decide +kernel
theorem d_Md_reckon_86 : decode prog_9_method_58_code 86 = .ok (.iload 4, 2) := by decide +kernel
theorem d_Md_reckon_88 : decode prog_9_method_58_code 88 = .ok (.iaload, 1) := by decide +kernel
theorem d_Md_reckon_89 : decode prog_9_method_58_code 89 = .ok (.goto 55, 3) := by decide +kernel
theorem d_Md_reckon_92 : decode prog_9_method_58_code 92 = .ok (.iload 7, 2) := by decide +kernel
theorem d_Md_reckon_94 : decode prog_9_method_58_code 94 = .ok (.bipush 8, 2) := by decide +kernel
theorem d_Md_reckon_96 : decode prog_9_method_58_code 96 = .ok (.if_icmp .ne 12, 3) := by decide +kernel
theorem d_Md_reckon_99 : decode prog_9_method_58_code 99 = .ok (.aload_n 0, 1) := by decide +kernel
theorem d_Md_reckon_100 : decode prog_9_method_58_code 100 = .ok (.getfield 84, 3) := by decide +kernel
theorem d_Md_reckon_103 : decode prog_9_method_58_code 103 = .ok (.iload_n 1, 1) := by decide +kernel
theorem d_Md_reckon_104 : decode prog_9_method_58_code 104 = .ok (.iaload, 1) := by decide +kernel
theorem d_Md_reckon_105 : decode prog_9_method_58_code 105 = .ok (.goto 39, 3) := by decide +kernel
theorem d_Md_reckon_108 : decode prog_9_method_58_code 108 = .ok (.iload 7, 2) := by decide +kernel
theorem d_Md_reckon_110 : decode prog_9_method_58_code 110 = .ok (.bipush 9, 2) := by decide +kernel
theorem d_Md_reckon_112 : decode prog_9_method_58_code 112 = .ok (.if_icmp .ne 22, 3) := by decide +kernel
theorem d_Md_reckon_115 : decode prog_9_method_58_code 115 = .ok (.aload_n 0, 1) := by decide +kernel
theorem d_Md_reckon_116 : decode prog_9_method_58_code 116 = .ok (.getfield 90, 3) := by decide +kernel
theorem d_Md_reckon_119 : decode prog_9_method_58_code 119 = .ok (.iload_n 1, 1) := by decide +kernel
theorem d_Md_reckon_120 : decode prog_9_method_58_code 120 = .ok (.baload, 1) := by decide +kernel
theorem d_Md_reckon_121 : decode prog_9_method_58_code 121 = .ok (.ifCond .eq 9, 3) := by decide +kernel
theorem d_Md_reckon_124 : decode prog_9_method_58_code 124 = .ok (.ldc_w 301, 3) := by decide +kernel
theorem d_Md_reckon_127 : decode prog_9_method_58_code 127 = .ok (.goto 17, 3) := by decide +kernel
theorem d_Md_reckon_130 : decode prog_9_method_58_code 130 = .ok (.iconst 0, 1) := by decide +kernel
theorem d_Md_reckon_131 : decode prog_9_method_58_code 131 = .ok (.goto 13, 3) := by decide +kernel
theorem d_Md_reckon_134 : decode prog_9_method_58_code 134 = .ok (.sipush 512, 3) := by decide +kernel
theorem d_Md_reckon_137 : decode prog_9_method_58_code 137 = .ok (.aload_n 0, 1) := by decide +kernel
theorem d_Md_reckon_138 : decode prog_9_method_58_code 138 = .ok (.getfield 87, 3) := by decide +kernel
theorem d_Md_reckon_141 : decode prog_9_method_58_code 141 = .ok (.iload_n 1, 1) := by decide +kernel
theorem d_Md_reckon_142 : decode prog_9_method_58_code 142 = .ok (.iaload, 1) := by decide +kernel
theorem d_Md_reckon_143 : decode prog_9_method_58_code 143 = .ok (.imul, 1) := by decide +kernel
theorem d_Md_reckon_144 : decode prog_9_method_58_code 144 = .ok (.ireturn, 1) := by decide +kernel
theorem d_Md_reckon_145 : decode prog_9_method_58_code 145 = .ok (.iload 7, 2) := by decide +kernel
theorem d_Md_reckon_147 : decode prog_9_method_58_code 147 = .ok (.bipush 15, 2) := by decide +kernel
theorem d_Md_reckon_149 : decode prog_9_method_58_code 149 = .ok (.if_icmp .ge 30, 3) := by decide +kernel
theorem d_Md_reckon_152 : decode prog_9_method_58_code 152 = .ok (.aload_n 0, 1) := by decide +kernel
theorem d_Md_reckon_153 : decode prog_9_method_58_code 153 = .ok (.getfield 108, 3) := by decide +kernel
theorem d_Md_reckon_156 : decode prog_9_method_58_code 156 = .ok (.iload_n 3, 1) := by decide +kernel
theorem d_Md_reckon_157 : decode prog_9_method_58_code 157 = .ok (.aload_n 0, 1) := by decide +kernel
theorem d_Md_reckon_158 : decode prog_9_method_58_code 158 = .ok (.getfield 108, 3) := by decide +kernel
theorem d_Md_reckon_161 : decode prog_9_method_58_code 161 = .ok (.iload_n 3, 1) := by decide +kernel
theorem d_Md_reckon_162 : decode prog_9_method_58_code 162 = .ok (.iaload, 1) := by decide +kernel
theorem d_Md_reckon_163 : decode prog_9_method_58_code 163 = .ok (.iload 4, 2) := by decide +kernel
theorem d_Md_reckon_165 : decode prog_9_method_58_code 165 = .ok (.iadd, 1) := by decide +kernel
theorem d_Md_reckon_166 : decode prog_9_method_58_code 166 = .ok (.iastore, 1) := by decide +kernel
theorem d_Md_reckon_167 : decode prog_9_method_58_code 167 = .ok (.iload 7, 2) := by decide +kernel
theorem d_Md_reckon_169 : decode prog_9_method_58_code 169 = .ok (.aload_n 0, 1) := by decide +kernel
theorem d_Md_reckon_170 : decode prog_9_method_58_code 170 = .ok (.getfield 108, 3) := by decide +kernel
theorem d_Md_reckon_173 : decode prog_9_method_58_code 173 = .ok (.iload_n 3, 1) := by decide +kernel
theorem d_Md_reckon_174 : decode prog_9_method_58_code 174 = .ok (.iaload, 1) := by decide +kernel
theorem d_Md_reckon_175 : decode prog_9_method_58_code 175 = .ok (.invokestatic 312, 3) := by decide +kernel
theorem d_Md_reckon_178 : decode prog_9_method_58_code 178 = .ok (.ireturn, 1) := by decide +kernel
theorem d_Md_reckon_179 : decode prog_9_method_58_code 179 = .ok (.iload 7, 2) := by decide +kernel
theorem d_Md_reckon_181 : decode prog_9_method_58_code 181 = .ok (.bipush 18, 2) := by decide +kernel
theorem d_Md_reckon_183 : decode prog_9_method_58_code 183 = .ok (.if_icmp .ne 39, 3) := by decide +kernel
theorem d_Md_reckon_186 : decode prog_9_method_58_code 186 = .ok (.aload_n 0, 1) := by decide +kernel
theorem d_Md_reckon_187 : decode prog_9_method_58_code 187 = .ok (.getfield 117, 3) := by decide +kernel
theorem d_Md_reckon_190 : decode prog_9_method_58_code 190 = .ok (.sipush 128, 3) := by decide +kernel
theorem d_Md_reckon_193 : decode prog_9_method_58_code 193 = .ok (.iload_n 1, 1) := by decide +kernel
theorem d_Md_reckon_194 : decode prog_9_method_58_code 194 = .ok (.imul, 1) := by decide +kernel
theorem d_Md_reckon_195 : decode prog_9_method_58_code 195 = .ok (.aload_n 0, 1) := by decide +kernel
theorem d_Md_reckon_196 : decode prog_9_method_58_code 196 = .ok (.getfield 53, 3) := by decide +kernel
theorem d_Md_reckon_199 : decode prog_9_method_58_code 199 = .ok (.iload_n 2, 1) := by decide +kernel
theorem d_Md_reckon_200 : decode prog_9_method_58_code 200 = .ok (.iaload, 1) := by decide +kernel
theorem d_Md_reckon_201 : decode prog_9_method_58_code 201 = .ok (.iadd, 1) := by decide +kernel
theorem d_Md_reckon_202 : decode prog_9_method_58_code 202 = .ok (.aload_n 0, 1) := by decide +kernel
theorem d_Md_reckon_203 : decode prog_9_method_58_code 203 = .ok (.getfield 105, 3) := by decide +kernel
theorem d_Md_reckon_206 : decode prog_9_method_58_code 206 = .ok (.iload_n 1, 1) := by decide +kernel
theorem d_Md_reckon_207 : decode prog_9_method_58_code 207 = .ok (.iaload, 1) := by decide +kernel
theorem d_Md_reckon_208 : decode prog_9_method_58_code 208 = .ok (.aload_n 0, 1) := by decide +kernel
theorem d_Md_reckon_209 : decode prog_9_method_58_code 209 = .ok (.getfield 47, 3) := by decide +kernel
theorem d_Md_reckon_212 : decode prog_9_method_58_code 212 = .ok (.iconst 4, 1) := by decide +kernel
theorem d_Md_reckon_213 : decode prog_9_method_58_code 213 = .ok (.iload_n 2, 1) := by decide +kernel
theorem d_Md_reckon_214 : decode prog_9_method_58_code 214 = .ok (.imul, 1) := by decide +kernel
theorem d_Md_reckon_215 : decode prog_9_method_58_code 215 = .ok (.iconst 1, 1) := by decide +kernel
theorem d_Md_reckon_216 : decode prog_9_method_58_code 216 = .ok (.iadd, 1) := by decide +kernel
theorem d_Md_reckon_217 : decode prog_9_method_58_code 217 = .ok (.iaload, 1) := by decide +kernel
theorem d_Md_reckon_218 : decode prog_9_method_58_code 218 = .ok (.irem, 1) := by decide +kernel
theorem d_Md_reckon_219 : decode prog_9_method_58_code 219 = .ok (.iadd, 1) := by decide +kernel
theorem d_Md_reckon_220 : decode prog_9_method_58_code 220 = .ok (.iaload, 1) := by decide +kernel
theorem d_Md_reckon_221 : decode prog_9_method_58_code 221 = .ok (.ireturn, 1) := by decide +kernel
theorem d_Md_reckon_222 : decode prog_9_method_58_code 222 = .ok (.iload 7, 2) := by decide +kernel
theorem d_Md_reckon_224 : decode prog_9_method_58_code 224 = .ok (.bipush 16, 2) := by decide +kernel
theorem d_Md_reckon_226 : decode prog_9_method_58_code 226 = .ok (.if_icmp .ne 25, 3) := by decide +kernel
theorem d_Md_reckon_229 : decode prog_9_method_58_code 229 = .ok (.aload_n 0, 1) := by decide +kernel
theorem d_Md_reckon_230 : decode prog_9_method_58_code 230 = .ok (.iload_n 3, 1) := by decide +kernel
theorem d_Md_reckon_231 : decode prog_9_method_58_code 231 = .ok (.iload 4, 2) := by decide +kernel
theorem d_Md_reckon_233 : decode prog_9_method_58_code 233 = .ok (.iload 5, 2) := by decide +kernel
theorem d_Md_reckon_235 : decode prog_9_method_58_code 235 = .ok (.iload 6, 2) := by decide +kernel
theorem d_Md_reckon_237 : decode prog_9_method_58_code 237 = .ok (.aload_n 0, 1) := by decide +kernel
theorem d_Md_reckon_238 : decode prog_9_method_58_code 238 = .ok (.iload_n 1, 1) := by decide +kernel
theorem d_Md_reckon_239 : decode prog_9_method_58_code 239 = .ok (.iconst 4, 1) := by decide +kernel
theorem d_Md_reckon_240 : decode prog_9_method_58_code 240 = .ok (.iload_n 2, 1) := by decide +kernel
theorem d_Md_reckon_241 : decode prog_9_method_58_code 241 = .ok (.imul, 1) := by decide +kernel
theorem d_Md_reckon_242 : decode prog_9_method_58_code 242 = .ok (.iconst 3, 1) := by decide +kernel
theorem d_Md_reckon_243 : decode prog_9_method_58_code 243 = .ok (.iadd, 1) := by decide +kernel
theorem d_Md_reckon_244 : decode prog_9_method_58_code 244 = .ok (.invokevirtual 308, 3) := by decide +kernel
theorem d_Md_reckon_247 : decode prog_9_method_58_code 247 = .ok (.invokevirtual 315, 3) := by decide +kernel
theorem d_Md_reckon_250 : decode prog_9_method_58_code 250 = .ok (.ireturn, 1) := by decide +kernel
theorem d_Md_reckon_251 : decode prog_9_method_58_code 251 = .ok (.iload 7, 2) := by decide +kernel
theorem d_Md_reckon_253 : decode prog_9_method_58_code 253 = .ok (.bipush 15, 2) := by decide +kernel
theorem d_Md_reckon_255 : decode prog_9_method_58_code 255 = .ok (.if_icmp .ne 11, 3) := by decide +kernel
theorem d_Md_reckon_258 : decode prog_9_method_58_code 258 = .ok (.aload_n 0, 1) := by decide +kernel
theorem d_Md_reckon_259 : decode prog_9_method_58_code 259 = .ok (.iload_n 3, 1) := by decide +kernel
theorem d_Md_reckon_260 : decode prog_9_method_58_code 260 = .ok (.invokevirtual 319, 3) := by decide +kernel
theorem d_Md_reckon_263 : decode prog_9_method_58_code 263 = .ok (.goto 33, 3) := by decide +kernel
theorem d_Md_reckon_266 : decode prog_9_method_58_code 266 = .ok (.iload 7, 2) := by decide +kernel
theorem d_Md_reckon_268 : decode prog_9_method_58_code 268 = .ok (.bipush 17, 2) := by decide +kernel
theorem d_Md_reckon_270 : decode prog_9_method_58_code 270 = .ok (.if_icmp .ne 17, 3) := by decide +kernel
theorem d_Md_reckon_273 : decode prog_9_method_58_code 273 = .ok (.aload_n 0, 1) := by decide +kernel
theorem d_Md_reckon_274 : decode prog_9_method_58_code 274 = .ok (.iload_n 3, 1) := by decide +kernel
theorem d_Md_reckon_275 : decode prog_9_method_58_code 275 = .ok (.iload 4, 2) := by decide +kernel
theorem d_Md_reckon_277 : decode prog_9_method_58_code 277 = .ok (.iload 5, 2) := by decide +kernel
theorem d_Md_reckon_279 : decode prog_9_method_58_code 279 = .ok (.iload 6, 2) := by decide +kernel
theorem d_Md_reckon_281 : decode prog_9_method_58_code 281 = .ok (.invokevirtual 322, 3) := by decide +kernel
theorem d_Md_reckon_284 : decode prog_9_method_58_code 284 = .ok (.goto 12, 3) := by decide +kernel
theorem d_Md_reckon_287 : decode prog_9_method_58_code 287 = .ok (.aload_n 0, 1) := by decide +kernel
theorem d_Md_reckon_288 : decode prog_9_method_58_code 288 = .ok (.iload_n 3, 1) := by decide +kernel
theorem d_Md_reckon_289 : decode prog_9_method_58_code 289 = .ok (.iload 4, 2) := by decide +kernel
theorem d_Md_reckon_291 : decode prog_9_method_58_code 291 = .ok (.iload 5, 2) := by decide +kernel
theorem d_Md_reckon_293 : decode prog_9_method_58_code 293 = .ok (.invokevirtual 325, 3) := by decide +kernel
theorem d_Md_reckon_296 : decode prog_9_method_58_code 296 = .ok (.ireturn, 1) := by decide +kernel
def f_Md_reckon_0 (σ : pv_S) (x1 : Int32) (x2 : Int32) : Option (Int32 × pv_S) :=
  ((f_Md_inputOf σ x1 ((4 : Int32) * x2)).bind fun q1 =>
((f_Md_inputOf q1.2 x1 (((4 : Int32) * x2) + (1 : Int32))).bind fun q2 =>
((f_Md_inputOf q2.2 x1 (((4 : Int32) * x2) + (2 : Int32))).bind fun q3 =>
(if pv_in x2 24 = true then
(if (7 : Int32) ≤ (q3.2.1 9 (x2).toNatClampNeg) then
  (if (11 : Int32) ≤ (q3.2.1 9 (x2).toNatClampNeg) then
  (if (15 : Int32) ≤ (q3.2.1 9 (x2).toNatClampNeg) then
  (if (q3.2.1 9 (x2).toNatClampNeg) = (18 : Int32) then
  (if pv_in x2 24 = true then
(if pv_in x1 4 = true then
(if pv_in (((4 : Int32) * x2) + (1 : Int32)) 96 = true then
(if ¬ (q3.2.1 12 ((((4 : Int32) * x2) + (1 : Int32))).toNatClampNeg) = 0 then
(if pv_in ((((128 : Int32) * x1) + (q3.2.1 14 (x2).toNatClampNeg)) + ((q3.2.1 30 (x1).toNatClampNeg) - (q3.2.1 30 (x1).toNatClampNeg) / (q3.2.1 12 ((((4 : Int32) * x2) + (1 : Int32))).toNatClampNeg) * (q3.2.1 12 ((((4 : Int32) * x2) + (1 : Int32))).toNatClampNeg))) 512 = true then
some ((q3.2.1 34 (((((128 : Int32) * x1) + (q3.2.1 14 (x2).toNatClampNeg)) + ((q3.2.1 30 (x1).toNatClampNeg) - (q3.2.1 30 (x1).toNatClampNeg) / (q3.2.1 12 ((((4 : Int32) * x2) + (1 : Int32))).toNatClampNeg) * (q3.2.1 12 ((((4 : Int32) * x2) + (1 : Int32))).toNatClampNeg)))).toNatClampNeg), q3.2)
  else none)
  else none)
  else none)
  else none)
  else none)
  else
  (if (q3.2.1 9 (x2).toNatClampNeg) = (16 : Int32) then
  ((f_Md_inputOf q3.2 x1 (((4 : Int32) * x2) + (3 : Int32))).bind fun q7 =>
((f_Md_envelope q7.2 (((24 : Int32) * x1) + x2) q1.1 q2.1 q3.1 q7.1).bind fun q8 =>
some (q8.1, q8.2)))
  else
  (if (q3.2.1 9 (x2).toNatClampNeg) = (15 : Int32) then
  ((f_Md_noise q3.2 (((24 : Int32) * x1) + x2)).bind fun q6 =>
some (q6.1, q6.2))
  else
  (if (q3.2.1 9 (x2).toNatClampNeg) = (17 : Int32) then
  ((f_Md_filter q3.2 (((24 : Int32) * x1) + x2) q1.1 q2.1 q3.1).bind fun q5 =>
some (q5.1, q5.2))
  else
  ((f_Md_hold q3.2 (((24 : Int32) * x1) + x2) q1.1 q2.1).bind fun q4 =>
some (q4.1, q4.2))))))
  else
  (if pv_in (((24 : Int32) * x1) + x2) 96 = true then
(if pv_in (((24 : Int32) * x1) + x2) 96 = true then
(if pv_in (((24 : Int32) * x1) + x2) 96 = true then
((f_Md_wave (pv_uI q3.2 31 ((((24 : Int32) * x1) + x2)).toNatClampNeg ((q3.2.1 31 ((((24 : Int32) * x1) + x2)).toNatClampNeg) + q1.1)) (q3.2.1 9 (x2).toNatClampNeg) ((pv_uI q3.2 31 ((((24 : Int32) * x1) + x2)).toNatClampNeg ((q3.2.1 31 ((((24 : Int32) * x1) + x2)).toNatClampNeg) + q1.1)).1 31 ((((24 : Int32) * x1) + x2)).toNatClampNeg)).bind fun q9 =>
some (q9.1, q9.2))
  else none)
  else none)
  else none))
  else
  (if (q3.2.1 9 (x2).toNatClampNeg) = (7 : Int32) then
  (if pv_in q1.1 4 = true then
some ((q3.2.1 21 (q1.1).toNatClampNeg), q3.2)
  else none)
  else
  (if (q3.2.1 9 (x2).toNatClampNeg) = (8 : Int32) then
  (if pv_in x1 4 = true then
some ((q3.2.1 23 (x1).toNatClampNeg), q3.2)
  else none)
  else
  (if (q3.2.1 9 (x2).toNatClampNeg) = (9 : Int32) then
  (if pv_in x1 4 = true then
(if (q3.2.1 25 (x1).toNatClampNeg) = 0 then
  some ((0 : Int32), q3.2)
  else
  some ((65536 : Int32), q3.2))
  else none)
  else
  (if pv_in x1 4 = true then
some (((512 : Int32) * (q3.2.1 24 (x1).toNatClampNeg)), q3.2)
  else none)))))
  else
  ((f_Md_plain q3.2 (q3.2.1 9 (x2).toNatClampNeg) q1.1 q2.1 q3.1).bind fun q10 =>
some (q10.1, q10.2)))
  else none))))
set_option maxHeartbeats 4000000 in
set_option maxRecDepth 100000 in
theorem s_Md_reckon_0 {p : Program} {l : Launch} {e : Env} {R : Room} {s : State} {m : MethodId} {args : Array Value} {below : List Frame} {meth : Method} {c : Code} {Q : State → Prop} {D : va_G} {q : Nat → ClassId} {a : Nat → Nat} {A : Nat → Prop} (C : pv_C p s m args c prog_9_method_58_code 8 "PatchVoicesModel" pv_TB D pv_cl (pv_ty q) 36 a A (pv_ZM)) (hmv : pv_mv A (pv_ZM)) (hRf : 2 ≤ R.frames) (hRl : 46 ≤ R.locals) {out : (Int32 × pv_S)} (hret : pv_Ri p l e R s m args below meth c prog_9_method_58_code D pv_cl 36 a (pv_FM q a) A Q out) {σ : pv_S} {x1 : Int32} {x2 : Int32} {H : Heap} {locs : List Loc} {ls : Array Slot} (hl : lv_has ls 8 [(0, .ref (a 0)), (1, .int x1), (2, .int x2)]) (hP : pv_W D pv_cl 36 a (pv_FM q a) σ H) (hS : va_S A s.heap H locs) (hf : f_Md_reckon_0 σ x1 x2 = some out) : W p l e R s m args below meth c H locs 0 0 Q (F0 m 0 ls []) := by
  unfold f_Md_reckon_0 at hf
  have hx := C.1
  have hb := C.2.1
  refine lv_bipush (v := (24 : Int32)) hx hb d_Md_reckon_0 (by decide) ?_
  refine lv_iload_n hx hb d_Md_reckon_2 rfl (lv_at hl 1 rfl) ?_
  refine lv_imul hx hb d_Md_reckon_3 ?_
  refine lv_iload_n hx hb d_Md_reckon_4 rfl (lv_at hl 2 rfl) ?_
  refine lv_iadd hx hb d_Md_reckon_5 ?_
  refine lv_istore_n (lv' := [(3, .int (((24 : Int32) * x1) + x2)), (0, .ref (a 0)), (1, .int x1), (2, .int x2)]) hx hb d_Md_reckon_6 rfl hl (by decide) rfl (fun ls hl => ?_)
  refine lv_aload_n hx hb d_Md_reckon_7 rfl (lv_at hl 1 rfl) ?_
  refine lv_iload_n hx hb d_Md_reckon_8 rfl (lv_at hl 2 rfl) ?_
  refine lv_iconst (v := (4 : Int32)) hx hb d_Md_reckon_9 (by decide) ?_
  refine lv_iload_n hx hb d_Md_reckon_10 rfl (lv_at hl 3 rfl) ?_
  refine lv_imul hx hb d_Md_reckon_11 ?_
  obtain ⟨q1, hc, hf⟩ := pv_b hf
  refine pv_callVi C hmv pv_good hP hS (As := [.int x1, .int ((4 : Int32) * x2)]) (rest := []) (by decide) (fm_0 _ _ _ _) rfl (c_Md_inputOf C.2.2.2.2.2.2.1 hmv hc) cv_Md_308 ⟨rfl, rfl, Nat.le_trans (Nat.le_of_ble_eq_true rfl) hRf, Nat.le_trans (Nat.le_of_ble_eq_true rfl) hRl⟩ rfl hl.1 rfl (Nat.le_of_ble_eq_true rfl) d_Md_reckon_12 ⟨Nat.zero_le _, Nat.zero_le _⟩ (fun H locs hP hS => ?_)
  refine lv_istore (lv' := [(4, .int q1.1), (3, .int (((24 : Int32) * x1) + x2)), (0, .ref (a 0)), (1, .int x1), (2, .int x2)]) hx hb d_Md_reckon_15 hl (by decide) rfl (fun ls hl => ?_)
  refine lv_aload_n hx hb d_Md_reckon_17 rfl (lv_at hl 2 rfl) ?_
  refine lv_iload_n hx hb d_Md_reckon_18 rfl (lv_at hl 3 rfl) ?_
  refine lv_iconst (v := (4 : Int32)) hx hb d_Md_reckon_19 (by decide) ?_
  refine lv_iload_n hx hb d_Md_reckon_20 rfl (lv_at hl 4 rfl) ?_
  refine lv_imul hx hb d_Md_reckon_21 ?_
  refine lv_iconst (v := (1 : Int32)) hx hb d_Md_reckon_22 (by decide) ?_
  refine lv_iadd hx hb d_Md_reckon_23 ?_
  obtain ⟨q2, hc, hf⟩ := pv_b hf
  refine pv_callVi C hmv pv_good hP hS (As := [.int x1, .int (((4 : Int32) * x2) + (1 : Int32))]) (rest := []) (by decide) (fm_0 _ _ _ _) rfl (c_Md_inputOf C.2.2.2.2.2.2.1 hmv hc) cv_Md_308 ⟨rfl, rfl, Nat.le_trans (Nat.le_of_ble_eq_true rfl) hRf, Nat.le_trans (Nat.le_of_ble_eq_true rfl) hRl⟩ rfl hl.1 rfl (Nat.le_of_ble_eq_true rfl) d_Md_reckon_24 ⟨Nat.zero_le _, Nat.zero_le _⟩ (fun H locs hP hS => ?_)
  refine lv_istore (lv' := [(5, .int q2.1), (4, .int q1.1), (3, .int (((24 : Int32) * x1) + x2)), (0, .ref (a 0)), (1, .int x1), (2, .int x2)]) hx hb d_Md_reckon_27 hl (by decide) rfl (fun ls hl => ?_)
  refine lv_aload_n hx hb d_Md_reckon_29 rfl (lv_at hl 3 rfl) ?_
  refine lv_iload_n hx hb d_Md_reckon_30 rfl (lv_at hl 4 rfl) ?_
  refine lv_iconst (v := (4 : Int32)) hx hb d_Md_reckon_31 (by decide) ?_
  refine lv_iload_n hx hb d_Md_reckon_32 rfl (lv_at hl 5 rfl) ?_
  refine lv_imul hx hb d_Md_reckon_33 ?_
  refine lv_iconst (v := (2 : Int32)) hx hb d_Md_reckon_34 (by decide) ?_
  refine lv_iadd hx hb d_Md_reckon_35 ?_
  obtain ⟨q3, hc, hf⟩ := pv_b hf
  refine pv_callVi C hmv pv_good hP hS (As := [.int x1, .int (((4 : Int32) * x2) + (2 : Int32))]) (rest := []) (by decide) (fm_0 _ _ _ _) rfl (c_Md_inputOf C.2.2.2.2.2.2.1 hmv hc) cv_Md_308 ⟨rfl, rfl, Nat.le_trans (Nat.le_of_ble_eq_true rfl) hRf, Nat.le_trans (Nat.le_of_ble_eq_true rfl) hRl⟩ rfl hl.1 rfl (Nat.le_of_ble_eq_true rfl) d_Md_reckon_36 ⟨Nat.zero_le _, Nat.zero_le _⟩ (fun H locs hP hS => ?_)
  refine lv_istore (lv' := [(6, .int q3.1), (5, .int q2.1), (4, .int q1.1), (3, .int (((24 : Int32) * x1) + x2)), (0, .ref (a 0)), (1, .int x1), (2, .int x2)]) hx hb d_Md_reckon_39 hl (by decide) rfl (fun ls hl => ?_)
  refine lv_aload_n hx hb d_Md_reckon_41 rfl (lv_at hl 4 rfl) ?_
  refine pv_get C hP (v := .ref (a 9)) (j := 19) (by decide) (fm_0 _ _ _ _) fl_Md_38 rfl d_Md_reckon_42 ?_
  refine lv_iload_n hx hb d_Md_reckon_45 rfl (lv_at hl 6 rfl) ?_
  obtain ⟨hg, hf⟩ := pv_g hf
  refine pv_iald C hP (t0 := 0) (by decide) (fm_9 _ _ _ _) rfl hg d_Md_reckon_46 ?_
  refine lv_istore (lv' := [(7, .int (q3.2.1 9 (x2).toNatClampNeg)), (6, .int q3.1), (5, .int q2.1), (4, .int q1.1), (3, .int (((24 : Int32) * x1) + x2)), (0, .ref (a 0)), (1, .int x1), (2, .int x2)]) hx hb d_Md_reckon_47 hl (by decide) rfl (fun ls hl => ?_)
  refine lv_iload hx hb d_Md_reckon_49 (lv_at hl 0 rfl) ?_
  refine lv_bipush (v := (7 : Int32)) hx hb d_Md_reckon_51 (by decide) ?_
  refine lv_icmp_ge (tgt := 68) hx hb d_Md_reckon_53 (by decide) (fun h => ?_) (fun h => ?_)
  · have hf := pv_t hf h
    refine lv_iload hx hb d_Md_reckon_68 (lv_at hl 0 rfl) ?_
    refine lv_bipush (v := (11 : Int32)) hx hb d_Md_reckon_70 (by decide) ?_
    refine lv_icmp_ge (tgt := 145) hx hb d_Md_reckon_72 (by decide) (fun h => ?_) (fun h => ?_)
    · have hf := pv_t hf h
      refine lv_iload hx hb d_Md_reckon_145 (lv_at hl 0 rfl) ?_
      refine lv_bipush (v := (15 : Int32)) hx hb d_Md_reckon_147 (by decide) ?_
      refine lv_icmp_ge (tgt := 179) hx hb d_Md_reckon_149 (by decide) (fun h => ?_) (fun h => ?_)
      · have hf := pv_t hf h
        refine lv_iload hx hb d_Md_reckon_179 (lv_at hl 0 rfl) ?_
        refine lv_bipush (v := (18 : Int32)) hx hb d_Md_reckon_181 (by decide) ?_
        refine lv_icmp_ne (tgt := 222) hx hb d_Md_reckon_183 (by decide) (fun h => ?_) (fun h => ?_)
        · have hf := pv_f hf h
          refine lv_iload hx hb d_Md_reckon_222 (lv_at hl 0 rfl) ?_
          refine lv_bipush (v := (16 : Int32)) hx hb d_Md_reckon_224 (by decide) ?_
          refine lv_icmp_ne (tgt := 251) hx hb d_Md_reckon_226 (by decide) (fun h => ?_) (fun h => ?_)
          · have hf := pv_f hf h
            refine lv_iload hx hb d_Md_reckon_251 (lv_at hl 0 rfl) ?_
            refine lv_bipush (v := (15 : Int32)) hx hb d_Md_reckon_253 (by decide) ?_
            refine lv_icmp_ne (tgt := 266) hx hb d_Md_reckon_255 (by decide) (fun h => ?_) (fun h => ?_)
            · have hf := pv_f hf h
              refine lv_iload hx hb d_Md_reckon_266 (lv_at hl 0 rfl) ?_
              refine lv_bipush (v := (17 : Int32)) hx hb d_Md_reckon_268 (by decide) ?_
              refine lv_icmp_ne (tgt := 287) hx hb d_Md_reckon_270 (by decide) (fun h => ?_) (fun h => ?_)
              · have hf := pv_f hf h
                refine lv_aload_n hx hb d_Md_reckon_287 rfl (lv_at hl 5 rfl) ?_
                refine lv_iload_n hx hb d_Md_reckon_288 rfl (lv_at hl 4 rfl) ?_
                refine lv_iload hx hb d_Md_reckon_289 (lv_at hl 3 rfl) ?_
                refine lv_iload hx hb d_Md_reckon_291 (lv_at hl 2 rfl) ?_
                obtain ⟨q4, hc, hf⟩ := pv_b hf
                refine pv_callVi C hmv pv_good hP hS (As := [.int (((24 : Int32) * x1) + x2), .int q1.1, .int q2.1]) (rest := []) (by decide) (fm_0 _ _ _ _) rfl (c_Md_hold C.2.2.2.2.2.2.1 hmv hc) cv_Md_325 ⟨rfl, rfl, Nat.le_trans (Nat.le_of_ble_eq_true rfl) hRf, Nat.le_trans (Nat.le_of_ble_eq_true rfl) hRl⟩ rfl hl.1 rfl (Nat.le_of_ble_eq_true rfl) d_Md_reckon_293 ⟨Nat.zero_le _, Nat.zero_le _⟩ (fun H locs hP hS => ?_)
                obtain rfl := Option.some.inj hf
                exact hret _ _ _ _ d_Md_reckon_296 hP hS
              · have hf := pv_t hf h
                refine lv_aload_n hx hb d_Md_reckon_273 rfl (lv_at hl 5 rfl) ?_
                refine lv_iload_n hx hb d_Md_reckon_274 rfl (lv_at hl 4 rfl) ?_
                refine lv_iload hx hb d_Md_reckon_275 (lv_at hl 3 rfl) ?_
                refine lv_iload hx hb d_Md_reckon_277 (lv_at hl 2 rfl) ?_
                refine lv_iload hx hb d_Md_reckon_279 (lv_at hl 1 rfl) ?_
                obtain ⟨q5, hc, hf⟩ := pv_b hf
                refine pv_callVi C hmv pv_good hP hS (As := [.int (((24 : Int32) * x1) + x2), .int q1.1, .int q2.1, .int q3.1]) (rest := []) (by decide) (fm_0 _ _ _ _) rfl (c_Md_filter C.2.2.2.2.2.2.1 hmv hc) cv_Md_322 ⟨rfl, rfl, Nat.le_trans (Nat.le_of_ble_eq_true rfl) hRf, Nat.le_trans (Nat.le_of_ble_eq_true rfl) hRl⟩ rfl hl.1 rfl (Nat.le_of_ble_eq_true rfl) d_Md_reckon_281 ⟨Nat.zero_le _, Nat.zero_le _⟩ (fun H locs hP hS => ?_)
                refine lv_goto (tgt := 296) hx hb d_Md_reckon_284 (by decide) ?_
                obtain rfl := Option.some.inj hf
                exact hret _ _ _ _ d_Md_reckon_296 hP hS
            · have hf := pv_t hf h
              refine lv_aload_n hx hb d_Md_reckon_258 rfl (lv_at hl 5 rfl) ?_
              refine lv_iload_n hx hb d_Md_reckon_259 rfl (lv_at hl 4 rfl) ?_
              obtain ⟨q6, hc, hf⟩ := pv_b hf
              refine pv_callVi C hmv pv_good hP hS (As := [.int (((24 : Int32) * x1) + x2)]) (rest := []) (by decide) (fm_0 _ _ _ _) rfl (c_Md_noise C.2.2.2.2.2.2.1 hmv hc) cv_Md_319 ⟨rfl, rfl, Nat.le_trans (Nat.le_of_ble_eq_true rfl) hRf, Nat.le_trans (Nat.le_of_ble_eq_true rfl) hRl⟩ rfl hl.1 rfl (Nat.le_of_ble_eq_true rfl) d_Md_reckon_260 ⟨Nat.zero_le _, Nat.zero_le _⟩ (fun H locs hP hS => ?_)
              refine lv_goto (tgt := 296) hx hb d_Md_reckon_263 (by decide) ?_
              obtain rfl := Option.some.inj hf
              exact hret _ _ _ _ d_Md_reckon_296 hP hS
          · have hf := pv_t hf h
            refine lv_aload_n hx hb d_Md_reckon_229 rfl (lv_at hl 5 rfl) ?_
            refine lv_iload_n hx hb d_Md_reckon_230 rfl (lv_at hl 4 rfl) ?_
            refine lv_iload hx hb d_Md_reckon_231 (lv_at hl 3 rfl) ?_
            refine lv_iload hx hb d_Md_reckon_233 (lv_at hl 2 rfl) ?_
            refine lv_iload hx hb d_Md_reckon_235 (lv_at hl 1 rfl) ?_
            refine lv_aload_n hx hb d_Md_reckon_237 rfl (lv_at hl 5 rfl) ?_
            refine lv_iload_n hx hb d_Md_reckon_238 rfl (lv_at hl 6 rfl) ?_
            refine lv_iconst (v := (4 : Int32)) hx hb d_Md_reckon_239 (by decide) ?_
            refine lv_iload_n hx hb d_Md_reckon_240 rfl (lv_at hl 7 rfl) ?_
            refine lv_imul hx hb d_Md_reckon_241 ?_
            refine lv_iconst (v := (3 : Int32)) hx hb d_Md_reckon_242 (by decide) ?_
            refine lv_iadd hx hb d_Md_reckon_243 ?_
            obtain ⟨q7, hc, hf⟩ := pv_b hf
            refine pv_callVi C hmv pv_good hP hS (As := [.int x1, .int (((4 : Int32) * x2) + (3 : Int32))]) (rest := [.int q3.1, .int q2.1, .int q1.1, .int (((24 : Int32) * x1) + x2), .ref (a 0)]) (by decide) (fm_0 _ _ _ _) rfl (c_Md_inputOf C.2.2.2.2.2.2.1 hmv hc) cv_Md_308 ⟨rfl, rfl, Nat.le_trans (Nat.le_of_ble_eq_true rfl) hRf, Nat.le_trans (Nat.le_of_ble_eq_true rfl) hRl⟩ rfl hl.1 rfl (Nat.le_of_ble_eq_true rfl) d_Md_reckon_244 ⟨Nat.zero_le _, Nat.zero_le _⟩ (fun H locs hP hS => ?_)
            obtain ⟨q8, hc, hf⟩ := pv_b hf
            refine pv_callVi C hmv pv_good hP hS (As := [.int (((24 : Int32) * x1) + x2), .int q1.1, .int q2.1, .int q3.1, .int q7.1]) (rest := []) (by decide) (fm_0 _ _ _ _) rfl (c_Md_envelope C.2.2.2.2.2.2.1 hmv hc) cv_Md_315 ⟨rfl, rfl, Nat.le_trans (Nat.le_of_ble_eq_true rfl) hRf, Nat.le_trans (Nat.le_of_ble_eq_true rfl) hRl⟩ rfl hl.1 rfl (Nat.le_of_ble_eq_true rfl) d_Md_reckon_247 ⟨Nat.zero_le _, Nat.zero_le _⟩ (fun H locs hP hS => ?_)
            obtain rfl := Option.some.inj hf
            exact hret _ _ _ _ d_Md_reckon_250 hP hS
        · have hf := pv_t hf h
          refine lv_aload_n hx hb d_Md_reckon_186 rfl (lv_at hl 5 rfl) ?_
          refine pv_get C hP (v := .ref (a 34)) (j := 46) (by decide) (fm_0 _ _ _ _) fl_Md_117 rfl d_Md_reckon_187 ?_
          refine lv_sipush (v := (128 : Int32)) hx hb d_Md_reckon_190 (by decide) ?_
          refine lv_iload_n hx hb d_Md_reckon_193 rfl (lv_at hl 6 rfl) ?_
          refine lv_imul hx hb d_Md_reckon_194 ?_
          refine lv_aload_n hx hb d_Md_reckon_195 rfl (lv_at hl 5 rfl) ?_
          refine pv_get C hP (v := .ref (a 14)) (j := 24) (by decide) (fm_0 _ _ _ _) fl_Md_53 rfl d_Md_reckon_196 ?_
          refine lv_iload_n hx hb d_Md_reckon_199 rfl (lv_at hl 7 rfl) ?_
          obtain ⟨hg, hf⟩ := pv_g hf
          refine pv_iald C hP (t0 := 0) (by decide) (fm_14 _ _ _ _) rfl hg d_Md_reckon_200 ?_
          refine lv_iadd hx hb d_Md_reckon_201 ?_
          refine lv_aload_n hx hb d_Md_reckon_202 rfl (lv_at hl 5 rfl) ?_
          refine pv_get C hP (v := .ref (a 30)) (j := 42) (by decide) (fm_0 _ _ _ _) fl_Md_105 rfl d_Md_reckon_203 ?_
          refine lv_iload_n hx hb d_Md_reckon_206 rfl (lv_at hl 6 rfl) ?_
          obtain ⟨hg, hf⟩ := pv_g hf
          refine pv_iald C hP (t0 := 0) (by decide) (fm_30 _ _ _ _) rfl hg d_Md_reckon_207 ?_
          refine lv_aload_n hx hb d_Md_reckon_208 rfl (lv_at hl 5 rfl) ?_
          refine pv_get C hP (v := .ref (a 12)) (j := 22) (by decide) (fm_0 _ _ _ _) fl_Md_47 rfl d_Md_reckon_209 ?_
          refine lv_iconst (v := (4 : Int32)) hx hb d_Md_reckon_212 (by decide) ?_
          refine lv_iload_n hx hb d_Md_reckon_213 rfl (lv_at hl 7 rfl) ?_
          refine lv_imul hx hb d_Md_reckon_214 ?_
          refine lv_iconst (v := (1 : Int32)) hx hb d_Md_reckon_215 (by decide) ?_
          refine lv_iadd hx hb d_Md_reckon_216 ?_
          obtain ⟨hg, hf⟩ := pv_g hf
          refine pv_iald C hP (t0 := 0) (by decide) (fm_12 _ _ _ _) rfl hg d_Md_reckon_217 ?_
          obtain ⟨hg, hf⟩ := pv_g hf
          refine lv_irem hx hb d_Md_reckon_218 hg ?_
          refine lv_iadd hx hb d_Md_reckon_219 ?_
          obtain ⟨hg, hf⟩ := pv_g hf
          refine pv_iald C hP (t0 := 0) (by decide) (fm_34 _ _ _ _) rfl hg d_Md_reckon_220 ?_
          obtain rfl := Option.some.inj hf
          exact hret _ _ _ _ d_Md_reckon_221 hP hS
      · have hf := pv_f hf h
        refine lv_aload_n hx hb d_Md_reckon_152 rfl (lv_at hl 5 rfl) ?_
        refine pv_get C hP (v := .ref (a 31)) (j := 43) (by decide) (fm_0 _ _ _ _) fl_Md_108 rfl d_Md_reckon_153 ?_
        refine lv_iload_n hx hb d_Md_reckon_156 rfl (lv_at hl 4 rfl) ?_
        refine lv_aload_n hx hb d_Md_reckon_157 rfl (lv_at hl 5 rfl) ?_
        refine pv_get C hP (v := .ref (a 31)) (j := 43) (by decide) (fm_0 _ _ _ _) fl_Md_108 rfl d_Md_reckon_158 ?_
        refine lv_iload_n hx hb d_Md_reckon_161 rfl (lv_at hl 4 rfl) ?_
        obtain ⟨hg, hf⟩ := pv_g hf
        refine pv_iald C hP (t0 := 0) (by decide) (fm_31 _ _ _ _) rfl hg d_Md_reckon_162 ?_
        refine lv_iload hx hb d_Md_reckon_163 (lv_at hl 3 rfl) ?_
        refine lv_iadd hx hb d_Md_reckon_165 ?_
        obtain ⟨hg, hf⟩ := pv_g hf
        refine pv_iast C hP hS (t0 := 0) (x := ((q3.2.1 31 ((((24 : Int32) * x1) + x2)).toNatClampNeg) + q1.1)) (by decide) (fun f g => (fm_31 _ _ f g)) rfl hg d_Md_reckon_166 (fun H locs hP hS => ?_)
        refine lv_iload hx hb d_Md_reckon_167 (lv_at hl 0 rfl) ?_
        refine lv_aload_n hx hb d_Md_reckon_169 rfl (lv_at hl 5 rfl) ?_
        refine pv_get C hP (v := .ref (a 31)) (j := 43) (by decide) (fm_0 _ _ _ _) fl_Md_108 rfl d_Md_reckon_170 ?_
        refine lv_iload_n hx hb d_Md_reckon_173 rfl (lv_at hl 4 rfl) ?_
        obtain ⟨hg, hf⟩ := pv_g hf
        refine pv_iald C hP (t0 := 0) (by decide) (fm_31 _ _ _ _) rfl hg d_Md_reckon_174 ?_
        obtain ⟨q9, hc, hf⟩ := pv_b hf
        refine pv_callSi C hmv pv_good hP hS (As := [.int (q3.2.1 9 (x2).toNatClampNeg), .int ((pv_uI q3.2 31 ((((24 : Int32) * x1) + x2)).toNatClampNeg ((q3.2.1 31 ((((24 : Int32) * x1) + x2)).toNatClampNeg) + q1.1)).1 31 ((((24 : Int32) * x1) + x2)).toNatClampNeg)]) (rest := []) (c_Md_wave C.2.2.2.2.2.2.1 hmv hc) cs_Md_312 ⟨rfl, rfl, Nat.le_trans (Nat.le_of_ble_eq_true rfl) hRf, Nat.le_trans (Nat.le_of_ble_eq_true rfl) hRl⟩ rfl hl.1 rfl (Nat.le_of_ble_eq_true rfl) d_Md_reckon_175 ⟨Nat.zero_le _, Nat.zero_le _⟩ (fun H locs hP hS => ?_)
        obtain rfl := Option.some.inj hf
        exact hret _ _ _ _ d_Md_reckon_178 hP hS
    · have hf := pv_f hf h
      refine lv_iload hx hb d_Md_reckon_75 (lv_at hl 0 rfl) ?_
      refine lv_bipush (v := (7 : Int32)) hx hb d_Md_reckon_77 (by decide) ?_
      refine lv_icmp_ne (tgt := 92) hx hb d_Md_reckon_79 (by decide) (fun h => ?_) (fun h => ?_)
      · have hf := pv_f hf h
        refine lv_iload hx hb d_Md_reckon_92 (lv_at hl 0 rfl) ?_
        refine lv_bipush (v := (8 : Int32)) hx hb d_Md_reckon_94 (by decide) ?_
        refine lv_icmp_ne (tgt := 108) hx hb d_Md_reckon_96 (by decide) (fun h => ?_) (fun h => ?_)
        · have hf := pv_f hf h
          refine lv_iload hx hb d_Md_reckon_108 (lv_at hl 0 rfl) ?_
          refine lv_bipush (v := (9 : Int32)) hx hb d_Md_reckon_110 (by decide) ?_
          refine lv_icmp_ne (tgt := 134) hx hb d_Md_reckon_112 (by decide) (fun h => ?_) (fun h => ?_)
          · have hf := pv_f hf h
            refine lv_sipush (v := (512 : Int32)) hx hb d_Md_reckon_134 (by decide) ?_
            refine lv_aload_n hx hb d_Md_reckon_137 rfl (lv_at hl 5 rfl) ?_
            refine pv_get C hP (v := .ref (a 24)) (j := 36) (by decide) (fm_0 _ _ _ _) fl_Md_87 rfl d_Md_reckon_138 ?_
            refine lv_iload_n hx hb d_Md_reckon_141 rfl (lv_at hl 6 rfl) ?_
            obtain ⟨hg, hf⟩ := pv_g hf
            refine pv_iald C hP (t0 := 0) (by decide) (fm_24 _ _ _ _) rfl hg d_Md_reckon_142 ?_
            refine lv_imul hx hb d_Md_reckon_143 ?_
            obtain rfl := Option.some.inj hf
            exact hret _ _ _ _ d_Md_reckon_144 hP hS
          · have hf := pv_t hf h
            refine lv_aload_n hx hb d_Md_reckon_115 rfl (lv_at hl 5 rfl) ?_
            refine pv_get C hP (v := .ref (a 25)) (j := 37) (by decide) (fm_0 _ _ _ _) fl_Md_90 rfl d_Md_reckon_116 ?_
            refine lv_iload_n hx hb d_Md_reckon_119 rfl (lv_at hl 6 rfl) ?_
            obtain ⟨hg, hf⟩ := pv_g hf
            refine pv_zald C hP (t0 := 2) (by decide) (fm_25 _ _ _ _) rfl hg d_Md_reckon_120 ?_
            refine lv_if_eq (tgt := 130) hx hb d_Md_reckon_121 (by decide) (fun h => ?_) (fun h => ?_)
            · have hf := pv_t hf h
              refine lv_iconst (v := (0 : Int32)) hx hb d_Md_reckon_130 (by decide) ?_
              refine lv_goto (tgt := 144) hx hb d_Md_reckon_131 (by decide) ?_
              obtain rfl := Option.some.inj hf
              exact hret _ _ _ _ d_Md_reckon_144 hP hS
            · have hf := pv_f hf h
              refine lv_ldcw (v := (65536 : Int32)) hx hb C.2.2.2.1 (C.2.2.2.2.1 _ w_1373) d_Md_reckon_124 ?_
              refine lv_goto (tgt := 144) hx hb d_Md_reckon_127 (by decide) ?_
              obtain rfl := Option.some.inj hf
              exact hret _ _ _ _ d_Md_reckon_144 hP hS
        · have hf := pv_t hf h
          refine lv_aload_n hx hb d_Md_reckon_99 rfl (lv_at hl 5 rfl) ?_
          refine pv_get C hP (v := .ref (a 23)) (j := 35) (by decide) (fm_0 _ _ _ _) fl_Md_84 rfl d_Md_reckon_100 ?_
          refine lv_iload_n hx hb d_Md_reckon_103 rfl (lv_at hl 6 rfl) ?_
          obtain ⟨hg, hf⟩ := pv_g hf
          refine pv_iald C hP (t0 := 0) (by decide) (fm_23 _ _ _ _) rfl hg d_Md_reckon_104 ?_
          refine lv_goto (tgt := 144) hx hb d_Md_reckon_105 (by decide) ?_
          obtain rfl := Option.some.inj hf
          exact hret _ _ _ _ d_Md_reckon_144 hP hS
      · have hf := pv_t hf h
        refine lv_aload_n hx hb d_Md_reckon_82 rfl (lv_at hl 5 rfl) ?_
        refine pv_get C hP (v := .ref (a 21)) (j := 33) (by decide) (fm_0 _ _ _ _) fl_Md_78 rfl d_Md_reckon_83 ?_
        refine lv_iload hx hb d_Md_reckon_86 (lv_at hl 3 rfl) ?_
        obtain ⟨hg, hf⟩ := pv_g hf
        refine pv_iald C hP (t0 := 0) (by decide) (fm_21 _ _ _ _) rfl hg d_Md_reckon_88 ?_
        refine lv_goto (tgt := 144) hx hb d_Md_reckon_89 (by decide) ?_
        obtain rfl := Option.some.inj hf
        exact hret _ _ _ _ d_Md_reckon_144 hP hS
  · have hf := pv_f hf h
    refine lv_iload hx hb d_Md_reckon_56 (lv_at hl 0 rfl) ?_
    refine lv_iload hx hb d_Md_reckon_58 (lv_at hl 3 rfl) ?_
    refine lv_iload hx hb d_Md_reckon_60 (lv_at hl 2 rfl) ?_
    refine lv_iload hx hb d_Md_reckon_62 (lv_at hl 1 rfl) ?_
    obtain ⟨q10, hc, hf⟩ := pv_b hf
    refine pv_callSi C hmv pv_good hP hS (As := [.int (q3.2.1 9 (x2).toNatClampNeg), .int q1.1, .int q2.1, .int q3.1]) (rest := []) (c_Md_plain C.2.2.2.2.2.2.1 hmv hc) cs_Md_268 ⟨rfl, rfl, Nat.le_trans (Nat.le_of_ble_eq_true rfl) hRf, Nat.le_trans (Nat.le_of_ble_eq_true rfl) hRl⟩ rfl hl.1 rfl (Nat.le_of_ble_eq_true rfl) d_Md_reckon_64 ⟨Nat.zero_le _, Nat.zero_le _⟩ (fun H locs hP hS => ?_)
    obtain rfl := Option.some.inj hf
    exact hret _ _ _ _ d_Md_reckon_67 hP hS
def f_Md_reckon (σ : pv_S) (x1 : Int32) (x2 : Int32) : Option (Int32 × pv_S) := f_Md_reckon_0 σ x1 x2
def rm_Md_reckon : Room := { frames := 2, cells := 0, slots := 0, locals := 46 }
theorem c_Md_reckon {l : Launch} {D : va_G} {q : Nat → ClassId} {a : Nat → Nat} {A : Nat → Prop} (hD : pv_D 36 a A) (hmv : pv_mv A (pv_ZM)) {σ : pv_S} {x1 : Int32} {x2 : Int32} {out : (Int32 × pv_S)} (hf : f_Md_reckon σ x1 x2 = some out) : pv_Mi l y_Md_reckon (Cond.code y_Md_reckon prog_9_method_58_code 8 (some .int) :: pv_TB) rm_Md_reckon D pv_cl (pv_ty q) 36 a (pv_FM q a) A (pv_ZM) [.ref (a 0), .int x1, .int x2] σ out :=
  pv_ofI (by decide) (Nat.le_of_ble_eq_true rfl) hD (fun p e s m args below meth c Q ls C hret hl hP => s_Md_reckon_0 C hmv (Nat.le_refl _) (Nat.le_refl _) hret hl hP va_S.rf hf)
theorem d_Md_sample_0 : decode prog_9_method_59_code 0 = .ok (.iconst 0, 1) := by decide +kernel
theorem d_Md_sample_1 : decode prog_9_method_59_code 1 = .ok (.istore_n 2, 1) := by decide +kernel
theorem d_Md_sample_2 : decode prog_9_method_59_code 2 = .ok (.iload_n 2, 1) := by decide +kernel
theorem d_Md_sample_3 : decode prog_9_method_59_code 3 = .ok (.aload_n 0, 1) := by decide +kernel
theorem d_Md_sample_4 : decode prog_9_method_59_code 4 = .ok (.getfield 253, 3) := by decide +kernel
theorem d_Md_sample_7 : decode prog_9_method_59_code 7 = .ok (.if_icmp .ge 33, 3) := by decide +kernel
theorem d_Md_sample_10 : decode prog_9_method_59_code 10 = .ok (.aload_n 0, 1) := by decide +kernel
theorem d_Md_sample_11 : decode prog_9_method_59_code 11 = .ok (.getfield 50, 3) := by decide +kernel
theorem d_Md_sample_14 : decode prog_9_method_59_code 14 = .ok (.iload_n 2, 1) := by decide +kernel
theorem d_Md_sample_15 : decode prog_9_method_59_code 15 = .ok (.iaload, 1) := by decide +kernel
theorem d_Md_sample_16 : decode prog_9_method_59_code 16 = .ok (.istore_n 3, 1) := by decide +kernel
theorem d_Md_sample_17 : decode prog_9_method_59_code 17 = .ok (.aload_n 0, 1) := by decide +kernel
theorem d_Md_sample_18 : decode prog_9_method_59_code 18 = .ok (.getfield 114, 3) := by decide +kernel
theorem d_Md_sample_21 : decode prog_9_method_59_code 21 = .ok (.bipush 24, 2) := by decide +kernel
theorem d_Md_sample_23 : decode prog_9_method_59_code 23 = .ok (.iload_n 1, 1) := by decide +kernel
theorem d_Md_sample_24 : decode prog_9_method_59_code 24 = .ok (.imul, 1) := by decide +kernel
theorem d_Md_sample_25 : decode prog_9_method_59_code 25 = .ok (.iload_n 3, 1) := by decide +kernel
theorem d_Md_sample_26 : decode prog_9_method_59_code 26 = .ok (.iadd, 1) := by decide +kernel
theorem d_Md_sample_27 : decode prog_9_method_59_code 27 = .ok (.aload_n 0, 1) := by decide +kernel
theorem d_Md_sample_28 : decode prog_9_method_59_code 28 = .ok (.iload_n 1, 1) := by decide +kernel
theorem d_Md_sample_29 : decode prog_9_method_59_code 29 = .ok (.iload_n 3, 1) := by decide +kernel
theorem d_Md_sample_30 : decode prog_9_method_59_code 30 = .ok (.invokevirtual 329, 3) := by decide +kernel
theorem d_Md_sample_33 : decode prog_9_method_59_code 33 = .ok (.iastore, 1) := by decide +kernel
theorem d_Md_sample_34 : decode prog_9_method_59_code 34 = .ok (.iinc 2 1, 3) := by decide +kernel
theorem d_Md_sample_37 : decode prog_9_method_59_code 37 = .ok (.goto (-35), 3) := by decide +kernel
theorem d_Md_sample_40 : decode prog_9_method_59_code 40 = .ok (.iconst 0, 1) := by decide +kernel
theorem d_Md_sample_41 : decode prog_9_method_59_code 41 = .ok (.istore_n 2, 1) := by decide +kernel
theorem d_Md_sample_42 : decode prog_9_method_59_code 42 = .ok (.iload_n 2, 1) := by decide +kernel
theorem d_Md_sample_43 : decode prog_9_method_59_code 43 = .ok (.aload_n 0, 1) := by decide +kernel
theorem d_Md_sample_44 : decode prog_9_method_59_code 44 = .ok (.getfield 253, 3) := by decide +kernel
theorem d_Md_sample_47 : decode prog_9_method_59_code 47 = .ok (.if_icmp .ge 63, 3) := by decide +kernel
theorem d_Md_sample_50 : decode prog_9_method_59_code 50 = .ok (.aload_n 0, 1) := by decide +kernel
theorem d_Md_sample_51 : decode prog_9_method_59_code 51 = .ok (.getfield 38, 3) := by decide +kernel
theorem d_Md_sample_54 : decode prog_9_method_59_code 54 = .ok (.iload_n 2, 1) := by decide +kernel
theorem d_Md_sample_55 : decode prog_9_method_59_code 55 = .ok (.iaload, 1) := by decide +kernel
theorem d_Md_sample_56 : decode prog_9_method_59_code 56 = .ok (.bipush 18, 2) := by decide +kernel
theorem d_Md_sample_58 : decode prog_9_method_59_code 58 = .ok (.if_icmp .ne 46, 3) := by decide +kernel
theorem d_Md_sample_61 : decode prog_9_method_59_code 61 = .ok (.aload_n 0, 1) := by decide +kernel
theorem d_Md_sample_62 : decode prog_9_method_59_code 62 = .ok (.getfield 117, 3) := by decide +kernel
theorem d_Md_sample_65 : decode prog_9_method_59_code 65 = .ok (.sipush 128, 3) := by decide +kernel
theorem d_Md_sample_68 : decode prog_9_method_59_code 68 = .ok (.iload_n 1, 1) := by decide +kernel
theorem d_Md_sample_69 : decode prog_9_method_59_code 69 = .ok (.imul, 1) := by decide +kernel
theorem d_Md_sample_70 : decode prog_9_method_59_code 70 = .ok (.aload_n 0, 1) := by decide +kernel
theorem d_Md_sample_71 : decode prog_9_method_59_code 71 = .ok (.getfield 53, 3) := by decide +kernel
theorem d_Md_sample_74 : decode prog_9_method_59_code 74 = .ok (.iload_n 2, 1) := by decide +kernel
theorem d_Md_sample_75 : decode prog_9_method_59_code 75 = .ok (.iaload, 1) := by decide +kernel
theorem d_Md_sample_76 : decode prog_9_method_59_code 76 = .ok (.iadd, 1) := by decide +kernel
theorem d_Md_sample_77 : decode prog_9_method_59_code 77 = .ok (.aload_n 0, 1) := by decide +kernel
theorem d_Md_sample_78 : decode prog_9_method_59_code 78 = .ok (.getfield 105, 3) := by decide +kernel
theorem d_Md_sample_81 : decode prog_9_method_59_code 81 = .ok (.iload_n 1, 1) := by decide +kernel
theorem d_Md_sample_82 : decode prog_9_method_59_code 82 = .ok (.iaload, 1) := by decide +kernel
theorem d_Md_sample_83 : decode prog_9_method_59_code 83 = .ok (.aload_n 0, 1) := by decide +kernel
theorem d_Md_sample_84 : decode prog_9_method_59_code 84 = .ok (.getfield 47, 3) := by decide +kernel
theorem d_Md_sample_87 : decode prog_9_method_59_code 87 = .ok (.iconst 4, 1) := by decide +kernel
theorem d_Md_sample_88 : decode prog_9_method_59_code 88 = .ok (.iload_n 2, 1) := by decide +kernel
theorem d_Md_sample_89 : decode prog_9_method_59_code 89 = .ok (.imul, 1) := by decide +kernel
theorem d_Md_sample_90 : decode prog_9_method_59_code 90 = .ok (.iconst 1, 1) := by decide +kernel
theorem d_Md_sample_91 : decode prog_9_method_59_code 91 = .ok (.iadd, 1) := by decide +kernel
theorem d_Md_sample_92 : decode prog_9_method_59_code 92 = .ok (.iaload, 1) := by decide +kernel
theorem d_Md_sample_93 : decode prog_9_method_59_code 93 = .ok (.irem, 1) := by decide +kernel
theorem d_Md_sample_94 : decode prog_9_method_59_code 94 = .ok (.iadd, 1) := by decide +kernel
theorem d_Md_sample_95 : decode prog_9_method_59_code 95 = .ok (.aload_n 0, 1) := by decide +kernel
theorem d_Md_sample_96 : decode prog_9_method_59_code 96 = .ok (.iload_n 1, 1) := by decide +kernel
theorem d_Md_sample_97 : decode prog_9_method_59_code 97 = .ok (.iconst 4, 1) := by decide +kernel
theorem d_Md_sample_98 : decode prog_9_method_59_code 98 = .ok (.iload_n 2, 1) := by decide +kernel
theorem d_Md_sample_99 : decode prog_9_method_59_code 99 = .ok (.imul, 1) := by decide +kernel
theorem d_Md_sample_100 : decode prog_9_method_59_code 100 = .ok (.invokevirtual 308, 3) := by decide +kernel
theorem d_Md_sample_103 : decode prog_9_method_59_code 103 = .ok (.iastore, 1) := by decide +kernel
theorem d_Md_sample_104 : decode prog_9_method_59_code 104 = .ok (.iinc 2 1, 3) := by decide +kernel
theorem d_Md_sample_107 : decode prog_9_method_59_code 107 = .ok (.goto (-65), 3) := by decide +kernel
theorem d_Md_sample_110 : decode prog_9_method_59_code 110 = .ok (.aload_n 0, 1) := by decide +kernel
theorem d_Md_sample_111 : decode prog_9_method_59_code 111 = .ok (.getfield 105, 3) := by decide +kernel
theorem d_Md_sample_114 : decode prog_9_method_59_code 114 = .ok (.iload_n 1, 1) := by decide +kernel
theorem d_Md_sample_115 : decode prog_9_method_59_code 115 = .ok (.dup2, 1) := by decide +kernel
theorem d_Md_sample_116 : decode prog_9_method_59_code 116 = .ok (.iaload, 1) := by decide +kernel
theorem d_Md_sample_117 : decode prog_9_method_59_code 117 = .ok (.iconst 1, 1) := by decide +kernel
theorem d_Md_sample_118 : decode prog_9_method_59_code 118 = .ok (.iadd, 1) := by decide +kernel
theorem d_Md_sample_119 : decode prog_9_method_59_code 119 = .ok (.iastore, 1) := by decide +kernel
theorem d_Md_sample_120 : decode prog_9_method_59_code 120 = .ok (.aload_n 0, 1) := by decide +kernel
theorem d_Md_sample_121 : decode prog_9_method_59_code 121 = .ok (.getfield 114, 3) := by decide +kernel
theorem d_Md_sample_124 : decode prog_9_method_59_code 124 = .ok (.bipush 24, 2) := by decide +kernel
theorem d_Md_sample_126 : decode prog_9_method_59_code 126 = .ok (.iload_n 1, 1) := by decide +kernel
theorem d_Md_sample_127 : decode prog_9_method_59_code 127 = .ok (.imul, 1) := by decide +kernel
theorem d_Md_sample_128 : decode prog_9_method_59_code 128 = .ok (.aload_n 0, 1) := by decide +kernel
theorem d_Md_sample_129 : decode prog_9_method_59_code 129 = .ok (.getfield 253, 3) := by decide +kernel
theorem d_Md_sample_132 : decode prog_9_method_59_code 132 = .ok (.iadd, 1) := by decide +kernel
theorem d_Md_sample_133 : decode prog_9_method_59_code 133 = .ok (.iconst 1, 1) := by decide +kernel
theorem d_Md_sample_134 : decode prog_9_method_59_code 134 = .ok (.isub, 1) := by decide +kernel
theorem d_Md_sample_135 : decode prog_9_method_59_code 135 = .ok (.iaload, 1) := by decide +kernel
theorem d_Md_sample_136 : decode prog_9_method_59_code 136 = .ok (.istore_n 2, 1) := by decide +kernel
theorem d_Md_sample_137 : decode prog_9_method_59_code 137 = .ok (.aload_n 0, 1) := by decide +kernel
theorem d_Md_sample_138 : decode prog_9_method_59_code 138 = .ok (.getfield 96, 3) := by decide +kernel
theorem d_Md_sample_141 : decode prog_9_method_59_code 141 = .ok (.iload_n 1, 1) := by decide +kernel
theorem d_Md_sample_142 : decode prog_9_method_59_code 142 = .ok (.aload_n 0, 1) := by decide +kernel
theorem d_Md_sample_143 : decode prog_9_method_59_code 143 = .ok (.getfield 90, 3) := by decide +kernel
theorem d_Md_sample_146 : decode prog_9_method_59_code 146 = .ok (.iload_n 1, 1) := by decide +kernel
theorem d_Md_sample_147 : decode prog_9_method_59_code 147 = .ok (.baload, 1) := by decide +kernel
theorem d_Md_sample_148 : decode prog_9_method_59_code 148 = .ok (.ifCond .ne 7, 3) := by decide +kernel
theorem d_Md_sample_151 : decode prog_9_method_59_code 151 = .ok (.iload_n 2, 1) := by decide +kernel
theorem d_Md_sample_152 : decode prog_9_method_59_code 152 = .ok (.ifCond .eq 7, 3) := by decide +kernel
theorem d_Md_sample_155 : decode prog_9_method_59_code 155 = .ok (.iconst 0, 1) := by decide +kernel
theorem d_Md_sample_156 : decode prog_9_method_59_code 156 = .ok (.goto 11, 3) := by decide +kernel
theorem d_Md_sample_159 : decode prog_9_method_59_code 159 = .ok (.aload_n 0, 1) := by decide +kernel
theorem d_Md_sample_160 : decode prog_9_method_59_code 160 = .ok (.getfield 96, 3) := by decide +kernel
theorem d_Md_sample_163 : decode prog_9_method_59_code 163 = .ok (.iload_n 1, 1) := by decide +kernel
theorem d_Md_sample_164 : decode prog_9_method_59_code 164 = .ok (.iaload, 1) := by decide +kernel
theorem d_Md_sample_165 : decode prog_9_method_59_code 165 = .ok (.iconst 1, 1) := by decide +kernel
theorem d_Md_sample_166 : decode prog_9_method_59_code 166 = .ok (.iadd, 1) := by decide +kernel
theorem d_Md_sample_167 : decode prog_9_method_59_code 167 = .ok (.iastore, 1) := by decide +kernel
theorem d_Md_sample_168 : decode prog_9_method_59_code 168 = .ok (.aload_n 0, 1) := by decide +kernel
theorem d_Md_sample_169 : decode prog_9_method_59_code 169 = .ok (.getfield 96, 3) := by decide +kernel
theorem d_Md_sample_172 : decode prog_9_method_59_code 172 = .ok (.iload_n 1, 1) := by decide +kernel
theorem d_Md_sample_173 : decode prog_9_method_59_code 173 = .ok (.iaload, 1) := by decide +kernel
theorem d_Md_sample_174 : decode prog_9_method_59_code 174 = .ok (.bipush 16, 2) := by decide +kernel
theorem d_Md_sample_176 : decode prog_9_method_59_code 176 = .ok (.if_icmp .ne 29, 3) := by decide +kernel
theorem d_Md_sample_179 : decode prog_9_method_59_code 179 = .ok (.aload_n 0, 1) := by decide +kernel
theorem d_Md_sample_180 : decode prog_9_method_59_code 180 = .ok (.getfield 93, 3) := by decide +kernel
theorem d_Md_sample_183 : decode prog_9_method_59_code 183 = .ok (.iload_n 1, 1) := by decide +kernel
theorem d_Md_sample_184 : decode prog_9_method_59_code 184 = .ok (.baload, 1) := by decide +kernel
theorem d_Md_sample_185 : decode prog_9_method_59_code 185 = .ok (.ifCond .ne 20, 3) := by decide +kernel
theorem d_Md_sample_188 : decode prog_9_method_59_code 188 = .ok (.aload_n 0, 1) := by decide +kernel
theorem d_Md_sample_189 : decode prog_9_method_59_code 189 = .ok (.getfield 93, 3) := by decide +kernel
theorem d_Md_sample_192 : decode prog_9_method_59_code 192 = .ok (.iload_n 1, 1) := by decide +kernel
theorem d_Md_sample_193 : decode prog_9_method_59_code 193 = .ok (.iconst 1, 1) := by decide +kernel
theorem d_Md_sample_194 : decode prog_9_method_59_code 194 = .ok (.bastore, 1) := by decide +kernel
theorem d_Md_sample_195 : decode prog_9_method_59_code 195 = .ok (.aload_n 0, 1) := by decide +kernel
theorem d_Md_sample_196 : decode prog_9_method_59_code 196 = .ok (.getfield 99, 3) := by decide +kernel
theorem d_Md_sample_199 : decode prog_9_method_59_code 199 = .ok (.iload_n 1, 1) := by decide +kernel
theorem d_Md_sample_200 : decode prog_9_method_59_code 200 = .ok (.aload_n 0, 1) := by decide +kernel
theorem d_Md_sample_201 : decode prog_9_method_59_code 201 = .ok (.getfield 332, 3) := by decide +kernel
theorem d_Md_sample_204 : decode prog_9_method_59_code 204 = .ok (.iastore, 1) := by decide +kernel
theorem d_Md_sample_205 : decode prog_9_method_59_code 205 = .ok (.iload_n 2, 1) := by decide +kernel
theorem d_Md_sample_206 : decode prog_9_method_59_code 206 = .ok (.ireturn, 1) := by decide +kernel
def f_Md_sample_167 (σ : pv_S) (x1 : Int32) (x2 : Int32) (s0 : Int32) (s1 : Int32) : Option (Int32 × pv_S) :=
  (if pv_in s1 4 = true then
(if pv_in x1 4 = true then
(if ((pv_uI σ 27 (s1).toNatClampNeg s0).1 27 (x1).toNatClampNeg) = (16 : Int32) then
  (if pv_in x1 4 = true then
(if ((pv_uI σ 27 (s1).toNatClampNeg s0).1 26 (x1).toNatClampNeg) = 0 then
  (if pv_in x1 4 = true then
(if pv_in x1 4 = true then
some (x2, (pv_uI (pv_uI (pv_uI σ 27 (s1).toNatClampNeg s0) 26 (x1).toNatClampNeg (vp_nar .boolean (1 : Int32))) 28 (x1).toNatClampNeg ((pv_uI (pv_uI σ 27 (s1).toNatClampNeg s0) 26 (x1).toNatClampNeg (vp_nar .boolean (1 : Int32))).1 0 48)))
  else none)
  else none)
  else
  some (x2, (pv_uI σ 27 (s1).toNatClampNeg s0)))
  else none)
  else
  some (x2, (pv_uI σ 27 (s1).toNatClampNeg s0)))
  else none)
  else none)
set_option maxHeartbeats 4000000 in
set_option maxRecDepth 100000 in
theorem s_Md_sample_167 {p : Program} {l : Launch} {e : Env} {R : Room} {s : State} {m : MethodId} {args : Array Value} {below : List Frame} {meth : Method} {c : Code} {Q : State → Prop} {D : va_G} {q : Nat → ClassId} {a : Nat → Nat} {A : Nat → Prop} (C : pv_C p s m args c prog_9_method_59_code 4 "PatchVoicesModel" pv_TB D pv_cl (pv_ty q) 36 a A (pv_ZM)) (hmv : pv_mv A (pv_ZM)) (hRf : 3 ≤ R.frames) (hRl : 73 ≤ R.locals) {out : (Int32 × pv_S)} (hret : pv_Ri p l e R s m args below meth c prog_9_method_59_code D pv_cl 36 a (pv_FM q a) A Q out) {σ : pv_S} {x1 : Int32} {x2 : Int32} {s0 : Int32} {s1 : Int32} {H : Heap} {locs : List Loc} {ls : Array Slot} (hl : lv_has ls 4 [(0, .ref (a 0)), (1, .int x1), (2, .int x2)]) (hP : pv_W D pv_cl 36 a (pv_FM q a) σ H) (hS : va_S A s.heap H locs) (hf : f_Md_sample_167 σ x1 x2 s0 s1 = some out) : W p l e R s m args below meth c H locs 0 0 Q (F0 m 167 ls [.int s0, .int s1, .ref (a 27)]) := by
  unfold f_Md_sample_167 at hf
  have hx := C.1
  have hb := C.2.1
  obtain ⟨hg, hf⟩ := pv_g hf
  refine pv_iast C hP hS (t0 := 0) (x := s0) (by decide) (fun f g => (fm_27 _ _ f g)) rfl hg d_Md_sample_167 (fun H locs hP hS => ?_)
  refine lv_aload_n hx hb d_Md_sample_168 rfl (lv_at hl 0 rfl) ?_
  refine pv_get C hP (v := .ref (a 27)) (j := 39) (by decide) (fm_0 _ _ _ _) fl_Md_96 rfl d_Md_sample_169 ?_
  refine lv_iload_n hx hb d_Md_sample_172 rfl (lv_at hl 1 rfl) ?_
  obtain ⟨hg, hf⟩ := pv_g hf
  refine pv_iald C hP (t0 := 0) (by decide) (fm_27 _ _ _ _) rfl hg d_Md_sample_173 ?_
  refine lv_bipush (v := (16 : Int32)) hx hb d_Md_sample_174 (by decide) ?_
  refine lv_icmp_ne (tgt := 205) hx hb d_Md_sample_176 (by decide) (fun h => ?_) (fun h => ?_)
  · have hf := pv_f hf h
    refine lv_iload_n hx hb d_Md_sample_205 rfl (lv_at hl 2 rfl) ?_
    obtain rfl := Option.some.inj hf
    exact hret _ _ _ _ d_Md_sample_206 hP hS
  · have hf := pv_t hf h
    refine lv_aload_n hx hb d_Md_sample_179 rfl (lv_at hl 0 rfl) ?_
    refine pv_get C hP (v := .ref (a 26)) (j := 38) (by decide) (fm_0 _ _ _ _) fl_Md_93 rfl d_Md_sample_180 ?_
    refine lv_iload_n hx hb d_Md_sample_183 rfl (lv_at hl 1 rfl) ?_
    obtain ⟨hg, hf⟩ := pv_g hf
    refine pv_zald C hP (t0 := 2) (by decide) (fm_26 _ _ _ _) rfl hg d_Md_sample_184 ?_
    refine lv_if_ne (tgt := 205) hx hb d_Md_sample_185 (by decide) (fun h => ?_) (fun h => ?_)
    · have hf := pv_f hf h
      refine lv_iload_n hx hb d_Md_sample_205 rfl (lv_at hl 2 rfl) ?_
      obtain rfl := Option.some.inj hf
      exact hret _ _ _ _ d_Md_sample_206 hP hS
    · have hf := pv_t hf h
      refine lv_aload_n hx hb d_Md_sample_188 rfl (lv_at hl 0 rfl) ?_
      refine pv_get C hP (v := .ref (a 26)) (j := 38) (by decide) (fm_0 _ _ _ _) fl_Md_93 rfl d_Md_sample_189 ?_
      refine lv_iload_n hx hb d_Md_sample_192 rfl (lv_at hl 1 rfl) ?_
      refine lv_iconst (v := (1 : Int32)) hx hb d_Md_sample_193 (by decide) ?_
      obtain ⟨hg, hf⟩ := pv_g hf
      refine pv_zast C hP hS (t0 := 2) (x := (1 : Int32)) (by decide) (fun f g => (fm_26 _ _ f g)) rfl hg d_Md_sample_194 (fun H locs hP hS => ?_)
      refine lv_aload_n hx hb d_Md_sample_195 rfl (lv_at hl 0 rfl) ?_
      refine pv_get C hP (v := .ref (a 28)) (j := 40) (by decide) (fm_0 _ _ _ _) fl_Md_99 rfl d_Md_sample_196 ?_
      refine lv_iload_n hx hb d_Md_sample_199 rfl (lv_at hl 1 rfl) ?_
      refine lv_aload_n hx hb d_Md_sample_200 rfl (lv_at hl 0 rfl) ?_
      refine pv_get C hP (v := .int ((pv_uI (pv_uI σ 27 (s1).toNatClampNeg s0) 26 (x1).toNatClampNeg (vp_nar .boolean (1 : Int32))).1 0 48)) (j := 48) (by decide) (fm_0 _ _ _ _) fl_Md_332 rfl d_Md_sample_201 ?_
      obtain ⟨hg, hf⟩ := pv_g hf
      refine pv_iast C hP hS (t0 := 0) (x := ((pv_uI (pv_uI σ 27 (s1).toNatClampNeg s0) 26 (x1).toNatClampNeg (vp_nar .boolean (1 : Int32))).1 0 48)) (by decide) (fun f g => (fm_28 _ _ f g)) rfl hg d_Md_sample_204 (fun H locs hP hS => ?_)
      refine lv_iload_n hx hb d_Md_sample_205 rfl (lv_at hl 2 rfl) ?_
      obtain rfl := Option.some.inj hf
      exact hret _ _ _ _ d_Md_sample_206 hP hS
def f_Md_sample_155 (σ : pv_S) (x1 : Int32) (x2 : Int32) (s0 : Int32) : Option (Int32 × pv_S) :=
  f_Md_sample_167 σ x1 x2 (0 : Int32) s0
set_option maxHeartbeats 4000000 in
set_option maxRecDepth 100000 in
theorem s_Md_sample_155 {p : Program} {l : Launch} {e : Env} {R : Room} {s : State} {m : MethodId} {args : Array Value} {below : List Frame} {meth : Method} {c : Code} {Q : State → Prop} {D : va_G} {q : Nat → ClassId} {a : Nat → Nat} {A : Nat → Prop} (C : pv_C p s m args c prog_9_method_59_code 4 "PatchVoicesModel" pv_TB D pv_cl (pv_ty q) 36 a A (pv_ZM)) (hmv : pv_mv A (pv_ZM)) (hRf : 3 ≤ R.frames) (hRl : 73 ≤ R.locals) {out : (Int32 × pv_S)} (hret : pv_Ri p l e R s m args below meth c prog_9_method_59_code D pv_cl 36 a (pv_FM q a) A Q out) {σ : pv_S} {x1 : Int32} {x2 : Int32} {s0 : Int32} {H : Heap} {locs : List Loc} {ls : Array Slot} (hl : lv_has ls 4 [(0, .ref (a 0)), (1, .int x1), (2, .int x2)]) (hP : pv_W D pv_cl 36 a (pv_FM q a) σ H) (hS : va_S A s.heap H locs) (hf : f_Md_sample_155 σ x1 x2 s0 = some out) : W p l e R s m args below meth c H locs 0 0 Q (F0 m 155 ls [.int s0, .ref (a 27)]) := by
  unfold f_Md_sample_155 at hf
  have hx := C.1
  have hb := C.2.1
  refine lv_iconst (v := (0 : Int32)) hx hb d_Md_sample_155 (by decide) ?_
  refine lv_goto (tgt := 167) hx hb d_Md_sample_156 (by decide) ?_
  exact s_Md_sample_167 C hmv hRf hRl hret (lv_sub hl [0, 1, 2] rfl) hP hS hf
def f_Md_sample_104 (k_42 : pv_S → Int32 → Int32 → Option (Int32 × pv_S)) (σ : pv_S) (x1 : Int32) (x2 : Int32) : Option (Int32 × pv_S) :=
  k_42 σ x1 (x2 + (1 : Int32))
set_option maxHeartbeats 4000000 in
set_option maxRecDepth 100000 in
theorem s_Md_sample_104 {p : Program} {l : Launch} {e : Env} {R : Room} {s : State} {m : MethodId} {args : Array Value} {below : List Frame} {meth : Method} {c : Code} {Q : State → Prop} {D : va_G} {q : Nat → ClassId} {a : Nat → Nat} {A : Nat → Prop} (C : pv_C p s m args c prog_9_method_59_code 4 "PatchVoicesModel" pv_TB D pv_cl (pv_ty q) 36 a A (pv_ZM)) (hmv : pv_mv A (pv_ZM)) (hRf : 3 ≤ R.frames) (hRl : 73 ≤ R.locals) {out : (Int32 × pv_S)} (hret : pv_Ri p l e R s m args below meth c prog_9_method_59_code D pv_cl 36 a (pv_FM q a) A Q out) {k_42 : pv_S → Int32 → Int32 → Option (Int32 × pv_S)} (hk_42 : ∀ (σ : pv_S) (x1 : Int32) (x2 : Int32) (H : Heap) (locs : List Loc) (ls : Array Slot), k_42 σ x1 x2 = some out → lv_has ls 4 [(0, .ref (a 0)), (1, .int x1), (2, .int x2)] → pv_W D pv_cl 36 a (pv_FM q a) σ H → va_S A s.heap H locs → W p l e R s m args below meth c H locs 0 0 Q (F0 m 42 ls [])) {σ : pv_S} {x1 : Int32} {x2 : Int32} {H : Heap} {locs : List Loc} {ls : Array Slot} (hl : lv_has ls 4 [(0, .ref (a 0)), (1, .int x1), (2, .int x2)]) (hP : pv_W D pv_cl 36 a (pv_FM q a) σ H) (hS : va_S A s.heap H locs) (hf : f_Md_sample_104 k_42 σ x1 x2 = some out) : W p l e R s m args below meth c H locs 0 0 Q (F0 m 104 ls []) := by
  unfold f_Md_sample_104 at hf
  have hx := C.1
  have hb := C.2.1
  refine lv_iinc (k := 2) (v := (x2 + (1 : Int32))) (lv' := [(2, .int (x2 + (1 : Int32))), (0, .ref (a 0)), (1, .int x1)]) hx hb d_Md_sample_104 hl rfl (pv_inc (by decide)) (by decide) rfl (fun ls hl => ?_)
  refine lv_goto (tgt := 42) hx hb d_Md_sample_107 (by decide) ?_
  exact hk_42 _ _ _ _ _ _ hf (lv_sub hl [1, 2, 0] rfl) hP hS
def f_Md_sample_42b (k_42 : pv_S → Int32 → Int32 → Option (Int32 × pv_S)) (σ : pv_S) (x1 : Int32) (x2 : Int32) : Option (Int32 × pv_S) :=
  (if (σ.1 0 18) ≤ x2 then
  (if pv_in x1 4 = true then
(if pv_in x1 4 = true then
(if pv_in ((((24 : Int32) * x1) + ((pv_uI σ 30 (x1).toNatClampNeg ((σ.1 30 (x1).toNatClampNeg) + (1 : Int32))).1 0 18)) - (1 : Int32)) 96 = true then
(if pv_in x1 4 = true then
(if ((pv_uI σ 30 (x1).toNatClampNeg ((σ.1 30 (x1).toNatClampNeg) + (1 : Int32))).1 25 (x1).toNatClampNeg) = 0 then
  (if ((pv_uI σ 30 (x1).toNatClampNeg ((σ.1 30 (x1).toNatClampNeg) + (1 : Int32))).1 33 (((((24 : Int32) * x1) + ((pv_uI σ 30 (x1).toNatClampNeg ((σ.1 30 (x1).toNatClampNeg) + (1 : Int32))).1 0 18)) - (1 : Int32))).toNatClampNeg) = 0 then
  (if pv_in x1 4 = true then
f_Md_sample_167 (pv_uI σ 30 (x1).toNatClampNeg ((σ.1 30 (x1).toNatClampNeg) + (1 : Int32))) x1 ((pv_uI σ 30 (x1).toNatClampNeg ((σ.1 30 (x1).toNatClampNeg) + (1 : Int32))).1 33 (((((24 : Int32) * x1) + ((pv_uI σ 30 (x1).toNatClampNeg ((σ.1 30 (x1).toNatClampNeg) + (1 : Int32))).1 0 18)) - (1 : Int32))).toNatClampNeg) (((pv_uI σ 30 (x1).toNatClampNeg ((σ.1 30 (x1).toNatClampNeg) + (1 : Int32))).1 27 (x1).toNatClampNeg) + (1 : Int32)) x1
  else none)
  else
  f_Md_sample_155 (pv_uI σ 30 (x1).toNatClampNeg ((σ.1 30 (x1).toNatClampNeg) + (1 : Int32))) x1 ((pv_uI σ 30 (x1).toNatClampNeg ((σ.1 30 (x1).toNatClampNeg) + (1 : Int32))).1 33 (((((24 : Int32) * x1) + ((pv_uI σ 30 (x1).toNatClampNeg ((σ.1 30 (x1).toNatClampNeg) + (1 : Int32))).1 0 18)) - (1 : Int32))).toNatClampNeg) x1)
  else
  f_Md_sample_155 (pv_uI σ 30 (x1).toNatClampNeg ((σ.1 30 (x1).toNatClampNeg) + (1 : Int32))) x1 ((pv_uI σ 30 (x1).toNatClampNeg ((σ.1 30 (x1).toNatClampNeg) + (1 : Int32))).1 33 (((((24 : Int32) * x1) + ((pv_uI σ 30 (x1).toNatClampNeg ((σ.1 30 (x1).toNatClampNeg) + (1 : Int32))).1 0 18)) - (1 : Int32))).toNatClampNeg) x1)
  else none)
  else none)
  else none)
  else none)
  else
  (if pv_in x2 24 = true then
(if (σ.1 9 (x2).toNatClampNeg) = (18 : Int32) then
  (if pv_in x2 24 = true then
(if pv_in x1 4 = true then
(if pv_in (((4 : Int32) * x2) + (1 : Int32)) 96 = true then
(if ¬ (σ.1 12 ((((4 : Int32) * x2) + (1 : Int32))).toNatClampNeg) = 0 then
((f_Md_inputOf σ x1 ((4 : Int32) * x2)).bind fun q2 =>
(if pv_in ((((128 : Int32) * x1) + (σ.1 14 (x2).toNatClampNeg)) + ((σ.1 30 (x1).toNatClampNeg) - (σ.1 30 (x1).toNatClampNeg) / (σ.1 12 ((((4 : Int32) * x2) + (1 : Int32))).toNatClampNeg) * (σ.1 12 ((((4 : Int32) * x2) + (1 : Int32))).toNatClampNeg))) 512 = true then
f_Md_sample_104 k_42 (pv_uI q2.2 34 (((((128 : Int32) * x1) + (σ.1 14 (x2).toNatClampNeg)) + ((σ.1 30 (x1).toNatClampNeg) - (σ.1 30 (x1).toNatClampNeg) / (σ.1 12 ((((4 : Int32) * x2) + (1 : Int32))).toNatClampNeg) * (σ.1 12 ((((4 : Int32) * x2) + (1 : Int32))).toNatClampNeg)))).toNatClampNeg q2.1) x1 x2
  else none))
  else none)
  else none)
  else none)
  else none)
  else
  f_Md_sample_104 k_42 σ x1 x2)
  else none))
set_option maxHeartbeats 4000000 in
set_option maxRecDepth 100000 in
theorem s_Md_sample_42b {p : Program} {l : Launch} {e : Env} {R : Room} {s : State} {m : MethodId} {args : Array Value} {below : List Frame} {meth : Method} {c : Code} {Q : State → Prop} {D : va_G} {q : Nat → ClassId} {a : Nat → Nat} {A : Nat → Prop} (C : pv_C p s m args c prog_9_method_59_code 4 "PatchVoicesModel" pv_TB D pv_cl (pv_ty q) 36 a A (pv_ZM)) (hmv : pv_mv A (pv_ZM)) (hRf : 3 ≤ R.frames) (hRl : 73 ≤ R.locals) {out : (Int32 × pv_S)} (hret : pv_Ri p l e R s m args below meth c prog_9_method_59_code D pv_cl 36 a (pv_FM q a) A Q out) {k_42 : pv_S → Int32 → Int32 → Option (Int32 × pv_S)} (hk_42 : ∀ (σ : pv_S) (x1 : Int32) (x2 : Int32) (H : Heap) (locs : List Loc) (ls : Array Slot), k_42 σ x1 x2 = some out → lv_has ls 4 [(0, .ref (a 0)), (1, .int x1), (2, .int x2)] → pv_W D pv_cl 36 a (pv_FM q a) σ H → va_S A s.heap H locs → W p l e R s m args below meth c H locs 0 0 Q (F0 m 42 ls [])) {σ : pv_S} {x1 : Int32} {x2 : Int32} {H : Heap} {locs : List Loc} {ls : Array Slot} (hl : lv_has ls 4 [(0, .ref (a 0)), (1, .int x1), (2, .int x2)]) (hP : pv_W D pv_cl 36 a (pv_FM q a) σ H) (hS : va_S A s.heap H locs) (hf : f_Md_sample_42b k_42 σ x1 x2 = some out) : W p l e R s m args below meth c H locs 0 0 Q (F0 m 42 ls []) := by
  unfold f_Md_sample_42b at hf
  have hx := C.1
  have hb := C.2.1
  refine lv_iload_n hx hb d_Md_sample_42 rfl (lv_at hl 2 rfl) ?_
  refine lv_aload_n hx hb d_Md_sample_43 rfl (lv_at hl 0 rfl) ?_
  refine pv_get C hP (v := .int (σ.1 0 18)) (j := 18) (by decide) (fm_0 _ _ _ _) fl_Md_253 rfl d_Md_sample_44 ?_
  refine lv_icmp_ge (tgt := 110) hx hb d_Md_sample_47 (by decide) (fun h => ?_) (fun h => ?_)
  · have hf := pv_t hf h
    refine lv_aload_n hx hb d_Md_sample_110 rfl (lv_at hl 0 rfl) ?_
    refine pv_get C hP (v := .ref (a 30)) (j := 42) (by decide) (fm_0 _ _ _ _) fl_Md_105 rfl d_Md_sample_111 ?_
    refine lv_iload_n hx hb d_Md_sample_114 rfl (lv_at hl 1 rfl) ?_
    refine lv_dup2_11 hx hb d_Md_sample_115 rfl rfl ?_
    obtain ⟨hg, hf⟩ := pv_g hf
    refine pv_iald C hP (t0 := 0) (by decide) (fm_30 _ _ _ _) rfl hg d_Md_sample_116 ?_
    refine lv_iconst (v := (1 : Int32)) hx hb d_Md_sample_117 (by decide) ?_
    refine lv_iadd hx hb d_Md_sample_118 ?_
    obtain ⟨hg, hf⟩ := pv_g hf
    refine pv_iast C hP hS (t0 := 0) (x := ((σ.1 30 (x1).toNatClampNeg) + (1 : Int32))) (by decide) (fun f g => (fm_30 _ _ f g)) rfl hg d_Md_sample_119 (fun H locs hP hS => ?_)
    refine lv_aload_n hx hb d_Md_sample_120 rfl (lv_at hl 0 rfl) ?_
    refine pv_get C hP (v := .ref (a 33)) (j := 45) (by decide) (fm_0 _ _ _ _) fl_Md_114 rfl d_Md_sample_121 ?_
    refine lv_bipush (v := (24 : Int32)) hx hb d_Md_sample_124 (by decide) ?_
    refine lv_iload_n hx hb d_Md_sample_126 rfl (lv_at hl 1 rfl) ?_
    refine lv_imul hx hb d_Md_sample_127 ?_
    refine lv_aload_n hx hb d_Md_sample_128 rfl (lv_at hl 0 rfl) ?_
    refine pv_get C hP (v := .int ((pv_uI σ 30 (x1).toNatClampNeg ((σ.1 30 (x1).toNatClampNeg) + (1 : Int32))).1 0 18)) (j := 18) (by decide) (fm_0 _ _ _ _) fl_Md_253 rfl d_Md_sample_129 ?_
    refine lv_iadd hx hb d_Md_sample_132 ?_
    refine lv_iconst (v := (1 : Int32)) hx hb d_Md_sample_133 (by decide) ?_
    refine lv_isub hx hb d_Md_sample_134 ?_
    obtain ⟨hg, hf⟩ := pv_g hf
    refine pv_iald C hP (t0 := 0) (by decide) (fm_33 _ _ _ _) rfl hg d_Md_sample_135 ?_
    refine lv_istore_n (lv' := [(2, .int ((pv_uI σ 30 (x1).toNatClampNeg ((σ.1 30 (x1).toNatClampNeg) + (1 : Int32))).1 33 (((((24 : Int32) * x1) + ((pv_uI σ 30 (x1).toNatClampNeg ((σ.1 30 (x1).toNatClampNeg) + (1 : Int32))).1 0 18)) - (1 : Int32))).toNatClampNeg)), (0, .ref (a 0)), (1, .int x1)]) hx hb d_Md_sample_136 rfl hl (by decide) rfl (fun ls hl => ?_)
    refine lv_aload_n hx hb d_Md_sample_137 rfl (lv_at hl 1 rfl) ?_
    refine pv_get C hP (v := .ref (a 27)) (j := 39) (by decide) (fm_0 _ _ _ _) fl_Md_96 rfl d_Md_sample_138 ?_
    refine lv_iload_n hx hb d_Md_sample_141 rfl (lv_at hl 2 rfl) ?_
    refine lv_aload_n hx hb d_Md_sample_142 rfl (lv_at hl 1 rfl) ?_
    refine pv_get C hP (v := .ref (a 25)) (j := 37) (by decide) (fm_0 _ _ _ _) fl_Md_90 rfl d_Md_sample_143 ?_
    refine lv_iload_n hx hb d_Md_sample_146 rfl (lv_at hl 2 rfl) ?_
    obtain ⟨hg, hf⟩ := pv_g hf
    refine pv_zald C hP (t0 := 2) (by decide) (fm_25 _ _ _ _) rfl hg d_Md_sample_147 ?_
    refine lv_if_ne (tgt := 155) hx hb d_Md_sample_148 (by decide) (fun h => ?_) (fun h => ?_)
    · have hf := pv_f hf h
      exact s_Md_sample_155 C hmv hRf hRl hret (lv_sub hl [1, 2, 0] rfl) hP hS hf
    · have hf := pv_t hf h
      refine lv_iload_n hx hb d_Md_sample_151 rfl (lv_at hl 0 rfl) ?_
      refine lv_if_eq (tgt := 159) hx hb d_Md_sample_152 (by decide) (fun h => ?_) (fun h => ?_)
      · have hf := pv_t hf h
        refine lv_aload_n hx hb d_Md_sample_159 rfl (lv_at hl 1 rfl) ?_
        refine pv_get C hP (v := .ref (a 27)) (j := 39) (by decide) (fm_0 _ _ _ _) fl_Md_96 rfl d_Md_sample_160 ?_
        refine lv_iload_n hx hb d_Md_sample_163 rfl (lv_at hl 2 rfl) ?_
        obtain ⟨hg, hf⟩ := pv_g hf
        refine pv_iald C hP (t0 := 0) (by decide) (fm_27 _ _ _ _) rfl hg d_Md_sample_164 ?_
        refine lv_iconst (v := (1 : Int32)) hx hb d_Md_sample_165 (by decide) ?_
        refine lv_iadd hx hb d_Md_sample_166 ?_
        exact s_Md_sample_167 C hmv hRf hRl hret (lv_sub hl [1, 2, 0] rfl) hP hS hf
      · have hf := pv_f hf h
        exact s_Md_sample_155 C hmv hRf hRl hret (lv_sub hl [1, 2, 0] rfl) hP hS hf
  · have hf := pv_f hf h
    refine lv_aload_n hx hb d_Md_sample_50 rfl (lv_at hl 0 rfl) ?_
    refine pv_get C hP (v := .ref (a 9)) (j := 19) (by decide) (fm_0 _ _ _ _) fl_Md_38 rfl d_Md_sample_51 ?_
    refine lv_iload_n hx hb d_Md_sample_54 rfl (lv_at hl 2 rfl) ?_
    obtain ⟨hg, hf⟩ := pv_g hf
    refine pv_iald C hP (t0 := 0) (by decide) (fm_9 _ _ _ _) rfl hg d_Md_sample_55 ?_
    refine lv_bipush (v := (18 : Int32)) hx hb d_Md_sample_56 (by decide) ?_
    refine lv_icmp_ne (tgt := 104) hx hb d_Md_sample_58 (by decide) (fun h => ?_) (fun h => ?_)
    · have hf := pv_f hf h
      exact s_Md_sample_104 C hmv hRf hRl hret hk_42 (lv_sub hl [0, 1, 2] rfl) hP hS hf
    · have hf := pv_t hf h
      refine lv_aload_n hx hb d_Md_sample_61 rfl (lv_at hl 0 rfl) ?_
      refine pv_get C hP (v := .ref (a 34)) (j := 46) (by decide) (fm_0 _ _ _ _) fl_Md_117 rfl d_Md_sample_62 ?_
      refine lv_sipush (v := (128 : Int32)) hx hb d_Md_sample_65 (by decide) ?_
      refine lv_iload_n hx hb d_Md_sample_68 rfl (lv_at hl 1 rfl) ?_
      refine lv_imul hx hb d_Md_sample_69 ?_
      refine lv_aload_n hx hb d_Md_sample_70 rfl (lv_at hl 0 rfl) ?_
      refine pv_get C hP (v := .ref (a 14)) (j := 24) (by decide) (fm_0 _ _ _ _) fl_Md_53 rfl d_Md_sample_71 ?_
      refine lv_iload_n hx hb d_Md_sample_74 rfl (lv_at hl 2 rfl) ?_
      obtain ⟨hg, hf⟩ := pv_g hf
      refine pv_iald C hP (t0 := 0) (by decide) (fm_14 _ _ _ _) rfl hg d_Md_sample_75 ?_
      refine lv_iadd hx hb d_Md_sample_76 ?_
      refine lv_aload_n hx hb d_Md_sample_77 rfl (lv_at hl 0 rfl) ?_
      refine pv_get C hP (v := .ref (a 30)) (j := 42) (by decide) (fm_0 _ _ _ _) fl_Md_105 rfl d_Md_sample_78 ?_
      refine lv_iload_n hx hb d_Md_sample_81 rfl (lv_at hl 1 rfl) ?_
      obtain ⟨hg, hf⟩ := pv_g hf
      refine pv_iald C hP (t0 := 0) (by decide) (fm_30 _ _ _ _) rfl hg d_Md_sample_82 ?_
      refine lv_aload_n hx hb d_Md_sample_83 rfl (lv_at hl 0 rfl) ?_
      refine pv_get C hP (v := .ref (a 12)) (j := 22) (by decide) (fm_0 _ _ _ _) fl_Md_47 rfl d_Md_sample_84 ?_
      refine lv_iconst (v := (4 : Int32)) hx hb d_Md_sample_87 (by decide) ?_
      refine lv_iload_n hx hb d_Md_sample_88 rfl (lv_at hl 2 rfl) ?_
      refine lv_imul hx hb d_Md_sample_89 ?_
      refine lv_iconst (v := (1 : Int32)) hx hb d_Md_sample_90 (by decide) ?_
      refine lv_iadd hx hb d_Md_sample_91 ?_
      obtain ⟨hg, hf⟩ := pv_g hf
      refine pv_iald C hP (t0 := 0) (by decide) (fm_12 _ _ _ _) rfl hg d_Md_sample_92 ?_
      obtain ⟨hg, hf⟩ := pv_g hf
      refine lv_irem hx hb d_Md_sample_93 hg ?_
      refine lv_iadd hx hb d_Md_sample_94 ?_
      refine lv_aload_n hx hb d_Md_sample_95 rfl (lv_at hl 0 rfl) ?_
      refine lv_iload_n hx hb d_Md_sample_96 rfl (lv_at hl 1 rfl) ?_
      refine lv_iconst (v := (4 : Int32)) hx hb d_Md_sample_97 (by decide) ?_
      refine lv_iload_n hx hb d_Md_sample_98 rfl (lv_at hl 2 rfl) ?_
      refine lv_imul hx hb d_Md_sample_99 ?_
      obtain ⟨q2, hc, hf⟩ := pv_b hf
      refine pv_callVi C hmv pv_good hP hS (As := [.int x1, .int ((4 : Int32) * x2)]) (rest := [.int ((((128 : Int32) * x1) + (σ.1 14 (x2).toNatClampNeg)) + ((σ.1 30 (x1).toNatClampNeg) - (σ.1 30 (x1).toNatClampNeg) / (σ.1 12 ((((4 : Int32) * x2) + (1 : Int32))).toNatClampNeg) * (σ.1 12 ((((4 : Int32) * x2) + (1 : Int32))).toNatClampNeg))), .ref (a 34)]) (by decide) (fm_0 _ _ _ _) rfl (c_Md_inputOf C.2.2.2.2.2.2.1 hmv hc) cv_Md_308 ⟨rfl, rfl, Nat.le_trans (Nat.le_of_ble_eq_true rfl) hRf, Nat.le_trans (Nat.le_of_ble_eq_true rfl) hRl⟩ rfl hl.1 rfl (Nat.le_of_ble_eq_true rfl) d_Md_sample_100 ⟨Nat.zero_le _, Nat.zero_le _⟩ (fun H locs hP hS => ?_)
      obtain ⟨hg, hf⟩ := pv_g hf
      refine pv_iast C hP hS (t0 := 0) (x := q2.1) (by decide) (fun f g => (fm_34 _ _ f g)) rfl hg d_Md_sample_103 (fun H locs hP hS => ?_)
      exact s_Md_sample_104 C hmv hRf hRl hret hk_42 (lv_sub hl [0, 1, 2] rfl) hP hS hf
def f_Md_sample_42 : Nat → pv_S → Int32 → Int32 → Option (Int32 × pv_S)
  | 0 => fun _ _ _ => none
  | n + 1 => f_Md_sample_42b (f_Md_sample_42 n)
set_option maxHeartbeats 4000000 in
theorem s_Md_sample_42 {p : Program} {l : Launch} {e : Env} {R : Room} {s : State} {m : MethodId} {args : Array Value} {below : List Frame} {meth : Method} {c : Code} {Q : State → Prop} {D : va_G} {q : Nat → ClassId} {a : Nat → Nat} {A : Nat → Prop} (C : pv_C p s m args c prog_9_method_59_code 4 "PatchVoicesModel" pv_TB D pv_cl (pv_ty q) 36 a A (pv_ZM)) (hmv : pv_mv A (pv_ZM)) (hRf : 3 ≤ R.frames) (hRl : 73 ≤ R.locals) {out : (Int32 × pv_S)} (hret : pv_Ri p l e R s m args below meth c prog_9_method_59_code D pv_cl 36 a (pv_FM q a) A Q out) (n : Nat) : ∀ {σ : pv_S} {x1 : Int32} {x2 : Int32} {H : Heap} {locs : List Loc} {ls : Array Slot}, lv_has ls 4 [(0, .ref (a 0)), (1, .int x1), (2, .int x2)] → pv_W D pv_cl 36 a (pv_FM q a) σ H → va_S A s.heap H locs → f_Md_sample_42 n σ x1 x2 = some out → W p l e R s m args below meth c H locs 0 0 Q (F0 m 42 ls []) := by
  induction n with
  | zero => intro σ x1 x2 H locs ls hl hP hS hf; cases hf
  | succ n ih => intro σ x1 x2 H locs ls hl hP hS hf; exact s_Md_sample_42b C hmv hRf hRl hret (fun σ x1 x2 H locs ls hf hl hP hS => ih hl hP hS hf) hl hP hS hf
def f_Md_sample_2b (k_2 : pv_S → Int32 → Int32 → Option (Int32 × pv_S)) (σ : pv_S) (x1 : Int32) (x2 : Int32) : Option (Int32 × pv_S) :=
  (if (σ.1 0 18) ≤ x2 then
  f_Md_sample_42 pv_fu σ x1 (0 : Int32)
  else
  (if pv_in x2 24 = true then
((f_Md_reckon σ x1 (σ.1 13 (x2).toNatClampNeg)).bind fun q1 =>
(if pv_in (((24 : Int32) * x1) + (σ.1 13 (x2).toNatClampNeg)) 96 = true then
k_2 (pv_uI q1.2 33 ((((24 : Int32) * x1) + (σ.1 13 (x2).toNatClampNeg))).toNatClampNeg q1.1) x1 (x2 + (1 : Int32))
  else none))
  else none))
set_option maxHeartbeats 4000000 in
set_option maxRecDepth 100000 in
theorem s_Md_sample_2b {p : Program} {l : Launch} {e : Env} {R : Room} {s : State} {m : MethodId} {args : Array Value} {below : List Frame} {meth : Method} {c : Code} {Q : State → Prop} {D : va_G} {q : Nat → ClassId} {a : Nat → Nat} {A : Nat → Prop} (C : pv_C p s m args c prog_9_method_59_code 4 "PatchVoicesModel" pv_TB D pv_cl (pv_ty q) 36 a A (pv_ZM)) (hmv : pv_mv A (pv_ZM)) (hRf : 3 ≤ R.frames) (hRl : 73 ≤ R.locals) {out : (Int32 × pv_S)} (hret : pv_Ri p l e R s m args below meth c prog_9_method_59_code D pv_cl 36 a (pv_FM q a) A Q out) {k_2 : pv_S → Int32 → Int32 → Option (Int32 × pv_S)} (hk_2 : ∀ (σ : pv_S) (x1 : Int32) (x2 : Int32) (H : Heap) (locs : List Loc) (ls : Array Slot), k_2 σ x1 x2 = some out → lv_has ls 4 [(0, .ref (a 0)), (1, .int x1), (2, .int x2)] → pv_W D pv_cl 36 a (pv_FM q a) σ H → va_S A s.heap H locs → W p l e R s m args below meth c H locs 0 0 Q (F0 m 2 ls [])) {σ : pv_S} {x1 : Int32} {x2 : Int32} {H : Heap} {locs : List Loc} {ls : Array Slot} (hl : lv_has ls 4 [(0, .ref (a 0)), (1, .int x1), (2, .int x2)]) (hP : pv_W D pv_cl 36 a (pv_FM q a) σ H) (hS : va_S A s.heap H locs) (hf : f_Md_sample_2b k_2 σ x1 x2 = some out) : W p l e R s m args below meth c H locs 0 0 Q (F0 m 2 ls []) := by
  unfold f_Md_sample_2b at hf
  have hx := C.1
  have hb := C.2.1
  refine lv_iload_n hx hb d_Md_sample_2 rfl (lv_at hl 2 rfl) ?_
  refine lv_aload_n hx hb d_Md_sample_3 rfl (lv_at hl 0 rfl) ?_
  refine pv_get C hP (v := .int (σ.1 0 18)) (j := 18) (by decide) (fm_0 _ _ _ _) fl_Md_253 rfl d_Md_sample_4 ?_
  refine lv_icmp_ge (tgt := 40) hx hb d_Md_sample_7 (by decide) (fun h => ?_) (fun h => ?_)
  · have hf := pv_t hf h
    refine lv_iconst (v := (0 : Int32)) hx hb d_Md_sample_40 (by decide) ?_
    refine lv_istore_n (lv' := [(2, .int (0 : Int32)), (0, .ref (a 0)), (1, .int x1)]) hx hb d_Md_sample_41 rfl hl (by decide) rfl (fun ls hl => ?_)
    exact s_Md_sample_42 C hmv hRf hRl hret pv_fu (lv_sub hl [1, 2, 0] rfl) hP hS hf
  · have hf := pv_f hf h
    refine lv_aload_n hx hb d_Md_sample_10 rfl (lv_at hl 0 rfl) ?_
    refine pv_get C hP (v := .ref (a 13)) (j := 23) (by decide) (fm_0 _ _ _ _) fl_Md_50 rfl d_Md_sample_11 ?_
    refine lv_iload_n hx hb d_Md_sample_14 rfl (lv_at hl 2 rfl) ?_
    obtain ⟨hg, hf⟩ := pv_g hf
    refine pv_iald C hP (t0 := 0) (by decide) (fm_13 _ _ _ _) rfl hg d_Md_sample_15 ?_
    refine lv_istore_n (lv' := [(3, .int (σ.1 13 (x2).toNatClampNeg)), (0, .ref (a 0)), (1, .int x1), (2, .int x2)]) hx hb d_Md_sample_16 rfl hl (by decide) rfl (fun ls hl => ?_)
    refine lv_aload_n hx hb d_Md_sample_17 rfl (lv_at hl 1 rfl) ?_
    refine pv_get C hP (v := .ref (a 33)) (j := 45) (by decide) (fm_0 _ _ _ _) fl_Md_114 rfl d_Md_sample_18 ?_
    refine lv_bipush (v := (24 : Int32)) hx hb d_Md_sample_21 (by decide) ?_
    refine lv_iload_n hx hb d_Md_sample_23 rfl (lv_at hl 2 rfl) ?_
    refine lv_imul hx hb d_Md_sample_24 ?_
    refine lv_iload_n hx hb d_Md_sample_25 rfl (lv_at hl 0 rfl) ?_
    refine lv_iadd hx hb d_Md_sample_26 ?_
    refine lv_aload_n hx hb d_Md_sample_27 rfl (lv_at hl 1 rfl) ?_
    refine lv_iload_n hx hb d_Md_sample_28 rfl (lv_at hl 2 rfl) ?_
    refine lv_iload_n hx hb d_Md_sample_29 rfl (lv_at hl 0 rfl) ?_
    obtain ⟨q1, hc, hf⟩ := pv_b hf
    refine pv_callVi C hmv pv_good hP hS (As := [.int x1, .int (σ.1 13 (x2).toNatClampNeg)]) (rest := [.int (((24 : Int32) * x1) + (σ.1 13 (x2).toNatClampNeg)), .ref (a 33)]) (by decide) (fm_0 _ _ _ _) rfl (c_Md_reckon C.2.2.2.2.2.2.1 hmv hc) cv_Md_329 ⟨rfl, rfl, Nat.le_trans (Nat.le_of_ble_eq_true rfl) hRf, Nat.le_trans (Nat.le_of_ble_eq_true rfl) hRl⟩ rfl hl.1 rfl (Nat.le_of_ble_eq_true rfl) d_Md_sample_30 ⟨Nat.zero_le _, Nat.zero_le _⟩ (fun H locs hP hS => ?_)
    obtain ⟨hg, hf⟩ := pv_g hf
    refine pv_iast C hP hS (t0 := 0) (x := q1.1) (by decide) (fun f g => (fm_33 _ _ f g)) rfl hg d_Md_sample_33 (fun H locs hP hS => ?_)
    refine lv_iinc (k := 3) (v := (x2 + (1 : Int32))) (lv' := [(2, .int (x2 + (1 : Int32))), (3, .int (σ.1 13 (x2).toNatClampNeg)), (0, .ref (a 0)), (1, .int x1)]) hx hb d_Md_sample_34 hl rfl (pv_inc (by decide)) (by decide) rfl (fun ls hl => ?_)
    refine lv_goto (tgt := 2) hx hb d_Md_sample_37 (by decide) ?_
    exact hk_2 _ _ _ _ _ _ hf (lv_sub hl [2, 3, 0] rfl) hP hS
def f_Md_sample_2 : Nat → pv_S → Int32 → Int32 → Option (Int32 × pv_S)
  | 0 => fun _ _ _ => none
  | n + 1 => f_Md_sample_2b (f_Md_sample_2 n)
set_option maxHeartbeats 4000000 in
theorem s_Md_sample_2 {p : Program} {l : Launch} {e : Env} {R : Room} {s : State} {m : MethodId} {args : Array Value} {below : List Frame} {meth : Method} {c : Code} {Q : State → Prop} {D : va_G} {q : Nat → ClassId} {a : Nat → Nat} {A : Nat → Prop} (C : pv_C p s m args c prog_9_method_59_code 4 "PatchVoicesModel" pv_TB D pv_cl (pv_ty q) 36 a A (pv_ZM)) (hmv : pv_mv A (pv_ZM)) (hRf : 3 ≤ R.frames) (hRl : 73 ≤ R.locals) {out : (Int32 × pv_S)} (hret : pv_Ri p l e R s m args below meth c prog_9_method_59_code D pv_cl 36 a (pv_FM q a) A Q out) (n : Nat) : ∀ {σ : pv_S} {x1 : Int32} {x2 : Int32} {H : Heap} {locs : List Loc} {ls : Array Slot}, lv_has ls 4 [(0, .ref (a 0)), (1, .int x1), (2, .int x2)] → pv_W D pv_cl 36 a (pv_FM q a) σ H → va_S A s.heap H locs → f_Md_sample_2 n σ x1 x2 = some out → W p l e R s m args below meth c H locs 0 0 Q (F0 m 2 ls []) := by
  induction n with
  | zero => intro σ x1 x2 H locs ls hl hP hS hf; cases hf
  | succ n ih => intro σ x1 x2 H locs ls hl hP hS hf; exact s_Md_sample_2b C hmv hRf hRl hret (fun σ x1 x2 H locs ls hf hl hP hS => ih hl hP hS hf) hl hP hS hf
def f_Md_sample_0 (σ : pv_S) (x1 : Int32) : Option (Int32 × pv_S) :=
  f_Md_sample_2 pv_fu σ x1 (0 : Int32)
set_option maxHeartbeats 4000000 in
set_option maxRecDepth 100000 in
theorem s_Md_sample_0 {p : Program} {l : Launch} {e : Env} {R : Room} {s : State} {m : MethodId} {args : Array Value} {below : List Frame} {meth : Method} {c : Code} {Q : State → Prop} {D : va_G} {q : Nat → ClassId} {a : Nat → Nat} {A : Nat → Prop} (C : pv_C p s m args c prog_9_method_59_code 4 "PatchVoicesModel" pv_TB D pv_cl (pv_ty q) 36 a A (pv_ZM)) (hmv : pv_mv A (pv_ZM)) (hRf : 3 ≤ R.frames) (hRl : 73 ≤ R.locals) {out : (Int32 × pv_S)} (hret : pv_Ri p l e R s m args below meth c prog_9_method_59_code D pv_cl 36 a (pv_FM q a) A Q out) {σ : pv_S} {x1 : Int32} {H : Heap} {locs : List Loc} {ls : Array Slot} (hl : lv_has ls 4 [(0, .ref (a 0)), (1, .int x1)]) (hP : pv_W D pv_cl 36 a (pv_FM q a) σ H) (hS : va_S A s.heap H locs) (hf : f_Md_sample_0 σ x1 = some out) : W p l e R s m args below meth c H locs 0 0 Q (F0 m 0 ls []) := by
  unfold f_Md_sample_0 at hf
  have hx := C.1
  have hb := C.2.1
  refine lv_iconst (v := (0 : Int32)) hx hb d_Md_sample_0 (by decide) ?_
  refine lv_istore_n (lv' := [(2, .int (0 : Int32)), (0, .ref (a 0)), (1, .int x1)]) hx hb d_Md_sample_1 rfl hl (by decide) rfl (fun ls hl => ?_)
  exact s_Md_sample_2 C hmv hRf hRl hret pv_fu (lv_sub hl [1, 2, 0] rfl) hP hS hf
def f_Md_sample (σ : pv_S) (x1 : Int32) : Option (Int32 × pv_S) := f_Md_sample_0 σ x1
def rm_Md_sample : Room := { frames := 3, cells := 0, slots := 0, locals := 73 }
theorem c_Md_sample {l : Launch} {D : va_G} {q : Nat → ClassId} {a : Nat → Nat} {A : Nat → Prop} (hD : pv_D 36 a A) (hmv : pv_mv A (pv_ZM)) {σ : pv_S} {x1 : Int32} {out : (Int32 × pv_S)} (hf : f_Md_sample σ x1 = some out) : pv_Mi l y_Md_sample (Cond.code y_Md_sample prog_9_method_59_code 4 (some .int) :: pv_TB) rm_Md_sample D pv_cl (pv_ty q) 36 a (pv_FM q a) A (pv_ZM) [.ref (a 0), .int x1] σ out :=
  pv_ofI (by decide) (Nat.le_of_ble_eq_true rfl) hD (fun p e s m args below meth c Q ls C hret hl hP => s_Md_sample_0 C hmv (Nat.le_refl _) (Nat.le_refl _) hret hl hP va_S.rf hf)
theorem d_Md_voices_0 : decode prog_9_method_61_code 0 = .ok (.aload_n 0, 1) := by decide +kernel
theorem d_Md_voices_1 : decode prog_9_method_61_code 1 = .ok (.iload_n 1, 1) := by decide +kernel
theorem d_Md_voices_2 : decode prog_9_method_61_code 2 = .ok (.iconst 1, 1) := by decide +kernel
theorem d_Md_voices_3 : decode prog_9_method_61_code 3 = .ok (.if_icmp .lt 12, 3) := by decide +kernel
theorem d_Md_voices_6 : decode prog_9_method_61_code 6 = .ok (.iload_n 1, 1) := by decide +kernel
theorem d_Md_voices_7 : decode prog_9_method_61_code 7 = .ok (.iconst 4, 1) := by decide +kernel
theorem d_Md_voices_8 : decode prog_9_method_61_code 8 = .ok (.if_icmp .gt 7, 3) := by decide +kernel
theorem d_Md_voices_11 : decode prog_9_method_61_code 11 = .ok (.iconst 0, 1) := by decide +kernel
theorem d_Md_voices_12 : decode prog_9_method_61_code 12 = .ok (.goto 4, 3) := by decide +kernel
theorem d_Md_voices_15 : decode prog_9_method_61_code 15 = .ok (.iconst 1, 1) := by decide +kernel
theorem d_Md_voices_16 : decode prog_9_method_61_code 16 = .ok (.putfield 127, 3) := by decide +kernel
theorem d_Md_voices_19 : decode prog_9_method_61_code 19 = .ok (.aload_n 0, 1) := by decide +kernel
theorem d_Md_voices_20 : decode prog_9_method_61_code 20 = .ok (.getfield 127, 3) := by decide +kernel
theorem d_Md_voices_23 : decode prog_9_method_61_code 23 = .ok (.ifCond .ne 12, 3) := by decide +kernel
theorem d_Md_voices_26 : decode prog_9_method_61_code 26 = .ok (.aload_n 0, 1) := by decide +kernel
theorem d_Md_voices_27 : decode prog_9_method_61_code 27 = .ok (.iload_n 1, 1) := by decide +kernel
theorem d_Md_voices_28 : decode prog_9_method_61_code 28 = .ok (.putfield 75, 3) := by decide +kernel
theorem d_Md_voices_31 : decode prog_9_method_61_code 31 = .ok (.aload_n 0, 1) := by decide +kernel
theorem d_Md_voices_32 : decode prog_9_method_61_code 32 = .ok (.invokevirtual 247, 3) := by decide +kernel
theorem d_Md_voices_35 : decode prog_9_method_61_code 35 = .ok (.return_, 1) := by decide +kernel
def f_Md_voices_16 (σ : pv_S) (x1 : Int32) (s0 : Int32) : Option pv_S :=
  (if ((pv_uI σ 0 0 s0).1 0 0) = 0 then
  ((f_Md_silence (pv_uI (pv_uI σ 0 0 s0) 0 32 x1)).bind fun q1 =>
some q1)
  else
  some (pv_uI σ 0 0 s0))
set_option maxHeartbeats 4000000 in
set_option maxRecDepth 100000 in
theorem s_Md_voices_16 {p : Program} {l : Launch} {e : Env} {R : Room} {s : State} {m : MethodId} {args : Array Value} {below : List Frame} {meth : Method} {c : Code} {Q : State → Prop} {D : va_G} {q : Nat → ClassId} {a : Nat → Nat} {A : Nat → Prop} (C : pv_C p s m args c prog_9_method_61_code 2 "PatchVoicesModel" pv_TB D pv_cl (pv_ty q) 36 a A (pv_ZM)) (hmv : pv_mv A (pv_ZM)) (hRf : 1 ≤ R.frames) (hRl : 21 ≤ R.locals) {out : pv_S} (hret : pv_Rv p l e R s m args below meth c prog_9_method_61_code D pv_cl 36 a (pv_FM q a) A Q out) {σ : pv_S} {x1 : Int32} {s0 : Int32} {H : Heap} {locs : List Loc} {ls : Array Slot} (hl : lv_has ls 2 [(0, .ref (a 0)), (1, .int x1)]) (hP : pv_W D pv_cl 36 a (pv_FM q a) σ H) (hS : va_S A s.heap H locs) (hf : f_Md_voices_16 σ x1 s0 = some out) : W p l e R s m args below meth c H locs 0 0 Q (F0 m 16 ls [.int s0, .ref (a 0)]) := by
  unfold f_Md_voices_16 at hf
  have hx := C.1
  have hb := C.2.1
  refine pv_putI C hP hS (x := s0) (by decide) (fm_0 _ _ _ _) fw_Md_127 rfl rfl (Nat.le_of_ble_eq_true rfl) (fms_0_0 _ _ _ _ _) d_Md_voices_16 (fun H locs hP hS => ?_)
  refine lv_aload_n hx hb d_Md_voices_19 rfl (lv_at hl 0 rfl) ?_
  refine pv_get C hP (v := .int ((pv_uI σ 0 0 s0).1 0 0)) (j := 0) (by decide) (fm_0 _ _ _ _) fl_Md_127 rfl d_Md_voices_20 ?_
  refine lv_if_ne (tgt := 35) hx hb d_Md_voices_23 (by decide) (fun h => ?_) (fun h => ?_)
  · have hf := pv_f hf h
    obtain rfl := Option.some.inj hf
    exact hret _ _ _ _ d_Md_voices_35 hP hS
  · have hf := pv_t hf h
    refine lv_aload_n hx hb d_Md_voices_26 rfl (lv_at hl 0 rfl) ?_
    refine lv_iload_n hx hb d_Md_voices_27 rfl (lv_at hl 1 rfl) ?_
    refine pv_putI C hP hS (x := x1) (by decide) (fm_0 _ _ _ _) fw_Md_75 rfl rfl (Nat.le_of_ble_eq_true rfl) (fms_0_32 _ _ _ _ _) d_Md_voices_28 (fun H locs hP hS => ?_)
    refine lv_aload_n hx hb d_Md_voices_31 rfl (lv_at hl 0 rfl) ?_
    obtain ⟨q1, hc, hf⟩ := pv_b hf
    refine pv_callVv C hmv pv_good hP hS (As := []) (rest := []) (by decide) (fm_0 _ _ _ _) rfl (c_Md_silence C.2.2.2.2.2.2.1 hmv hc) cv_Md_247 ⟨rfl, rfl, Nat.le_trans (Nat.le_of_ble_eq_true rfl) hRf, Nat.le_trans (Nat.le_of_ble_eq_true rfl) hRl⟩ rfl hl.1 rfl (Nat.le_of_ble_eq_true rfl) d_Md_voices_32 ⟨Nat.zero_le _, Nat.zero_le _⟩ (fun H locs hP hS => ?_)
    obtain rfl := Option.some.inj hf
    exact hret _ _ _ _ d_Md_voices_35 hP hS
def f_Md_voices_15 (σ : pv_S) (x1 : Int32) : Option pv_S :=
  f_Md_voices_16 σ x1 (1 : Int32)
set_option maxHeartbeats 4000000 in
set_option maxRecDepth 100000 in
theorem s_Md_voices_15 {p : Program} {l : Launch} {e : Env} {R : Room} {s : State} {m : MethodId} {args : Array Value} {below : List Frame} {meth : Method} {c : Code} {Q : State → Prop} {D : va_G} {q : Nat → ClassId} {a : Nat → Nat} {A : Nat → Prop} (C : pv_C p s m args c prog_9_method_61_code 2 "PatchVoicesModel" pv_TB D pv_cl (pv_ty q) 36 a A (pv_ZM)) (hmv : pv_mv A (pv_ZM)) (hRf : 1 ≤ R.frames) (hRl : 21 ≤ R.locals) {out : pv_S} (hret : pv_Rv p l e R s m args below meth c prog_9_method_61_code D pv_cl 36 a (pv_FM q a) A Q out) {σ : pv_S} {x1 : Int32} {H : Heap} {locs : List Loc} {ls : Array Slot} (hl : lv_has ls 2 [(0, .ref (a 0)), (1, .int x1)]) (hP : pv_W D pv_cl 36 a (pv_FM q a) σ H) (hS : va_S A s.heap H locs) (hf : f_Md_voices_15 σ x1 = some out) : W p l e R s m args below meth c H locs 0 0 Q (F0 m 15 ls [.ref (a 0)]) := by
  unfold f_Md_voices_15 at hf
  have hx := C.1
  have hb := C.2.1
  refine lv_iconst (v := (1 : Int32)) hx hb d_Md_voices_15 (by decide) ?_
  exact s_Md_voices_16 C hmv hRf hRl hret (lv_sub hl [0, 1] rfl) hP hS hf
def f_Md_voices_0 (σ : pv_S) (x1 : Int32) : Option pv_S :=
  (if x1 < (1 : Int32) then
  f_Md_voices_15 σ x1
  else
  (if (4 : Int32) < x1 then
  f_Md_voices_15 σ x1
  else
  f_Md_voices_16 σ x1 (0 : Int32)))
set_option maxHeartbeats 4000000 in
set_option maxRecDepth 100000 in
theorem s_Md_voices_0 {p : Program} {l : Launch} {e : Env} {R : Room} {s : State} {m : MethodId} {args : Array Value} {below : List Frame} {meth : Method} {c : Code} {Q : State → Prop} {D : va_G} {q : Nat → ClassId} {a : Nat → Nat} {A : Nat → Prop} (C : pv_C p s m args c prog_9_method_61_code 2 "PatchVoicesModel" pv_TB D pv_cl (pv_ty q) 36 a A (pv_ZM)) (hmv : pv_mv A (pv_ZM)) (hRf : 1 ≤ R.frames) (hRl : 21 ≤ R.locals) {out : pv_S} (hret : pv_Rv p l e R s m args below meth c prog_9_method_61_code D pv_cl 36 a (pv_FM q a) A Q out) {σ : pv_S} {x1 : Int32} {H : Heap} {locs : List Loc} {ls : Array Slot} (hl : lv_has ls 2 [(0, .ref (a 0)), (1, .int x1)]) (hP : pv_W D pv_cl 36 a (pv_FM q a) σ H) (hS : va_S A s.heap H locs) (hf : f_Md_voices_0 σ x1 = some out) : W p l e R s m args below meth c H locs 0 0 Q (F0 m 0 ls []) := by
  unfold f_Md_voices_0 at hf
  have hx := C.1
  have hb := C.2.1
  refine lv_aload_n hx hb d_Md_voices_0 rfl (lv_at hl 0 rfl) ?_
  refine lv_iload_n hx hb d_Md_voices_1 rfl (lv_at hl 1 rfl) ?_
  refine lv_iconst (v := (1 : Int32)) hx hb d_Md_voices_2 (by decide) ?_
  refine lv_icmp_lt (tgt := 15) hx hb d_Md_voices_3 (by decide) (fun h => ?_) (fun h => ?_)
  · have hf := pv_t hf h
    exact s_Md_voices_15 C hmv hRf hRl hret (lv_sub hl [0, 1] rfl) hP hS hf
  · have hf := pv_f hf h
    refine lv_iload_n hx hb d_Md_voices_6 rfl (lv_at hl 1 rfl) ?_
    refine lv_iconst (v := (4 : Int32)) hx hb d_Md_voices_7 (by decide) ?_
    refine lv_icmp_gt (tgt := 15) hx hb d_Md_voices_8 (by decide) (fun h => ?_) (fun h => ?_)
    · have hf := pv_t hf h
      exact s_Md_voices_15 C hmv hRf hRl hret (lv_sub hl [0, 1] rfl) hP hS hf
    · have hf := pv_f hf h
      refine lv_iconst (v := (0 : Int32)) hx hb d_Md_voices_11 (by decide) ?_
      refine lv_goto (tgt := 16) hx hb d_Md_voices_12 (by decide) ?_
      exact s_Md_voices_16 C hmv hRf hRl hret (lv_sub hl [0, 1] rfl) hP hS hf
def f_Md_voices (σ : pv_S) (x1 : Int32) : Option pv_S := f_Md_voices_0 σ x1
def rm_Md_voices : Room := { frames := 1, cells := 0, slots := 0, locals := 21 }
theorem c_Md_voices {l : Launch} {D : va_G} {q : Nat → ClassId} {a : Nat → Nat} {A : Nat → Prop} (hD : pv_D 36 a A) (hmv : pv_mv A (pv_ZM)) {σ : pv_S} {x1 : Int32} {out : pv_S} (hf : f_Md_voices σ x1 = some out) : pv_Mv l y_Md_voices (Cond.code y_Md_voices prog_9_method_61_code 2 none :: pv_TB) rm_Md_voices D pv_cl (pv_ty q) 36 a (pv_FM q a) A (pv_ZM) [.ref (a 0), .int x1] σ out :=
  pv_ofV (by decide) (Nat.le_of_ble_eq_true rfl) hD (fun p e s m args below meth c Q ls C hret hl hP => s_Md_voices_0 C hmv (Nat.le_refl _) (Nat.le_refl _) hret hl hP va_S.rf hf)
theorem d_Md_choice_0 : decode prog_9_method_62_code 0 = .ok (.iconst 0, 1) := by decide +kernel
theorem d_Md_choice_1 : decode prog_9_method_62_code 1 = .ok (.istore_n 1, 1) := by decide +kernel
theorem d_Md_choice_2 : decode prog_9_method_62_code 2 = .ok (.iload_n 1, 1) := by decide +kernel
theorem d_Md_choice_3 : decode prog_9_method_62_code 3 = .ok (.aload_n 0, 1) := by decide +kernel
theorem d_Md_choice_4 : decode prog_9_method_62_code 4 = .ok (.getfield 75, 3) := by decide +kernel
theorem d_Md_choice_7 : decode prog_9_method_62_code 7 = .ok (.if_icmp .ge 20, 3) := by decide +kernel
theorem d_Md_choice_10 : decode prog_9_method_62_code 10 = .ok (.aload_n 0, 1) := by decide +kernel
theorem d_Md_choice_11 : decode prog_9_method_62_code 11 = .ok (.getfield 81, 3) := by decide +kernel
theorem d_Md_choice_14 : decode prog_9_method_62_code 14 = .ok (.iload_n 1, 1) := by decide +kernel
theorem d_Md_choice_15 : decode prog_9_method_62_code 15 = .ok (.baload, 1) := by decide +kernel
theorem d_Md_choice_16 : decode prog_9_method_62_code 16 = .ok (.ifCond .ne 5, 3) := by decide +kernel
theorem d_Md_choice_19 : decode prog_9_method_62_code 19 = .ok (.iload_n 1, 1) := by decide +kernel
theorem d_Md_choice_20 : decode prog_9_method_62_code 20 = .ok (.ireturn, 1) := by decide +kernel
theorem d_Md_choice_21 : decode prog_9_method_62_code 21 = .ok (.iinc 1 1, 3) := by decide +kernel
theorem d_Md_choice_24 : decode prog_9_method_62_code 24 = .ok (.goto (-22), 3) := by decide +kernel
theorem d_Md_choice_27 : decode prog_9_method_62_code 27 = .ok (.iconst (-1), 1) := by decide +kernel
theorem d_Md_choice_28 : decode prog_9_method_62_code 28 = .ok (.istore_n 1, 1) := by decide +kernel
theorem d_Md_choice_29 : decode prog_9_method_62_code 29 = .ok (.aload_n 0, 1) := by decide +kernel
theorem d_Md_choice_30 : decode prog_9_method_62_code 30 = .ok (.getfield 75, 3) := by decide +kernel
theorem d_Md_choice_33 : decode prog_9_method_62_code 33 = .ok (.iconst 1, 1) := by decide +kernel
theorem d_Md_choice_34 : decode prog_9_method_62_code 34 = .ok (.isub, 1) := by decide +kernel
theorem d_Md_choice_35 : decode prog_9_method_62_code 35 = .ok (.istore_n 2, 1) := by decide +kernel
theorem d_Md_choice_36 : decode prog_9_method_62_code 36 = .ok (.iload_n 2, 1) := by decide +kernel
theorem d_Md_choice_37 : decode prog_9_method_62_code 37 = .ok (.ifCond .lt 43, 3) := by decide +kernel
theorem d_Md_choice_40 : decode prog_9_method_62_code 40 = .ok (.aload_n 0, 1) := by decide +kernel
theorem d_Md_choice_41 : decode prog_9_method_62_code 41 = .ok (.getfield 93, 3) := by decide +kernel
theorem d_Md_choice_44 : decode prog_9_method_62_code 44 = .ok (.iload_n 2, 1) := by decide +kernel
theorem d_Md_choice_45 : decode prog_9_method_62_code 45 = .ok (.baload, 1) := by decide +kernel
theorem d_Md_choice_46 : decode prog_9_method_62_code 46 = .ok (.ifCond .eq 26, 3) := by decide +kernel
theorem d_Md_choice_49 : decode prog_9_method_62_code 49 = .ok (.iload_n 1, 1) := by decide +kernel
theorem d_Md_choice_50 : decode prog_9_method_62_code 50 = .ok (.ifCond .lt 18, 3) := by decide +kernel
theorem d_Md_choice_53 : decode prog_9_method_62_code 53 = .ok (.aload_n 0, 1) := by decide +kernel
theorem d_Md_choice_54 : decode prog_9_method_62_code 54 = .ok (.getfield 99, 3) := by decide +kernel
theorem d_Md_choice_57 : decode prog_9_method_62_code 57 = .ok (.iload_n 2, 1) := by decide +kernel
theorem d_Md_choice_58 : decode prog_9_method_62_code 58 = .ok (.iaload, 1) := by decide +kernel
theorem d_Md_choice_59 : decode prog_9_method_62_code 59 = .ok (.aload_n 0, 1) := by decide +kernel
theorem d_Md_choice_60 : decode prog_9_method_62_code 60 = .ok (.getfield 99, 3) := by decide +kernel
theorem d_Md_choice_63 : decode prog_9_method_62_code 63 = .ok (.iload_n 1, 1) := by decide +kernel
theorem d_Md_choice_64 : decode prog_9_method_62_code 64 = .ok (.iaload, 1) := by decide +kernel
theorem d_Md_choice_65 : decode prog_9_method_62_code 65 = .ok (.if_icmp .gt 7, 3) := by decide +kernel
theorem d_Md_choice_68 : decode prog_9_method_62_code 68 = .ok (.iload_n 2, 1) := by decide +kernel
theorem d_Md_choice_69 : decode prog_9_method_62_code 69 = .ok (.goto 4, 3) := by decide +kernel
theorem d_Md_choice_72 : decode prog_9_method_62_code 72 = .ok (.iload_n 1, 1) := by decide +kernel
theorem d_Md_choice_73 : decode prog_9_method_62_code 73 = .ok (.istore_n 1, 1) := by decide +kernel
theorem d_Md_choice_74 : decode prog_9_method_62_code 74 = .ok (.iinc 2 (-1), 3) := by decide +kernel
theorem d_Md_choice_77 : decode prog_9_method_62_code 77 = .ok (.goto (-41), 3) := by decide +kernel
theorem d_Md_choice_80 : decode prog_9_method_62_code 80 = .ok (.iload_n 1, 1) := by decide +kernel
theorem d_Md_choice_81 : decode prog_9_method_62_code 81 = .ok (.ifCond .lt 5, 3) := by decide +kernel
theorem d_Md_choice_84 : decode prog_9_method_62_code 84 = .ok (.iload_n 1, 1) := by decide +kernel
theorem d_Md_choice_85 : decode prog_9_method_62_code 85 = .ok (.ireturn, 1) := by decide +kernel
theorem d_Md_choice_86 : decode prog_9_method_62_code 86 = .ok (.iconst 0, 1) := by decide +kernel
theorem d_Md_choice_87 : decode prog_9_method_62_code 87 = .ok (.istore_n 1, 1) := by decide +kernel
theorem d_Md_choice_88 : decode prog_9_method_62_code 88 = .ok (.iconst 1, 1) := by decide +kernel
theorem d_Md_choice_89 : decode prog_9_method_62_code 89 = .ok (.istore_n 2, 1) := by decide +kernel
theorem d_Md_choice_90 : decode prog_9_method_62_code 90 = .ok (.iload_n 2, 1) := by decide +kernel
theorem d_Md_choice_91 : decode prog_9_method_62_code 91 = .ok (.aload_n 0, 1) := by decide +kernel
theorem d_Md_choice_92 : decode prog_9_method_62_code 92 = .ok (.getfield 75, 3) := by decide +kernel
theorem d_Md_choice_95 : decode prog_9_method_62_code 95 = .ok (.if_icmp .ge 30, 3) := by decide +kernel
theorem d_Md_choice_98 : decode prog_9_method_62_code 98 = .ok (.aload_n 0, 1) := by decide +kernel
theorem d_Md_choice_99 : decode prog_9_method_62_code 99 = .ok (.getfield 102, 3) := by decide +kernel
theorem d_Md_choice_102 : decode prog_9_method_62_code 102 = .ok (.iload_n 2, 1) := by decide +kernel
theorem d_Md_choice_103 : decode prog_9_method_62_code 103 = .ok (.iaload, 1) := by decide +kernel
theorem d_Md_choice_104 : decode prog_9_method_62_code 104 = .ok (.aload_n 0, 1) := by decide +kernel
theorem d_Md_choice_105 : decode prog_9_method_62_code 105 = .ok (.getfield 102, 3) := by decide +kernel
theorem d_Md_choice_108 : decode prog_9_method_62_code 108 = .ok (.iload_n 1, 1) := by decide +kernel
theorem d_Md_choice_109 : decode prog_9_method_62_code 109 = .ok (.iaload, 1) := by decide +kernel
theorem d_Md_choice_110 : decode prog_9_method_62_code 110 = .ok (.if_icmp .ge 7, 3) := by decide +kernel
theorem d_Md_choice_113 : decode prog_9_method_62_code 113 = .ok (.iload_n 2, 1) := by decide +kernel
theorem d_Md_choice_114 : decode prog_9_method_62_code 114 = .ok (.goto 4, 3) := by decide +kernel
theorem d_Md_choice_117 : decode prog_9_method_62_code 117 = .ok (.iload_n 1, 1) := by decide +kernel
theorem d_Md_choice_118 : decode prog_9_method_62_code 118 = .ok (.istore_n 1, 1) := by decide +kernel
theorem d_Md_choice_119 : decode prog_9_method_62_code 119 = .ok (.iinc 2 1, 3) := by decide +kernel
theorem d_Md_choice_122 : decode prog_9_method_62_code 122 = .ok (.goto (-32), 3) := by decide +kernel
theorem d_Md_choice_125 : decode prog_9_method_62_code 125 = .ok (.iload_n 1, 1) := by decide +kernel
theorem d_Md_choice_126 : decode prog_9_method_62_code 126 = .ok (.ireturn, 1) := by decide +kernel
def f_Md_choice_118 (k_90 : pv_S → Int32 → Int32 → Option (Int32 × pv_S)) (σ : pv_S) (x2 : Int32) (s0 : Int32) : Option (Int32 × pv_S) :=
  k_90 σ s0 (x2 + (1 : Int32))
set_option maxHeartbeats 4000000 in
set_option maxRecDepth 100000 in
theorem s_Md_choice_118 {p : Program} {l : Launch} {e : Env} {R : Room} {s : State} {m : MethodId} {args : Array Value} {below : List Frame} {meth : Method} {c : Code} {Q : State → Prop} {D : va_G} {q : Nat → ClassId} {a : Nat → Nat} {A : Nat → Prop} (C : pv_C p s m args c prog_9_method_62_code 3 "PatchVoicesModel" pv_TB D pv_cl (pv_ty q) 36 a A (pv_ZM)) (hmv : pv_mv A (pv_ZM)) (hRf : 0 ≤ R.frames) (hRl : 0 ≤ R.locals) {out : (Int32 × pv_S)} (hret : pv_Ri p l e R s m args below meth c prog_9_method_62_code D pv_cl 36 a (pv_FM q a) A Q out) {k_90 : pv_S → Int32 → Int32 → Option (Int32 × pv_S)} (hk_90 : ∀ (σ : pv_S) (x1 : Int32) (x2 : Int32) (H : Heap) (locs : List Loc) (ls : Array Slot), k_90 σ x1 x2 = some out → lv_has ls 3 [(0, .ref (a 0)), (1, .int x1), (2, .int x2)] → pv_W D pv_cl 36 a (pv_FM q a) σ H → va_S A s.heap H locs → W p l e R s m args below meth c H locs 0 0 Q (F0 m 90 ls [])) {σ : pv_S} {x2 : Int32} {s0 : Int32} {H : Heap} {locs : List Loc} {ls : Array Slot} (hl : lv_has ls 3 [(0, .ref (a 0)), (2, .int x2)]) (hP : pv_W D pv_cl 36 a (pv_FM q a) σ H) (hS : va_S A s.heap H locs) (hf : f_Md_choice_118 k_90 σ x2 s0 = some out) : W p l e R s m args below meth c H locs 0 0 Q (F0 m 118 ls [.int s0]) := by
  unfold f_Md_choice_118 at hf
  have hx := C.1
  have hb := C.2.1
  refine lv_istore_n (lv' := [(1, .int s0), (0, .ref (a 0)), (2, .int x2)]) hx hb d_Md_choice_118 rfl hl (by decide) rfl (fun ls hl => ?_)
  refine lv_iinc (k := 2) (v := (x2 + (1 : Int32))) (lv' := [(2, .int (x2 + (1 : Int32))), (1, .int s0), (0, .ref (a 0))]) hx hb d_Md_choice_119 hl rfl (pv_inc (by decide)) (by decide) rfl (fun ls hl => ?_)
  refine lv_goto (tgt := 90) hx hb d_Md_choice_122 (by decide) ?_
  exact hk_90 _ _ _ _ _ _ hf (lv_sub hl [2, 1, 0] rfl) hP hS
def f_Md_choice_90b (k_90 : pv_S → Int32 → Int32 → Option (Int32 × pv_S)) (σ : pv_S) (x1 : Int32) (x2 : Int32) : Option (Int32 × pv_S) :=
  (if (σ.1 0 32) ≤ x2 then
  some (x1, σ)
  else
  (if pv_in x2 4 = true then
(if pv_in x1 4 = true then
(if (σ.1 29 (x1).toNatClampNeg) ≤ (σ.1 29 (x2).toNatClampNeg) then
  f_Md_choice_118 k_90 σ x2 x1
  else
  f_Md_choice_118 k_90 σ x2 x2)
  else none)
  else none))
set_option maxHeartbeats 4000000 in
set_option maxRecDepth 100000 in
theorem s_Md_choice_90b {p : Program} {l : Launch} {e : Env} {R : Room} {s : State} {m : MethodId} {args : Array Value} {below : List Frame} {meth : Method} {c : Code} {Q : State → Prop} {D : va_G} {q : Nat → ClassId} {a : Nat → Nat} {A : Nat → Prop} (C : pv_C p s m args c prog_9_method_62_code 3 "PatchVoicesModel" pv_TB D pv_cl (pv_ty q) 36 a A (pv_ZM)) (hmv : pv_mv A (pv_ZM)) (hRf : 0 ≤ R.frames) (hRl : 0 ≤ R.locals) {out : (Int32 × pv_S)} (hret : pv_Ri p l e R s m args below meth c prog_9_method_62_code D pv_cl 36 a (pv_FM q a) A Q out) {k_90 : pv_S → Int32 → Int32 → Option (Int32 × pv_S)} (hk_90 : ∀ (σ : pv_S) (x1 : Int32) (x2 : Int32) (H : Heap) (locs : List Loc) (ls : Array Slot), k_90 σ x1 x2 = some out → lv_has ls 3 [(0, .ref (a 0)), (1, .int x1), (2, .int x2)] → pv_W D pv_cl 36 a (pv_FM q a) σ H → va_S A s.heap H locs → W p l e R s m args below meth c H locs 0 0 Q (F0 m 90 ls [])) {σ : pv_S} {x1 : Int32} {x2 : Int32} {H : Heap} {locs : List Loc} {ls : Array Slot} (hl : lv_has ls 3 [(0, .ref (a 0)), (1, .int x1), (2, .int x2)]) (hP : pv_W D pv_cl 36 a (pv_FM q a) σ H) (hS : va_S A s.heap H locs) (hf : f_Md_choice_90b k_90 σ x1 x2 = some out) : W p l e R s m args below meth c H locs 0 0 Q (F0 m 90 ls []) := by
  unfold f_Md_choice_90b at hf
  have hx := C.1
  have hb := C.2.1
  refine lv_iload_n hx hb d_Md_choice_90 rfl (lv_at hl 2 rfl) ?_
  refine lv_aload_n hx hb d_Md_choice_91 rfl (lv_at hl 0 rfl) ?_
  refine pv_get C hP (v := .int (σ.1 0 32)) (j := 32) (by decide) (fm_0 _ _ _ _) fl_Md_75 rfl d_Md_choice_92 ?_
  refine lv_icmp_ge (tgt := 125) hx hb d_Md_choice_95 (by decide) (fun h => ?_) (fun h => ?_)
  · have hf := pv_t hf h
    refine lv_iload_n hx hb d_Md_choice_125 rfl (lv_at hl 1 rfl) ?_
    obtain rfl := Option.some.inj hf
    exact hret _ _ _ _ d_Md_choice_126 hP hS
  · have hf := pv_f hf h
    refine lv_aload_n hx hb d_Md_choice_98 rfl (lv_at hl 0 rfl) ?_
    refine pv_get C hP (v := .ref (a 29)) (j := 41) (by decide) (fm_0 _ _ _ _) fl_Md_102 rfl d_Md_choice_99 ?_
    refine lv_iload_n hx hb d_Md_choice_102 rfl (lv_at hl 2 rfl) ?_
    obtain ⟨hg, hf⟩ := pv_g hf
    refine pv_iald C hP (t0 := 0) (by decide) (fm_29 _ _ _ _) rfl hg d_Md_choice_103 ?_
    refine lv_aload_n hx hb d_Md_choice_104 rfl (lv_at hl 0 rfl) ?_
    refine pv_get C hP (v := .ref (a 29)) (j := 41) (by decide) (fm_0 _ _ _ _) fl_Md_102 rfl d_Md_choice_105 ?_
    refine lv_iload_n hx hb d_Md_choice_108 rfl (lv_at hl 1 rfl) ?_
    obtain ⟨hg, hf⟩ := pv_g hf
    refine pv_iald C hP (t0 := 0) (by decide) (fm_29 _ _ _ _) rfl hg d_Md_choice_109 ?_
    refine lv_icmp_ge (tgt := 117) hx hb d_Md_choice_110 (by decide) (fun h => ?_) (fun h => ?_)
    · have hf := pv_t hf h
      refine lv_iload_n hx hb d_Md_choice_117 rfl (lv_at hl 1 rfl) ?_
      exact s_Md_choice_118 C hmv hRf hRl hret hk_90 (lv_sub hl [0, 2] rfl) hP hS hf
    · have hf := pv_f hf h
      refine lv_iload_n hx hb d_Md_choice_113 rfl (lv_at hl 2 rfl) ?_
      refine lv_goto (tgt := 118) hx hb d_Md_choice_114 (by decide) ?_
      exact s_Md_choice_118 C hmv hRf hRl hret hk_90 (lv_sub hl [0, 2] rfl) hP hS hf
def f_Md_choice_90 : Nat → pv_S → Int32 → Int32 → Option (Int32 × pv_S)
  | 0 => fun _ _ _ => none
  | n + 1 => f_Md_choice_90b (f_Md_choice_90 n)
set_option maxHeartbeats 4000000 in
theorem s_Md_choice_90 {p : Program} {l : Launch} {e : Env} {R : Room} {s : State} {m : MethodId} {args : Array Value} {below : List Frame} {meth : Method} {c : Code} {Q : State → Prop} {D : va_G} {q : Nat → ClassId} {a : Nat → Nat} {A : Nat → Prop} (C : pv_C p s m args c prog_9_method_62_code 3 "PatchVoicesModel" pv_TB D pv_cl (pv_ty q) 36 a A (pv_ZM)) (hmv : pv_mv A (pv_ZM)) (hRf : 0 ≤ R.frames) (hRl : 0 ≤ R.locals) {out : (Int32 × pv_S)} (hret : pv_Ri p l e R s m args below meth c prog_9_method_62_code D pv_cl 36 a (pv_FM q a) A Q out) (n : Nat) : ∀ {σ : pv_S} {x1 : Int32} {x2 : Int32} {H : Heap} {locs : List Loc} {ls : Array Slot}, lv_has ls 3 [(0, .ref (a 0)), (1, .int x1), (2, .int x2)] → pv_W D pv_cl 36 a (pv_FM q a) σ H → va_S A s.heap H locs → f_Md_choice_90 n σ x1 x2 = some out → W p l e R s m args below meth c H locs 0 0 Q (F0 m 90 ls []) := by
  induction n with
  | zero => intro σ x1 x2 H locs ls hl hP hS hf; cases hf
  | succ n ih => intro σ x1 x2 H locs ls hl hP hS hf; exact s_Md_choice_90b C hmv hRf hRl hret (fun σ x1 x2 H locs ls hf hl hP hS => ih hl hP hS hf) hl hP hS hf
def f_Md_choice_73 (k_36 : pv_S → Int32 → Int32 → Option (Int32 × pv_S)) (σ : pv_S) (x2 : Int32) (s0 : Int32) : Option (Int32 × pv_S) :=
  k_36 σ s0 (x2 + (-1 : Int32))
set_option maxHeartbeats 4000000 in
set_option maxRecDepth 100000 in
theorem s_Md_choice_73 {p : Program} {l : Launch} {e : Env} {R : Room} {s : State} {m : MethodId} {args : Array Value} {below : List Frame} {meth : Method} {c : Code} {Q : State → Prop} {D : va_G} {q : Nat → ClassId} {a : Nat → Nat} {A : Nat → Prop} (C : pv_C p s m args c prog_9_method_62_code 3 "PatchVoicesModel" pv_TB D pv_cl (pv_ty q) 36 a A (pv_ZM)) (hmv : pv_mv A (pv_ZM)) (hRf : 0 ≤ R.frames) (hRl : 0 ≤ R.locals) {out : (Int32 × pv_S)} (hret : pv_Ri p l e R s m args below meth c prog_9_method_62_code D pv_cl 36 a (pv_FM q a) A Q out) {k_36 : pv_S → Int32 → Int32 → Option (Int32 × pv_S)} (hk_36 : ∀ (σ : pv_S) (x1 : Int32) (x2 : Int32) (H : Heap) (locs : List Loc) (ls : Array Slot), k_36 σ x1 x2 = some out → lv_has ls 3 [(0, .ref (a 0)), (1, .int x1), (2, .int x2)] → pv_W D pv_cl 36 a (pv_FM q a) σ H → va_S A s.heap H locs → W p l e R s m args below meth c H locs 0 0 Q (F0 m 36 ls [])) {σ : pv_S} {x2 : Int32} {s0 : Int32} {H : Heap} {locs : List Loc} {ls : Array Slot} (hl : lv_has ls 3 [(0, .ref (a 0)), (2, .int x2)]) (hP : pv_W D pv_cl 36 a (pv_FM q a) σ H) (hS : va_S A s.heap H locs) (hf : f_Md_choice_73 k_36 σ x2 s0 = some out) : W p l e R s m args below meth c H locs 0 0 Q (F0 m 73 ls [.int s0]) := by
  unfold f_Md_choice_73 at hf
  have hx := C.1
  have hb := C.2.1
  refine lv_istore_n (lv' := [(1, .int s0), (0, .ref (a 0)), (2, .int x2)]) hx hb d_Md_choice_73 rfl hl (by decide) rfl (fun ls hl => ?_)
  refine lv_iinc (k := 2) (v := (x2 + (-1 : Int32))) (lv' := [(2, .int (x2 + (-1 : Int32))), (1, .int s0), (0, .ref (a 0))]) hx hb d_Md_choice_74 hl rfl (pv_inc (by decide)) (by decide) rfl (fun ls hl => ?_)
  refine lv_goto (tgt := 36) hx hb d_Md_choice_77 (by decide) ?_
  exact hk_36 _ _ _ _ _ _ hf (lv_sub hl [2, 1, 0] rfl) hP hS
def f_Md_choice_72 (k_36 : pv_S → Int32 → Int32 → Option (Int32 × pv_S)) (σ : pv_S) (x1 : Int32) (x2 : Int32) : Option (Int32 × pv_S) :=
  f_Md_choice_73 k_36 σ x2 x1
set_option maxHeartbeats 4000000 in
set_option maxRecDepth 100000 in
theorem s_Md_choice_72 {p : Program} {l : Launch} {e : Env} {R : Room} {s : State} {m : MethodId} {args : Array Value} {below : List Frame} {meth : Method} {c : Code} {Q : State → Prop} {D : va_G} {q : Nat → ClassId} {a : Nat → Nat} {A : Nat → Prop} (C : pv_C p s m args c prog_9_method_62_code 3 "PatchVoicesModel" pv_TB D pv_cl (pv_ty q) 36 a A (pv_ZM)) (hmv : pv_mv A (pv_ZM)) (hRf : 0 ≤ R.frames) (hRl : 0 ≤ R.locals) {out : (Int32 × pv_S)} (hret : pv_Ri p l e R s m args below meth c prog_9_method_62_code D pv_cl 36 a (pv_FM q a) A Q out) {k_36 : pv_S → Int32 → Int32 → Option (Int32 × pv_S)} (hk_36 : ∀ (σ : pv_S) (x1 : Int32) (x2 : Int32) (H : Heap) (locs : List Loc) (ls : Array Slot), k_36 σ x1 x2 = some out → lv_has ls 3 [(0, .ref (a 0)), (1, .int x1), (2, .int x2)] → pv_W D pv_cl 36 a (pv_FM q a) σ H → va_S A s.heap H locs → W p l e R s m args below meth c H locs 0 0 Q (F0 m 36 ls [])) {σ : pv_S} {x1 : Int32} {x2 : Int32} {H : Heap} {locs : List Loc} {ls : Array Slot} (hl : lv_has ls 3 [(0, .ref (a 0)), (1, .int x1), (2, .int x2)]) (hP : pv_W D pv_cl 36 a (pv_FM q a) σ H) (hS : va_S A s.heap H locs) (hf : f_Md_choice_72 k_36 σ x1 x2 = some out) : W p l e R s m args below meth c H locs 0 0 Q (F0 m 72 ls []) := by
  unfold f_Md_choice_72 at hf
  have hx := C.1
  have hb := C.2.1
  refine lv_iload_n hx hb d_Md_choice_72 rfl (lv_at hl 1 rfl) ?_
  exact s_Md_choice_73 C hmv hRf hRl hret hk_36 (lv_sub hl [0, 2] rfl) hP hS hf
def f_Md_choice_68 (k_36 : pv_S → Int32 → Int32 → Option (Int32 × pv_S)) (σ : pv_S) (x2 : Int32) : Option (Int32 × pv_S) :=
  f_Md_choice_73 k_36 σ x2 x2
set_option maxHeartbeats 4000000 in
set_option maxRecDepth 100000 in
theorem s_Md_choice_68 {p : Program} {l : Launch} {e : Env} {R : Room} {s : State} {m : MethodId} {args : Array Value} {below : List Frame} {meth : Method} {c : Code} {Q : State → Prop} {D : va_G} {q : Nat → ClassId} {a : Nat → Nat} {A : Nat → Prop} (C : pv_C p s m args c prog_9_method_62_code 3 "PatchVoicesModel" pv_TB D pv_cl (pv_ty q) 36 a A (pv_ZM)) (hmv : pv_mv A (pv_ZM)) (hRf : 0 ≤ R.frames) (hRl : 0 ≤ R.locals) {out : (Int32 × pv_S)} (hret : pv_Ri p l e R s m args below meth c prog_9_method_62_code D pv_cl 36 a (pv_FM q a) A Q out) {k_36 : pv_S → Int32 → Int32 → Option (Int32 × pv_S)} (hk_36 : ∀ (σ : pv_S) (x1 : Int32) (x2 : Int32) (H : Heap) (locs : List Loc) (ls : Array Slot), k_36 σ x1 x2 = some out → lv_has ls 3 [(0, .ref (a 0)), (1, .int x1), (2, .int x2)] → pv_W D pv_cl 36 a (pv_FM q a) σ H → va_S A s.heap H locs → W p l e R s m args below meth c H locs 0 0 Q (F0 m 36 ls [])) {σ : pv_S} {x2 : Int32} {H : Heap} {locs : List Loc} {ls : Array Slot} (hl : lv_has ls 3 [(0, .ref (a 0)), (2, .int x2)]) (hP : pv_W D pv_cl 36 a (pv_FM q a) σ H) (hS : va_S A s.heap H locs) (hf : f_Md_choice_68 k_36 σ x2 = some out) : W p l e R s m args below meth c H locs 0 0 Q (F0 m 68 ls []) := by
  unfold f_Md_choice_68 at hf
  have hx := C.1
  have hb := C.2.1
  refine lv_iload_n hx hb d_Md_choice_68 rfl (lv_at hl 1 rfl) ?_
  refine lv_goto (tgt := 73) hx hb d_Md_choice_69 (by decide) ?_
  exact s_Md_choice_73 C hmv hRf hRl hret hk_36 (lv_sub hl [0, 1] rfl) hP hS hf
def f_Md_choice_36b (k_36 : pv_S → Int32 → Int32 → Option (Int32 × pv_S)) (σ : pv_S) (x1 : Int32) (x2 : Int32) : Option (Int32 × pv_S) :=
  (if x2 < 0 then
  (if x1 < 0 then
  f_Md_choice_90 pv_fu σ (0 : Int32) (1 : Int32)
  else
  some (x1, σ))
  else
  (if pv_in x2 4 = true then
(if (σ.1 26 (x2).toNatClampNeg) = 0 then
  f_Md_choice_72 k_36 σ x1 x2
  else
  (if x1 < 0 then
  f_Md_choice_68 k_36 σ x2
  else
  (if pv_in x2 4 = true then
(if pv_in x1 4 = true then
(if (σ.1 28 (x1).toNatClampNeg) < (σ.1 28 (x2).toNatClampNeg) then
  f_Md_choice_72 k_36 σ x1 x2
  else
  f_Md_choice_68 k_36 σ x2)
  else none)
  else none)))
  else none))
set_option maxHeartbeats 4000000 in
set_option maxRecDepth 100000 in
theorem s_Md_choice_36b {p : Program} {l : Launch} {e : Env} {R : Room} {s : State} {m : MethodId} {args : Array Value} {below : List Frame} {meth : Method} {c : Code} {Q : State → Prop} {D : va_G} {q : Nat → ClassId} {a : Nat → Nat} {A : Nat → Prop} (C : pv_C p s m args c prog_9_method_62_code 3 "PatchVoicesModel" pv_TB D pv_cl (pv_ty q) 36 a A (pv_ZM)) (hmv : pv_mv A (pv_ZM)) (hRf : 0 ≤ R.frames) (hRl : 0 ≤ R.locals) {out : (Int32 × pv_S)} (hret : pv_Ri p l e R s m args below meth c prog_9_method_62_code D pv_cl 36 a (pv_FM q a) A Q out) {k_36 : pv_S → Int32 → Int32 → Option (Int32 × pv_S)} (hk_36 : ∀ (σ : pv_S) (x1 : Int32) (x2 : Int32) (H : Heap) (locs : List Loc) (ls : Array Slot), k_36 σ x1 x2 = some out → lv_has ls 3 [(0, .ref (a 0)), (1, .int x1), (2, .int x2)] → pv_W D pv_cl 36 a (pv_FM q a) σ H → va_S A s.heap H locs → W p l e R s m args below meth c H locs 0 0 Q (F0 m 36 ls [])) {σ : pv_S} {x1 : Int32} {x2 : Int32} {H : Heap} {locs : List Loc} {ls : Array Slot} (hl : lv_has ls 3 [(0, .ref (a 0)), (1, .int x1), (2, .int x2)]) (hP : pv_W D pv_cl 36 a (pv_FM q a) σ H) (hS : va_S A s.heap H locs) (hf : f_Md_choice_36b k_36 σ x1 x2 = some out) : W p l e R s m args below meth c H locs 0 0 Q (F0 m 36 ls []) := by
  unfold f_Md_choice_36b at hf
  have hx := C.1
  have hb := C.2.1
  refine lv_iload_n hx hb d_Md_choice_36 rfl (lv_at hl 2 rfl) ?_
  refine lv_if_lt (tgt := 80) hx hb d_Md_choice_37 (by decide) (fun h => ?_) (fun h => ?_)
  · have hf := pv_t hf h
    refine lv_iload_n hx hb d_Md_choice_80 rfl (lv_at hl 1 rfl) ?_
    refine lv_if_lt (tgt := 86) hx hb d_Md_choice_81 (by decide) (fun h => ?_) (fun h => ?_)
    · have hf := pv_t hf h
      refine lv_iconst (v := (0 : Int32)) hx hb d_Md_choice_86 (by decide) ?_
      refine lv_istore_n (lv' := [(1, .int (0 : Int32)), (0, .ref (a 0)), (2, .int x2)]) hx hb d_Md_choice_87 rfl hl (by decide) rfl (fun ls hl => ?_)
      refine lv_iconst (v := (1 : Int32)) hx hb d_Md_choice_88 (by decide) ?_
      refine lv_istore_n (lv' := [(2, .int (1 : Int32)), (1, .int (0 : Int32)), (0, .ref (a 0))]) hx hb d_Md_choice_89 rfl hl (by decide) rfl (fun ls hl => ?_)
      exact s_Md_choice_90 C hmv hRf hRl hret pv_fu (lv_sub hl [2, 1, 0] rfl) hP hS hf
    · have hf := pv_f hf h
      refine lv_iload_n hx hb d_Md_choice_84 rfl (lv_at hl 1 rfl) ?_
      obtain rfl := Option.some.inj hf
      exact hret _ _ _ _ d_Md_choice_85 hP hS
  · have hf := pv_f hf h
    refine lv_aload_n hx hb d_Md_choice_40 rfl (lv_at hl 0 rfl) ?_
    refine pv_get C hP (v := .ref (a 26)) (j := 38) (by decide) (fm_0 _ _ _ _) fl_Md_93 rfl d_Md_choice_41 ?_
    refine lv_iload_n hx hb d_Md_choice_44 rfl (lv_at hl 2 rfl) ?_
    obtain ⟨hg, hf⟩ := pv_g hf
    refine pv_zald C hP (t0 := 2) (by decide) (fm_26 _ _ _ _) rfl hg d_Md_choice_45 ?_
    refine lv_if_eq (tgt := 72) hx hb d_Md_choice_46 (by decide) (fun h => ?_) (fun h => ?_)
    · have hf := pv_t hf h
      exact s_Md_choice_72 C hmv hRf hRl hret hk_36 (lv_sub hl [0, 1, 2] rfl) hP hS hf
    · have hf := pv_f hf h
      refine lv_iload_n hx hb d_Md_choice_49 rfl (lv_at hl 1 rfl) ?_
      refine lv_if_lt (tgt := 68) hx hb d_Md_choice_50 (by decide) (fun h => ?_) (fun h => ?_)
      · have hf := pv_t hf h
        exact s_Md_choice_68 C hmv hRf hRl hret hk_36 (lv_sub hl [0, 2] rfl) hP hS hf
      · have hf := pv_f hf h
        refine lv_aload_n hx hb d_Md_choice_53 rfl (lv_at hl 0 rfl) ?_
        refine pv_get C hP (v := .ref (a 28)) (j := 40) (by decide) (fm_0 _ _ _ _) fl_Md_99 rfl d_Md_choice_54 ?_
        refine lv_iload_n hx hb d_Md_choice_57 rfl (lv_at hl 2 rfl) ?_
        obtain ⟨hg, hf⟩ := pv_g hf
        refine pv_iald C hP (t0 := 0) (by decide) (fm_28 _ _ _ _) rfl hg d_Md_choice_58 ?_
        refine lv_aload_n hx hb d_Md_choice_59 rfl (lv_at hl 0 rfl) ?_
        refine pv_get C hP (v := .ref (a 28)) (j := 40) (by decide) (fm_0 _ _ _ _) fl_Md_99 rfl d_Md_choice_60 ?_
        refine lv_iload_n hx hb d_Md_choice_63 rfl (lv_at hl 1 rfl) ?_
        obtain ⟨hg, hf⟩ := pv_g hf
        refine pv_iald C hP (t0 := 0) (by decide) (fm_28 _ _ _ _) rfl hg d_Md_choice_64 ?_
        refine lv_icmp_gt (tgt := 72) hx hb d_Md_choice_65 (by decide) (fun h => ?_) (fun h => ?_)
        · have hf := pv_t hf h
          exact s_Md_choice_72 C hmv hRf hRl hret hk_36 (lv_sub hl [0, 1, 2] rfl) hP hS hf
        · have hf := pv_f hf h
          exact s_Md_choice_68 C hmv hRf hRl hret hk_36 (lv_sub hl [0, 2] rfl) hP hS hf
def f_Md_choice_36 : Nat → pv_S → Int32 → Int32 → Option (Int32 × pv_S)
  | 0 => fun _ _ _ => none
  | n + 1 => f_Md_choice_36b (f_Md_choice_36 n)
set_option maxHeartbeats 4000000 in
theorem s_Md_choice_36 {p : Program} {l : Launch} {e : Env} {R : Room} {s : State} {m : MethodId} {args : Array Value} {below : List Frame} {meth : Method} {c : Code} {Q : State → Prop} {D : va_G} {q : Nat → ClassId} {a : Nat → Nat} {A : Nat → Prop} (C : pv_C p s m args c prog_9_method_62_code 3 "PatchVoicesModel" pv_TB D pv_cl (pv_ty q) 36 a A (pv_ZM)) (hmv : pv_mv A (pv_ZM)) (hRf : 0 ≤ R.frames) (hRl : 0 ≤ R.locals) {out : (Int32 × pv_S)} (hret : pv_Ri p l e R s m args below meth c prog_9_method_62_code D pv_cl 36 a (pv_FM q a) A Q out) (n : Nat) : ∀ {σ : pv_S} {x1 : Int32} {x2 : Int32} {H : Heap} {locs : List Loc} {ls : Array Slot}, lv_has ls 3 [(0, .ref (a 0)), (1, .int x1), (2, .int x2)] → pv_W D pv_cl 36 a (pv_FM q a) σ H → va_S A s.heap H locs → f_Md_choice_36 n σ x1 x2 = some out → W p l e R s m args below meth c H locs 0 0 Q (F0 m 36 ls []) := by
  induction n with
  | zero => intro σ x1 x2 H locs ls hl hP hS hf; cases hf
  | succ n ih => intro σ x1 x2 H locs ls hl hP hS hf; exact s_Md_choice_36b C hmv hRf hRl hret (fun σ x1 x2 H locs ls hf hl hP hS => ih hl hP hS hf) hl hP hS hf
def f_Md_choice_2b (k_2 : pv_S → Int32 → Option (Int32 × pv_S)) (σ : pv_S) (x1 : Int32) : Option (Int32 × pv_S) :=
  (if (σ.1 0 32) ≤ x1 then
  f_Md_choice_36 pv_fu σ (-1 : Int32) ((σ.1 0 32) - (1 : Int32))
  else
  (if pv_in x1 4 = true then
(if (σ.1 22 (x1).toNatClampNeg) = 0 then
  some (x1, σ)
  else
  k_2 σ (x1 + (1 : Int32)))
  else none))
set_option maxHeartbeats 4000000 in
set_option maxRecDepth 100000 in
theorem s_Md_choice_2b {p : Program} {l : Launch} {e : Env} {R : Room} {s : State} {m : MethodId} {args : Array Value} {below : List Frame} {meth : Method} {c : Code} {Q : State → Prop} {D : va_G} {q : Nat → ClassId} {a : Nat → Nat} {A : Nat → Prop} (C : pv_C p s m args c prog_9_method_62_code 3 "PatchVoicesModel" pv_TB D pv_cl (pv_ty q) 36 a A (pv_ZM)) (hmv : pv_mv A (pv_ZM)) (hRf : 0 ≤ R.frames) (hRl : 0 ≤ R.locals) {out : (Int32 × pv_S)} (hret : pv_Ri p l e R s m args below meth c prog_9_method_62_code D pv_cl 36 a (pv_FM q a) A Q out) {k_2 : pv_S → Int32 → Option (Int32 × pv_S)} (hk_2 : ∀ (σ : pv_S) (x1 : Int32) (H : Heap) (locs : List Loc) (ls : Array Slot), k_2 σ x1 = some out → lv_has ls 3 [(0, .ref (a 0)), (1, .int x1)] → pv_W D pv_cl 36 a (pv_FM q a) σ H → va_S A s.heap H locs → W p l e R s m args below meth c H locs 0 0 Q (F0 m 2 ls [])) {σ : pv_S} {x1 : Int32} {H : Heap} {locs : List Loc} {ls : Array Slot} (hl : lv_has ls 3 [(0, .ref (a 0)), (1, .int x1)]) (hP : pv_W D pv_cl 36 a (pv_FM q a) σ H) (hS : va_S A s.heap H locs) (hf : f_Md_choice_2b k_2 σ x1 = some out) : W p l e R s m args below meth c H locs 0 0 Q (F0 m 2 ls []) := by
  unfold f_Md_choice_2b at hf
  have hx := C.1
  have hb := C.2.1
  refine lv_iload_n hx hb d_Md_choice_2 rfl (lv_at hl 1 rfl) ?_
  refine lv_aload_n hx hb d_Md_choice_3 rfl (lv_at hl 0 rfl) ?_
  refine pv_get C hP (v := .int (σ.1 0 32)) (j := 32) (by decide) (fm_0 _ _ _ _) fl_Md_75 rfl d_Md_choice_4 ?_
  refine lv_icmp_ge (tgt := 27) hx hb d_Md_choice_7 (by decide) (fun h => ?_) (fun h => ?_)
  · have hf := pv_t hf h
    refine lv_iconst (v := (-1 : Int32)) hx hb d_Md_choice_27 (by decide) ?_
    refine lv_istore_n (lv' := [(1, .int (-1 : Int32)), (0, .ref (a 0))]) hx hb d_Md_choice_28 rfl hl (by decide) rfl (fun ls hl => ?_)
    refine lv_aload_n hx hb d_Md_choice_29 rfl (lv_at hl 1 rfl) ?_
    refine pv_get C hP (v := .int (σ.1 0 32)) (j := 32) (by decide) (fm_0 _ _ _ _) fl_Md_75 rfl d_Md_choice_30 ?_
    refine lv_iconst (v := (1 : Int32)) hx hb d_Md_choice_33 (by decide) ?_
    refine lv_isub hx hb d_Md_choice_34 ?_
    refine lv_istore_n (lv' := [(2, .int ((σ.1 0 32) - (1 : Int32))), (1, .int (-1 : Int32)), (0, .ref (a 0))]) hx hb d_Md_choice_35 rfl hl (by decide) rfl (fun ls hl => ?_)
    exact s_Md_choice_36 C hmv hRf hRl hret pv_fu (lv_sub hl [2, 1, 0] rfl) hP hS hf
  · have hf := pv_f hf h
    refine lv_aload_n hx hb d_Md_choice_10 rfl (lv_at hl 0 rfl) ?_
    refine pv_get C hP (v := .ref (a 22)) (j := 34) (by decide) (fm_0 _ _ _ _) fl_Md_81 rfl d_Md_choice_11 ?_
    refine lv_iload_n hx hb d_Md_choice_14 rfl (lv_at hl 1 rfl) ?_
    obtain ⟨hg, hf⟩ := pv_g hf
    refine pv_zald C hP (t0 := 2) (by decide) (fm_22 _ _ _ _) rfl hg d_Md_choice_15 ?_
    refine lv_if_ne (tgt := 21) hx hb d_Md_choice_16 (by decide) (fun h => ?_) (fun h => ?_)
    · have hf := pv_f hf h
      refine lv_iinc (k := 1) (v := (x1 + (1 : Int32))) (lv' := [(1, .int (x1 + (1 : Int32))), (0, .ref (a 0))]) hx hb d_Md_choice_21 hl rfl (pv_inc (by decide)) (by decide) rfl (fun ls hl => ?_)
      refine lv_goto (tgt := 2) hx hb d_Md_choice_24 (by decide) ?_
      exact hk_2 _ _ _ _ _ hf (lv_sub hl [1, 0] rfl) hP hS
    · have hf := pv_t hf h
      refine lv_iload_n hx hb d_Md_choice_19 rfl (lv_at hl 1 rfl) ?_
      obtain rfl := Option.some.inj hf
      exact hret _ _ _ _ d_Md_choice_20 hP hS
def f_Md_choice_2 : Nat → pv_S → Int32 → Option (Int32 × pv_S)
  | 0 => fun _ _ => none
  | n + 1 => f_Md_choice_2b (f_Md_choice_2 n)
set_option maxHeartbeats 4000000 in
theorem s_Md_choice_2 {p : Program} {l : Launch} {e : Env} {R : Room} {s : State} {m : MethodId} {args : Array Value} {below : List Frame} {meth : Method} {c : Code} {Q : State → Prop} {D : va_G} {q : Nat → ClassId} {a : Nat → Nat} {A : Nat → Prop} (C : pv_C p s m args c prog_9_method_62_code 3 "PatchVoicesModel" pv_TB D pv_cl (pv_ty q) 36 a A (pv_ZM)) (hmv : pv_mv A (pv_ZM)) (hRf : 0 ≤ R.frames) (hRl : 0 ≤ R.locals) {out : (Int32 × pv_S)} (hret : pv_Ri p l e R s m args below meth c prog_9_method_62_code D pv_cl 36 a (pv_FM q a) A Q out) (n : Nat) : ∀ {σ : pv_S} {x1 : Int32} {H : Heap} {locs : List Loc} {ls : Array Slot}, lv_has ls 3 [(0, .ref (a 0)), (1, .int x1)] → pv_W D pv_cl 36 a (pv_FM q a) σ H → va_S A s.heap H locs → f_Md_choice_2 n σ x1 = some out → W p l e R s m args below meth c H locs 0 0 Q (F0 m 2 ls []) := by
  induction n with
  | zero => intro σ x1 H locs ls hl hP hS hf; cases hf
  | succ n ih => intro σ x1 H locs ls hl hP hS hf; exact s_Md_choice_2b C hmv hRf hRl hret (fun σ x1 H locs ls hf hl hP hS => ih hl hP hS hf) hl hP hS hf
def f_Md_choice_0 (σ : pv_S) : Option (Int32 × pv_S) :=
  f_Md_choice_2 pv_fu σ (0 : Int32)
set_option maxHeartbeats 4000000 in
set_option maxRecDepth 100000 in
theorem s_Md_choice_0 {p : Program} {l : Launch} {e : Env} {R : Room} {s : State} {m : MethodId} {args : Array Value} {below : List Frame} {meth : Method} {c : Code} {Q : State → Prop} {D : va_G} {q : Nat → ClassId} {a : Nat → Nat} {A : Nat → Prop} (C : pv_C p s m args c prog_9_method_62_code 3 "PatchVoicesModel" pv_TB D pv_cl (pv_ty q) 36 a A (pv_ZM)) (hmv : pv_mv A (pv_ZM)) (hRf : 0 ≤ R.frames) (hRl : 0 ≤ R.locals) {out : (Int32 × pv_S)} (hret : pv_Ri p l e R s m args below meth c prog_9_method_62_code D pv_cl 36 a (pv_FM q a) A Q out) {σ : pv_S} {H : Heap} {locs : List Loc} {ls : Array Slot} (hl : lv_has ls 3 [(0, .ref (a 0))]) (hP : pv_W D pv_cl 36 a (pv_FM q a) σ H) (hS : va_S A s.heap H locs) (hf : f_Md_choice_0 σ = some out) : W p l e R s m args below meth c H locs 0 0 Q (F0 m 0 ls []) := by
  unfold f_Md_choice_0 at hf
  have hx := C.1
  have hb := C.2.1
  refine lv_iconst (v := (0 : Int32)) hx hb d_Md_choice_0 (by decide) ?_
  refine lv_istore_n (lv' := [(1, .int (0 : Int32)), (0, .ref (a 0))]) hx hb d_Md_choice_1 rfl hl (by decide) rfl (fun ls hl => ?_)
  exact s_Md_choice_2 C hmv hRf hRl hret pv_fu (lv_sub hl [1, 0] rfl) hP hS hf
def f_Md_choice (σ : pv_S) : Option (Int32 × pv_S) := f_Md_choice_0 σ
def rm_Md_choice : Room := { frames := 0, cells := 0, slots := 0, locals := 0 }
theorem c_Md_choice {l : Launch} {D : va_G} {q : Nat → ClassId} {a : Nat → Nat} {A : Nat → Prop} (hD : pv_D 36 a A) (hmv : pv_mv A (pv_ZM)) {σ : pv_S} {out : (Int32 × pv_S)} (hf : f_Md_choice σ = some out) : pv_Mi l y_Md_choice (Cond.code y_Md_choice prog_9_method_62_code 3 (some .int) :: pv_TB) rm_Md_choice D pv_cl (pv_ty q) 36 a (pv_FM q a) A (pv_ZM) [.ref (a 0)] σ out :=
  pv_ofI (by decide) (Nat.le_of_ble_eq_true rfl) hD (fun p e s m args below meth c Q ls C hret hl hP => s_Md_choice_0 C hmv (Nat.le_refl _) (Nat.le_refl _) hret hl hP va_S.rf hf)
theorem d_Md_note_0 : decode prog_9_method_63_code 0 = .ok (.aload_n 0, 1) := by decide +kernel
theorem d_Md_note_1 : decode prog_9_method_63_code 1 = .ok (.iload_n 2, 1) := by decide +kernel
theorem d_Md_note_2 : decode prog_9_method_63_code 2 = .ok (.iconst 1, 1) := by decide +kernel
theorem d_Md_note_3 : decode prog_9_method_63_code 3 = .ok (.if_icmp .lt 13, 3) := by decide +kernel
theorem d_Md_note_6 : decode prog_9_method_63_code 6 = .ok (.iload_n 2, 1) := by decide +kernel
theorem d_Md_note_7 : decode prog_9_method_63_code 7 = .ok (.bipush 127, 2) := by decide +kernel
theorem d_Md_note_9 : decode prog_9_method_63_code 9 = .ok (.if_icmp .gt 7, 3) := by decide +kernel
theorem d_Md_note_12 : decode prog_9_method_63_code 12 = .ok (.iconst 0, 1) := by decide +kernel
theorem d_Md_note_13 : decode prog_9_method_63_code 13 = .ok (.goto 4, 3) := by decide +kernel
theorem d_Md_note_16 : decode prog_9_method_63_code 16 = .ok (.iconst 1, 1) := by decide +kernel
theorem d_Md_note_17 : decode prog_9_method_63_code 17 = .ok (.putfield 127, 3) := by decide +kernel
theorem d_Md_note_20 : decode prog_9_method_63_code 20 = .ok (.aload_n 0, 1) := by decide +kernel
theorem d_Md_note_21 : decode prog_9_method_63_code 21 = .ok (.getfield 127, 3) := by decide +kernel
theorem d_Md_note_24 : decode prog_9_method_63_code 24 = .ok (.ifCond .le 5, 3) := by decide +kernel
theorem d_Md_note_27 : decode prog_9_method_63_code 27 = .ok (.iconst 0, 1) := by decide +kernel
theorem d_Md_note_28 : decode prog_9_method_63_code 28 = .ok (.ireturn, 1) := by decide +kernel
theorem d_Md_note_29 : decode prog_9_method_63_code 29 = .ok (.aload_n 0, 1) := by decide +kernel
theorem d_Md_note_30 : decode prog_9_method_63_code 30 = .ok (.invokevirtual 341, 3) := by decide +kernel
theorem d_Md_note_33 : decode prog_9_method_63_code 33 = .ok (.istore_n 3, 1) := by decide +kernel
theorem d_Md_note_34 : decode prog_9_method_63_code 34 = .ok (.aload_n 0, 1) := by decide +kernel
theorem d_Md_note_35 : decode prog_9_method_63_code 35 = .ok (.getfield 81, 3) := by decide +kernel
theorem d_Md_note_38 : decode prog_9_method_63_code 38 = .ok (.iload_n 3, 1) := by decide +kernel
theorem d_Md_note_39 : decode prog_9_method_63_code 39 = .ok (.iconst 1, 1) := by decide +kernel
theorem d_Md_note_40 : decode prog_9_method_63_code 40 = .ok (.bastore, 1) := by decide +kernel
theorem d_Md_note_41 : decode prog_9_method_63_code 41 = .ok (.aload_n 0, 1) := by decide +kernel
theorem d_Md_note_42 : decode prog_9_method_63_code 42 = .ok (.getfield 84, 3) := by decide +kernel
theorem d_Md_note_45 : decode prog_9_method_63_code 45 = .ok (.iload_n 3, 1) := by decide +kernel
theorem d_Md_note_46 : decode prog_9_method_63_code 46 = .ok (.iload_n 1, 1) := by decide +kernel
theorem d_Md_note_47 : decode prog_9_method_63_code 47 = .ok (.iastore, 1) := by decide +kernel
theorem d_Md_note_48 : decode prog_9_method_63_code 48 = .ok (.aload_n 0, 1) := by decide +kernel
theorem d_Md_note_49 : decode prog_9_method_63_code 49 = .ok (.getfield 87, 3) := by decide +kernel
theorem d_Md_note_52 : decode prog_9_method_63_code 52 = .ok (.iload_n 3, 1) := by decide +kernel
theorem d_Md_note_53 : decode prog_9_method_63_code 53 = .ok (.iload_n 2, 1) := by decide +kernel
theorem d_Md_note_54 : decode prog_9_method_63_code 54 = .ok (.iastore, 1) := by decide +kernel
theorem d_Md_note_55 : decode prog_9_method_63_code 55 = .ok (.aload_n 0, 1) := by decide +kernel
theorem d_Md_note_56 : decode prog_9_method_63_code 56 = .ok (.getfield 90, 3) := by decide +kernel
theorem d_Md_note_59 : decode prog_9_method_63_code 59 = .ok (.iload_n 3, 1) := by decide +kernel
theorem d_Md_note_60 : decode prog_9_method_63_code 60 = .ok (.iconst 1, 1) := by decide +kernel
theorem d_Md_note_61 : decode prog_9_method_63_code 61 = .ok (.bastore, 1) := by decide +kernel
theorem d_Md_note_62 : decode prog_9_method_63_code 62 = .ok (.aload_n 0, 1) := by decide +kernel
theorem d_Md_note_63 : decode prog_9_method_63_code 63 = .ok (.getfield 93, 3) := by decide +kernel
theorem d_Md_note_66 : decode prog_9_method_63_code 66 = .ok (.iload_n 3, 1) := by decide +kernel
theorem d_Md_note_67 : decode prog_9_method_63_code 67 = .ok (.iconst 0, 1) := by decide +kernel
theorem d_Md_note_68 : decode prog_9_method_63_code 68 = .ok (.bastore, 1) := by decide +kernel
theorem d_Md_note_69 : decode prog_9_method_63_code 69 = .ok (.aload_n 0, 1) := by decide +kernel
theorem d_Md_note_70 : decode prog_9_method_63_code 70 = .ok (.getfield 96, 3) := by decide +kernel
theorem d_Md_note_73 : decode prog_9_method_63_code 73 = .ok (.iload_n 3, 1) := by decide +kernel
theorem d_Md_note_74 : decode prog_9_method_63_code 74 = .ok (.iconst 0, 1) := by decide +kernel
theorem d_Md_note_75 : decode prog_9_method_63_code 75 = .ok (.iastore, 1) := by decide +kernel
theorem d_Md_note_76 : decode prog_9_method_63_code 76 = .ok (.aload_n 0, 1) := by decide +kernel
theorem d_Md_note_77 : decode prog_9_method_63_code 77 = .ok (.getfield 102, 3) := by decide +kernel
theorem d_Md_note_80 : decode prog_9_method_63_code 80 = .ok (.iload_n 3, 1) := by decide +kernel
theorem d_Md_note_81 : decode prog_9_method_63_code 81 = .ok (.aload_n 0, 1) := by decide +kernel
theorem d_Md_note_82 : decode prog_9_method_63_code 82 = .ok (.getfield 335, 3) := by decide +kernel
theorem d_Md_note_85 : decode prog_9_method_63_code 85 = .ok (.iastore, 1) := by decide +kernel
theorem d_Md_note_86 : decode prog_9_method_63_code 86 = .ok (.aload_n 0, 1) := by decide +kernel
theorem d_Md_note_87 : decode prog_9_method_63_code 87 = .ok (.dup, 1) := by decide +kernel
theorem d_Md_note_88 : decode prog_9_method_63_code 88 = .ok (.getfield 335, 3) := by decide +kernel
theorem d_Md_note_91 : decode prog_9_method_63_code 91 = .ok (.iconst 1, 1) := by decide +kernel
theorem d_Md_note_92 : decode prog_9_method_63_code 92 = .ok (.iadd, 1) := by decide +kernel
theorem d_Md_note_93 : decode prog_9_method_63_code 93 = .ok (.putfield 335, 3) := by decide +kernel
theorem d_Md_note_96 : decode prog_9_method_63_code 96 = .ok (.aload_n 0, 1) := by decide +kernel
theorem d_Md_note_97 : decode prog_9_method_63_code 97 = .ok (.getfield 105, 3) := by decide +kernel
theorem d_Md_note_100 : decode prog_9_method_63_code 100 = .ok (.iload_n 3, 1) := by decide +kernel
theorem d_Md_note_101 : decode prog_9_method_63_code 101 = .ok (.iconst 0, 1) := by decide +kernel
theorem d_Md_note_102 : decode prog_9_method_63_code 102 = .ok (.iastore, 1) := by decide +kernel
theorem d_Md_note_103 : decode prog_9_method_63_code 103 = .ok (.iconst 0, 1) := by decide +kernel
theorem d_Md_note_104 : decode prog_9_method_63_code 104 = .ok (.istore 4, 2) := by decide +kernel
theorem d_Md_note_106 : decode prog_9_method_63_code 106 = .ok (.iload 4, 2) := by decide +kernel
theorem d_Md_note_108 : decode prog_9_method_63_code 108 = .ok (.bipush 24, 2) := by decide +kernel
theorem d_Md_note_110 : decode prog_9_method_63_code 110 = .ok (.if_icmp .ge 67, 3) := by decide +kernel
theorem d_Md_note_113 : decode prog_9_method_63_code 113 = .ok (.aload_n 0, 1) := by decide +kernel
theorem d_Md_note_114 : decode prog_9_method_63_code 114 = .ok (.getfield 108, 3) := by decide +kernel
theorem d_Md_note_117 : decode prog_9_method_63_code 117 = .ok (.bipush 24, 2) := by decide +kernel
theorem d_Md_note_119 : decode prog_9_method_63_code 119 = .ok (.iload_n 3, 1) := by decide +kernel
theorem d_Md_note_120 : decode prog_9_method_63_code 120 = .ok (.imul, 1) := by decide +kernel
theorem d_Md_note_121 : decode prog_9_method_63_code 121 = .ok (.iload 4, 2) := by decide +kernel
theorem d_Md_note_123 : decode prog_9_method_63_code 123 = .ok (.iadd, 1) := by decide +kernel
theorem d_Md_note_124 : decode prog_9_method_63_code 124 = .ok (.aload_n 0, 1) := by decide +kernel
theorem d_Md_note_125 : decode prog_9_method_63_code 125 = .ok (.getfield 244, 3) := by decide +kernel
theorem d_Md_note_128 : decode prog_9_method_63_code 128 = .ok (.ifCond .eq 28, 3) := by decide +kernel
theorem d_Md_note_131 : decode prog_9_method_63_code 131 = .ok (.iload 4, 2) := by decide +kernel
theorem d_Md_note_133 : decode prog_9_method_63_code 133 = .ok (.aload_n 0, 1) := by decide +kernel
theorem d_Md_note_134 : decode prog_9_method_63_code 134 = .ok (.getfield 253, 3) := by decide +kernel
theorem d_Md_note_137 : decode prog_9_method_63_code 137 = .ok (.if_icmp .ge 19, 3) := by decide +kernel
theorem d_Md_note_140 : decode prog_9_method_63_code 140 = .ok (.aload_n 0, 1) := by decide +kernel
theorem d_Md_note_141 : decode prog_9_method_63_code 141 = .ok (.getfield 38, 3) := by decide +kernel
theorem d_Md_note_144 : decode prog_9_method_63_code 144 = .ok (.iload 4, 2) := by decide +kernel
theorem d_Md_note_146 : decode prog_9_method_63_code 146 = .ok (.iaload, 1) := by decide +kernel
theorem d_Md_note_147 : decode prog_9_method_63_code 147 = .ok (.bipush 15, 2) := by decide +kernel
theorem d_Md_note_149 : decode prog_9_method_63_code 149 = .ok (.if_icmp .ne 7, 3) := by decide +kernel
theorem d_Md_note_152 : decode prog_9_method_63_code 152 = .ok (.iconst 1, 1) := by decide +kernel
theorem d_Md_note_153 : decode prog_9_method_63_code 153 = .ok (.goto 4, 3) := by decide +kernel
theorem d_Md_note_156 : decode prog_9_method_63_code 156 = .ok (.iconst 0, 1) := by decide +kernel
theorem d_Md_note_157 : decode prog_9_method_63_code 157 = .ok (.iastore, 1) := by decide +kernel
theorem d_Md_note_158 : decode prog_9_method_63_code 158 = .ok (.aload_n 0, 1) := by decide +kernel
theorem d_Md_note_159 : decode prog_9_method_63_code 159 = .ok (.getfield 111, 3) := by decide +kernel
theorem d_Md_note_162 : decode prog_9_method_63_code 162 = .ok (.bipush 24, 2) := by decide +kernel
theorem d_Md_note_164 : decode prog_9_method_63_code 164 = .ok (.iload_n 3, 1) := by decide +kernel
theorem d_Md_note_165 : decode prog_9_method_63_code 165 = .ok (.imul, 1) := by decide +kernel
theorem d_Md_note_166 : decode prog_9_method_63_code 166 = .ok (.iload 4, 2) := by decide +kernel
theorem d_Md_note_168 : decode prog_9_method_63_code 168 = .ok (.iadd, 1) := by decide +kernel
theorem d_Md_note_169 : decode prog_9_method_63_code 169 = .ok (.iconst 0, 1) := by decide +kernel
theorem d_Md_note_170 : decode prog_9_method_63_code 170 = .ok (.iastore, 1) := by decide +kernel
theorem d_Md_note_171 : decode prog_9_method_63_code 171 = .ok (.iinc 4 1, 3) := by decide +kernel
theorem d_Md_note_174 : decode prog_9_method_63_code 174 = .ok (.goto (-68), 3) := by decide +kernel
theorem d_Md_note_177 : decode prog_9_method_63_code 177 = .ok (.iconst 0, 1) := by decide +kernel
theorem d_Md_note_178 : decode prog_9_method_63_code 178 = .ok (.istore 4, 2) := by decide +kernel
theorem d_Md_note_180 : decode prog_9_method_63_code 180 = .ok (.iload 4, 2) := by decide +kernel
theorem d_Md_note_182 : decode prog_9_method_63_code 182 = .ok (.sipush 128, 3) := by decide +kernel
theorem d_Md_note_185 : decode prog_9_method_63_code 185 = .ok (.if_icmp .ge 23, 3) := by decide +kernel
theorem d_Md_note_188 : decode prog_9_method_63_code 188 = .ok (.aload_n 0, 1) := by decide +kernel
theorem d_Md_note_189 : decode prog_9_method_63_code 189 = .ok (.getfield 117, 3) := by decide +kernel
theorem d_Md_note_192 : decode prog_9_method_63_code 192 = .ok (.sipush 128, 3) := by decide +kernel
theorem d_Md_note_195 : decode prog_9_method_63_code 195 = .ok (.iload_n 3, 1) := by decide +kernel
theorem d_Md_note_196 : decode prog_9_method_63_code 196 = .ok (.imul, 1) := by decide +kernel
theorem d_Md_note_197 : decode prog_9_method_63_code 197 = .ok (.iload 4, 2) := by decide +kernel
theorem d_Md_note_199 : decode prog_9_method_63_code 199 = .ok (.iadd, 1) := by decide +kernel
theorem d_Md_note_200 : decode prog_9_method_63_code 200 = .ok (.iconst 0, 1) := by decide +kernel
theorem d_Md_note_201 : decode prog_9_method_63_code 201 = .ok (.iastore, 1) := by decide +kernel
theorem d_Md_note_202 : decode prog_9_method_63_code 202 = .ok (.iinc 4 1, 3) := by decide +kernel
theorem d_Md_note_205 : decode prog_9_method_63_code 205 = .ok (.goto (-25), 3) := by decide +kernel
theorem d_Md_note_208 : decode prog_9_method_63_code 208 = .ok (.iload_n 3, 1) := by decide +kernel
theorem d_Md_note_209 : decode prog_9_method_63_code 209 = .ok (.ireturn, 1) := by decide +kernel
def f_Md_note_180b (k_180 : pv_S → Int32 → Int32 → Option (Int32 × pv_S)) (σ : pv_S) (x3 : Int32) (x4 : Int32) : Option (Int32 × pv_S) :=
  (if (128 : Int32) ≤ x4 then
  some (x3, σ)
  else
  (if pv_in (((128 : Int32) * x3) + x4) 512 = true then
k_180 (pv_uI σ 34 ((((128 : Int32) * x3) + x4)).toNatClampNeg (0 : Int32)) x3 (x4 + (1 : Int32))
  else none))
set_option maxHeartbeats 4000000 in
set_option maxRecDepth 100000 in
theorem s_Md_note_180b {p : Program} {l : Launch} {e : Env} {R : Room} {s : State} {m : MethodId} {args : Array Value} {below : List Frame} {meth : Method} {c : Code} {Q : State → Prop} {D : va_G} {q : Nat → ClassId} {a : Nat → Nat} {A : Nat → Prop} (C : pv_C p s m args c prog_9_method_63_code 5 "PatchVoicesModel" pv_TB D pv_cl (pv_ty q) 36 a A (pv_ZM)) (hmv : pv_mv A (pv_ZM)) (hRf : 1 ≤ R.frames) (hRl : 22 ≤ R.locals) {out : (Int32 × pv_S)} (hret : pv_Ri p l e R s m args below meth c prog_9_method_63_code D pv_cl 36 a (pv_FM q a) A Q out) {k_180 : pv_S → Int32 → Int32 → Option (Int32 × pv_S)} (hk_180 : ∀ (σ : pv_S) (x3 : Int32) (x4 : Int32) (H : Heap) (locs : List Loc) (ls : Array Slot), k_180 σ x3 x4 = some out → lv_has ls 5 [(0, .ref (a 0)), (3, .int x3), (4, .int x4)] → pv_W D pv_cl 36 a (pv_FM q a) σ H → va_S A s.heap H locs → W p l e R s m args below meth c H locs 0 0 Q (F0 m 180 ls [])) {σ : pv_S} {x3 : Int32} {x4 : Int32} {H : Heap} {locs : List Loc} {ls : Array Slot} (hl : lv_has ls 5 [(0, .ref (a 0)), (3, .int x3), (4, .int x4)]) (hP : pv_W D pv_cl 36 a (pv_FM q a) σ H) (hS : va_S A s.heap H locs) (hf : f_Md_note_180b k_180 σ x3 x4 = some out) : W p l e R s m args below meth c H locs 0 0 Q (F0 m 180 ls []) := by
  unfold f_Md_note_180b at hf
  have hx := C.1
  have hb := C.2.1
  refine lv_iload hx hb d_Md_note_180 (lv_at hl 2 rfl) ?_
  refine lv_sipush (v := (128 : Int32)) hx hb d_Md_note_182 (by decide) ?_
  refine lv_icmp_ge (tgt := 208) hx hb d_Md_note_185 (by decide) (fun h => ?_) (fun h => ?_)
  · have hf := pv_t hf h
    refine lv_iload_n hx hb d_Md_note_208 rfl (lv_at hl 1 rfl) ?_
    obtain rfl := Option.some.inj hf
    exact hret _ _ _ _ d_Md_note_209 hP hS
  · have hf := pv_f hf h
    refine lv_aload_n hx hb d_Md_note_188 rfl (lv_at hl 0 rfl) ?_
    refine pv_get C hP (v := .ref (a 34)) (j := 46) (by decide) (fm_0 _ _ _ _) fl_Md_117 rfl d_Md_note_189 ?_
    refine lv_sipush (v := (128 : Int32)) hx hb d_Md_note_192 (by decide) ?_
    refine lv_iload_n hx hb d_Md_note_195 rfl (lv_at hl 1 rfl) ?_
    refine lv_imul hx hb d_Md_note_196 ?_
    refine lv_iload hx hb d_Md_note_197 (lv_at hl 2 rfl) ?_
    refine lv_iadd hx hb d_Md_note_199 ?_
    refine lv_iconst (v := (0 : Int32)) hx hb d_Md_note_200 (by decide) ?_
    obtain ⟨hg, hf⟩ := pv_g hf
    refine pv_iast C hP hS (t0 := 0) (x := (0 : Int32)) (by decide) (fun f g => (fm_34 _ _ f g)) rfl hg d_Md_note_201 (fun H locs hP hS => ?_)
    refine lv_iinc (k := 2) (v := (x4 + (1 : Int32))) (lv' := [(4, .int (x4 + (1 : Int32))), (0, .ref (a 0)), (3, .int x3)]) hx hb d_Md_note_202 hl rfl (pv_inc (by decide)) (by decide) rfl (fun ls hl => ?_)
    refine lv_goto (tgt := 180) hx hb d_Md_note_205 (by decide) ?_
    exact hk_180 _ _ _ _ _ _ hf (lv_sub hl [1, 2, 0] rfl) hP hS
def f_Md_note_180 : Nat → pv_S → Int32 → Int32 → Option (Int32 × pv_S)
  | 0 => fun _ _ _ => none
  | n + 1 => f_Md_note_180b (f_Md_note_180 n)
set_option maxHeartbeats 4000000 in
theorem s_Md_note_180 {p : Program} {l : Launch} {e : Env} {R : Room} {s : State} {m : MethodId} {args : Array Value} {below : List Frame} {meth : Method} {c : Code} {Q : State → Prop} {D : va_G} {q : Nat → ClassId} {a : Nat → Nat} {A : Nat → Prop} (C : pv_C p s m args c prog_9_method_63_code 5 "PatchVoicesModel" pv_TB D pv_cl (pv_ty q) 36 a A (pv_ZM)) (hmv : pv_mv A (pv_ZM)) (hRf : 1 ≤ R.frames) (hRl : 22 ≤ R.locals) {out : (Int32 × pv_S)} (hret : pv_Ri p l e R s m args below meth c prog_9_method_63_code D pv_cl 36 a (pv_FM q a) A Q out) (n : Nat) : ∀ {σ : pv_S} {x3 : Int32} {x4 : Int32} {H : Heap} {locs : List Loc} {ls : Array Slot}, lv_has ls 5 [(0, .ref (a 0)), (3, .int x3), (4, .int x4)] → pv_W D pv_cl 36 a (pv_FM q a) σ H → va_S A s.heap H locs → f_Md_note_180 n σ x3 x4 = some out → W p l e R s m args below meth c H locs 0 0 Q (F0 m 180 ls []) := by
  induction n with
  | zero => intro σ x3 x4 H locs ls hl hP hS hf; cases hf
  | succ n ih => intro σ x3 x4 H locs ls hl hP hS hf; exact s_Md_note_180b C hmv hRf hRl hret (fun σ x3 x4 H locs ls hf hl hP hS => ih hl hP hS hf) hl hP hS hf
def f_Md_note_157 (k_106 : pv_S → Int32 → Int32 → Option (Int32 × pv_S)) (σ : pv_S) (x3 : Int32) (x4 : Int32) (s0 : Int32) (s1 : Int32) : Option (Int32 × pv_S) :=
  (if pv_in s1 96 = true then
(if pv_in (((24 : Int32) * x3) + x4) 96 = true then
k_106 (pv_uI (pv_uI σ 31 (s1).toNatClampNeg s0) 32 ((((24 : Int32) * x3) + x4)).toNatClampNeg (0 : Int32)) x3 (x4 + (1 : Int32))
  else none)
  else none)
set_option maxHeartbeats 4000000 in
set_option maxRecDepth 100000 in
theorem s_Md_note_157 {p : Program} {l : Launch} {e : Env} {R : Room} {s : State} {m : MethodId} {args : Array Value} {below : List Frame} {meth : Method} {c : Code} {Q : State → Prop} {D : va_G} {q : Nat → ClassId} {a : Nat → Nat} {A : Nat → Prop} (C : pv_C p s m args c prog_9_method_63_code 5 "PatchVoicesModel" pv_TB D pv_cl (pv_ty q) 36 a A (pv_ZM)) (hmv : pv_mv A (pv_ZM)) (hRf : 1 ≤ R.frames) (hRl : 22 ≤ R.locals) {out : (Int32 × pv_S)} (hret : pv_Ri p l e R s m args below meth c prog_9_method_63_code D pv_cl 36 a (pv_FM q a) A Q out) {k_106 : pv_S → Int32 → Int32 → Option (Int32 × pv_S)} (hk_106 : ∀ (σ : pv_S) (x3 : Int32) (x4 : Int32) (H : Heap) (locs : List Loc) (ls : Array Slot), k_106 σ x3 x4 = some out → lv_has ls 5 [(0, .ref (a 0)), (3, .int x3), (4, .int x4)] → pv_W D pv_cl 36 a (pv_FM q a) σ H → va_S A s.heap H locs → W p l e R s m args below meth c H locs 0 0 Q (F0 m 106 ls [])) {σ : pv_S} {x3 : Int32} {x4 : Int32} {s0 : Int32} {s1 : Int32} {H : Heap} {locs : List Loc} {ls : Array Slot} (hl : lv_has ls 5 [(0, .ref (a 0)), (3, .int x3), (4, .int x4)]) (hP : pv_W D pv_cl 36 a (pv_FM q a) σ H) (hS : va_S A s.heap H locs) (hf : f_Md_note_157 k_106 σ x3 x4 s0 s1 = some out) : W p l e R s m args below meth c H locs 0 0 Q (F0 m 157 ls [.int s0, .int s1, .ref (a 31)]) := by
  unfold f_Md_note_157 at hf
  have hx := C.1
  have hb := C.2.1
  obtain ⟨hg, hf⟩ := pv_g hf
  refine pv_iast C hP hS (t0 := 0) (x := s0) (by decide) (fun f g => (fm_31 _ _ f g)) rfl hg d_Md_note_157 (fun H locs hP hS => ?_)
  refine lv_aload_n hx hb d_Md_note_158 rfl (lv_at hl 0 rfl) ?_
  refine pv_get C hP (v := .ref (a 32)) (j := 44) (by decide) (fm_0 _ _ _ _) fl_Md_111 rfl d_Md_note_159 ?_
  refine lv_bipush (v := (24 : Int32)) hx hb d_Md_note_162 (by decide) ?_
  refine lv_iload_n hx hb d_Md_note_164 rfl (lv_at hl 1 rfl) ?_
  refine lv_imul hx hb d_Md_note_165 ?_
  refine lv_iload hx hb d_Md_note_166 (lv_at hl 2 rfl) ?_
  refine lv_iadd hx hb d_Md_note_168 ?_
  refine lv_iconst (v := (0 : Int32)) hx hb d_Md_note_169 (by decide) ?_
  obtain ⟨hg, hf⟩ := pv_g hf
  refine pv_iast C hP hS (t0 := 0) (x := (0 : Int32)) (by decide) (fun f g => (fm_32 _ _ f g)) rfl hg d_Md_note_170 (fun H locs hP hS => ?_)
  refine lv_iinc (k := 2) (v := (x4 + (1 : Int32))) (lv' := [(4, .int (x4 + (1 : Int32))), (0, .ref (a 0)), (3, .int x3)]) hx hb d_Md_note_171 hl rfl (pv_inc (by decide)) (by decide) rfl (fun ls hl => ?_)
  refine lv_goto (tgt := 106) hx hb d_Md_note_174 (by decide) ?_
  exact hk_106 _ _ _ _ _ _ hf (lv_sub hl [1, 2, 0] rfl) hP hS
def f_Md_note_156 (k_106 : pv_S → Int32 → Int32 → Option (Int32 × pv_S)) (σ : pv_S) (x3 : Int32) (x4 : Int32) (s0 : Int32) : Option (Int32 × pv_S) :=
  f_Md_note_157 k_106 σ x3 x4 (0 : Int32) s0
set_option maxHeartbeats 4000000 in
set_option maxRecDepth 100000 in
theorem s_Md_note_156 {p : Program} {l : Launch} {e : Env} {R : Room} {s : State} {m : MethodId} {args : Array Value} {below : List Frame} {meth : Method} {c : Code} {Q : State → Prop} {D : va_G} {q : Nat → ClassId} {a : Nat → Nat} {A : Nat → Prop} (C : pv_C p s m args c prog_9_method_63_code 5 "PatchVoicesModel" pv_TB D pv_cl (pv_ty q) 36 a A (pv_ZM)) (hmv : pv_mv A (pv_ZM)) (hRf : 1 ≤ R.frames) (hRl : 22 ≤ R.locals) {out : (Int32 × pv_S)} (hret : pv_Ri p l e R s m args below meth c prog_9_method_63_code D pv_cl 36 a (pv_FM q a) A Q out) {k_106 : pv_S → Int32 → Int32 → Option (Int32 × pv_S)} (hk_106 : ∀ (σ : pv_S) (x3 : Int32) (x4 : Int32) (H : Heap) (locs : List Loc) (ls : Array Slot), k_106 σ x3 x4 = some out → lv_has ls 5 [(0, .ref (a 0)), (3, .int x3), (4, .int x4)] → pv_W D pv_cl 36 a (pv_FM q a) σ H → va_S A s.heap H locs → W p l e R s m args below meth c H locs 0 0 Q (F0 m 106 ls [])) {σ : pv_S} {x3 : Int32} {x4 : Int32} {s0 : Int32} {H : Heap} {locs : List Loc} {ls : Array Slot} (hl : lv_has ls 5 [(0, .ref (a 0)), (3, .int x3), (4, .int x4)]) (hP : pv_W D pv_cl 36 a (pv_FM q a) σ H) (hS : va_S A s.heap H locs) (hf : f_Md_note_156 k_106 σ x3 x4 s0 = some out) : W p l e R s m args below meth c H locs 0 0 Q (F0 m 156 ls [.int s0, .ref (a 31)]) := by
  unfold f_Md_note_156 at hf
  have hx := C.1
  have hb := C.2.1
  refine lv_iconst (v := (0 : Int32)) hx hb d_Md_note_156 (by decide) ?_
  exact s_Md_note_157 C hmv hRf hRl hret hk_106 (lv_sub hl [0, 1, 2] rfl) hP hS hf
def f_Md_note_106b (k_106 : pv_S → Int32 → Int32 → Option (Int32 × pv_S)) (σ : pv_S) (x3 : Int32) (x4 : Int32) : Option (Int32 × pv_S) :=
  (if (24 : Int32) ≤ x4 then
  f_Md_note_180 pv_fu σ x3 (0 : Int32)
  else
  (if (σ.1 0 16) = 0 then
  f_Md_note_156 k_106 σ x3 x4 (((24 : Int32) * x3) + x4)
  else
  (if (σ.1 0 18) ≤ x4 then
  f_Md_note_156 k_106 σ x3 x4 (((24 : Int32) * x3) + x4)
  else
  (if pv_in x4 24 = true then
(if (σ.1 9 (x4).toNatClampNeg) = (15 : Int32) then
  f_Md_note_157 k_106 σ x3 x4 (1 : Int32) (((24 : Int32) * x3) + x4)
  else
  f_Md_note_156 k_106 σ x3 x4 (((24 : Int32) * x3) + x4))
  else none))))
set_option maxHeartbeats 4000000 in
set_option maxRecDepth 100000 in
theorem s_Md_note_106b {p : Program} {l : Launch} {e : Env} {R : Room} {s : State} {m : MethodId} {args : Array Value} {below : List Frame} {meth : Method} {c : Code} {Q : State → Prop} {D : va_G} {q : Nat → ClassId} {a : Nat → Nat} {A : Nat → Prop} (C : pv_C p s m args c prog_9_method_63_code 5 "PatchVoicesModel" pv_TB D pv_cl (pv_ty q) 36 a A (pv_ZM)) (hmv : pv_mv A (pv_ZM)) (hRf : 1 ≤ R.frames) (hRl : 22 ≤ R.locals) {out : (Int32 × pv_S)} (hret : pv_Ri p l e R s m args below meth c prog_9_method_63_code D pv_cl 36 a (pv_FM q a) A Q out) {k_106 : pv_S → Int32 → Int32 → Option (Int32 × pv_S)} (hk_106 : ∀ (σ : pv_S) (x3 : Int32) (x4 : Int32) (H : Heap) (locs : List Loc) (ls : Array Slot), k_106 σ x3 x4 = some out → lv_has ls 5 [(0, .ref (a 0)), (3, .int x3), (4, .int x4)] → pv_W D pv_cl 36 a (pv_FM q a) σ H → va_S A s.heap H locs → W p l e R s m args below meth c H locs 0 0 Q (F0 m 106 ls [])) {σ : pv_S} {x3 : Int32} {x4 : Int32} {H : Heap} {locs : List Loc} {ls : Array Slot} (hl : lv_has ls 5 [(0, .ref (a 0)), (3, .int x3), (4, .int x4)]) (hP : pv_W D pv_cl 36 a (pv_FM q a) σ H) (hS : va_S A s.heap H locs) (hf : f_Md_note_106b k_106 σ x3 x4 = some out) : W p l e R s m args below meth c H locs 0 0 Q (F0 m 106 ls []) := by
  unfold f_Md_note_106b at hf
  have hx := C.1
  have hb := C.2.1
  refine lv_iload hx hb d_Md_note_106 (lv_at hl 2 rfl) ?_
  refine lv_bipush (v := (24 : Int32)) hx hb d_Md_note_108 (by decide) ?_
  refine lv_icmp_ge (tgt := 177) hx hb d_Md_note_110 (by decide) (fun h => ?_) (fun h => ?_)
  · have hf := pv_t hf h
    refine lv_iconst (v := (0 : Int32)) hx hb d_Md_note_177 (by decide) ?_
    refine lv_istore (lv' := [(4, .int (0 : Int32)), (0, .ref (a 0)), (3, .int x3)]) hx hb d_Md_note_178 hl (by decide) rfl (fun ls hl => ?_)
    exact s_Md_note_180 C hmv hRf hRl hret pv_fu (lv_sub hl [1, 2, 0] rfl) hP hS hf
  · have hf := pv_f hf h
    refine lv_aload_n hx hb d_Md_note_113 rfl (lv_at hl 0 rfl) ?_
    refine pv_get C hP (v := .ref (a 31)) (j := 43) (by decide) (fm_0 _ _ _ _) fl_Md_108 rfl d_Md_note_114 ?_
    refine lv_bipush (v := (24 : Int32)) hx hb d_Md_note_117 (by decide) ?_
    refine lv_iload_n hx hb d_Md_note_119 rfl (lv_at hl 1 rfl) ?_
    refine lv_imul hx hb d_Md_note_120 ?_
    refine lv_iload hx hb d_Md_note_121 (lv_at hl 2 rfl) ?_
    refine lv_iadd hx hb d_Md_note_123 ?_
    refine lv_aload_n hx hb d_Md_note_124 rfl (lv_at hl 0 rfl) ?_
    refine pv_get C hP (v := .int (σ.1 0 16)) (j := 16) (by decide) (fm_0 _ _ _ _) fl_Md_244 rfl d_Md_note_125 ?_
    refine lv_if_eq (tgt := 156) hx hb d_Md_note_128 (by decide) (fun h => ?_) (fun h => ?_)
    · have hf := pv_t hf h
      exact s_Md_note_156 C hmv hRf hRl hret hk_106 (lv_sub hl [0, 1, 2] rfl) hP hS hf
    · have hf := pv_f hf h
      refine lv_iload hx hb d_Md_note_131 (lv_at hl 2 rfl) ?_
      refine lv_aload_n hx hb d_Md_note_133 rfl (lv_at hl 0 rfl) ?_
      refine pv_get C hP (v := .int (σ.1 0 18)) (j := 18) (by decide) (fm_0 _ _ _ _) fl_Md_253 rfl d_Md_note_134 ?_
      refine lv_icmp_ge (tgt := 156) hx hb d_Md_note_137 (by decide) (fun h => ?_) (fun h => ?_)
      · have hf := pv_t hf h
        exact s_Md_note_156 C hmv hRf hRl hret hk_106 (lv_sub hl [0, 1, 2] rfl) hP hS hf
      · have hf := pv_f hf h
        refine lv_aload_n hx hb d_Md_note_140 rfl (lv_at hl 0 rfl) ?_
        refine pv_get C hP (v := .ref (a 9)) (j := 19) (by decide) (fm_0 _ _ _ _) fl_Md_38 rfl d_Md_note_141 ?_
        refine lv_iload hx hb d_Md_note_144 (lv_at hl 2 rfl) ?_
        obtain ⟨hg, hf⟩ := pv_g hf
        refine pv_iald C hP (t0 := 0) (by decide) (fm_9 _ _ _ _) rfl hg d_Md_note_146 ?_
        refine lv_bipush (v := (15 : Int32)) hx hb d_Md_note_147 (by decide) ?_
        refine lv_icmp_ne (tgt := 156) hx hb d_Md_note_149 (by decide) (fun h => ?_) (fun h => ?_)
        · have hf := pv_f hf h
          exact s_Md_note_156 C hmv hRf hRl hret hk_106 (lv_sub hl [0, 1, 2] rfl) hP hS hf
        · have hf := pv_t hf h
          refine lv_iconst (v := (1 : Int32)) hx hb d_Md_note_152 (by decide) ?_
          refine lv_goto (tgt := 157) hx hb d_Md_note_153 (by decide) ?_
          exact s_Md_note_157 C hmv hRf hRl hret hk_106 (lv_sub hl [0, 1, 2] rfl) hP hS hf
def f_Md_note_106 : Nat → pv_S → Int32 → Int32 → Option (Int32 × pv_S)
  | 0 => fun _ _ _ => none
  | n + 1 => f_Md_note_106b (f_Md_note_106 n)
set_option maxHeartbeats 4000000 in
theorem s_Md_note_106 {p : Program} {l : Launch} {e : Env} {R : Room} {s : State} {m : MethodId} {args : Array Value} {below : List Frame} {meth : Method} {c : Code} {Q : State → Prop} {D : va_G} {q : Nat → ClassId} {a : Nat → Nat} {A : Nat → Prop} (C : pv_C p s m args c prog_9_method_63_code 5 "PatchVoicesModel" pv_TB D pv_cl (pv_ty q) 36 a A (pv_ZM)) (hmv : pv_mv A (pv_ZM)) (hRf : 1 ≤ R.frames) (hRl : 22 ≤ R.locals) {out : (Int32 × pv_S)} (hret : pv_Ri p l e R s m args below meth c prog_9_method_63_code D pv_cl 36 a (pv_FM q a) A Q out) (n : Nat) : ∀ {σ : pv_S} {x3 : Int32} {x4 : Int32} {H : Heap} {locs : List Loc} {ls : Array Slot}, lv_has ls 5 [(0, .ref (a 0)), (3, .int x3), (4, .int x4)] → pv_W D pv_cl 36 a (pv_FM q a) σ H → va_S A s.heap H locs → f_Md_note_106 n σ x3 x4 = some out → W p l e R s m args below meth c H locs 0 0 Q (F0 m 106 ls []) := by
  induction n with
  | zero => intro σ x3 x4 H locs ls hl hP hS hf; cases hf
  | succ n ih => intro σ x3 x4 H locs ls hl hP hS hf; exact s_Md_note_106b C hmv hRf hRl hret (fun σ x3 x4 H locs ls hf hl hP hS => ih hl hP hS hf) hl hP hS hf
def f_Md_note_17 (σ : pv_S) (x1 : Int32) (x2 : Int32) (s0 : Int32) : Option (Int32 × pv_S) :=
  (if ((pv_uI σ 0 0 s0).1 0 0) ≤ 0 then
  ((f_Md_choice (pv_uI σ 0 0 s0)).bind fun q1 =>
(if pv_in q1.1 4 = true then
(if pv_in q1.1 4 = true then
(if pv_in q1.1 4 = true then
(if pv_in q1.1 4 = true then
(if pv_in q1.1 4 = true then
(if pv_in q1.1 4 = true then
(if pv_in q1.1 4 = true then
(if pv_in q1.1 4 = true then
f_Md_note_106 pv_fu (pv_uI (pv_uI (pv_uI (pv_uI (pv_uI (pv_uI (pv_uI (pv_uI (pv_uI q1.2 22 (q1.1).toNatClampNeg (vp_nar .boolean (1 : Int32))) 23 (q1.1).toNatClampNeg x1) 24 (q1.1).toNatClampNeg x2) 25 (q1.1).toNatClampNeg (vp_nar .boolean (1 : Int32))) 26 (q1.1).toNatClampNeg (vp_nar .boolean (0 : Int32))) 27 (q1.1).toNatClampNeg (0 : Int32)) 29 (q1.1).toNatClampNeg ((pv_uI (pv_uI (pv_uI (pv_uI (pv_uI (pv_uI q1.2 22 (q1.1).toNatClampNeg (vp_nar .boolean (1 : Int32))) 23 (q1.1).toNatClampNeg x1) 24 (q1.1).toNatClampNeg x2) 25 (q1.1).toNatClampNeg (vp_nar .boolean (1 : Int32))) 26 (q1.1).toNatClampNeg (vp_nar .boolean (0 : Int32))) 27 (q1.1).toNatClampNeg (0 : Int32)).1 0 47)) 0 47 (((pv_uI (pv_uI (pv_uI (pv_uI (pv_uI (pv_uI (pv_uI q1.2 22 (q1.1).toNatClampNeg (vp_nar .boolean (1 : Int32))) 23 (q1.1).toNatClampNeg x1) 24 (q1.1).toNatClampNeg x2) 25 (q1.1).toNatClampNeg (vp_nar .boolean (1 : Int32))) 26 (q1.1).toNatClampNeg (vp_nar .boolean (0 : Int32))) 27 (q1.1).toNatClampNeg (0 : Int32)) 29 (q1.1).toNatClampNeg ((pv_uI (pv_uI (pv_uI (pv_uI (pv_uI (pv_uI q1.2 22 (q1.1).toNatClampNeg (vp_nar .boolean (1 : Int32))) 23 (q1.1).toNatClampNeg x1) 24 (q1.1).toNatClampNeg x2) 25 (q1.1).toNatClampNeg (vp_nar .boolean (1 : Int32))) 26 (q1.1).toNatClampNeg (vp_nar .boolean (0 : Int32))) 27 (q1.1).toNatClampNeg (0 : Int32)).1 0 47)).1 0 47) + (1 : Int32))) 30 (q1.1).toNatClampNeg (0 : Int32)) q1.1 (0 : Int32)
  else none)
  else none)
  else none)
  else none)
  else none)
  else none)
  else none)
  else none))
  else
  some ((0 : Int32), (pv_uI σ 0 0 s0)))
set_option maxHeartbeats 4000000 in
set_option maxRecDepth 100000 in
theorem s_Md_note_17 {p : Program} {l : Launch} {e : Env} {R : Room} {s : State} {m : MethodId} {args : Array Value} {below : List Frame} {meth : Method} {c : Code} {Q : State → Prop} {D : va_G} {q : Nat → ClassId} {a : Nat → Nat} {A : Nat → Prop} (C : pv_C p s m args c prog_9_method_63_code 5 "PatchVoicesModel" pv_TB D pv_cl (pv_ty q) 36 a A (pv_ZM)) (hmv : pv_mv A (pv_ZM)) (hRf : 1 ≤ R.frames) (hRl : 22 ≤ R.locals) {out : (Int32 × pv_S)} (hret : pv_Ri p l e R s m args below meth c prog_9_method_63_code D pv_cl 36 a (pv_FM q a) A Q out) {σ : pv_S} {x1 : Int32} {x2 : Int32} {s0 : Int32} {H : Heap} {locs : List Loc} {ls : Array Slot} (hl : lv_has ls 5 [(0, .ref (a 0)), (1, .int x1), (2, .int x2)]) (hP : pv_W D pv_cl 36 a (pv_FM q a) σ H) (hS : va_S A s.heap H locs) (hf : f_Md_note_17 σ x1 x2 s0 = some out) : W p l e R s m args below meth c H locs 0 0 Q (F0 m 17 ls [.int s0, .ref (a 0)]) := by
  unfold f_Md_note_17 at hf
  have hx := C.1
  have hb := C.2.1
  refine pv_putI C hP hS (x := s0) (by decide) (fm_0 _ _ _ _) fw_Md_127 rfl rfl (Nat.le_of_ble_eq_true rfl) (fms_0_0 _ _ _ _ _) d_Md_note_17 (fun H locs hP hS => ?_)
  refine lv_aload_n hx hb d_Md_note_20 rfl (lv_at hl 0 rfl) ?_
  refine pv_get C hP (v := .int ((pv_uI σ 0 0 s0).1 0 0)) (j := 0) (by decide) (fm_0 _ _ _ _) fl_Md_127 rfl d_Md_note_21 ?_
  refine lv_if_le (tgt := 29) hx hb d_Md_note_24 (by decide) (fun h => ?_) (fun h => ?_)
  · have hf := pv_t hf h
    refine lv_aload_n hx hb d_Md_note_29 rfl (lv_at hl 0 rfl) ?_
    obtain ⟨q1, hc, hf⟩ := pv_b hf
    refine pv_callVi C hmv pv_good hP hS (As := []) (rest := []) (by decide) (fm_0 _ _ _ _) rfl (c_Md_choice C.2.2.2.2.2.2.1 hmv hc) cv_Md_341 ⟨rfl, rfl, Nat.le_trans (Nat.le_of_ble_eq_true rfl) hRf, Nat.le_trans (Nat.le_of_ble_eq_true rfl) hRl⟩ rfl hl.1 rfl (Nat.le_of_ble_eq_true rfl) d_Md_note_30 ⟨Nat.zero_le _, Nat.zero_le _⟩ (fun H locs hP hS => ?_)
    refine lv_istore_n (lv' := [(3, .int q1.1), (0, .ref (a 0)), (1, .int x1), (2, .int x2)]) hx hb d_Md_note_33 rfl hl (by decide) rfl (fun ls hl => ?_)
    refine lv_aload_n hx hb d_Md_note_34 rfl (lv_at hl 1 rfl) ?_
    refine pv_get C hP (v := .ref (a 22)) (j := 34) (by decide) (fm_0 _ _ _ _) fl_Md_81 rfl d_Md_note_35 ?_
    refine lv_iload_n hx hb d_Md_note_38 rfl (lv_at hl 0 rfl) ?_
    refine lv_iconst (v := (1 : Int32)) hx hb d_Md_note_39 (by decide) ?_
    obtain ⟨hg, hf⟩ := pv_g hf
    refine pv_zast C hP hS (t0 := 2) (x := (1 : Int32)) (by decide) (fun f g => (fm_22 _ _ f g)) rfl hg d_Md_note_40 (fun H locs hP hS => ?_)
    refine lv_aload_n hx hb d_Md_note_41 rfl (lv_at hl 1 rfl) ?_
    refine pv_get C hP (v := .ref (a 23)) (j := 35) (by decide) (fm_0 _ _ _ _) fl_Md_84 rfl d_Md_note_42 ?_
    refine lv_iload_n hx hb d_Md_note_45 rfl (lv_at hl 0 rfl) ?_
    refine lv_iload_n hx hb d_Md_note_46 rfl (lv_at hl 2 rfl) ?_
    obtain ⟨hg, hf⟩ := pv_g hf
    refine pv_iast C hP hS (t0 := 0) (x := x1) (by decide) (fun f g => (fm_23 _ _ f g)) rfl hg d_Md_note_47 (fun H locs hP hS => ?_)
    refine lv_aload_n hx hb d_Md_note_48 rfl (lv_at hl 1 rfl) ?_
    refine pv_get C hP (v := .ref (a 24)) (j := 36) (by decide) (fm_0 _ _ _ _) fl_Md_87 rfl d_Md_note_49 ?_
    refine lv_iload_n hx hb d_Md_note_52 rfl (lv_at hl 0 rfl) ?_
    refine lv_iload_n hx hb d_Md_note_53 rfl (lv_at hl 3 rfl) ?_
    obtain ⟨hg, hf⟩ := pv_g hf
    refine pv_iast C hP hS (t0 := 0) (x := x2) (by decide) (fun f g => (fm_24 _ _ f g)) rfl hg d_Md_note_54 (fun H locs hP hS => ?_)
    refine lv_aload_n hx hb d_Md_note_55 rfl (lv_at hl 1 rfl) ?_
    refine pv_get C hP (v := .ref (a 25)) (j := 37) (by decide) (fm_0 _ _ _ _) fl_Md_90 rfl d_Md_note_56 ?_
    refine lv_iload_n hx hb d_Md_note_59 rfl (lv_at hl 0 rfl) ?_
    refine lv_iconst (v := (1 : Int32)) hx hb d_Md_note_60 (by decide) ?_
    obtain ⟨hg, hf⟩ := pv_g hf
    refine pv_zast C hP hS (t0 := 2) (x := (1 : Int32)) (by decide) (fun f g => (fm_25 _ _ f g)) rfl hg d_Md_note_61 (fun H locs hP hS => ?_)
    refine lv_aload_n hx hb d_Md_note_62 rfl (lv_at hl 1 rfl) ?_
    refine pv_get C hP (v := .ref (a 26)) (j := 38) (by decide) (fm_0 _ _ _ _) fl_Md_93 rfl d_Md_note_63 ?_
    refine lv_iload_n hx hb d_Md_note_66 rfl (lv_at hl 0 rfl) ?_
    refine lv_iconst (v := (0 : Int32)) hx hb d_Md_note_67 (by decide) ?_
    obtain ⟨hg, hf⟩ := pv_g hf
    refine pv_zast C hP hS (t0 := 2) (x := (0 : Int32)) (by decide) (fun f g => (fm_26 _ _ f g)) rfl hg d_Md_note_68 (fun H locs hP hS => ?_)
    refine lv_aload_n hx hb d_Md_note_69 rfl (lv_at hl 1 rfl) ?_
    refine pv_get C hP (v := .ref (a 27)) (j := 39) (by decide) (fm_0 _ _ _ _) fl_Md_96 rfl d_Md_note_70 ?_
    refine lv_iload_n hx hb d_Md_note_73 rfl (lv_at hl 0 rfl) ?_
    refine lv_iconst (v := (0 : Int32)) hx hb d_Md_note_74 (by decide) ?_
    obtain ⟨hg, hf⟩ := pv_g hf
    refine pv_iast C hP hS (t0 := 0) (x := (0 : Int32)) (by decide) (fun f g => (fm_27 _ _ f g)) rfl hg d_Md_note_75 (fun H locs hP hS => ?_)
    refine lv_aload_n hx hb d_Md_note_76 rfl (lv_at hl 1 rfl) ?_
    refine pv_get C hP (v := .ref (a 29)) (j := 41) (by decide) (fm_0 _ _ _ _) fl_Md_102 rfl d_Md_note_77 ?_
    refine lv_iload_n hx hb d_Md_note_80 rfl (lv_at hl 0 rfl) ?_
    refine lv_aload_n hx hb d_Md_note_81 rfl (lv_at hl 1 rfl) ?_
    refine pv_get C hP (v := .int ((pv_uI (pv_uI (pv_uI (pv_uI (pv_uI (pv_uI q1.2 22 (q1.1).toNatClampNeg (vp_nar .boolean (1 : Int32))) 23 (q1.1).toNatClampNeg x1) 24 (q1.1).toNatClampNeg x2) 25 (q1.1).toNatClampNeg (vp_nar .boolean (1 : Int32))) 26 (q1.1).toNatClampNeg (vp_nar .boolean (0 : Int32))) 27 (q1.1).toNatClampNeg (0 : Int32)).1 0 47)) (j := 47) (by decide) (fm_0 _ _ _ _) fl_Md_335 rfl d_Md_note_82 ?_
    obtain ⟨hg, hf⟩ := pv_g hf
    refine pv_iast C hP hS (t0 := 0) (x := ((pv_uI (pv_uI (pv_uI (pv_uI (pv_uI (pv_uI q1.2 22 (q1.1).toNatClampNeg (vp_nar .boolean (1 : Int32))) 23 (q1.1).toNatClampNeg x1) 24 (q1.1).toNatClampNeg x2) 25 (q1.1).toNatClampNeg (vp_nar .boolean (1 : Int32))) 26 (q1.1).toNatClampNeg (vp_nar .boolean (0 : Int32))) 27 (q1.1).toNatClampNeg (0 : Int32)).1 0 47)) (by decide) (fun f g => (fm_29 _ _ f g)) rfl hg d_Md_note_85 (fun H locs hP hS => ?_)
    refine lv_aload_n hx hb d_Md_note_86 rfl (lv_at hl 1 rfl) ?_
    refine lv_dup hx hb d_Md_note_87 rfl ?_
    refine pv_get C hP (v := .int ((pv_uI (pv_uI (pv_uI (pv_uI (pv_uI (pv_uI (pv_uI q1.2 22 (q1.1).toNatClampNeg (vp_nar .boolean (1 : Int32))) 23 (q1.1).toNatClampNeg x1) 24 (q1.1).toNatClampNeg x2) 25 (q1.1).toNatClampNeg (vp_nar .boolean (1 : Int32))) 26 (q1.1).toNatClampNeg (vp_nar .boolean (0 : Int32))) 27 (q1.1).toNatClampNeg (0 : Int32)) 29 (q1.1).toNatClampNeg ((pv_uI (pv_uI (pv_uI (pv_uI (pv_uI (pv_uI q1.2 22 (q1.1).toNatClampNeg (vp_nar .boolean (1 : Int32))) 23 (q1.1).toNatClampNeg x1) 24 (q1.1).toNatClampNeg x2) 25 (q1.1).toNatClampNeg (vp_nar .boolean (1 : Int32))) 26 (q1.1).toNatClampNeg (vp_nar .boolean (0 : Int32))) 27 (q1.1).toNatClampNeg (0 : Int32)).1 0 47)).1 0 47)) (j := 47) (by decide) (fm_0 _ _ _ _) fl_Md_335 rfl d_Md_note_88 ?_
    refine lv_iconst (v := (1 : Int32)) hx hb d_Md_note_91 (by decide) ?_
    refine lv_iadd hx hb d_Md_note_92 ?_
    refine pv_putI C hP hS (x := (((pv_uI (pv_uI (pv_uI (pv_uI (pv_uI (pv_uI (pv_uI q1.2 22 (q1.1).toNatClampNeg (vp_nar .boolean (1 : Int32))) 23 (q1.1).toNatClampNeg x1) 24 (q1.1).toNatClampNeg x2) 25 (q1.1).toNatClampNeg (vp_nar .boolean (1 : Int32))) 26 (q1.1).toNatClampNeg (vp_nar .boolean (0 : Int32))) 27 (q1.1).toNatClampNeg (0 : Int32)) 29 (q1.1).toNatClampNeg ((pv_uI (pv_uI (pv_uI (pv_uI (pv_uI (pv_uI q1.2 22 (q1.1).toNatClampNeg (vp_nar .boolean (1 : Int32))) 23 (q1.1).toNatClampNeg x1) 24 (q1.1).toNatClampNeg x2) 25 (q1.1).toNatClampNeg (vp_nar .boolean (1 : Int32))) 26 (q1.1).toNatClampNeg (vp_nar .boolean (0 : Int32))) 27 (q1.1).toNatClampNeg (0 : Int32)).1 0 47)).1 0 47) + (1 : Int32))) (by decide) (fm_0 _ _ _ _) fw_Md_335 rfl rfl (Nat.le_of_ble_eq_true rfl) (fms_0_47 _ _ _ _ _) d_Md_note_93 (fun H locs hP hS => ?_)
    refine lv_aload_n hx hb d_Md_note_96 rfl (lv_at hl 1 rfl) ?_
    refine pv_get C hP (v := .ref (a 30)) (j := 42) (by decide) (fm_0 _ _ _ _) fl_Md_105 rfl d_Md_note_97 ?_
    refine lv_iload_n hx hb d_Md_note_100 rfl (lv_at hl 0 rfl) ?_
    refine lv_iconst (v := (0 : Int32)) hx hb d_Md_note_101 (by decide) ?_
    obtain ⟨hg, hf⟩ := pv_g hf
    refine pv_iast C hP hS (t0 := 0) (x := (0 : Int32)) (by decide) (fun f g => (fm_30 _ _ f g)) rfl hg d_Md_note_102 (fun H locs hP hS => ?_)
    refine lv_iconst (v := (0 : Int32)) hx hb d_Md_note_103 (by decide) ?_
    refine lv_istore (lv' := [(4, .int (0 : Int32)), (3, .int q1.1), (0, .ref (a 0)), (1, .int x1), (2, .int x2)]) hx hb d_Md_note_104 hl (by decide) rfl (fun ls hl => ?_)
    exact s_Md_note_106 C hmv hRf hRl hret pv_fu (lv_sub hl [2, 1, 0] rfl) hP hS hf
  · have hf := pv_f hf h
    refine lv_iconst (v := (0 : Int32)) hx hb d_Md_note_27 (by decide) ?_
    obtain rfl := Option.some.inj hf
    exact hret _ _ _ _ d_Md_note_28 hP hS
def f_Md_note_16 (σ : pv_S) (x1 : Int32) (x2 : Int32) : Option (Int32 × pv_S) :=
  f_Md_note_17 σ x1 x2 (1 : Int32)
set_option maxHeartbeats 4000000 in
set_option maxRecDepth 100000 in
theorem s_Md_note_16 {p : Program} {l : Launch} {e : Env} {R : Room} {s : State} {m : MethodId} {args : Array Value} {below : List Frame} {meth : Method} {c : Code} {Q : State → Prop} {D : va_G} {q : Nat → ClassId} {a : Nat → Nat} {A : Nat → Prop} (C : pv_C p s m args c prog_9_method_63_code 5 "PatchVoicesModel" pv_TB D pv_cl (pv_ty q) 36 a A (pv_ZM)) (hmv : pv_mv A (pv_ZM)) (hRf : 1 ≤ R.frames) (hRl : 22 ≤ R.locals) {out : (Int32 × pv_S)} (hret : pv_Ri p l e R s m args below meth c prog_9_method_63_code D pv_cl 36 a (pv_FM q a) A Q out) {σ : pv_S} {x1 : Int32} {x2 : Int32} {H : Heap} {locs : List Loc} {ls : Array Slot} (hl : lv_has ls 5 [(0, .ref (a 0)), (1, .int x1), (2, .int x2)]) (hP : pv_W D pv_cl 36 a (pv_FM q a) σ H) (hS : va_S A s.heap H locs) (hf : f_Md_note_16 σ x1 x2 = some out) : W p l e R s m args below meth c H locs 0 0 Q (F0 m 16 ls [.ref (a 0)]) := by
  unfold f_Md_note_16 at hf
  have hx := C.1
  have hb := C.2.1
  refine lv_iconst (v := (1 : Int32)) hx hb d_Md_note_16 (by decide) ?_
  exact s_Md_note_17 C hmv hRf hRl hret (lv_sub hl [0, 1, 2] rfl) hP hS hf
def f_Md_note_0 (σ : pv_S) (x1 : Int32) (x2 : Int32) : Option (Int32 × pv_S) :=
  (if x2 < (1 : Int32) then
  f_Md_note_16 σ x1 x2
  else
  (if (127 : Int32) < x2 then
  f_Md_note_16 σ x1 x2
  else
  f_Md_note_17 σ x1 x2 (0 : Int32)))
set_option maxHeartbeats 4000000 in
set_option maxRecDepth 100000 in
theorem s_Md_note_0 {p : Program} {l : Launch} {e : Env} {R : Room} {s : State} {m : MethodId} {args : Array Value} {below : List Frame} {meth : Method} {c : Code} {Q : State → Prop} {D : va_G} {q : Nat → ClassId} {a : Nat → Nat} {A : Nat → Prop} (C : pv_C p s m args c prog_9_method_63_code 5 "PatchVoicesModel" pv_TB D pv_cl (pv_ty q) 36 a A (pv_ZM)) (hmv : pv_mv A (pv_ZM)) (hRf : 1 ≤ R.frames) (hRl : 22 ≤ R.locals) {out : (Int32 × pv_S)} (hret : pv_Ri p l e R s m args below meth c prog_9_method_63_code D pv_cl 36 a (pv_FM q a) A Q out) {σ : pv_S} {x1 : Int32} {x2 : Int32} {H : Heap} {locs : List Loc} {ls : Array Slot} (hl : lv_has ls 5 [(0, .ref (a 0)), (1, .int x1), (2, .int x2)]) (hP : pv_W D pv_cl 36 a (pv_FM q a) σ H) (hS : va_S A s.heap H locs) (hf : f_Md_note_0 σ x1 x2 = some out) : W p l e R s m args below meth c H locs 0 0 Q (F0 m 0 ls []) := by
  unfold f_Md_note_0 at hf
  have hx := C.1
  have hb := C.2.1
  refine lv_aload_n hx hb d_Md_note_0 rfl (lv_at hl 0 rfl) ?_
  refine lv_iload_n hx hb d_Md_note_1 rfl (lv_at hl 2 rfl) ?_
  refine lv_iconst (v := (1 : Int32)) hx hb d_Md_note_2 (by decide) ?_
  refine lv_icmp_lt (tgt := 16) hx hb d_Md_note_3 (by decide) (fun h => ?_) (fun h => ?_)
  · have hf := pv_t hf h
    exact s_Md_note_16 C hmv hRf hRl hret (lv_sub hl [0, 1, 2] rfl) hP hS hf
  · have hf := pv_f hf h
    refine lv_iload_n hx hb d_Md_note_6 rfl (lv_at hl 2 rfl) ?_
    refine lv_bipush (v := (127 : Int32)) hx hb d_Md_note_7 (by decide) ?_
    refine lv_icmp_gt (tgt := 16) hx hb d_Md_note_9 (by decide) (fun h => ?_) (fun h => ?_)
    · have hf := pv_t hf h
      exact s_Md_note_16 C hmv hRf hRl hret (lv_sub hl [0, 1, 2] rfl) hP hS hf
    · have hf := pv_f hf h
      refine lv_iconst (v := (0 : Int32)) hx hb d_Md_note_12 (by decide) ?_
      refine lv_goto (tgt := 17) hx hb d_Md_note_13 (by decide) ?_
      exact s_Md_note_17 C hmv hRf hRl hret (lv_sub hl [0, 1, 2] rfl) hP hS hf
def f_Md_note (σ : pv_S) (x1 : Int32) (x2 : Int32) : Option (Int32 × pv_S) := f_Md_note_0 σ x1 x2
def rm_Md_note : Room := { frames := 1, cells := 0, slots := 0, locals := 22 }
theorem c_Md_note {l : Launch} {D : va_G} {q : Nat → ClassId} {a : Nat → Nat} {A : Nat → Prop} (hD : pv_D 36 a A) (hmv : pv_mv A (pv_ZM)) {σ : pv_S} {x1 : Int32} {x2 : Int32} {out : (Int32 × pv_S)} (hf : f_Md_note σ x1 x2 = some out) : pv_Mi l y_Md_note (Cond.code y_Md_note prog_9_method_63_code 5 (some .int) :: pv_TB) rm_Md_note D pv_cl (pv_ty q) 36 a (pv_FM q a) A (pv_ZM) [.ref (a 0), .int x1, .int x2] σ out :=
  pv_ofI (by decide) (Nat.le_of_ble_eq_true rfl) hD (fun p e s m args below meth c Q ls C hret hl hP => s_Md_note_0 C hmv (Nat.le_refl _) (Nat.le_refl _) hret hl hP va_S.rf hf)
theorem d_Md_isVoice_0 : decode prog_9_method_64_code 0 = .ok (.iload_n 1, 1) := by decide +kernel
theorem d_Md_isVoice_1 : decode prog_9_method_64_code 1 = .ok (.ifCond .lt 15, 3) := by decide +kernel
theorem d_Md_isVoice_4 : decode prog_9_method_64_code 4 = .ok (.iload_n 1, 1) := by decide +kernel
theorem d_Md_isVoice_5 : decode prog_9_method_64_code 5 = .ok (.aload_n 0, 1) := by decide +kernel
theorem d_Md_isVoice_6 : decode prog_9_method_64_code 6 = .ok (.getfield 75, 3) := by decide +kernel
theorem d_Md_isVoice_9 : decode prog_9_method_64_code 9 = .ok (.if_icmp .ge 7, 3) := by decide +kernel
theorem d_Md_isVoice_12 : decode prog_9_method_64_code 12 = .ok (.iconst 1, 1) := by decide +kernel
theorem d_Md_isVoice_13 : decode prog_9_method_64_code 13 = .ok (.goto 4, 3) := by decide +kernel
theorem d_Md_isVoice_16 : decode prog_9_method_64_code 16 = .ok (.iconst 0, 1) := by decide +kernel
theorem d_Md_isVoice_17 : decode prog_9_method_64_code 17 = .ok (.ireturn, 1) := by decide +kernel
def f_Md_isVoice_0 (σ : pv_S) (x1 : Int32) : Option (Int32 × pv_S) :=
  (if x1 < 0 then
  some ((0 : Int32), σ)
  else
  (if (σ.1 0 32) ≤ x1 then
  some ((0 : Int32), σ)
  else
  some ((1 : Int32), σ)))
set_option maxHeartbeats 4000000 in
set_option maxRecDepth 100000 in
theorem s_Md_isVoice_0 {p : Program} {l : Launch} {e : Env} {R : Room} {s : State} {m : MethodId} {args : Array Value} {below : List Frame} {meth : Method} {c : Code} {Q : State → Prop} {D : va_G} {q : Nat → ClassId} {a : Nat → Nat} {A : Nat → Prop} (C : pv_C p s m args c prog_9_method_64_code 2 "PatchVoicesModel" pv_TB D pv_cl (pv_ty q) 36 a A (pv_ZM)) (hmv : pv_mv A (pv_ZM)) (hRf : 0 ≤ R.frames) (hRl : 0 ≤ R.locals) {out : (Int32 × pv_S)} (hret : pv_Rz p l e R s m args below meth c prog_9_method_64_code D pv_cl 36 a (pv_FM q a) A Q out) {σ : pv_S} {x1 : Int32} {H : Heap} {locs : List Loc} {ls : Array Slot} (hl : lv_has ls 2 [(0, .ref (a 0)), (1, .int x1)]) (hP : pv_W D pv_cl 36 a (pv_FM q a) σ H) (hS : va_S A s.heap H locs) (hf : f_Md_isVoice_0 σ x1 = some out) : W p l e R s m args below meth c H locs 0 0 Q (F0 m 0 ls []) := by
  unfold f_Md_isVoice_0 at hf
  have hx := C.1
  have hb := C.2.1
  refine lv_iload_n hx hb d_Md_isVoice_0 rfl (lv_at hl 1 rfl) ?_
  refine lv_if_lt (tgt := 16) hx hb d_Md_isVoice_1 (by decide) (fun h => ?_) (fun h => ?_)
  · have hf := pv_t hf h
    refine lv_iconst (v := (0 : Int32)) hx hb d_Md_isVoice_16 (by decide) ?_
    obtain rfl := Option.some.inj hf
    exact hret _ _ _ _ d_Md_isVoice_17 rfl hP hS
  · have hf := pv_f hf h
    refine lv_iload_n hx hb d_Md_isVoice_4 rfl (lv_at hl 1 rfl) ?_
    refine lv_aload_n hx hb d_Md_isVoice_5 rfl (lv_at hl 0 rfl) ?_
    refine pv_get C hP (v := .int (σ.1 0 32)) (j := 32) (by decide) (fm_0 _ _ _ _) fl_Md_75 rfl d_Md_isVoice_6 ?_
    refine lv_icmp_ge (tgt := 16) hx hb d_Md_isVoice_9 (by decide) (fun h => ?_) (fun h => ?_)
    · have hf := pv_t hf h
      refine lv_iconst (v := (0 : Int32)) hx hb d_Md_isVoice_16 (by decide) ?_
      obtain rfl := Option.some.inj hf
      exact hret _ _ _ _ d_Md_isVoice_17 rfl hP hS
    · have hf := pv_f hf h
      refine lv_iconst (v := (1 : Int32)) hx hb d_Md_isVoice_12 (by decide) ?_
      refine lv_goto (tgt := 17) hx hb d_Md_isVoice_13 (by decide) ?_
      obtain rfl := Option.some.inj hf
      exact hret _ _ _ _ d_Md_isVoice_17 rfl hP hS
def f_Md_isVoice (σ : pv_S) (x1 : Int32) : Option (Int32 × pv_S) := f_Md_isVoice_0 σ x1
def rm_Md_isVoice : Room := { frames := 0, cells := 0, slots := 0, locals := 0 }
theorem c_Md_isVoice {l : Launch} {D : va_G} {q : Nat → ClassId} {a : Nat → Nat} {A : Nat → Prop} (hD : pv_D 36 a A) (hmv : pv_mv A (pv_ZM)) {σ : pv_S} {x1 : Int32} {out : (Int32 × pv_S)} (hf : f_Md_isVoice σ x1 = some out) : pv_Mi l y_Md_isVoice (Cond.code y_Md_isVoice prog_9_method_64_code 2 (some .boolean) :: pv_TB) rm_Md_isVoice D pv_cl (pv_ty q) 36 a (pv_FM q a) A (pv_ZM) [.ref (a 0), .int x1] σ out :=
  pv_ofZ (by decide) (Nat.le_of_ble_eq_true rfl) hD (fun p e s m args below meth c Q ls C hret hl hP => s_Md_isVoice_0 C hmv (Nat.le_refl _) (Nat.le_refl _) hret hl hP va_S.rf hf)
theorem d_Md_off_0 : decode prog_9_method_65_code 0 = .ok (.aload_n 0, 1) := by decide +kernel
theorem d_Md_off_1 : decode prog_9_method_65_code 1 = .ok (.aload_n 0, 1) := by decide +kernel
theorem d_Md_off_2 : decode prog_9_method_65_code 2 = .ok (.iload_n 1, 1) := by decide +kernel
theorem d_Md_off_3 : decode prog_9_method_65_code 3 = .ok (.invokevirtual 344, 3) := by decide +kernel
theorem d_Md_off_6 : decode prog_9_method_65_code 6 = .ok (.ifCond .ne 7, 3) := by decide +kernel
theorem d_Md_off_9 : decode prog_9_method_65_code 9 = .ok (.iconst 1, 1) := by decide +kernel
theorem d_Md_off_10 : decode prog_9_method_65_code 10 = .ok (.goto 17, 3) := by decide +kernel
theorem d_Md_off_13 : decode prog_9_method_65_code 13 = .ok (.aload_n 0, 1) := by decide +kernel
theorem d_Md_off_14 : decode prog_9_method_65_code 14 = .ok (.getfield 90, 3) := by decide +kernel
theorem d_Md_off_17 : decode prog_9_method_65_code 17 = .ok (.iload_n 1, 1) := by decide +kernel
theorem d_Md_off_18 : decode prog_9_method_65_code 18 = .ok (.baload, 1) := by decide +kernel
theorem d_Md_off_19 : decode prog_9_method_65_code 19 = .ok (.ifCond .eq 7, 3) := by decide +kernel
theorem d_Md_off_22 : decode prog_9_method_65_code 22 = .ok (.iconst 0, 1) := by decide +kernel
theorem d_Md_off_23 : decode prog_9_method_65_code 23 = .ok (.goto 4, 3) := by decide +kernel
theorem d_Md_off_26 : decode prog_9_method_65_code 26 = .ok (.iconst 2, 1) := by decide +kernel
theorem d_Md_off_27 : decode prog_9_method_65_code 27 = .ok (.putfield 127, 3) := by decide +kernel
theorem d_Md_off_30 : decode prog_9_method_65_code 30 = .ok (.aload_n 0, 1) := by decide +kernel
theorem d_Md_off_31 : decode prog_9_method_65_code 31 = .ok (.getfield 127, 3) := by decide +kernel
theorem d_Md_off_34 : decode prog_9_method_65_code 34 = .ok (.ifCond .ne 10, 3) := by decide +kernel
theorem d_Md_off_37 : decode prog_9_method_65_code 37 = .ok (.aload_n 0, 1) := by decide +kernel
theorem d_Md_off_38 : decode prog_9_method_65_code 38 = .ok (.getfield 90, 3) := by decide +kernel
theorem d_Md_off_41 : decode prog_9_method_65_code 41 = .ok (.iload_n 1, 1) := by decide +kernel
theorem d_Md_off_42 : decode prog_9_method_65_code 42 = .ok (.iconst 0, 1) := by decide +kernel
theorem d_Md_off_43 : decode prog_9_method_65_code 43 = .ok (.bastore, 1) := by decide +kernel
theorem d_Md_off_44 : decode prog_9_method_65_code 44 = .ok (.return_, 1) := by decide +kernel
def f_Md_off_27 (σ : pv_S) (x1 : Int32) (s0 : Int32) : Option pv_S :=
  (if ((pv_uI σ 0 0 s0).1 0 0) = 0 then
  (if pv_in x1 4 = true then
some (pv_uI (pv_uI σ 0 0 s0) 25 (x1).toNatClampNeg (vp_nar .boolean (0 : Int32)))
  else none)
  else
  some (pv_uI σ 0 0 s0))
set_option maxHeartbeats 4000000 in
set_option maxRecDepth 100000 in
theorem s_Md_off_27 {p : Program} {l : Launch} {e : Env} {R : Room} {s : State} {m : MethodId} {args : Array Value} {below : List Frame} {meth : Method} {c : Code} {Q : State → Prop} {D : va_G} {q : Nat → ClassId} {a : Nat → Nat} {A : Nat → Prop} (C : pv_C p s m args c prog_9_method_65_code 2 "PatchVoicesModel" pv_TB D pv_cl (pv_ty q) 36 a A (pv_ZM)) (hmv : pv_mv A (pv_ZM)) (hRf : 1 ≤ R.frames) (hRl : 21 ≤ R.locals) {out : pv_S} (hret : pv_Rv p l e R s m args below meth c prog_9_method_65_code D pv_cl 36 a (pv_FM q a) A Q out) {σ : pv_S} {x1 : Int32} {s0 : Int32} {H : Heap} {locs : List Loc} {ls : Array Slot} (hl : lv_has ls 2 [(0, .ref (a 0)), (1, .int x1)]) (hP : pv_W D pv_cl 36 a (pv_FM q a) σ H) (hS : va_S A s.heap H locs) (hf : f_Md_off_27 σ x1 s0 = some out) : W p l e R s m args below meth c H locs 0 0 Q (F0 m 27 ls [.int s0, .ref (a 0)]) := by
  unfold f_Md_off_27 at hf
  have hx := C.1
  have hb := C.2.1
  refine pv_putI C hP hS (x := s0) (by decide) (fm_0 _ _ _ _) fw_Md_127 rfl rfl (Nat.le_of_ble_eq_true rfl) (fms_0_0 _ _ _ _ _) d_Md_off_27 (fun H locs hP hS => ?_)
  refine lv_aload_n hx hb d_Md_off_30 rfl (lv_at hl 0 rfl) ?_
  refine pv_get C hP (v := .int ((pv_uI σ 0 0 s0).1 0 0)) (j := 0) (by decide) (fm_0 _ _ _ _) fl_Md_127 rfl d_Md_off_31 ?_
  refine lv_if_ne (tgt := 44) hx hb d_Md_off_34 (by decide) (fun h => ?_) (fun h => ?_)
  · have hf := pv_f hf h
    obtain rfl := Option.some.inj hf
    exact hret _ _ _ _ d_Md_off_44 hP hS
  · have hf := pv_t hf h
    refine lv_aload_n hx hb d_Md_off_37 rfl (lv_at hl 0 rfl) ?_
    refine pv_get C hP (v := .ref (a 25)) (j := 37) (by decide) (fm_0 _ _ _ _) fl_Md_90 rfl d_Md_off_38 ?_
    refine lv_iload_n hx hb d_Md_off_41 rfl (lv_at hl 1 rfl) ?_
    refine lv_iconst (v := (0 : Int32)) hx hb d_Md_off_42 (by decide) ?_
    obtain ⟨hg, hf⟩ := pv_g hf
    refine pv_zast C hP hS (t0 := 2) (x := (0 : Int32)) (by decide) (fun f g => (fm_25 _ _ f g)) rfl hg d_Md_off_43 (fun H locs hP hS => ?_)
    obtain rfl := Option.some.inj hf
    exact hret _ _ _ _ d_Md_off_44 hP hS
def f_Md_off_0 (σ : pv_S) (x1 : Int32) : Option pv_S :=
  ((f_Md_isVoice σ x1).bind fun q1 =>
(if q1.1 = 0 then
  f_Md_off_27 q1.2 x1 (1 : Int32)
  else
  (if pv_in x1 4 = true then
(if (q1.2.1 25 (x1).toNatClampNeg) = 0 then
  f_Md_off_27 q1.2 x1 (2 : Int32)
  else
  f_Md_off_27 q1.2 x1 (0 : Int32))
  else none)))
set_option maxHeartbeats 4000000 in
set_option maxRecDepth 100000 in
theorem s_Md_off_0 {p : Program} {l : Launch} {e : Env} {R : Room} {s : State} {m : MethodId} {args : Array Value} {below : List Frame} {meth : Method} {c : Code} {Q : State → Prop} {D : va_G} {q : Nat → ClassId} {a : Nat → Nat} {A : Nat → Prop} (C : pv_C p s m args c prog_9_method_65_code 2 "PatchVoicesModel" pv_TB D pv_cl (pv_ty q) 36 a A (pv_ZM)) (hmv : pv_mv A (pv_ZM)) (hRf : 1 ≤ R.frames) (hRl : 21 ≤ R.locals) {out : pv_S} (hret : pv_Rv p l e R s m args below meth c prog_9_method_65_code D pv_cl 36 a (pv_FM q a) A Q out) {σ : pv_S} {x1 : Int32} {H : Heap} {locs : List Loc} {ls : Array Slot} (hl : lv_has ls 2 [(0, .ref (a 0)), (1, .int x1)]) (hP : pv_W D pv_cl 36 a (pv_FM q a) σ H) (hS : va_S A s.heap H locs) (hf : f_Md_off_0 σ x1 = some out) : W p l e R s m args below meth c H locs 0 0 Q (F0 m 0 ls []) := by
  unfold f_Md_off_0 at hf
  have hx := C.1
  have hb := C.2.1
  refine lv_aload_n hx hb d_Md_off_0 rfl (lv_at hl 0 rfl) ?_
  refine lv_aload_n hx hb d_Md_off_1 rfl (lv_at hl 0 rfl) ?_
  refine lv_iload_n hx hb d_Md_off_2 rfl (lv_at hl 1 rfl) ?_
  obtain ⟨q1, hc, hf⟩ := pv_b hf
  refine pv_callVi C hmv pv_good hP hS (As := [.int x1]) (rest := [.ref (a 0)]) (by decide) (fm_0 _ _ _ _) rfl (c_Md_isVoice C.2.2.2.2.2.2.1 hmv hc) cv_Md_344 ⟨rfl, rfl, Nat.le_trans (Nat.le_of_ble_eq_true rfl) hRf, Nat.le_trans (Nat.le_of_ble_eq_true rfl) hRl⟩ rfl hl.1 rfl (Nat.le_of_ble_eq_true rfl) d_Md_off_3 ⟨Nat.zero_le _, Nat.zero_le _⟩ (fun H locs hP hS => ?_)
  refine lv_if_ne (tgt := 13) hx hb d_Md_off_6 (by decide) (fun h => ?_) (fun h => ?_)
  · have hf := pv_f hf h
    refine lv_aload_n hx hb d_Md_off_13 rfl (lv_at hl 0 rfl) ?_
    refine pv_get C hP (v := .ref (a 25)) (j := 37) (by decide) (fm_0 _ _ _ _) fl_Md_90 rfl d_Md_off_14 ?_
    refine lv_iload_n hx hb d_Md_off_17 rfl (lv_at hl 1 rfl) ?_
    obtain ⟨hg, hf⟩ := pv_g hf
    refine pv_zald C hP (t0 := 2) (by decide) (fm_25 _ _ _ _) rfl hg d_Md_off_18 ?_
    refine lv_if_eq (tgt := 26) hx hb d_Md_off_19 (by decide) (fun h => ?_) (fun h => ?_)
    · have hf := pv_t hf h
      refine lv_iconst (v := (2 : Int32)) hx hb d_Md_off_26 (by decide) ?_
      exact s_Md_off_27 C hmv hRf hRl hret (lv_sub hl [0, 1] rfl) hP hS hf
    · have hf := pv_f hf h
      refine lv_iconst (v := (0 : Int32)) hx hb d_Md_off_22 (by decide) ?_
      refine lv_goto (tgt := 27) hx hb d_Md_off_23 (by decide) ?_
      exact s_Md_off_27 C hmv hRf hRl hret (lv_sub hl [0, 1] rfl) hP hS hf
  · have hf := pv_t hf h
    refine lv_iconst (v := (1 : Int32)) hx hb d_Md_off_9 (by decide) ?_
    refine lv_goto (tgt := 27) hx hb d_Md_off_10 (by decide) ?_
    exact s_Md_off_27 C hmv hRf hRl hret (lv_sub hl [0, 1] rfl) hP hS hf
def f_Md_off (σ : pv_S) (x1 : Int32) : Option pv_S := f_Md_off_0 σ x1
def rm_Md_off : Room := { frames := 1, cells := 0, slots := 0, locals := 21 }
theorem c_Md_off {l : Launch} {D : va_G} {q : Nat → ClassId} {a : Nat → Nat} {A : Nat → Prop} (hD : pv_D 36 a A) (hmv : pv_mv A (pv_ZM)) {σ : pv_S} {x1 : Int32} {out : pv_S} (hf : f_Md_off σ x1 = some out) : pv_Mv l y_Md_off (Cond.code y_Md_off prog_9_method_65_code 2 none :: pv_TB) rm_Md_off D pv_cl (pv_ty q) 36 a (pv_FM q a) A (pv_ZM) [.ref (a 0), .int x1] σ out :=
  pv_ofV (by decide) (Nat.le_of_ble_eq_true rfl) hD (fun p e s m args below meth c Q ls C hret hl hP => s_Md_off_0 C hmv (Nat.le_refl _) (Nat.le_refl _) hret hl hP va_S.rf hf)
theorem d_Md_active_0 : decode prog_9_method_66_code 0 = .ok (.aload_n 0, 1) := by decide +kernel
theorem d_Md_active_1 : decode prog_9_method_66_code 1 = .ok (.aload_n 0, 1) := by decide +kernel
theorem d_Md_active_2 : decode prog_9_method_66_code 2 = .ok (.iload_n 1, 1) := by decide +kernel
theorem d_Md_active_3 : decode prog_9_method_66_code 3 = .ok (.invokevirtual 344, 3) := by decide +kernel
theorem d_Md_active_6 : decode prog_9_method_66_code 6 = .ok (.ifCond .eq 7, 3) := by decide +kernel
theorem d_Md_active_9 : decode prog_9_method_66_code 9 = .ok (.iconst 0, 1) := by decide +kernel
theorem d_Md_active_10 : decode prog_9_method_66_code 10 = .ok (.goto 4, 3) := by decide +kernel
theorem d_Md_active_13 : decode prog_9_method_66_code 13 = .ok (.iconst 1, 1) := by decide +kernel
theorem d_Md_active_14 : decode prog_9_method_66_code 14 = .ok (.putfield 127, 3) := by decide +kernel
theorem d_Md_active_17 : decode prog_9_method_66_code 17 = .ok (.aload_n 0, 1) := by decide +kernel
theorem d_Md_active_18 : decode prog_9_method_66_code 18 = .ok (.getfield 127, 3) := by decide +kernel
theorem d_Md_active_21 : decode prog_9_method_66_code 21 = .ok (.ifCond .ne 25, 3) := by decide +kernel
theorem d_Md_active_24 : decode prog_9_method_66_code 24 = .ok (.aload_n 0, 1) := by decide +kernel
theorem d_Md_active_25 : decode prog_9_method_66_code 25 = .ok (.getfield 81, 3) := by decide +kernel
theorem d_Md_active_28 : decode prog_9_method_66_code 28 = .ok (.iload_n 1, 1) := by decide +kernel
theorem d_Md_active_29 : decode prog_9_method_66_code 29 = .ok (.baload, 1) := by decide +kernel
theorem d_Md_active_30 : decode prog_9_method_66_code 30 = .ok (.ifCond .eq 16, 3) := by decide +kernel
theorem d_Md_active_33 : decode prog_9_method_66_code 33 = .ok (.aload_n 0, 1) := by decide +kernel
theorem d_Md_active_34 : decode prog_9_method_66_code 34 = .ok (.getfield 93, 3) := by decide +kernel
theorem d_Md_active_37 : decode prog_9_method_66_code 37 = .ok (.iload_n 1, 1) := by decide +kernel
theorem d_Md_active_38 : decode prog_9_method_66_code 38 = .ok (.baload, 1) := by decide +kernel
theorem d_Md_active_39 : decode prog_9_method_66_code 39 = .ok (.ifCond .ne 7, 3) := by decide +kernel
theorem d_Md_active_42 : decode prog_9_method_66_code 42 = .ok (.iconst 1, 1) := by decide +kernel
theorem d_Md_active_43 : decode prog_9_method_66_code 43 = .ok (.goto 4, 3) := by decide +kernel
theorem d_Md_active_46 : decode prog_9_method_66_code 46 = .ok (.iconst 0, 1) := by decide +kernel
theorem d_Md_active_47 : decode prog_9_method_66_code 47 = .ok (.ireturn, 1) := by decide +kernel
def f_Md_active_14 (σ : pv_S) (x1 : Int32) (s0 : Int32) : Option (Int32 × pv_S) :=
  (if ((pv_uI σ 0 0 s0).1 0 0) = 0 then
  (if pv_in x1 4 = true then
(if ((pv_uI σ 0 0 s0).1 22 (x1).toNatClampNeg) = 0 then
  some ((0 : Int32), (pv_uI σ 0 0 s0))
  else
  (if pv_in x1 4 = true then
(if ((pv_uI σ 0 0 s0).1 26 (x1).toNatClampNeg) = 0 then
  some ((1 : Int32), (pv_uI σ 0 0 s0))
  else
  some ((0 : Int32), (pv_uI σ 0 0 s0)))
  else none))
  else none)
  else
  some ((0 : Int32), (pv_uI σ 0 0 s0)))
set_option maxHeartbeats 4000000 in
set_option maxRecDepth 100000 in
theorem s_Md_active_14 {p : Program} {l : Launch} {e : Env} {R : Room} {s : State} {m : MethodId} {args : Array Value} {below : List Frame} {meth : Method} {c : Code} {Q : State → Prop} {D : va_G} {q : Nat → ClassId} {a : Nat → Nat} {A : Nat → Prop} (C : pv_C p s m args c prog_9_method_66_code 2 "PatchVoicesModel" pv_TB D pv_cl (pv_ty q) 36 a A (pv_ZM)) (hmv : pv_mv A (pv_ZM)) (hRf : 1 ≤ R.frames) (hRl : 21 ≤ R.locals) {out : (Int32 × pv_S)} (hret : pv_Rz p l e R s m args below meth c prog_9_method_66_code D pv_cl 36 a (pv_FM q a) A Q out) {σ : pv_S} {x1 : Int32} {s0 : Int32} {H : Heap} {locs : List Loc} {ls : Array Slot} (hl : lv_has ls 2 [(0, .ref (a 0)), (1, .int x1)]) (hP : pv_W D pv_cl 36 a (pv_FM q a) σ H) (hS : va_S A s.heap H locs) (hf : f_Md_active_14 σ x1 s0 = some out) : W p l e R s m args below meth c H locs 0 0 Q (F0 m 14 ls [.int s0, .ref (a 0)]) := by
  unfold f_Md_active_14 at hf
  have hx := C.1
  have hb := C.2.1
  refine pv_putI C hP hS (x := s0) (by decide) (fm_0 _ _ _ _) fw_Md_127 rfl rfl (Nat.le_of_ble_eq_true rfl) (fms_0_0 _ _ _ _ _) d_Md_active_14 (fun H locs hP hS => ?_)
  refine lv_aload_n hx hb d_Md_active_17 rfl (lv_at hl 0 rfl) ?_
  refine pv_get C hP (v := .int ((pv_uI σ 0 0 s0).1 0 0)) (j := 0) (by decide) (fm_0 _ _ _ _) fl_Md_127 rfl d_Md_active_18 ?_
  refine lv_if_ne (tgt := 46) hx hb d_Md_active_21 (by decide) (fun h => ?_) (fun h => ?_)
  · have hf := pv_f hf h
    refine lv_iconst (v := (0 : Int32)) hx hb d_Md_active_46 (by decide) ?_
    obtain rfl := Option.some.inj hf
    exact hret _ _ _ _ d_Md_active_47 rfl hP hS
  · have hf := pv_t hf h
    refine lv_aload_n hx hb d_Md_active_24 rfl (lv_at hl 0 rfl) ?_
    refine pv_get C hP (v := .ref (a 22)) (j := 34) (by decide) (fm_0 _ _ _ _) fl_Md_81 rfl d_Md_active_25 ?_
    refine lv_iload_n hx hb d_Md_active_28 rfl (lv_at hl 1 rfl) ?_
    obtain ⟨hg, hf⟩ := pv_g hf
    refine pv_zald C hP (t0 := 2) (by decide) (fm_22 _ _ _ _) rfl hg d_Md_active_29 ?_
    refine lv_if_eq (tgt := 46) hx hb d_Md_active_30 (by decide) (fun h => ?_) (fun h => ?_)
    · have hf := pv_t hf h
      refine lv_iconst (v := (0 : Int32)) hx hb d_Md_active_46 (by decide) ?_
      obtain rfl := Option.some.inj hf
      exact hret _ _ _ _ d_Md_active_47 rfl hP hS
    · have hf := pv_f hf h
      refine lv_aload_n hx hb d_Md_active_33 rfl (lv_at hl 0 rfl) ?_
      refine pv_get C hP (v := .ref (a 26)) (j := 38) (by decide) (fm_0 _ _ _ _) fl_Md_93 rfl d_Md_active_34 ?_
      refine lv_iload_n hx hb d_Md_active_37 rfl (lv_at hl 1 rfl) ?_
      obtain ⟨hg, hf⟩ := pv_g hf
      refine pv_zald C hP (t0 := 2) (by decide) (fm_26 _ _ _ _) rfl hg d_Md_active_38 ?_
      refine lv_if_ne (tgt := 46) hx hb d_Md_active_39 (by decide) (fun h => ?_) (fun h => ?_)
      · have hf := pv_f hf h
        refine lv_iconst (v := (0 : Int32)) hx hb d_Md_active_46 (by decide) ?_
        obtain rfl := Option.some.inj hf
        exact hret _ _ _ _ d_Md_active_47 rfl hP hS
      · have hf := pv_t hf h
        refine lv_iconst (v := (1 : Int32)) hx hb d_Md_active_42 (by decide) ?_
        refine lv_goto (tgt := 47) hx hb d_Md_active_43 (by decide) ?_
        obtain rfl := Option.some.inj hf
        exact hret _ _ _ _ d_Md_active_47 rfl hP hS
def f_Md_active_0 (σ : pv_S) (x1 : Int32) : Option (Int32 × pv_S) :=
  ((f_Md_isVoice σ x1).bind fun q1 =>
(if q1.1 = 0 then
  f_Md_active_14 q1.2 x1 (1 : Int32)
  else
  f_Md_active_14 q1.2 x1 (0 : Int32)))
set_option maxHeartbeats 4000000 in
set_option maxRecDepth 100000 in
theorem s_Md_active_0 {p : Program} {l : Launch} {e : Env} {R : Room} {s : State} {m : MethodId} {args : Array Value} {below : List Frame} {meth : Method} {c : Code} {Q : State → Prop} {D : va_G} {q : Nat → ClassId} {a : Nat → Nat} {A : Nat → Prop} (C : pv_C p s m args c prog_9_method_66_code 2 "PatchVoicesModel" pv_TB D pv_cl (pv_ty q) 36 a A (pv_ZM)) (hmv : pv_mv A (pv_ZM)) (hRf : 1 ≤ R.frames) (hRl : 21 ≤ R.locals) {out : (Int32 × pv_S)} (hret : pv_Rz p l e R s m args below meth c prog_9_method_66_code D pv_cl 36 a (pv_FM q a) A Q out) {σ : pv_S} {x1 : Int32} {H : Heap} {locs : List Loc} {ls : Array Slot} (hl : lv_has ls 2 [(0, .ref (a 0)), (1, .int x1)]) (hP : pv_W D pv_cl 36 a (pv_FM q a) σ H) (hS : va_S A s.heap H locs) (hf : f_Md_active_0 σ x1 = some out) : W p l e R s m args below meth c H locs 0 0 Q (F0 m 0 ls []) := by
  unfold f_Md_active_0 at hf
  have hx := C.1
  have hb := C.2.1
  refine lv_aload_n hx hb d_Md_active_0 rfl (lv_at hl 0 rfl) ?_
  refine lv_aload_n hx hb d_Md_active_1 rfl (lv_at hl 0 rfl) ?_
  refine lv_iload_n hx hb d_Md_active_2 rfl (lv_at hl 1 rfl) ?_
  obtain ⟨q1, hc, hf⟩ := pv_b hf
  refine pv_callVi C hmv pv_good hP hS (As := [.int x1]) (rest := [.ref (a 0)]) (by decide) (fm_0 _ _ _ _) rfl (c_Md_isVoice C.2.2.2.2.2.2.1 hmv hc) cv_Md_344 ⟨rfl, rfl, Nat.le_trans (Nat.le_of_ble_eq_true rfl) hRf, Nat.le_trans (Nat.le_of_ble_eq_true rfl) hRl⟩ rfl hl.1 rfl (Nat.le_of_ble_eq_true rfl) d_Md_active_3 ⟨Nat.zero_le _, Nat.zero_le _⟩ (fun H locs hP hS => ?_)
  refine lv_if_eq (tgt := 13) hx hb d_Md_active_6 (by decide) (fun h => ?_) (fun h => ?_)
  · have hf := pv_t hf h
    refine lv_iconst (v := (1 : Int32)) hx hb d_Md_active_13 (by decide) ?_
    exact s_Md_active_14 C hmv hRf hRl hret (lv_sub hl [0, 1] rfl) hP hS hf
  · have hf := pv_f hf h
    refine lv_iconst (v := (0 : Int32)) hx hb d_Md_active_9 (by decide) ?_
    refine lv_goto (tgt := 14) hx hb d_Md_active_10 (by decide) ?_
    exact s_Md_active_14 C hmv hRf hRl hret (lv_sub hl [0, 1] rfl) hP hS hf
def f_Md_active (σ : pv_S) (x1 : Int32) : Option (Int32 × pv_S) := f_Md_active_0 σ x1
def rm_Md_active : Room := { frames := 1, cells := 0, slots := 0, locals := 21 }
theorem c_Md_active {l : Launch} {D : va_G} {q : Nat → ClassId} {a : Nat → Nat} {A : Nat → Prop} (hD : pv_D 36 a A) (hmv : pv_mv A (pv_ZM)) {σ : pv_S} {x1 : Int32} {out : (Int32 × pv_S)} (hf : f_Md_active σ x1 = some out) : pv_Mi l y_Md_active (Cond.code y_Md_active prog_9_method_66_code 2 (some .boolean) :: pv_TB) rm_Md_active D pv_cl (pv_ty q) 36 a (pv_FM q a) A (pv_ZM) [.ref (a 0), .int x1] σ out :=
  pv_ofZ (by decide) (Nat.le_of_ble_eq_true rfl) hD (fun p e s m args below meth c Q ls C hret hl hP => s_Md_active_0 C hmv (Nat.le_refl _) (Nat.le_refl _) hret hl hP va_S.rf hf)
theorem d_Md_knob_0 : decode prog_9_method_67_code 0 = .ok (.aload_n 0, 1) := by decide +kernel
theorem d_Md_knob_1 : decode prog_9_method_67_code 1 = .ok (.iload_n 1, 1) := by decide +kernel
theorem d_Md_knob_2 : decode prog_9_method_67_code 2 = .ok (.ifCond .lt 12, 3) := by decide +kernel
theorem d_Md_knob_5 : decode prog_9_method_67_code 5 = .ok (.iload_n 1, 1) := by decide +kernel
theorem d_Md_knob_6 : decode prog_9_method_67_code 6 = .ok (.iconst 3, 1) := by decide +kernel
theorem d_Md_knob_7 : decode prog_9_method_67_code 7 = .ok (.if_icmp .gt 7, 3) := by decide +kernel
theorem d_Md_knob_10 : decode prog_9_method_67_code 10 = .ok (.iconst 0, 1) := by decide +kernel
theorem d_Md_knob_11 : decode prog_9_method_67_code 11 = .ok (.goto 4, 3) := by decide +kernel
theorem d_Md_knob_14 : decode prog_9_method_67_code 14 = .ok (.iconst 1, 1) := by decide +kernel
theorem d_Md_knob_15 : decode prog_9_method_67_code 15 = .ok (.putfield 127, 3) := by decide +kernel
theorem d_Md_knob_18 : decode prog_9_method_67_code 18 = .ok (.aload_n 0, 1) := by decide +kernel
theorem d_Md_knob_19 : decode prog_9_method_67_code 19 = .ok (.getfield 127, 3) := by decide +kernel
theorem d_Md_knob_22 : decode prog_9_method_67_code 22 = .ok (.ifCond .ne 10, 3) := by decide +kernel
theorem d_Md_knob_25 : decode prog_9_method_67_code 25 = .ok (.aload_n 0, 1) := by decide +kernel
theorem d_Md_knob_26 : decode prog_9_method_67_code 26 = .ok (.getfield 78, 3) := by decide +kernel
theorem d_Md_knob_29 : decode prog_9_method_67_code 29 = .ok (.iload_n 1, 1) := by decide +kernel
theorem d_Md_knob_30 : decode prog_9_method_67_code 30 = .ok (.iload_n 2, 1) := by decide +kernel
theorem d_Md_knob_31 : decode prog_9_method_67_code 31 = .ok (.iastore, 1) := by decide +kernel
theorem d_Md_knob_32 : decode prog_9_method_67_code 32 = .ok (.return_, 1) := by decide +kernel
def f_Md_knob_15 (σ : pv_S) (x1 : Int32) (x2 : Int32) (s0 : Int32) : Option pv_S :=
  (if ((pv_uI σ 0 0 s0).1 0 0) = 0 then
  (if pv_in x1 4 = true then
some (pv_uI (pv_uI σ 0 0 s0) 21 (x1).toNatClampNeg x2)
  else none)
  else
  some (pv_uI σ 0 0 s0))
set_option maxHeartbeats 4000000 in
set_option maxRecDepth 100000 in
theorem s_Md_knob_15 {p : Program} {l : Launch} {e : Env} {R : Room} {s : State} {m : MethodId} {args : Array Value} {below : List Frame} {meth : Method} {c : Code} {Q : State → Prop} {D : va_G} {q : Nat → ClassId} {a : Nat → Nat} {A : Nat → Prop} (C : pv_C p s m args c prog_9_method_67_code 3 "PatchVoicesModel" pv_TB D pv_cl (pv_ty q) 36 a A (pv_ZM)) (hmv : pv_mv A (pv_ZM)) (hRf : 0 ≤ R.frames) (hRl : 0 ≤ R.locals) {out : pv_S} (hret : pv_Rv p l e R s m args below meth c prog_9_method_67_code D pv_cl 36 a (pv_FM q a) A Q out) {σ : pv_S} {x1 : Int32} {x2 : Int32} {s0 : Int32} {H : Heap} {locs : List Loc} {ls : Array Slot} (hl : lv_has ls 3 [(0, .ref (a 0)), (1, .int x1), (2, .int x2)]) (hP : pv_W D pv_cl 36 a (pv_FM q a) σ H) (hS : va_S A s.heap H locs) (hf : f_Md_knob_15 σ x1 x2 s0 = some out) : W p l e R s m args below meth c H locs 0 0 Q (F0 m 15 ls [.int s0, .ref (a 0)]) := by
  unfold f_Md_knob_15 at hf
  have hx := C.1
  have hb := C.2.1
  refine pv_putI C hP hS (x := s0) (by decide) (fm_0 _ _ _ _) fw_Md_127 rfl rfl (Nat.le_of_ble_eq_true rfl) (fms_0_0 _ _ _ _ _) d_Md_knob_15 (fun H locs hP hS => ?_)
  refine lv_aload_n hx hb d_Md_knob_18 rfl (lv_at hl 0 rfl) ?_
  refine pv_get C hP (v := .int ((pv_uI σ 0 0 s0).1 0 0)) (j := 0) (by decide) (fm_0 _ _ _ _) fl_Md_127 rfl d_Md_knob_19 ?_
  refine lv_if_ne (tgt := 32) hx hb d_Md_knob_22 (by decide) (fun h => ?_) (fun h => ?_)
  · have hf := pv_f hf h
    obtain rfl := Option.some.inj hf
    exact hret _ _ _ _ d_Md_knob_32 hP hS
  · have hf := pv_t hf h
    refine lv_aload_n hx hb d_Md_knob_25 rfl (lv_at hl 0 rfl) ?_
    refine pv_get C hP (v := .ref (a 21)) (j := 33) (by decide) (fm_0 _ _ _ _) fl_Md_78 rfl d_Md_knob_26 ?_
    refine lv_iload_n hx hb d_Md_knob_29 rfl (lv_at hl 1 rfl) ?_
    refine lv_iload_n hx hb d_Md_knob_30 rfl (lv_at hl 2 rfl) ?_
    obtain ⟨hg, hf⟩ := pv_g hf
    refine pv_iast C hP hS (t0 := 0) (x := x2) (by decide) (fun f g => (fm_21 _ _ f g)) rfl hg d_Md_knob_31 (fun H locs hP hS => ?_)
    obtain rfl := Option.some.inj hf
    exact hret _ _ _ _ d_Md_knob_32 hP hS
def f_Md_knob_14 (σ : pv_S) (x1 : Int32) (x2 : Int32) : Option pv_S :=
  f_Md_knob_15 σ x1 x2 (1 : Int32)
set_option maxHeartbeats 4000000 in
set_option maxRecDepth 100000 in
theorem s_Md_knob_14 {p : Program} {l : Launch} {e : Env} {R : Room} {s : State} {m : MethodId} {args : Array Value} {below : List Frame} {meth : Method} {c : Code} {Q : State → Prop} {D : va_G} {q : Nat → ClassId} {a : Nat → Nat} {A : Nat → Prop} (C : pv_C p s m args c prog_9_method_67_code 3 "PatchVoicesModel" pv_TB D pv_cl (pv_ty q) 36 a A (pv_ZM)) (hmv : pv_mv A (pv_ZM)) (hRf : 0 ≤ R.frames) (hRl : 0 ≤ R.locals) {out : pv_S} (hret : pv_Rv p l e R s m args below meth c prog_9_method_67_code D pv_cl 36 a (pv_FM q a) A Q out) {σ : pv_S} {x1 : Int32} {x2 : Int32} {H : Heap} {locs : List Loc} {ls : Array Slot} (hl : lv_has ls 3 [(0, .ref (a 0)), (1, .int x1), (2, .int x2)]) (hP : pv_W D pv_cl 36 a (pv_FM q a) σ H) (hS : va_S A s.heap H locs) (hf : f_Md_knob_14 σ x1 x2 = some out) : W p l e R s m args below meth c H locs 0 0 Q (F0 m 14 ls [.ref (a 0)]) := by
  unfold f_Md_knob_14 at hf
  have hx := C.1
  have hb := C.2.1
  refine lv_iconst (v := (1 : Int32)) hx hb d_Md_knob_14 (by decide) ?_
  exact s_Md_knob_15 C hmv hRf hRl hret (lv_sub hl [0, 1, 2] rfl) hP hS hf
def f_Md_knob_0 (σ : pv_S) (x1 : Int32) (x2 : Int32) : Option pv_S :=
  (if x1 < 0 then
  f_Md_knob_14 σ x1 x2
  else
  (if (3 : Int32) < x1 then
  f_Md_knob_14 σ x1 x2
  else
  f_Md_knob_15 σ x1 x2 (0 : Int32)))
set_option maxHeartbeats 4000000 in
set_option maxRecDepth 100000 in
theorem s_Md_knob_0 {p : Program} {l : Launch} {e : Env} {R : Room} {s : State} {m : MethodId} {args : Array Value} {below : List Frame} {meth : Method} {c : Code} {Q : State → Prop} {D : va_G} {q : Nat → ClassId} {a : Nat → Nat} {A : Nat → Prop} (C : pv_C p s m args c prog_9_method_67_code 3 "PatchVoicesModel" pv_TB D pv_cl (pv_ty q) 36 a A (pv_ZM)) (hmv : pv_mv A (pv_ZM)) (hRf : 0 ≤ R.frames) (hRl : 0 ≤ R.locals) {out : pv_S} (hret : pv_Rv p l e R s m args below meth c prog_9_method_67_code D pv_cl 36 a (pv_FM q a) A Q out) {σ : pv_S} {x1 : Int32} {x2 : Int32} {H : Heap} {locs : List Loc} {ls : Array Slot} (hl : lv_has ls 3 [(0, .ref (a 0)), (1, .int x1), (2, .int x2)]) (hP : pv_W D pv_cl 36 a (pv_FM q a) σ H) (hS : va_S A s.heap H locs) (hf : f_Md_knob_0 σ x1 x2 = some out) : W p l e R s m args below meth c H locs 0 0 Q (F0 m 0 ls []) := by
  unfold f_Md_knob_0 at hf
  have hx := C.1
  have hb := C.2.1
  refine lv_aload_n hx hb d_Md_knob_0 rfl (lv_at hl 0 rfl) ?_
  refine lv_iload_n hx hb d_Md_knob_1 rfl (lv_at hl 1 rfl) ?_
  refine lv_if_lt (tgt := 14) hx hb d_Md_knob_2 (by decide) (fun h => ?_) (fun h => ?_)
  · have hf := pv_t hf h
    exact s_Md_knob_14 C hmv hRf hRl hret (lv_sub hl [0, 1, 2] rfl) hP hS hf
  · have hf := pv_f hf h
    refine lv_iload_n hx hb d_Md_knob_5 rfl (lv_at hl 1 rfl) ?_
    refine lv_iconst (v := (3 : Int32)) hx hb d_Md_knob_6 (by decide) ?_
    refine lv_icmp_gt (tgt := 14) hx hb d_Md_knob_7 (by decide) (fun h => ?_) (fun h => ?_)
    · have hf := pv_t hf h
      exact s_Md_knob_14 C hmv hRf hRl hret (lv_sub hl [0, 1, 2] rfl) hP hS hf
    · have hf := pv_f hf h
      refine lv_iconst (v := (0 : Int32)) hx hb d_Md_knob_10 (by decide) ?_
      refine lv_goto (tgt := 15) hx hb d_Md_knob_11 (by decide) ?_
      exact s_Md_knob_15 C hmv hRf hRl hret (lv_sub hl [0, 1, 2] rfl) hP hS hf
def f_Md_knob (σ : pv_S) (x1 : Int32) (x2 : Int32) : Option pv_S := f_Md_knob_0 σ x1 x2
def rm_Md_knob : Room := { frames := 0, cells := 0, slots := 0, locals := 0 }
theorem c_Md_knob {l : Launch} {D : va_G} {q : Nat → ClassId} {a : Nat → Nat} {A : Nat → Prop} (hD : pv_D 36 a A) (hmv : pv_mv A (pv_ZM)) {σ : pv_S} {x1 : Int32} {x2 : Int32} {out : pv_S} (hf : f_Md_knob σ x1 x2 = some out) : pv_Mv l y_Md_knob (Cond.code y_Md_knob prog_9_method_67_code 3 none :: pv_TB) rm_Md_knob D pv_cl (pv_ty q) 36 a (pv_FM q a) A (pv_ZM) [.ref (a 0), .int x1, .int x2] σ out :=
  pv_ofV (by decide) (Nat.le_of_ble_eq_true rfl) hD (fun p e s m args below meth c Q ls C hret hl hP => s_Md_knob_0 C hmv (Nat.le_refl _) (Nat.le_refl _) hret hl hP va_S.rf hf)
theorem d_Md_run_0 : decode prog_9_method_68_code 0 = .ok (.aload_n 0, 1) := by decide +kernel
theorem d_Md_run_1 : decode prog_9_method_68_code 1 = .ok (.iload_n 1, 1) := by decide +kernel
theorem d_Md_run_2 : decode prog_9_method_68_code 2 = .ok (.ifCond .lt 9, 3) := by decide +kernel
theorem d_Md_run_5 : decode prog_9_method_68_code 5 = .ok (.iload_n 1, 1) := by decide +kernel
theorem d_Md_run_6 : decode prog_9_method_68_code 6 = .ok (.bipush 64, 2) := by decide +kernel
theorem d_Md_run_8 : decode prog_9_method_68_code 8 = .ok (.if_icmp .le 7, 3) := by decide +kernel
theorem d_Md_run_11 : decode prog_9_method_68_code 11 = .ok (.iconst 1, 1) := by decide +kernel
theorem d_Md_run_12 : decode prog_9_method_68_code 12 = .ok (.goto 15, 3) := by decide +kernel
theorem d_Md_run_15 : decode prog_9_method_68_code 15 = .ok (.aload_n 0, 1) := by decide +kernel
theorem d_Md_run_16 : decode prog_9_method_68_code 16 = .ok (.getfield 244, 3) := by decide +kernel
theorem d_Md_run_19 : decode prog_9_method_68_code 19 = .ok (.ifCond .eq 7, 3) := by decide +kernel
theorem d_Md_run_22 : decode prog_9_method_68_code 22 = .ok (.iconst 0, 1) := by decide +kernel
theorem d_Md_run_23 : decode prog_9_method_68_code 23 = .ok (.goto 4, 3) := by decide +kernel
theorem d_Md_run_26 : decode prog_9_method_68_code 26 = .ok (.iconst 2, 1) := by decide +kernel
theorem d_Md_run_27 : decode prog_9_method_68_code 27 = .ok (.putfield 127, 3) := by decide +kernel
theorem d_Md_run_30 : decode prog_9_method_68_code 30 = .ok (.aload_n 0, 1) := by decide +kernel
theorem d_Md_run_31 : decode prog_9_method_68_code 31 = .ok (.getfield 127, 3) := by decide +kernel
theorem d_Md_run_34 : decode prog_9_method_68_code 34 = .ok (.ifCond .le 4, 3) := by decide +kernel
theorem d_Md_run_37 : decode prog_9_method_68_code 37 = .ok (.return_, 1) := by decide +kernel
theorem d_Md_run_38 : decode prog_9_method_68_code 38 = .ok (.iconst 0, 1) := by decide +kernel
theorem d_Md_run_39 : decode prog_9_method_68_code 39 = .ok (.istore_n 2, 1) := by decide +kernel
theorem d_Md_run_40 : decode prog_9_method_68_code 40 = .ok (.iload_n 2, 1) := by decide +kernel
theorem d_Md_run_41 : decode prog_9_method_68_code 41 = .ok (.iload_n 1, 1) := by decide +kernel
theorem d_Md_run_42 : decode prog_9_method_68_code 42 = .ok (.if_icmp .ge 99, 3) := by decide +kernel
theorem d_Md_run_45 : decode prog_9_method_68_code 45 = .ok (.lconst 0, 1) := by decide +kernel
theorem d_Md_run_46 : decode prog_9_method_68_code 46 = .ok (.lstore_n 3, 1) := by decide +kernel
theorem d_Md_run_47 : decode prog_9_method_68_code 47 = .ok (.iconst 0, 1) := by decide +kernel
theorem d_Md_run_48 : decode prog_9_method_68_code 48 = .ok (.istore 5, 2) := by decide +kernel
theorem d_Md_run_50 : decode prog_9_method_68_code 50 = .ok (.iload 5, 2) := by decide +kernel
theorem d_Md_run_52 : decode prog_9_method_68_code 52 = .ok (.aload_n 0, 1) := by decide +kernel
theorem d_Md_run_53 : decode prog_9_method_68_code 53 = .ok (.getfield 75, 3) := by decide +kernel
theorem d_Md_run_56 : decode prog_9_method_68_code 56 = .ok (.if_icmp .ge 33, 3) := by decide +kernel
theorem d_Md_run_59 : decode prog_9_method_68_code 59 = .ok (.aload_n 0, 1) := by decide +kernel
theorem d_Md_run_60 : decode prog_9_method_68_code 60 = .ok (.getfield 81, 3) := by decide +kernel
theorem d_Md_run_63 : decode prog_9_method_68_code 63 = .ok (.iload 5, 2) := by decide +kernel
theorem d_Md_run_65 : decode prog_9_method_68_code 65 = .ok (.baload, 1) := by decide +kernel
theorem d_Md_run_66 : decode prog_9_method_68_code 66 = .ok (.ifCond .eq 15, 3) := by decide +kernel
theorem d_Md_run_69 : decode prog_9_method_68_code 69 = .ok (.lload_n 3, 1) := by decide +kernel
theorem d_Md_run_70 : decode prog_9_method_68_code 70 = .ok (.aload_n 0, 1) := by decide +kernel
theorem d_Md_run_71 : decode prog_9_method_68_code 71 = .ok (.iload 5, 2) := by decide +kernel
theorem d_Md_run_73 : decode prog_9_method_68_code 73 = .ok (.invokevirtual 347, 3) := by decide +kernel
theorem d_Md_run_76 : decode prog_9_method_68_code 76 = .ok (.i2l, 1) := by decide +kernel
theorem d_Md_run_77 : decode prog_9_method_68_code 77 = .ok (.ladd, 1) := by decide +kernel
theorem d_Md_run_78 : decode prog_9_method_68_code 78 = .ok (.goto 4, 3) := by decide +kernel
theorem d_Md_run_81 : decode prog_9_method_68_code 81 = .ok (.lload_n 3, 1) := by decide +kernel
theorem d_Md_run_82 : decode prog_9_method_68_code 82 = .ok (.lstore_n 3, 1) := by decide +kernel
theorem d_Md_run_83 : decode prog_9_method_68_code 83 = .ok (.iinc 5 1, 3) := by decide +kernel
theorem d_Md_run_86 : decode prog_9_method_68_code 86 = .ok (.goto (-36), 3) := by decide +kernel
theorem d_Md_run_89 : decode prog_9_method_68_code 89 = .ok (.aload_n 0, 1) := by decide +kernel
theorem d_Md_run_90 : decode prog_9_method_68_code 90 = .ok (.getfield 120, 3) := by decide +kernel
theorem d_Md_run_93 : decode prog_9_method_68_code 93 = .ok (.iload_n 2, 1) := by decide +kernel
theorem d_Md_run_94 : decode prog_9_method_68_code 94 = .ok (.lload_n 3, 1) := by decide +kernel
theorem d_Md_run_95 : decode prog_9_method_68_code 95 = .ok (.ldc2_w 350, 3) := by decide +kernel
theorem d_Md_run_98 : decode prog_9_method_68_code 98 = .ok (.lcmp, 1) := by decide +kernel
theorem d_Md_run_99 : decode prog_9_method_68_code 99 = .ok (.ifCond .ge 9, 3) := by decide +kernel
theorem d_Md_run_102 : decode prog_9_method_68_code 102 = .ok (.sipush (-32768), 3) := by decide +kernel
theorem d_Md_run_105 : decode prog_9_method_68_code 105 = .ok (.goto 19, 3) := by decide +kernel
theorem d_Md_run_108 : decode prog_9_method_68_code 108 = .ok (.lload_n 3, 1) := by decide +kernel
theorem d_Md_run_109 : decode prog_9_method_68_code 109 = .ok (.ldc2_w 352, 3) := by decide +kernel
theorem d_Md_run_112 : decode prog_9_method_68_code 112 = .ok (.lcmp, 1) := by decide +kernel
theorem d_Md_run_113 : decode prog_9_method_68_code 113 = .ok (.ifCond .le 9, 3) := by decide +kernel
theorem d_Md_run_116 : decode prog_9_method_68_code 116 = .ok (.sipush 32767, 3) := by decide +kernel
theorem d_Md_run_119 : decode prog_9_method_68_code 119 = .ok (.goto 5, 3) := by decide +kernel
theorem d_Md_run_122 : decode prog_9_method_68_code 122 = .ok (.lload_n 3, 1) := by decide +kernel
theorem d_Md_run_123 : decode prog_9_method_68_code 123 = .ok (.l2i, 1) := by decide +kernel
theorem d_Md_run_124 : decode prog_9_method_68_code 124 = .ok (.iastore, 1) := by decide +kernel
theorem d_Md_run_125 : decode prog_9_method_68_code 125 = .ok (.aload_n 0, 1) := by decide +kernel
theorem d_Md_run_126 : decode prog_9_method_68_code 126 = .ok (.dup, 1) := by decide +kernel
theorem d_Md_run_127 : decode prog_9_method_68_code 127 = .ok (.getfield 332, 3) := by decide +kernel
theorem d_Md_run_130 : decode prog_9_method_68_code 130 = .ok (.iconst 1, 1) := by decide +kernel
theorem d_Md_run_131 : decode prog_9_method_68_code 131 = .ok (.iadd, 1) := by decide +kernel
theorem d_Md_run_132 : decode prog_9_method_68_code 132 = .ok (.putfield 332, 3) := by decide +kernel
theorem d_Md_run_135 : decode prog_9_method_68_code 135 = .ok (.iinc 2 1, 3) := by decide +kernel
theorem d_Md_run_138 : decode prog_9_method_68_code 138 = .ok (.goto (-98), 3) := by decide +kernel
theorem d_Md_run_141 : decode prog_9_method_68_code 141 = .ok (.aload_n 0, 1) := by decide +kernel
theorem d_Md_run_142 : decode prog_9_method_68_code 142 = .ok (.iload_n 1, 1) := by decide +kernel
theorem d_Md_run_143 : decode prog_9_method_68_code 143 = .ok (.putfield 338, 3) := by decide +kernel
theorem d_Md_run_146 : decode prog_9_method_68_code 146 = .ok (.return_, 1) := by decide +kernel
def f_Md_run_124 (k_40 : pv_S → Int32 → Int32 → Option pv_S) (σ : pv_S) (x1 : Int32) (x2 : Int32) (s0 : Int32) (s1 : Int32) : Option pv_S :=
  (if pv_in s1 64 = true then
k_40 (pv_uI (pv_uI σ 35 (s1).toNatClampNeg s0) 0 48 (((pv_uI σ 35 (s1).toNatClampNeg s0).1 0 48) + (1 : Int32))) x1 (x2 + (1 : Int32))
  else none)
set_option maxHeartbeats 4000000 in
set_option maxRecDepth 100000 in
theorem s_Md_run_124 {p : Program} {l : Launch} {e : Env} {R : Room} {s : State} {m : MethodId} {args : Array Value} {below : List Frame} {meth : Method} {c : Code} {Q : State → Prop} {D : va_G} {q : Nat → ClassId} {a : Nat → Nat} {A : Nat → Prop} (C : pv_C p s m args c prog_9_method_68_code 6 "PatchVoicesModel" pv_TB D pv_cl (pv_ty q) 36 a A (pv_ZM)) (hmv : pv_mv A (pv_ZM)) (hRf : 4 ≤ R.frames) (hRl : 96 ≤ R.locals) {out : pv_S} (hret : pv_Rv p l e R s m args below meth c prog_9_method_68_code D pv_cl 36 a (pv_FM q a) A Q out) {k_40 : pv_S → Int32 → Int32 → Option pv_S} (hk_40 : ∀ (σ : pv_S) (x1 : Int32) (x2 : Int32) (H : Heap) (locs : List Loc) (ls : Array Slot), k_40 σ x1 x2 = some out → lv_has ls 6 [(0, .ref (a 0)), (1, .int x1), (2, .int x2)] → pv_W D pv_cl 36 a (pv_FM q a) σ H → va_S A s.heap H locs → W p l e R s m args below meth c H locs 0 0 Q (F0 m 40 ls [])) {σ : pv_S} {x1 : Int32} {x2 : Int32} {s0 : Int32} {s1 : Int32} {H : Heap} {locs : List Loc} {ls : Array Slot} (hl : lv_has ls 6 [(0, .ref (a 0)), (1, .int x1), (2, .int x2)]) (hP : pv_W D pv_cl 36 a (pv_FM q a) σ H) (hS : va_S A s.heap H locs) (hf : f_Md_run_124 k_40 σ x1 x2 s0 s1 = some out) : W p l e R s m args below meth c H locs 0 0 Q (F0 m 124 ls [.int s0, .int s1, .ref (a 35)]) := by
  unfold f_Md_run_124 at hf
  have hx := C.1
  have hb := C.2.1
  obtain ⟨hg, hf⟩ := pv_g hf
  refine pv_iast C hP hS (t0 := 0) (x := s0) (by decide) (fun f g => (fm_35 _ _ f g)) rfl hg d_Md_run_124 (fun H locs hP hS => ?_)
  refine lv_aload_n hx hb d_Md_run_125 rfl (lv_at hl 0 rfl) ?_
  refine lv_dup hx hb d_Md_run_126 rfl ?_
  refine pv_get C hP (v := .int ((pv_uI σ 35 (s1).toNatClampNeg s0).1 0 48)) (j := 48) (by decide) (fm_0 _ _ _ _) fl_Md_332 rfl d_Md_run_127 ?_
  refine lv_iconst (v := (1 : Int32)) hx hb d_Md_run_130 (by decide) ?_
  refine lv_iadd hx hb d_Md_run_131 ?_
  refine pv_putI C hP hS (x := (((pv_uI σ 35 (s1).toNatClampNeg s0).1 0 48) + (1 : Int32))) (by decide) (fm_0 _ _ _ _) fw_Md_332 rfl rfl (Nat.le_of_ble_eq_true rfl) (fms_0_48 _ _ _ _ _) d_Md_run_132 (fun H locs hP hS => ?_)
  refine lv_iinc (k := 2) (v := (x2 + (1 : Int32))) (lv' := [(2, .int (x2 + (1 : Int32))), (0, .ref (a 0)), (1, .int x1)]) hx hb d_Md_run_135 hl rfl (pv_inc (by decide)) (by decide) rfl (fun ls hl => ?_)
  refine lv_goto (tgt := 40) hx hb d_Md_run_138 (by decide) ?_
  exact hk_40 _ _ _ _ _ _ hf (lv_sub hl [1, 2, 0] rfl) hP hS
def f_Md_run_82 (k_40 : pv_S → Int32 → Int32 → Option pv_S) (k_50 : pv_S → Int32 → Int32 → Int64 → Int32 → Option pv_S) (σ : pv_S) (x1 : Int32) (x2 : Int32) (x5 : Int32) (s0 : Int64) : Option pv_S :=
  k_50 σ x1 x2 s0 (x5 + (1 : Int32))
set_option maxHeartbeats 4000000 in
set_option maxRecDepth 100000 in
theorem s_Md_run_82 {p : Program} {l : Launch} {e : Env} {R : Room} {s : State} {m : MethodId} {args : Array Value} {below : List Frame} {meth : Method} {c : Code} {Q : State → Prop} {D : va_G} {q : Nat → ClassId} {a : Nat → Nat} {A : Nat → Prop} (C : pv_C p s m args c prog_9_method_68_code 6 "PatchVoicesModel" pv_TB D pv_cl (pv_ty q) 36 a A (pv_ZM)) (hmv : pv_mv A (pv_ZM)) (hRf : 4 ≤ R.frames) (hRl : 96 ≤ R.locals) {out : pv_S} (hret : pv_Rv p l e R s m args below meth c prog_9_method_68_code D pv_cl 36 a (pv_FM q a) A Q out) {k_40 : pv_S → Int32 → Int32 → Option pv_S} (hk_40 : ∀ (σ : pv_S) (x1 : Int32) (x2 : Int32) (H : Heap) (locs : List Loc) (ls : Array Slot), k_40 σ x1 x2 = some out → lv_has ls 6 [(0, .ref (a 0)), (1, .int x1), (2, .int x2)] → pv_W D pv_cl 36 a (pv_FM q a) σ H → va_S A s.heap H locs → W p l e R s m args below meth c H locs 0 0 Q (F0 m 40 ls [])) {k_50 : pv_S → Int32 → Int32 → Int64 → Int32 → Option pv_S} (hk_50 : ∀ (σ : pv_S) (x1 : Int32) (x2 : Int32) (x3 : Int64) (x5 : Int32) (H : Heap) (locs : List Loc) (ls : Array Slot), k_50 σ x1 x2 x3 x5 = some out → lv_has ls 6 [(0, .ref (a 0)), (1, .int x1), (2, .int x2), (3, .long x3), (5, .int x5)] → pv_W D pv_cl 36 a (pv_FM q a) σ H → va_S A s.heap H locs → W p l e R s m args below meth c H locs 0 0 Q (F0 m 50 ls [])) {σ : pv_S} {x1 : Int32} {x2 : Int32} {x5 : Int32} {s0 : Int64} {H : Heap} {locs : List Loc} {ls : Array Slot} (hl : lv_has ls 6 [(0, .ref (a 0)), (1, .int x1), (2, .int x2), (5, .int x5)]) (hP : pv_W D pv_cl 36 a (pv_FM q a) σ H) (hS : va_S A s.heap H locs) (hf : f_Md_run_82 k_40 k_50 σ x1 x2 x5 s0 = some out) : W p l e R s m args below meth c H locs 0 0 Q (F0 m 82 ls [.long s0]) := by
  unfold f_Md_run_82 at hf
  have hx := C.1
  have hb := C.2.1
  refine lv_lstore_n (lv' := [(3, .long s0), (0, .ref (a 0)), (1, .int x1), (2, .int x2), (5, .int x5)]) hx hb d_Md_run_82 rfl hl (by decide) rfl (fun ls hl => ?_)
  refine lv_iinc (k := 4) (v := (x5 + (1 : Int32))) (lv' := [(5, .int (x5 + (1 : Int32))), (3, .long s0), (0, .ref (a 0)), (1, .int x1), (2, .int x2)]) hx hb d_Md_run_83 hl rfl (pv_inc (by decide)) (by decide) rfl (fun ls hl => ?_)
  refine lv_goto (tgt := 50) hx hb d_Md_run_86 (by decide) ?_
  exact hk_50 _ _ _ _ _ _ _ _ hf (lv_sub hl [2, 3, 4, 1, 0] rfl) hP hS
def f_Md_run_50b (k_40 : pv_S → Int32 → Int32 → Option pv_S) (k_50 : pv_S → Int32 → Int32 → Int64 → Int32 → Option pv_S) (σ : pv_S) (x1 : Int32) (x2 : Int32) (x3 : Int64) (x5 : Int32) : Option pv_S :=
  (if (σ.1 0 32) ≤ x5 then
  (if 0 ≤ (lg_cmp x3 (-32768 : Int64)) then
  (if (lg_cmp x3 (32767 : Int64)) ≤ 0 then
  f_Md_run_124 k_40 σ x1 x2 ((x3).toInt32) x2
  else
  f_Md_run_124 k_40 σ x1 x2 (32767 : Int32) x2)
  else
  f_Md_run_124 k_40 σ x1 x2 (-32768 : Int32) x2)
  else
  (if pv_in x5 4 = true then
(if (σ.1 22 (x5).toNatClampNeg) = 0 then
  f_Md_run_82 k_40 k_50 σ x1 x2 x5 x3
  else
  ((f_Md_sample σ x5).bind fun q1 =>
f_Md_run_82 k_40 k_50 q1.2 x1 x2 x5 (x3 + ((q1.1).toInt64))))
  else none))
set_option maxHeartbeats 4000000 in
set_option maxRecDepth 100000 in
theorem s_Md_run_50b {p : Program} {l : Launch} {e : Env} {R : Room} {s : State} {m : MethodId} {args : Array Value} {below : List Frame} {meth : Method} {c : Code} {Q : State → Prop} {D : va_G} {q : Nat → ClassId} {a : Nat → Nat} {A : Nat → Prop} (C : pv_C p s m args c prog_9_method_68_code 6 "PatchVoicesModel" pv_TB D pv_cl (pv_ty q) 36 a A (pv_ZM)) (hmv : pv_mv A (pv_ZM)) (hRf : 4 ≤ R.frames) (hRl : 96 ≤ R.locals) {out : pv_S} (hret : pv_Rv p l e R s m args below meth c prog_9_method_68_code D pv_cl 36 a (pv_FM q a) A Q out) {k_40 : pv_S → Int32 → Int32 → Option pv_S} (hk_40 : ∀ (σ : pv_S) (x1 : Int32) (x2 : Int32) (H : Heap) (locs : List Loc) (ls : Array Slot), k_40 σ x1 x2 = some out → lv_has ls 6 [(0, .ref (a 0)), (1, .int x1), (2, .int x2)] → pv_W D pv_cl 36 a (pv_FM q a) σ H → va_S A s.heap H locs → W p l e R s m args below meth c H locs 0 0 Q (F0 m 40 ls [])) {k_50 : pv_S → Int32 → Int32 → Int64 → Int32 → Option pv_S} (hk_50 : ∀ (σ : pv_S) (x1 : Int32) (x2 : Int32) (x3 : Int64) (x5 : Int32) (H : Heap) (locs : List Loc) (ls : Array Slot), k_50 σ x1 x2 x3 x5 = some out → lv_has ls 6 [(0, .ref (a 0)), (1, .int x1), (2, .int x2), (3, .long x3), (5, .int x5)] → pv_W D pv_cl 36 a (pv_FM q a) σ H → va_S A s.heap H locs → W p l e R s m args below meth c H locs 0 0 Q (F0 m 50 ls [])) {σ : pv_S} {x1 : Int32} {x2 : Int32} {x3 : Int64} {x5 : Int32} {H : Heap} {locs : List Loc} {ls : Array Slot} (hl : lv_has ls 6 [(0, .ref (a 0)), (1, .int x1), (2, .int x2), (3, .long x3), (5, .int x5)]) (hP : pv_W D pv_cl 36 a (pv_FM q a) σ H) (hS : va_S A s.heap H locs) (hf : f_Md_run_50b k_40 k_50 σ x1 x2 x3 x5 = some out) : W p l e R s m args below meth c H locs 0 0 Q (F0 m 50 ls []) := by
  unfold f_Md_run_50b at hf
  have hx := C.1
  have hb := C.2.1
  refine lv_iload hx hb d_Md_run_50 (lv_at hl 4 rfl) ?_
  refine lv_aload_n hx hb d_Md_run_52 rfl (lv_at hl 0 rfl) ?_
  refine pv_get C hP (v := .int (σ.1 0 32)) (j := 32) (by decide) (fm_0 _ _ _ _) fl_Md_75 rfl d_Md_run_53 ?_
  refine lv_icmp_ge (tgt := 89) hx hb d_Md_run_56 (by decide) (fun h => ?_) (fun h => ?_)
  · have hf := pv_t hf h
    refine lv_aload_n hx hb d_Md_run_89 rfl (lv_at hl 0 rfl) ?_
    refine pv_get C hP (v := .ref (a 35)) (j := 49) (by decide) (fm_0 _ _ _ _) fl_Md_120 rfl d_Md_run_90 ?_
    refine lv_iload_n hx hb d_Md_run_93 rfl (lv_at hl 2 rfl) ?_
    refine lv_lload_n hx hb d_Md_run_94 rfl (lv_at hl 3 rfl) ?_
    refine lv_ldc2 (v := (-32768 : Int64)) hx hb C.2.2.2.1 (C.2.2.2.2.1 _ w_1493) d_Md_run_95 ?_
    refine W.lcmp hx hb d_Md_run_98 ?_
    refine lv_if_ge (tgt := 108) hx hb d_Md_run_99 (by decide) (fun h => ?_) (fun h => ?_)
    · have hf := pv_t hf h
      refine lv_lload_n hx hb d_Md_run_108 rfl (lv_at hl 3 rfl) ?_
      refine lv_ldc2 (v := (32767 : Int64)) hx hb C.2.2.2.1 (C.2.2.2.2.1 _ w_1494) d_Md_run_109 ?_
      refine W.lcmp hx hb d_Md_run_112 ?_
      refine lv_if_le (tgt := 122) hx hb d_Md_run_113 (by decide) (fun h => ?_) (fun h => ?_)
      · have hf := pv_t hf h
        refine lv_lload_n hx hb d_Md_run_122 rfl (lv_at hl 3 rfl) ?_
        refine lv_l2i (v := (x3).toInt32) hx hb d_Md_run_123 rfl ?_
        exact s_Md_run_124 C hmv hRf hRl hret hk_40 (lv_sub hl [0, 1, 2] rfl) hP hS hf
      · have hf := pv_f hf h
        refine lv_sipush (v := (32767 : Int32)) hx hb d_Md_run_116 (by decide) ?_
        refine lv_goto (tgt := 124) hx hb d_Md_run_119 (by decide) ?_
        exact s_Md_run_124 C hmv hRf hRl hret hk_40 (lv_sub hl [0, 1, 2] rfl) hP hS hf
    · have hf := pv_f hf h
      refine lv_sipush (v := (-32768 : Int32)) hx hb d_Md_run_102 (by decide) ?_
      refine lv_goto (tgt := 124) hx hb d_Md_run_105 (by decide) ?_
      exact s_Md_run_124 C hmv hRf hRl hret hk_40 (lv_sub hl [0, 1, 2] rfl) hP hS hf
  · have hf := pv_f hf h
    refine lv_aload_n hx hb d_Md_run_59 rfl (lv_at hl 0 rfl) ?_
    refine pv_get C hP (v := .ref (a 22)) (j := 34) (by decide) (fm_0 _ _ _ _) fl_Md_81 rfl d_Md_run_60 ?_
    refine lv_iload hx hb d_Md_run_63 (lv_at hl 4 rfl) ?_
    obtain ⟨hg, hf⟩ := pv_g hf
    refine pv_zald C hP (t0 := 2) (by decide) (fm_22 _ _ _ _) rfl hg d_Md_run_65 ?_
    refine lv_if_eq (tgt := 81) hx hb d_Md_run_66 (by decide) (fun h => ?_) (fun h => ?_)
    · have hf := pv_t hf h
      refine lv_lload_n hx hb d_Md_run_81 rfl (lv_at hl 3 rfl) ?_
      exact s_Md_run_82 C hmv hRf hRl hret hk_40 hk_50 (lv_sub hl [0, 1, 2, 4] rfl) hP hS hf
    · have hf := pv_f hf h
      refine lv_lload_n hx hb d_Md_run_69 rfl (lv_at hl 3 rfl) ?_
      refine lv_aload_n hx hb d_Md_run_70 rfl (lv_at hl 0 rfl) ?_
      refine lv_iload hx hb d_Md_run_71 (lv_at hl 4 rfl) ?_
      obtain ⟨q1, hc, hf⟩ := pv_b hf
      refine pv_callVi C hmv pv_good hP hS (As := [.int x5]) (rest := [.long x3]) (by decide) (fm_0 _ _ _ _) rfl (c_Md_sample C.2.2.2.2.2.2.1 hmv hc) cv_Md_347 ⟨rfl, rfl, Nat.le_trans (Nat.le_of_ble_eq_true rfl) hRf, Nat.le_trans (Nat.le_of_ble_eq_true rfl) hRl⟩ rfl hl.1 rfl (Nat.le_of_ble_eq_true rfl) d_Md_run_73 ⟨Nat.zero_le _, Nat.zero_le _⟩ (fun H locs hP hS => ?_)
      refine lv_i2l (v := (q1.1).toInt64) hx hb d_Md_run_76 rfl ?_
      refine lv_ladd hx hb d_Md_run_77 ?_
      refine lv_goto (tgt := 82) hx hb d_Md_run_78 (by decide) ?_
      exact s_Md_run_82 C hmv hRf hRl hret hk_40 hk_50 (lv_sub hl [0, 1, 2, 4] rfl) hP hS hf
def f_Md_run_50 (k_40 : pv_S → Int32 → Int32 → Option pv_S) : Nat → pv_S → Int32 → Int32 → Int64 → Int32 → Option pv_S
  | 0 => fun _ _ _ _ _ => none
  | n + 1 => f_Md_run_50b k_40 (f_Md_run_50 k_40 n)
set_option maxHeartbeats 4000000 in
theorem s_Md_run_50 {p : Program} {l : Launch} {e : Env} {R : Room} {s : State} {m : MethodId} {args : Array Value} {below : List Frame} {meth : Method} {c : Code} {Q : State → Prop} {D : va_G} {q : Nat → ClassId} {a : Nat → Nat} {A : Nat → Prop} (C : pv_C p s m args c prog_9_method_68_code 6 "PatchVoicesModel" pv_TB D pv_cl (pv_ty q) 36 a A (pv_ZM)) (hmv : pv_mv A (pv_ZM)) (hRf : 4 ≤ R.frames) (hRl : 96 ≤ R.locals) {out : pv_S} (hret : pv_Rv p l e R s m args below meth c prog_9_method_68_code D pv_cl 36 a (pv_FM q a) A Q out) {k_40 : pv_S → Int32 → Int32 → Option pv_S} (hk_40 : ∀ (σ : pv_S) (x1 : Int32) (x2 : Int32) (H : Heap) (locs : List Loc) (ls : Array Slot), k_40 σ x1 x2 = some out → lv_has ls 6 [(0, .ref (a 0)), (1, .int x1), (2, .int x2)] → pv_W D pv_cl 36 a (pv_FM q a) σ H → va_S A s.heap H locs → W p l e R s m args below meth c H locs 0 0 Q (F0 m 40 ls [])) (n : Nat) : ∀ {σ : pv_S} {x1 : Int32} {x2 : Int32} {x3 : Int64} {x5 : Int32} {H : Heap} {locs : List Loc} {ls : Array Slot}, lv_has ls 6 [(0, .ref (a 0)), (1, .int x1), (2, .int x2), (3, .long x3), (5, .int x5)] → pv_W D pv_cl 36 a (pv_FM q a) σ H → va_S A s.heap H locs → f_Md_run_50 k_40 n σ x1 x2 x3 x5 = some out → W p l e R s m args below meth c H locs 0 0 Q (F0 m 50 ls []) := by
  induction n with
  | zero => intro σ x1 x2 x3 x5 H locs ls hl hP hS hf; cases hf
  | succ n ih => intro σ x1 x2 x3 x5 H locs ls hl hP hS hf; exact s_Md_run_50b C hmv hRf hRl hret hk_40 (fun σ x1 x2 x3 x5 H locs ls hf hl hP hS => ih hl hP hS hf) hl hP hS hf
def f_Md_run_40b (k_40 : pv_S → Int32 → Int32 → Option pv_S) (σ : pv_S) (x1 : Int32) (x2 : Int32) : Option pv_S :=
  (if x1 ≤ x2 then
  some (pv_uI σ 0 50 x1)
  else
  f_Md_run_50 k_40 pv_fu σ x1 x2 (0 : Int64) (0 : Int32))
set_option maxHeartbeats 4000000 in
set_option maxRecDepth 100000 in
theorem s_Md_run_40b {p : Program} {l : Launch} {e : Env} {R : Room} {s : State} {m : MethodId} {args : Array Value} {below : List Frame} {meth : Method} {c : Code} {Q : State → Prop} {D : va_G} {q : Nat → ClassId} {a : Nat → Nat} {A : Nat → Prop} (C : pv_C p s m args c prog_9_method_68_code 6 "PatchVoicesModel" pv_TB D pv_cl (pv_ty q) 36 a A (pv_ZM)) (hmv : pv_mv A (pv_ZM)) (hRf : 4 ≤ R.frames) (hRl : 96 ≤ R.locals) {out : pv_S} (hret : pv_Rv p l e R s m args below meth c prog_9_method_68_code D pv_cl 36 a (pv_FM q a) A Q out) {k_40 : pv_S → Int32 → Int32 → Option pv_S} (hk_40 : ∀ (σ : pv_S) (x1 : Int32) (x2 : Int32) (H : Heap) (locs : List Loc) (ls : Array Slot), k_40 σ x1 x2 = some out → lv_has ls 6 [(0, .ref (a 0)), (1, .int x1), (2, .int x2)] → pv_W D pv_cl 36 a (pv_FM q a) σ H → va_S A s.heap H locs → W p l e R s m args below meth c H locs 0 0 Q (F0 m 40 ls [])) {σ : pv_S} {x1 : Int32} {x2 : Int32} {H : Heap} {locs : List Loc} {ls : Array Slot} (hl : lv_has ls 6 [(0, .ref (a 0)), (1, .int x1), (2, .int x2)]) (hP : pv_W D pv_cl 36 a (pv_FM q a) σ H) (hS : va_S A s.heap H locs) (hf : f_Md_run_40b k_40 σ x1 x2 = some out) : W p l e R s m args below meth c H locs 0 0 Q (F0 m 40 ls []) := by
  unfold f_Md_run_40b at hf
  have hx := C.1
  have hb := C.2.1
  refine lv_iload_n hx hb d_Md_run_40 rfl (lv_at hl 2 rfl) ?_
  refine lv_iload_n hx hb d_Md_run_41 rfl (lv_at hl 1 rfl) ?_
  refine lv_icmp_ge (tgt := 141) hx hb d_Md_run_42 (by decide) (fun h => ?_) (fun h => ?_)
  · have hf := pv_t hf h
    refine lv_aload_n hx hb d_Md_run_141 rfl (lv_at hl 0 rfl) ?_
    refine lv_iload_n hx hb d_Md_run_142 rfl (lv_at hl 1 rfl) ?_
    refine pv_putI C hP hS (x := x1) (by decide) (fm_0 _ _ _ _) fw_Md_338 rfl rfl (Nat.le_of_ble_eq_true rfl) (fms_0_50 _ _ _ _ _) d_Md_run_143 (fun H locs hP hS => ?_)
    obtain rfl := Option.some.inj hf
    exact hret _ _ _ _ d_Md_run_146 hP hS
  · have hf := pv_f hf h
    refine lv_lconst (v := (0 : Int64)) hx hb d_Md_run_45 (by decide) ?_
    refine lv_lstore_n (lv' := [(3, .long (0 : Int64)), (0, .ref (a 0)), (1, .int x1), (2, .int x2)]) hx hb d_Md_run_46 rfl hl (by decide) rfl (fun ls hl => ?_)
    refine lv_iconst (v := (0 : Int32)) hx hb d_Md_run_47 (by decide) ?_
    refine lv_istore (lv' := [(5, .int (0 : Int32)), (3, .long (0 : Int64)), (0, .ref (a 0)), (1, .int x1), (2, .int x2)]) hx hb d_Md_run_48 hl (by decide) rfl (fun ls hl => ?_)
    exact s_Md_run_50 C hmv hRf hRl hret hk_40 pv_fu (lv_sub hl [2, 3, 4, 1, 0] rfl) hP hS hf
def f_Md_run_40 : Nat → pv_S → Int32 → Int32 → Option pv_S
  | 0 => fun _ _ _ => none
  | n + 1 => f_Md_run_40b (f_Md_run_40 n)
set_option maxHeartbeats 4000000 in
theorem s_Md_run_40 {p : Program} {l : Launch} {e : Env} {R : Room} {s : State} {m : MethodId} {args : Array Value} {below : List Frame} {meth : Method} {c : Code} {Q : State → Prop} {D : va_G} {q : Nat → ClassId} {a : Nat → Nat} {A : Nat → Prop} (C : pv_C p s m args c prog_9_method_68_code 6 "PatchVoicesModel" pv_TB D pv_cl (pv_ty q) 36 a A (pv_ZM)) (hmv : pv_mv A (pv_ZM)) (hRf : 4 ≤ R.frames) (hRl : 96 ≤ R.locals) {out : pv_S} (hret : pv_Rv p l e R s m args below meth c prog_9_method_68_code D pv_cl 36 a (pv_FM q a) A Q out) (n : Nat) : ∀ {σ : pv_S} {x1 : Int32} {x2 : Int32} {H : Heap} {locs : List Loc} {ls : Array Slot}, lv_has ls 6 [(0, .ref (a 0)), (1, .int x1), (2, .int x2)] → pv_W D pv_cl 36 a (pv_FM q a) σ H → va_S A s.heap H locs → f_Md_run_40 n σ x1 x2 = some out → W p l e R s m args below meth c H locs 0 0 Q (F0 m 40 ls []) := by
  induction n with
  | zero => intro σ x1 x2 H locs ls hl hP hS hf; cases hf
  | succ n ih => intro σ x1 x2 H locs ls hl hP hS hf; exact s_Md_run_40b C hmv hRf hRl hret (fun σ x1 x2 H locs ls hf hl hP hS => ih hl hP hS hf) hl hP hS hf
def f_Md_run_27 (σ : pv_S) (x1 : Int32) (s0 : Int32) : Option pv_S :=
  (if ((pv_uI σ 0 0 s0).1 0 0) ≤ 0 then
  f_Md_run_40 pv_fu (pv_uI σ 0 0 s0) x1 (0 : Int32)
  else
  some (pv_uI σ 0 0 s0))
set_option maxHeartbeats 4000000 in
set_option maxRecDepth 100000 in
theorem s_Md_run_27 {p : Program} {l : Launch} {e : Env} {R : Room} {s : State} {m : MethodId} {args : Array Value} {below : List Frame} {meth : Method} {c : Code} {Q : State → Prop} {D : va_G} {q : Nat → ClassId} {a : Nat → Nat} {A : Nat → Prop} (C : pv_C p s m args c prog_9_method_68_code 6 "PatchVoicesModel" pv_TB D pv_cl (pv_ty q) 36 a A (pv_ZM)) (hmv : pv_mv A (pv_ZM)) (hRf : 4 ≤ R.frames) (hRl : 96 ≤ R.locals) {out : pv_S} (hret : pv_Rv p l e R s m args below meth c prog_9_method_68_code D pv_cl 36 a (pv_FM q a) A Q out) {σ : pv_S} {x1 : Int32} {s0 : Int32} {H : Heap} {locs : List Loc} {ls : Array Slot} (hl : lv_has ls 6 [(0, .ref (a 0)), (1, .int x1)]) (hP : pv_W D pv_cl 36 a (pv_FM q a) σ H) (hS : va_S A s.heap H locs) (hf : f_Md_run_27 σ x1 s0 = some out) : W p l e R s m args below meth c H locs 0 0 Q (F0 m 27 ls [.int s0, .ref (a 0)]) := by
  unfold f_Md_run_27 at hf
  have hx := C.1
  have hb := C.2.1
  refine pv_putI C hP hS (x := s0) (by decide) (fm_0 _ _ _ _) fw_Md_127 rfl rfl (Nat.le_of_ble_eq_true rfl) (fms_0_0 _ _ _ _ _) d_Md_run_27 (fun H locs hP hS => ?_)
  refine lv_aload_n hx hb d_Md_run_30 rfl (lv_at hl 0 rfl) ?_
  refine pv_get C hP (v := .int ((pv_uI σ 0 0 s0).1 0 0)) (j := 0) (by decide) (fm_0 _ _ _ _) fl_Md_127 rfl d_Md_run_31 ?_
  refine lv_if_le (tgt := 38) hx hb d_Md_run_34 (by decide) (fun h => ?_) (fun h => ?_)
  · have hf := pv_t hf h
    refine lv_iconst (v := (0 : Int32)) hx hb d_Md_run_38 (by decide) ?_
    refine lv_istore_n (lv' := [(2, .int (0 : Int32)), (0, .ref (a 0)), (1, .int x1)]) hx hb d_Md_run_39 rfl hl (by decide) rfl (fun ls hl => ?_)
    exact s_Md_run_40 C hmv hRf hRl hret pv_fu (lv_sub hl [1, 2, 0] rfl) hP hS hf
  · have hf := pv_f hf h
    obtain rfl := Option.some.inj hf
    exact hret _ _ _ _ d_Md_run_37 hP hS
def f_Md_run_11 (σ : pv_S) (x1 : Int32) : Option pv_S :=
  f_Md_run_27 σ x1 (1 : Int32)
set_option maxHeartbeats 4000000 in
set_option maxRecDepth 100000 in
theorem s_Md_run_11 {p : Program} {l : Launch} {e : Env} {R : Room} {s : State} {m : MethodId} {args : Array Value} {below : List Frame} {meth : Method} {c : Code} {Q : State → Prop} {D : va_G} {q : Nat → ClassId} {a : Nat → Nat} {A : Nat → Prop} (C : pv_C p s m args c prog_9_method_68_code 6 "PatchVoicesModel" pv_TB D pv_cl (pv_ty q) 36 a A (pv_ZM)) (hmv : pv_mv A (pv_ZM)) (hRf : 4 ≤ R.frames) (hRl : 96 ≤ R.locals) {out : pv_S} (hret : pv_Rv p l e R s m args below meth c prog_9_method_68_code D pv_cl 36 a (pv_FM q a) A Q out) {σ : pv_S} {x1 : Int32} {H : Heap} {locs : List Loc} {ls : Array Slot} (hl : lv_has ls 6 [(0, .ref (a 0)), (1, .int x1)]) (hP : pv_W D pv_cl 36 a (pv_FM q a) σ H) (hS : va_S A s.heap H locs) (hf : f_Md_run_11 σ x1 = some out) : W p l e R s m args below meth c H locs 0 0 Q (F0 m 11 ls [.ref (a 0)]) := by
  unfold f_Md_run_11 at hf
  have hx := C.1
  have hb := C.2.1
  refine lv_iconst (v := (1 : Int32)) hx hb d_Md_run_11 (by decide) ?_
  refine lv_goto (tgt := 27) hx hb d_Md_run_12 (by decide) ?_
  exact s_Md_run_27 C hmv hRf hRl hret (lv_sub hl [0, 1] rfl) hP hS hf
def f_Md_run_0 (σ : pv_S) (x1 : Int32) : Option pv_S :=
  (if x1 < 0 then
  f_Md_run_11 σ x1
  else
  (if x1 ≤ (64 : Int32) then
  (if (σ.1 0 16) = 0 then
  f_Md_run_27 σ x1 (2 : Int32)
  else
  f_Md_run_27 σ x1 (0 : Int32))
  else
  f_Md_run_11 σ x1))
set_option maxHeartbeats 4000000 in
set_option maxRecDepth 100000 in
theorem s_Md_run_0 {p : Program} {l : Launch} {e : Env} {R : Room} {s : State} {m : MethodId} {args : Array Value} {below : List Frame} {meth : Method} {c : Code} {Q : State → Prop} {D : va_G} {q : Nat → ClassId} {a : Nat → Nat} {A : Nat → Prop} (C : pv_C p s m args c prog_9_method_68_code 6 "PatchVoicesModel" pv_TB D pv_cl (pv_ty q) 36 a A (pv_ZM)) (hmv : pv_mv A (pv_ZM)) (hRf : 4 ≤ R.frames) (hRl : 96 ≤ R.locals) {out : pv_S} (hret : pv_Rv p l e R s m args below meth c prog_9_method_68_code D pv_cl 36 a (pv_FM q a) A Q out) {σ : pv_S} {x1 : Int32} {H : Heap} {locs : List Loc} {ls : Array Slot} (hl : lv_has ls 6 [(0, .ref (a 0)), (1, .int x1)]) (hP : pv_W D pv_cl 36 a (pv_FM q a) σ H) (hS : va_S A s.heap H locs) (hf : f_Md_run_0 σ x1 = some out) : W p l e R s m args below meth c H locs 0 0 Q (F0 m 0 ls []) := by
  unfold f_Md_run_0 at hf
  have hx := C.1
  have hb := C.2.1
  refine lv_aload_n hx hb d_Md_run_0 rfl (lv_at hl 0 rfl) ?_
  refine lv_iload_n hx hb d_Md_run_1 rfl (lv_at hl 1 rfl) ?_
  refine lv_if_lt (tgt := 11) hx hb d_Md_run_2 (by decide) (fun h => ?_) (fun h => ?_)
  · have hf := pv_t hf h
    exact s_Md_run_11 C hmv hRf hRl hret (lv_sub hl [0, 1] rfl) hP hS hf
  · have hf := pv_f hf h
    refine lv_iload_n hx hb d_Md_run_5 rfl (lv_at hl 1 rfl) ?_
    refine lv_bipush (v := (64 : Int32)) hx hb d_Md_run_6 (by decide) ?_
    refine lv_icmp_le (tgt := 15) hx hb d_Md_run_8 (by decide) (fun h => ?_) (fun h => ?_)
    · have hf := pv_t hf h
      refine lv_aload_n hx hb d_Md_run_15 rfl (lv_at hl 0 rfl) ?_
      refine pv_get C hP (v := .int (σ.1 0 16)) (j := 16) (by decide) (fm_0 _ _ _ _) fl_Md_244 rfl d_Md_run_16 ?_
      refine lv_if_eq (tgt := 26) hx hb d_Md_run_19 (by decide) (fun h => ?_) (fun h => ?_)
      · have hf := pv_t hf h
        refine lv_iconst (v := (2 : Int32)) hx hb d_Md_run_26 (by decide) ?_
        exact s_Md_run_27 C hmv hRf hRl hret (lv_sub hl [0, 1] rfl) hP hS hf
      · have hf := pv_f hf h
        refine lv_iconst (v := (0 : Int32)) hx hb d_Md_run_22 (by decide) ?_
        refine lv_goto (tgt := 27) hx hb d_Md_run_23 (by decide) ?_
        exact s_Md_run_27 C hmv hRf hRl hret (lv_sub hl [0, 1] rfl) hP hS hf
    · have hf := pv_f hf h
      exact s_Md_run_11 C hmv hRf hRl hret (lv_sub hl [0, 1] rfl) hP hS hf
def f_Md_run (σ : pv_S) (x1 : Int32) : Option pv_S := f_Md_run_0 σ x1
def rm_Md_run : Room := { frames := 4, cells := 0, slots := 0, locals := 96 }
theorem c_Md_run {l : Launch} {D : va_G} {q : Nat → ClassId} {a : Nat → Nat} {A : Nat → Prop} (hD : pv_D 36 a A) (hmv : pv_mv A (pv_ZM)) {σ : pv_S} {x1 : Int32} {out : pv_S} (hf : f_Md_run σ x1 = some out) : pv_Mv l y_Md_run (Cond.code y_Md_run prog_9_method_68_code 6 none :: pv_TB) rm_Md_run D pv_cl (pv_ty q) 36 a (pv_FM q a) A (pv_ZM) [.ref (a 0), .int x1] σ out :=
  pv_ofV (by decide) (Nat.le_of_ble_eq_true rfl) hD (fun p e s m args below meth c Q ls C hret hl hP => s_Md_run_0 C hmv (Nat.le_refl _) (Nat.le_refl _) hret hl hP va_S.rf hf)
theorem d_Md_out_0 : decode prog_9_method_69_code 0 = .ok (.aload_n 0, 1) := by decide +kernel
theorem d_Md_out_1 : decode prog_9_method_69_code 1 = .ok (.iload_n 1, 1) := by decide +kernel
theorem d_Md_out_2 : decode prog_9_method_69_code 2 = .ok (.ifCond .lt 15, 3) := by decide +kernel
theorem d_Md_out_5 : decode prog_9_method_69_code 5 = .ok (.iload_n 1, 1) := by decide +kernel
theorem d_Md_out_6 : decode prog_9_method_69_code 6 = .ok (.aload_n 0, 1) := by decide +kernel
theorem d_Md_out_7 : decode prog_9_method_69_code 7 = .ok (.getfield 338, 3) := by decide +kernel
theorem d_Md_out_10 : decode prog_9_method_69_code 10 = .ok (.if_icmp .ge 7, 3) := by decide +kernel
theorem d_Md_out_13 : decode prog_9_method_69_code 13 = .ok (.iconst 0, 1) := by decide +kernel
theorem d_Md_out_14 : decode prog_9_method_69_code 14 = .ok (.goto 4, 3) := by decide +kernel
theorem d_Md_out_17 : decode prog_9_method_69_code 17 = .ok (.iconst 1, 1) := by decide +kernel
theorem d_Md_out_18 : decode prog_9_method_69_code 18 = .ok (.putfield 127, 3) := by decide +kernel
theorem d_Md_out_21 : decode prog_9_method_69_code 21 = .ok (.aload_n 0, 1) := by decide +kernel
theorem d_Md_out_22 : decode prog_9_method_69_code 22 = .ok (.getfield 127, 3) := by decide +kernel
theorem d_Md_out_25 : decode prog_9_method_69_code 25 = .ok (.ifCond .le 7, 3) := by decide +kernel
theorem d_Md_out_28 : decode prog_9_method_69_code 28 = .ok (.iconst 0, 1) := by decide +kernel
theorem d_Md_out_29 : decode prog_9_method_69_code 29 = .ok (.goto 9, 3) := by decide +kernel
theorem d_Md_out_32 : decode prog_9_method_69_code 32 = .ok (.aload_n 0, 1) := by decide +kernel
theorem d_Md_out_33 : decode prog_9_method_69_code 33 = .ok (.getfield 120, 3) := by decide +kernel
theorem d_Md_out_36 : decode prog_9_method_69_code 36 = .ok (.iload_n 1, 1) := by decide +kernel
theorem d_Md_out_37 : decode prog_9_method_69_code 37 = .ok (.iaload, 1) := by decide +kernel
theorem d_Md_out_38 : decode prog_9_method_69_code 38 = .ok (.ireturn, 1) := by decide +kernel
def f_Md_out_18 (σ : pv_S) (x1 : Int32) (s0 : Int32) : Option (Int32 × pv_S) :=
  (if ((pv_uI σ 0 0 s0).1 0 0) ≤ 0 then
  (if pv_in x1 64 = true then
some (((pv_uI σ 0 0 s0).1 35 (x1).toNatClampNeg), (pv_uI σ 0 0 s0))
  else none)
  else
  some ((0 : Int32), (pv_uI σ 0 0 s0)))
set_option maxHeartbeats 4000000 in
set_option maxRecDepth 100000 in
theorem s_Md_out_18 {p : Program} {l : Launch} {e : Env} {R : Room} {s : State} {m : MethodId} {args : Array Value} {below : List Frame} {meth : Method} {c : Code} {Q : State → Prop} {D : va_G} {q : Nat → ClassId} {a : Nat → Nat} {A : Nat → Prop} (C : pv_C p s m args c prog_9_method_69_code 2 "PatchVoicesModel" pv_TB D pv_cl (pv_ty q) 36 a A (pv_ZM)) (hmv : pv_mv A (pv_ZM)) (hRf : 0 ≤ R.frames) (hRl : 0 ≤ R.locals) {out : (Int32 × pv_S)} (hret : pv_Ri p l e R s m args below meth c prog_9_method_69_code D pv_cl 36 a (pv_FM q a) A Q out) {σ : pv_S} {x1 : Int32} {s0 : Int32} {H : Heap} {locs : List Loc} {ls : Array Slot} (hl : lv_has ls 2 [(0, .ref (a 0)), (1, .int x1)]) (hP : pv_W D pv_cl 36 a (pv_FM q a) σ H) (hS : va_S A s.heap H locs) (hf : f_Md_out_18 σ x1 s0 = some out) : W p l e R s m args below meth c H locs 0 0 Q (F0 m 18 ls [.int s0, .ref (a 0)]) := by
  unfold f_Md_out_18 at hf
  have hx := C.1
  have hb := C.2.1
  refine pv_putI C hP hS (x := s0) (by decide) (fm_0 _ _ _ _) fw_Md_127 rfl rfl (Nat.le_of_ble_eq_true rfl) (fms_0_0 _ _ _ _ _) d_Md_out_18 (fun H locs hP hS => ?_)
  refine lv_aload_n hx hb d_Md_out_21 rfl (lv_at hl 0 rfl) ?_
  refine pv_get C hP (v := .int ((pv_uI σ 0 0 s0).1 0 0)) (j := 0) (by decide) (fm_0 _ _ _ _) fl_Md_127 rfl d_Md_out_22 ?_
  refine lv_if_le (tgt := 32) hx hb d_Md_out_25 (by decide) (fun h => ?_) (fun h => ?_)
  · have hf := pv_t hf h
    refine lv_aload_n hx hb d_Md_out_32 rfl (lv_at hl 0 rfl) ?_
    refine pv_get C hP (v := .ref (a 35)) (j := 49) (by decide) (fm_0 _ _ _ _) fl_Md_120 rfl d_Md_out_33 ?_
    refine lv_iload_n hx hb d_Md_out_36 rfl (lv_at hl 1 rfl) ?_
    obtain ⟨hg, hf⟩ := pv_g hf
    refine pv_iald C hP (t0 := 0) (by decide) (fm_35 _ _ _ _) rfl hg d_Md_out_37 ?_
    obtain rfl := Option.some.inj hf
    exact hret _ _ _ _ d_Md_out_38 hP hS
  · have hf := pv_f hf h
    refine lv_iconst (v := (0 : Int32)) hx hb d_Md_out_28 (by decide) ?_
    refine lv_goto (tgt := 38) hx hb d_Md_out_29 (by decide) ?_
    obtain rfl := Option.some.inj hf
    exact hret _ _ _ _ d_Md_out_38 hP hS
def f_Md_out_17 (σ : pv_S) (x1 : Int32) : Option (Int32 × pv_S) :=
  f_Md_out_18 σ x1 (1 : Int32)
set_option maxHeartbeats 4000000 in
set_option maxRecDepth 100000 in
theorem s_Md_out_17 {p : Program} {l : Launch} {e : Env} {R : Room} {s : State} {m : MethodId} {args : Array Value} {below : List Frame} {meth : Method} {c : Code} {Q : State → Prop} {D : va_G} {q : Nat → ClassId} {a : Nat → Nat} {A : Nat → Prop} (C : pv_C p s m args c prog_9_method_69_code 2 "PatchVoicesModel" pv_TB D pv_cl (pv_ty q) 36 a A (pv_ZM)) (hmv : pv_mv A (pv_ZM)) (hRf : 0 ≤ R.frames) (hRl : 0 ≤ R.locals) {out : (Int32 × pv_S)} (hret : pv_Ri p l e R s m args below meth c prog_9_method_69_code D pv_cl 36 a (pv_FM q a) A Q out) {σ : pv_S} {x1 : Int32} {H : Heap} {locs : List Loc} {ls : Array Slot} (hl : lv_has ls 2 [(0, .ref (a 0)), (1, .int x1)]) (hP : pv_W D pv_cl 36 a (pv_FM q a) σ H) (hS : va_S A s.heap H locs) (hf : f_Md_out_17 σ x1 = some out) : W p l e R s m args below meth c H locs 0 0 Q (F0 m 17 ls [.ref (a 0)]) := by
  unfold f_Md_out_17 at hf
  have hx := C.1
  have hb := C.2.1
  refine lv_iconst (v := (1 : Int32)) hx hb d_Md_out_17 (by decide) ?_
  exact s_Md_out_18 C hmv hRf hRl hret (lv_sub hl [0, 1] rfl) hP hS hf
def f_Md_out_0 (σ : pv_S) (x1 : Int32) : Option (Int32 × pv_S) :=
  (if x1 < 0 then
  f_Md_out_17 σ x1
  else
  (if (σ.1 0 50) ≤ x1 then
  f_Md_out_17 σ x1
  else
  f_Md_out_18 σ x1 (0 : Int32)))
set_option maxHeartbeats 4000000 in
set_option maxRecDepth 100000 in
theorem s_Md_out_0 {p : Program} {l : Launch} {e : Env} {R : Room} {s : State} {m : MethodId} {args : Array Value} {below : List Frame} {meth : Method} {c : Code} {Q : State → Prop} {D : va_G} {q : Nat → ClassId} {a : Nat → Nat} {A : Nat → Prop} (C : pv_C p s m args c prog_9_method_69_code 2 "PatchVoicesModel" pv_TB D pv_cl (pv_ty q) 36 a A (pv_ZM)) (hmv : pv_mv A (pv_ZM)) (hRf : 0 ≤ R.frames) (hRl : 0 ≤ R.locals) {out : (Int32 × pv_S)} (hret : pv_Ri p l e R s m args below meth c prog_9_method_69_code D pv_cl 36 a (pv_FM q a) A Q out) {σ : pv_S} {x1 : Int32} {H : Heap} {locs : List Loc} {ls : Array Slot} (hl : lv_has ls 2 [(0, .ref (a 0)), (1, .int x1)]) (hP : pv_W D pv_cl 36 a (pv_FM q a) σ H) (hS : va_S A s.heap H locs) (hf : f_Md_out_0 σ x1 = some out) : W p l e R s m args below meth c H locs 0 0 Q (F0 m 0 ls []) := by
  unfold f_Md_out_0 at hf
  have hx := C.1
  have hb := C.2.1
  refine lv_aload_n hx hb d_Md_out_0 rfl (lv_at hl 0 rfl) ?_
  refine lv_iload_n hx hb d_Md_out_1 rfl (lv_at hl 1 rfl) ?_
  refine lv_if_lt (tgt := 17) hx hb d_Md_out_2 (by decide) (fun h => ?_) (fun h => ?_)
  · have hf := pv_t hf h
    exact s_Md_out_17 C hmv hRf hRl hret (lv_sub hl [0, 1] rfl) hP hS hf
  · have hf := pv_f hf h
    refine lv_iload_n hx hb d_Md_out_5 rfl (lv_at hl 1 rfl) ?_
    refine lv_aload_n hx hb d_Md_out_6 rfl (lv_at hl 0 rfl) ?_
    refine pv_get C hP (v := .int (σ.1 0 50)) (j := 50) (by decide) (fm_0 _ _ _ _) fl_Md_338 rfl d_Md_out_7 ?_
    refine lv_icmp_ge (tgt := 17) hx hb d_Md_out_10 (by decide) (fun h => ?_) (fun h => ?_)
    · have hf := pv_t hf h
      exact s_Md_out_17 C hmv hRf hRl hret (lv_sub hl [0, 1] rfl) hP hS hf
    · have hf := pv_f hf h
      refine lv_iconst (v := (0 : Int32)) hx hb d_Md_out_13 (by decide) ?_
      refine lv_goto (tgt := 18) hx hb d_Md_out_14 (by decide) ?_
      exact s_Md_out_18 C hmv hRf hRl hret (lv_sub hl [0, 1] rfl) hP hS hf
def f_Md_out (σ : pv_S) (x1 : Int32) : Option (Int32 × pv_S) := f_Md_out_0 σ x1
def rm_Md_out : Room := { frames := 0, cells := 0, slots := 0, locals := 0 }
theorem c_Md_out {l : Launch} {D : va_G} {q : Nat → ClassId} {a : Nat → Nat} {A : Nat → Prop} (hD : pv_D 36 a A) (hmv : pv_mv A (pv_ZM)) {σ : pv_S} {x1 : Int32} {out : (Int32 × pv_S)} (hf : f_Md_out σ x1 = some out) : pv_Mi l y_Md_out (Cond.code y_Md_out prog_9_method_69_code 2 (some .int) :: pv_TB) rm_Md_out D pv_cl (pv_ty q) 36 a (pv_FM q a) A (pv_ZM) [.ref (a 0), .int x1] σ out :=
  pv_ofI (by decide) (Nat.le_of_ble_eq_true rfl) hD (fun p e s m args below meth c Q ls C hret hl hP => s_Md_out_0 C hmv (Nat.le_refl _) (Nat.le_refl _) hret hl hP va_S.rf hf)
theorem d_Md_tap_0 : decode prog_9_method_70_code 0 = .ok (.aload_n 0, 1) := by decide +kernel
theorem d_Md_tap_1 : decode prog_9_method_70_code 1 = .ok (.aload_n 0, 1) := by decide +kernel
theorem d_Md_tap_2 : decode prog_9_method_70_code 2 = .ok (.iload_n 1, 1) := by decide +kernel
theorem d_Md_tap_3 : decode prog_9_method_70_code 3 = .ok (.invokevirtual 344, 3) := by decide +kernel
theorem d_Md_tap_6 : decode prog_9_method_70_code 6 = .ok (.ifCond .eq 22, 3) := by decide +kernel
theorem d_Md_tap_9 : decode prog_9_method_70_code 9 = .ok (.aload_n 0, 1) := by decide +kernel
theorem d_Md_tap_10 : decode prog_9_method_70_code 10 = .ok (.getfield 244, 3) := by decide +kernel
theorem d_Md_tap_13 : decode prog_9_method_70_code 13 = .ok (.ifCond .eq 15, 3) := by decide +kernel
theorem d_Md_tap_16 : decode prog_9_method_70_code 16 = .ok (.iload_n 2, 1) := by decide +kernel
theorem d_Md_tap_17 : decode prog_9_method_70_code 17 = .ok (.ifCond .lt 11, 3) := by decide +kernel
theorem d_Md_tap_20 : decode prog_9_method_70_code 20 = .ok (.iload_n 2, 1) := by decide +kernel
theorem d_Md_tap_21 : decode prog_9_method_70_code 21 = .ok (.aload_n 0, 1) := by decide +kernel
theorem d_Md_tap_22 : decode prog_9_method_70_code 22 = .ok (.getfield 253, 3) := by decide +kernel
theorem d_Md_tap_25 : decode prog_9_method_70_code 25 = .ok (.if_icmp .lt 7, 3) := by decide +kernel
theorem d_Md_tap_28 : decode prog_9_method_70_code 28 = .ok (.iconst 1, 1) := by decide +kernel
theorem d_Md_tap_29 : decode prog_9_method_70_code 29 = .ok (.goto 4, 3) := by decide +kernel
theorem d_Md_tap_32 : decode prog_9_method_70_code 32 = .ok (.iconst 0, 1) := by decide +kernel
theorem d_Md_tap_33 : decode prog_9_method_70_code 33 = .ok (.putfield 127, 3) := by decide +kernel
theorem d_Md_tap_36 : decode prog_9_method_70_code 36 = .ok (.aload_n 0, 1) := by decide +kernel
theorem d_Md_tap_37 : decode prog_9_method_70_code 37 = .ok (.getfield 127, 3) := by decide +kernel
theorem d_Md_tap_40 : decode prog_9_method_70_code 40 = .ok (.ifCond .le 5, 3) := by decide +kernel
theorem d_Md_tap_43 : decode prog_9_method_70_code 43 = .ok (.iconst 0, 1) := by decide +kernel
theorem d_Md_tap_44 : decode prog_9_method_70_code 44 = .ok (.ireturn, 1) := by decide +kernel
theorem d_Md_tap_45 : decode prog_9_method_70_code 45 = .ok (.aload_n 0, 1) := by decide +kernel
theorem d_Md_tap_46 : decode prog_9_method_70_code 46 = .ok (.aload_n 0, 1) := by decide +kernel
theorem d_Md_tap_47 : decode prog_9_method_70_code 47 = .ok (.getfield 62, 3) := by decide +kernel
theorem d_Md_tap_50 : decode prog_9_method_70_code 50 = .ok (.iload_n 2, 1) := by decide +kernel
theorem d_Md_tap_51 : decode prog_9_method_70_code 51 = .ok (.baload, 1) := by decide +kernel
theorem d_Md_tap_52 : decode prog_9_method_70_code 52 = .ok (.ifCond .eq 25, 3) := by decide +kernel
theorem d_Md_tap_55 : decode prog_9_method_70_code 55 = .ok (.aload_n 0, 1) := by decide +kernel
theorem d_Md_tap_56 : decode prog_9_method_70_code 56 = .ok (.getfield 81, 3) := by decide +kernel
theorem d_Md_tap_59 : decode prog_9_method_70_code 59 = .ok (.iload_n 1, 1) := by decide +kernel
theorem d_Md_tap_60 : decode prog_9_method_70_code 60 = .ok (.baload, 1) := by decide +kernel
theorem d_Md_tap_61 : decode prog_9_method_70_code 61 = .ok (.ifCond .eq 16, 3) := by decide +kernel
theorem d_Md_tap_64 : decode prog_9_method_70_code 64 = .ok (.aload_n 0, 1) := by decide +kernel
theorem d_Md_tap_65 : decode prog_9_method_70_code 65 = .ok (.getfield 105, 3) := by decide +kernel
theorem d_Md_tap_68 : decode prog_9_method_70_code 68 = .ok (.iload_n 1, 1) := by decide +kernel
theorem d_Md_tap_69 : decode prog_9_method_70_code 69 = .ok (.iaload, 1) := by decide +kernel
theorem d_Md_tap_70 : decode prog_9_method_70_code 70 = .ok (.ifCond .le 7, 3) := by decide +kernel
theorem d_Md_tap_73 : decode prog_9_method_70_code 73 = .ok (.iconst 0, 1) := by decide +kernel
theorem d_Md_tap_74 : decode prog_9_method_70_code 74 = .ok (.goto 4, 3) := by decide +kernel
theorem d_Md_tap_77 : decode prog_9_method_70_code 77 = .ok (.iconst 2, 1) := by decide +kernel
theorem d_Md_tap_78 : decode prog_9_method_70_code 78 = .ok (.putfield 127, 3) := by decide +kernel
theorem d_Md_tap_81 : decode prog_9_method_70_code 81 = .ok (.aload_n 0, 1) := by decide +kernel
theorem d_Md_tap_82 : decode prog_9_method_70_code 82 = .ok (.getfield 127, 3) := by decide +kernel
theorem d_Md_tap_85 : decode prog_9_method_70_code 85 = .ok (.ifCond .le 7, 3) := by decide +kernel
theorem d_Md_tap_88 : decode prog_9_method_70_code 88 = .ok (.iconst 0, 1) := by decide +kernel
theorem d_Md_tap_89 : decode prog_9_method_70_code 89 = .ok (.goto 14, 3) := by decide +kernel
theorem d_Md_tap_92 : decode prog_9_method_70_code 92 = .ok (.aload_n 0, 1) := by decide +kernel
theorem d_Md_tap_93 : decode prog_9_method_70_code 93 = .ok (.getfield 114, 3) := by decide +kernel
theorem d_Md_tap_96 : decode prog_9_method_70_code 96 = .ok (.bipush 24, 2) := by decide +kernel
theorem d_Md_tap_98 : decode prog_9_method_70_code 98 = .ok (.iload_n 1, 1) := by decide +kernel
theorem d_Md_tap_99 : decode prog_9_method_70_code 99 = .ok (.imul, 1) := by decide +kernel
theorem d_Md_tap_100 : decode prog_9_method_70_code 100 = .ok (.iload_n 2, 1) := by decide +kernel
theorem d_Md_tap_101 : decode prog_9_method_70_code 101 = .ok (.iadd, 1) := by decide +kernel
theorem d_Md_tap_102 : decode prog_9_method_70_code 102 = .ok (.iaload, 1) := by decide +kernel
theorem d_Md_tap_103 : decode prog_9_method_70_code 103 = .ok (.ireturn, 1) := by decide +kernel
def f_Md_tap_78 (σ : pv_S) (x1 : Int32) (x2 : Int32) (s0 : Int32) : Option (Int32 × pv_S) :=
  (if ((pv_uI σ 0 0 s0).1 0 0) ≤ 0 then
  (if pv_in (((24 : Int32) * x1) + x2) 96 = true then
some (((pv_uI σ 0 0 s0).1 33 ((((24 : Int32) * x1) + x2)).toNatClampNeg), (pv_uI σ 0 0 s0))
  else none)
  else
  some ((0 : Int32), (pv_uI σ 0 0 s0)))
set_option maxHeartbeats 4000000 in
set_option maxRecDepth 100000 in
theorem s_Md_tap_78 {p : Program} {l : Launch} {e : Env} {R : Room} {s : State} {m : MethodId} {args : Array Value} {below : List Frame} {meth : Method} {c : Code} {Q : State → Prop} {D : va_G} {q : Nat → ClassId} {a : Nat → Nat} {A : Nat → Prop} (C : pv_C p s m args c prog_9_method_70_code 3 "PatchVoicesModel" pv_TB D pv_cl (pv_ty q) 36 a A (pv_ZM)) (hmv : pv_mv A (pv_ZM)) (hRf : 1 ≤ R.frames) (hRl : 21 ≤ R.locals) {out : (Int32 × pv_S)} (hret : pv_Ri p l e R s m args below meth c prog_9_method_70_code D pv_cl 36 a (pv_FM q a) A Q out) {σ : pv_S} {x1 : Int32} {x2 : Int32} {s0 : Int32} {H : Heap} {locs : List Loc} {ls : Array Slot} (hl : lv_has ls 3 [(0, .ref (a 0)), (1, .int x1), (2, .int x2)]) (hP : pv_W D pv_cl 36 a (pv_FM q a) σ H) (hS : va_S A s.heap H locs) (hf : f_Md_tap_78 σ x1 x2 s0 = some out) : W p l e R s m args below meth c H locs 0 0 Q (F0 m 78 ls [.int s0, .ref (a 0)]) := by
  unfold f_Md_tap_78 at hf
  have hx := C.1
  have hb := C.2.1
  refine pv_putI C hP hS (x := s0) (by decide) (fm_0 _ _ _ _) fw_Md_127 rfl rfl (Nat.le_of_ble_eq_true rfl) (fms_0_0 _ _ _ _ _) d_Md_tap_78 (fun H locs hP hS => ?_)
  refine lv_aload_n hx hb d_Md_tap_81 rfl (lv_at hl 0 rfl) ?_
  refine pv_get C hP (v := .int ((pv_uI σ 0 0 s0).1 0 0)) (j := 0) (by decide) (fm_0 _ _ _ _) fl_Md_127 rfl d_Md_tap_82 ?_
  refine lv_if_le (tgt := 92) hx hb d_Md_tap_85 (by decide) (fun h => ?_) (fun h => ?_)
  · have hf := pv_t hf h
    refine lv_aload_n hx hb d_Md_tap_92 rfl (lv_at hl 0 rfl) ?_
    refine pv_get C hP (v := .ref (a 33)) (j := 45) (by decide) (fm_0 _ _ _ _) fl_Md_114 rfl d_Md_tap_93 ?_
    refine lv_bipush (v := (24 : Int32)) hx hb d_Md_tap_96 (by decide) ?_
    refine lv_iload_n hx hb d_Md_tap_98 rfl (lv_at hl 1 rfl) ?_
    refine lv_imul hx hb d_Md_tap_99 ?_
    refine lv_iload_n hx hb d_Md_tap_100 rfl (lv_at hl 2 rfl) ?_
    refine lv_iadd hx hb d_Md_tap_101 ?_
    obtain ⟨hg, hf⟩ := pv_g hf
    refine pv_iald C hP (t0 := 0) (by decide) (fm_33 _ _ _ _) rfl hg d_Md_tap_102 ?_
    obtain rfl := Option.some.inj hf
    exact hret _ _ _ _ d_Md_tap_103 hP hS
  · have hf := pv_f hf h
    refine lv_iconst (v := (0 : Int32)) hx hb d_Md_tap_88 (by decide) ?_
    refine lv_goto (tgt := 103) hx hb d_Md_tap_89 (by decide) ?_
    obtain rfl := Option.some.inj hf
    exact hret _ _ _ _ d_Md_tap_103 hP hS
def f_Md_tap_77 (σ : pv_S) (x1 : Int32) (x2 : Int32) : Option (Int32 × pv_S) :=
  f_Md_tap_78 σ x1 x2 (2 : Int32)
set_option maxHeartbeats 4000000 in
set_option maxRecDepth 100000 in
theorem s_Md_tap_77 {p : Program} {l : Launch} {e : Env} {R : Room} {s : State} {m : MethodId} {args : Array Value} {below : List Frame} {meth : Method} {c : Code} {Q : State → Prop} {D : va_G} {q : Nat → ClassId} {a : Nat → Nat} {A : Nat → Prop} (C : pv_C p s m args c prog_9_method_70_code 3 "PatchVoicesModel" pv_TB D pv_cl (pv_ty q) 36 a A (pv_ZM)) (hmv : pv_mv A (pv_ZM)) (hRf : 1 ≤ R.frames) (hRl : 21 ≤ R.locals) {out : (Int32 × pv_S)} (hret : pv_Ri p l e R s m args below meth c prog_9_method_70_code D pv_cl 36 a (pv_FM q a) A Q out) {σ : pv_S} {x1 : Int32} {x2 : Int32} {H : Heap} {locs : List Loc} {ls : Array Slot} (hl : lv_has ls 3 [(0, .ref (a 0)), (1, .int x1), (2, .int x2)]) (hP : pv_W D pv_cl 36 a (pv_FM q a) σ H) (hS : va_S A s.heap H locs) (hf : f_Md_tap_77 σ x1 x2 = some out) : W p l e R s m args below meth c H locs 0 0 Q (F0 m 77 ls [.ref (a 0)]) := by
  unfold f_Md_tap_77 at hf
  have hx := C.1
  have hb := C.2.1
  refine lv_iconst (v := (2 : Int32)) hx hb d_Md_tap_77 (by decide) ?_
  exact s_Md_tap_78 C hmv hRf hRl hret (lv_sub hl [0, 1, 2] rfl) hP hS hf
def f_Md_tap_33 (σ : pv_S) (x1 : Int32) (x2 : Int32) (s0 : Int32) : Option (Int32 × pv_S) :=
  (if ((pv_uI σ 0 0 s0).1 0 0) ≤ 0 then
  (if pv_in x2 24 = true then
(if ((pv_uI σ 0 0 s0).1 17 (x2).toNatClampNeg) = 0 then
  f_Md_tap_77 (pv_uI σ 0 0 s0) x1 x2
  else
  (if pv_in x1 4 = true then
(if ((pv_uI σ 0 0 s0).1 22 (x1).toNatClampNeg) = 0 then
  f_Md_tap_77 (pv_uI σ 0 0 s0) x1 x2
  else
  (if pv_in x1 4 = true then
(if ((pv_uI σ 0 0 s0).1 30 (x1).toNatClampNeg) ≤ 0 then
  f_Md_tap_77 (pv_uI σ 0 0 s0) x1 x2
  else
  f_Md_tap_78 (pv_uI σ 0 0 s0) x1 x2 (0 : Int32))
  else none))
  else none))
  else none)
  else
  some ((0 : Int32), (pv_uI σ 0 0 s0)))
set_option maxHeartbeats 4000000 in
set_option maxRecDepth 100000 in
theorem s_Md_tap_33 {p : Program} {l : Launch} {e : Env} {R : Room} {s : State} {m : MethodId} {args : Array Value} {below : List Frame} {meth : Method} {c : Code} {Q : State → Prop} {D : va_G} {q : Nat → ClassId} {a : Nat → Nat} {A : Nat → Prop} (C : pv_C p s m args c prog_9_method_70_code 3 "PatchVoicesModel" pv_TB D pv_cl (pv_ty q) 36 a A (pv_ZM)) (hmv : pv_mv A (pv_ZM)) (hRf : 1 ≤ R.frames) (hRl : 21 ≤ R.locals) {out : (Int32 × pv_S)} (hret : pv_Ri p l e R s m args below meth c prog_9_method_70_code D pv_cl 36 a (pv_FM q a) A Q out) {σ : pv_S} {x1 : Int32} {x2 : Int32} {s0 : Int32} {H : Heap} {locs : List Loc} {ls : Array Slot} (hl : lv_has ls 3 [(0, .ref (a 0)), (1, .int x1), (2, .int x2)]) (hP : pv_W D pv_cl 36 a (pv_FM q a) σ H) (hS : va_S A s.heap H locs) (hf : f_Md_tap_33 σ x1 x2 s0 = some out) : W p l e R s m args below meth c H locs 0 0 Q (F0 m 33 ls [.int s0, .ref (a 0)]) := by
  unfold f_Md_tap_33 at hf
  have hx := C.1
  have hb := C.2.1
  refine pv_putI C hP hS (x := s0) (by decide) (fm_0 _ _ _ _) fw_Md_127 rfl rfl (Nat.le_of_ble_eq_true rfl) (fms_0_0 _ _ _ _ _) d_Md_tap_33 (fun H locs hP hS => ?_)
  refine lv_aload_n hx hb d_Md_tap_36 rfl (lv_at hl 0 rfl) ?_
  refine pv_get C hP (v := .int ((pv_uI σ 0 0 s0).1 0 0)) (j := 0) (by decide) (fm_0 _ _ _ _) fl_Md_127 rfl d_Md_tap_37 ?_
  refine lv_if_le (tgt := 45) hx hb d_Md_tap_40 (by decide) (fun h => ?_) (fun h => ?_)
  · have hf := pv_t hf h
    refine lv_aload_n hx hb d_Md_tap_45 rfl (lv_at hl 0 rfl) ?_
    refine lv_aload_n hx hb d_Md_tap_46 rfl (lv_at hl 0 rfl) ?_
    refine pv_get C hP (v := .ref (a 17)) (j := 27) (by decide) (fm_0 _ _ _ _) fl_Md_62 rfl d_Md_tap_47 ?_
    refine lv_iload_n hx hb d_Md_tap_50 rfl (lv_at hl 2 rfl) ?_
    obtain ⟨hg, hf⟩ := pv_g hf
    refine pv_zald C hP (t0 := 2) (by decide) (fm_17 _ _ _ _) rfl hg d_Md_tap_51 ?_
    refine lv_if_eq (tgt := 77) hx hb d_Md_tap_52 (by decide) (fun h => ?_) (fun h => ?_)
    · have hf := pv_t hf h
      exact s_Md_tap_77 C hmv hRf hRl hret (lv_sub hl [0, 1, 2] rfl) hP hS hf
    · have hf := pv_f hf h
      refine lv_aload_n hx hb d_Md_tap_55 rfl (lv_at hl 0 rfl) ?_
      refine pv_get C hP (v := .ref (a 22)) (j := 34) (by decide) (fm_0 _ _ _ _) fl_Md_81 rfl d_Md_tap_56 ?_
      refine lv_iload_n hx hb d_Md_tap_59 rfl (lv_at hl 1 rfl) ?_
      obtain ⟨hg, hf⟩ := pv_g hf
      refine pv_zald C hP (t0 := 2) (by decide) (fm_22 _ _ _ _) rfl hg d_Md_tap_60 ?_
      refine lv_if_eq (tgt := 77) hx hb d_Md_tap_61 (by decide) (fun h => ?_) (fun h => ?_)
      · have hf := pv_t hf h
        exact s_Md_tap_77 C hmv hRf hRl hret (lv_sub hl [0, 1, 2] rfl) hP hS hf
      · have hf := pv_f hf h
        refine lv_aload_n hx hb d_Md_tap_64 rfl (lv_at hl 0 rfl) ?_
        refine pv_get C hP (v := .ref (a 30)) (j := 42) (by decide) (fm_0 _ _ _ _) fl_Md_105 rfl d_Md_tap_65 ?_
        refine lv_iload_n hx hb d_Md_tap_68 rfl (lv_at hl 1 rfl) ?_
        obtain ⟨hg, hf⟩ := pv_g hf
        refine pv_iald C hP (t0 := 0) (by decide) (fm_30 _ _ _ _) rfl hg d_Md_tap_69 ?_
        refine lv_if_le (tgt := 77) hx hb d_Md_tap_70 (by decide) (fun h => ?_) (fun h => ?_)
        · have hf := pv_t hf h
          exact s_Md_tap_77 C hmv hRf hRl hret (lv_sub hl [0, 1, 2] rfl) hP hS hf
        · have hf := pv_f hf h
          refine lv_iconst (v := (0 : Int32)) hx hb d_Md_tap_73 (by decide) ?_
          refine lv_goto (tgt := 78) hx hb d_Md_tap_74 (by decide) ?_
          exact s_Md_tap_78 C hmv hRf hRl hret (lv_sub hl [0, 1, 2] rfl) hP hS hf
  · have hf := pv_f hf h
    refine lv_iconst (v := (0 : Int32)) hx hb d_Md_tap_43 (by decide) ?_
    obtain rfl := Option.some.inj hf
    exact hret _ _ _ _ d_Md_tap_44 hP hS
def f_Md_tap_28 (σ : pv_S) (x1 : Int32) (x2 : Int32) : Option (Int32 × pv_S) :=
  f_Md_tap_33 σ x1 x2 (1 : Int32)
set_option maxHeartbeats 4000000 in
set_option maxRecDepth 100000 in
theorem s_Md_tap_28 {p : Program} {l : Launch} {e : Env} {R : Room} {s : State} {m : MethodId} {args : Array Value} {below : List Frame} {meth : Method} {c : Code} {Q : State → Prop} {D : va_G} {q : Nat → ClassId} {a : Nat → Nat} {A : Nat → Prop} (C : pv_C p s m args c prog_9_method_70_code 3 "PatchVoicesModel" pv_TB D pv_cl (pv_ty q) 36 a A (pv_ZM)) (hmv : pv_mv A (pv_ZM)) (hRf : 1 ≤ R.frames) (hRl : 21 ≤ R.locals) {out : (Int32 × pv_S)} (hret : pv_Ri p l e R s m args below meth c prog_9_method_70_code D pv_cl 36 a (pv_FM q a) A Q out) {σ : pv_S} {x1 : Int32} {x2 : Int32} {H : Heap} {locs : List Loc} {ls : Array Slot} (hl : lv_has ls 3 [(0, .ref (a 0)), (1, .int x1), (2, .int x2)]) (hP : pv_W D pv_cl 36 a (pv_FM q a) σ H) (hS : va_S A s.heap H locs) (hf : f_Md_tap_28 σ x1 x2 = some out) : W p l e R s m args below meth c H locs 0 0 Q (F0 m 28 ls [.ref (a 0)]) := by
  unfold f_Md_tap_28 at hf
  have hx := C.1
  have hb := C.2.1
  refine lv_iconst (v := (1 : Int32)) hx hb d_Md_tap_28 (by decide) ?_
  refine lv_goto (tgt := 33) hx hb d_Md_tap_29 (by decide) ?_
  exact s_Md_tap_33 C hmv hRf hRl hret (lv_sub hl [0, 1, 2] rfl) hP hS hf
def f_Md_tap_0 (σ : pv_S) (x1 : Int32) (x2 : Int32) : Option (Int32 × pv_S) :=
  ((f_Md_isVoice σ x1).bind fun q1 =>
(if q1.1 = 0 then
  f_Md_tap_28 q1.2 x1 x2
  else
  (if (q1.2.1 0 16) = 0 then
  f_Md_tap_28 q1.2 x1 x2
  else
  (if x2 < 0 then
  f_Md_tap_28 q1.2 x1 x2
  else
  (if x2 < (q1.2.1 0 18) then
  f_Md_tap_33 q1.2 x1 x2 (0 : Int32)
  else
  f_Md_tap_28 q1.2 x1 x2)))))
set_option maxHeartbeats 4000000 in
set_option maxRecDepth 100000 in
theorem s_Md_tap_0 {p : Program} {l : Launch} {e : Env} {R : Room} {s : State} {m : MethodId} {args : Array Value} {below : List Frame} {meth : Method} {c : Code} {Q : State → Prop} {D : va_G} {q : Nat → ClassId} {a : Nat → Nat} {A : Nat → Prop} (C : pv_C p s m args c prog_9_method_70_code 3 "PatchVoicesModel" pv_TB D pv_cl (pv_ty q) 36 a A (pv_ZM)) (hmv : pv_mv A (pv_ZM)) (hRf : 1 ≤ R.frames) (hRl : 21 ≤ R.locals) {out : (Int32 × pv_S)} (hret : pv_Ri p l e R s m args below meth c prog_9_method_70_code D pv_cl 36 a (pv_FM q a) A Q out) {σ : pv_S} {x1 : Int32} {x2 : Int32} {H : Heap} {locs : List Loc} {ls : Array Slot} (hl : lv_has ls 3 [(0, .ref (a 0)), (1, .int x1), (2, .int x2)]) (hP : pv_W D pv_cl 36 a (pv_FM q a) σ H) (hS : va_S A s.heap H locs) (hf : f_Md_tap_0 σ x1 x2 = some out) : W p l e R s m args below meth c H locs 0 0 Q (F0 m 0 ls []) := by
  unfold f_Md_tap_0 at hf
  have hx := C.1
  have hb := C.2.1
  refine lv_aload_n hx hb d_Md_tap_0 rfl (lv_at hl 0 rfl) ?_
  refine lv_aload_n hx hb d_Md_tap_1 rfl (lv_at hl 0 rfl) ?_
  refine lv_iload_n hx hb d_Md_tap_2 rfl (lv_at hl 1 rfl) ?_
  obtain ⟨q1, hc, hf⟩ := pv_b hf
  refine pv_callVi C hmv pv_good hP hS (As := [.int x1]) (rest := [.ref (a 0)]) (by decide) (fm_0 _ _ _ _) rfl (c_Md_isVoice C.2.2.2.2.2.2.1 hmv hc) cv_Md_344 ⟨rfl, rfl, Nat.le_trans (Nat.le_of_ble_eq_true rfl) hRf, Nat.le_trans (Nat.le_of_ble_eq_true rfl) hRl⟩ rfl hl.1 rfl (Nat.le_of_ble_eq_true rfl) d_Md_tap_3 ⟨Nat.zero_le _, Nat.zero_le _⟩ (fun H locs hP hS => ?_)
  refine lv_if_eq (tgt := 28) hx hb d_Md_tap_6 (by decide) (fun h => ?_) (fun h => ?_)
  · have hf := pv_t hf h
    exact s_Md_tap_28 C hmv hRf hRl hret (lv_sub hl [0, 1, 2] rfl) hP hS hf
  · have hf := pv_f hf h
    refine lv_aload_n hx hb d_Md_tap_9 rfl (lv_at hl 0 rfl) ?_
    refine pv_get C hP (v := .int (q1.2.1 0 16)) (j := 16) (by decide) (fm_0 _ _ _ _) fl_Md_244 rfl d_Md_tap_10 ?_
    refine lv_if_eq (tgt := 28) hx hb d_Md_tap_13 (by decide) (fun h => ?_) (fun h => ?_)
    · have hf := pv_t hf h
      exact s_Md_tap_28 C hmv hRf hRl hret (lv_sub hl [0, 1, 2] rfl) hP hS hf
    · have hf := pv_f hf h
      refine lv_iload_n hx hb d_Md_tap_16 rfl (lv_at hl 2 rfl) ?_
      refine lv_if_lt (tgt := 28) hx hb d_Md_tap_17 (by decide) (fun h => ?_) (fun h => ?_)
      · have hf := pv_t hf h
        exact s_Md_tap_28 C hmv hRf hRl hret (lv_sub hl [0, 1, 2] rfl) hP hS hf
      · have hf := pv_f hf h
        refine lv_iload_n hx hb d_Md_tap_20 rfl (lv_at hl 2 rfl) ?_
        refine lv_aload_n hx hb d_Md_tap_21 rfl (lv_at hl 0 rfl) ?_
        refine pv_get C hP (v := .int (q1.2.1 0 18)) (j := 18) (by decide) (fm_0 _ _ _ _) fl_Md_253 rfl d_Md_tap_22 ?_
        refine lv_icmp_lt (tgt := 32) hx hb d_Md_tap_25 (by decide) (fun h => ?_) (fun h => ?_)
        · have hf := pv_t hf h
          refine lv_iconst (v := (0 : Int32)) hx hb d_Md_tap_32 (by decide) ?_
          exact s_Md_tap_33 C hmv hRf hRl hret (lv_sub hl [0, 1, 2] rfl) hP hS hf
        · have hf := pv_f hf h
          exact s_Md_tap_28 C hmv hRf hRl hret (lv_sub hl [0, 1, 2] rfl) hP hS hf
def f_Md_tap (σ : pv_S) (x1 : Int32) (x2 : Int32) : Option (Int32 × pv_S) := f_Md_tap_0 σ x1 x2
def rm_Md_tap : Room := { frames := 1, cells := 0, slots := 0, locals := 21 }
theorem c_Md_tap {l : Launch} {D : va_G} {q : Nat → ClassId} {a : Nat → Nat} {A : Nat → Prop} (hD : pv_D 36 a A) (hmv : pv_mv A (pv_ZM)) {σ : pv_S} {x1 : Int32} {x2 : Int32} {out : (Int32 × pv_S)} (hf : f_Md_tap σ x1 x2 = some out) : pv_Mi l y_Md_tap (Cond.code y_Md_tap prog_9_method_70_code 3 (some .int) :: pv_TB) rm_Md_tap D pv_cl (pv_ty q) 36 a (pv_FM q a) A (pv_ZM) [.ref (a 0), .int x1, .int x2] σ out :=
  pv_ofI (by decide) (Nat.le_of_ble_eq_true rfl) hD (fun p e s m args below meth c Q ls C hret hl hP => s_Md_tap_0 C hmv (Nat.le_refl _) (Nat.le_refl _) hret hl hP va_S.rf hf)
theorem d_Md_reset_0 : decode prog_9_method_71_code 0 = .ok (.aload_n 0, 1) := by decide +kernel
theorem d_Md_reset_1 : decode prog_9_method_71_code 1 = .ok (.iconst 0, 1) := by decide +kernel
theorem d_Md_reset_2 : decode prog_9_method_71_code 2 = .ok (.putfield 127, 3) := by decide +kernel
theorem d_Md_reset_5 : decode prog_9_method_71_code 5 = .ok (.aload_n 0, 1) := by decide +kernel
theorem d_Md_reset_6 : decode prog_9_method_71_code 6 = .ok (.invokevirtual 247, 3) := by decide +kernel
theorem d_Md_reset_9 : decode prog_9_method_71_code 9 = .ok (.return_, 1) := by decide +kernel
def f_Md_reset_0 (σ : pv_S) : Option pv_S :=
  ((f_Md_silence (pv_uI σ 0 0 (0 : Int32))).bind fun q1 =>
some q1)
set_option maxHeartbeats 4000000 in
set_option maxRecDepth 100000 in
theorem s_Md_reset_0 {p : Program} {l : Launch} {e : Env} {R : Room} {s : State} {m : MethodId} {args : Array Value} {below : List Frame} {meth : Method} {c : Code} {Q : State → Prop} {D : va_G} {q : Nat → ClassId} {a : Nat → Nat} {A : Nat → Prop} (C : pv_C p s m args c prog_9_method_71_code 1 "PatchVoicesModel" pv_TB D pv_cl (pv_ty q) 36 a A (pv_ZM)) (hmv : pv_mv A (pv_ZM)) (hRf : 1 ≤ R.frames) (hRl : 21 ≤ R.locals) {out : pv_S} (hret : pv_Rv p l e R s m args below meth c prog_9_method_71_code D pv_cl 36 a (pv_FM q a) A Q out) {σ : pv_S} {H : Heap} {locs : List Loc} {ls : Array Slot} (hl : lv_has ls 1 [(0, .ref (a 0))]) (hP : pv_W D pv_cl 36 a (pv_FM q a) σ H) (hS : va_S A s.heap H locs) (hf : f_Md_reset_0 σ = some out) : W p l e R s m args below meth c H locs 0 0 Q (F0 m 0 ls []) := by
  unfold f_Md_reset_0 at hf
  have hx := C.1
  have hb := C.2.1
  refine lv_aload_n hx hb d_Md_reset_0 rfl (lv_at hl 0 rfl) ?_
  refine lv_iconst (v := (0 : Int32)) hx hb d_Md_reset_1 (by decide) ?_
  refine pv_putI C hP hS (x := (0 : Int32)) (by decide) (fm_0 _ _ _ _) fw_Md_127 rfl rfl (Nat.le_of_ble_eq_true rfl) (fms_0_0 _ _ _ _ _) d_Md_reset_2 (fun H locs hP hS => ?_)
  refine lv_aload_n hx hb d_Md_reset_5 rfl (lv_at hl 0 rfl) ?_
  obtain ⟨q1, hc, hf⟩ := pv_b hf
  refine pv_callVv C hmv pv_good hP hS (As := []) (rest := []) (by decide) (fm_0 _ _ _ _) rfl (c_Md_silence C.2.2.2.2.2.2.1 hmv hc) cv_Md_247 ⟨rfl, rfl, Nat.le_trans (Nat.le_of_ble_eq_true rfl) hRf, Nat.le_trans (Nat.le_of_ble_eq_true rfl) hRl⟩ rfl hl.1 rfl (Nat.le_of_ble_eq_true rfl) d_Md_reset_6 ⟨Nat.zero_le _, Nat.zero_le _⟩ (fun H locs hP hS => ?_)
  obtain rfl := Option.some.inj hf
  exact hret _ _ _ _ d_Md_reset_9 hP hS
def f_Md_reset (σ : pv_S) : Option pv_S := f_Md_reset_0 σ
def rm_Md_reset : Room := { frames := 1, cells := 0, slots := 0, locals := 21 }
theorem c_Md_reset {l : Launch} {D : va_G} {q : Nat → ClassId} {a : Nat → Nat} {A : Nat → Prop} (hD : pv_D 36 a A) (hmv : pv_mv A (pv_ZM)) {σ : pv_S} {out : pv_S} (hf : f_Md_reset σ = some out) : pv_Mv l y_Md_reset (Cond.code y_Md_reset prog_9_method_71_code 1 none :: pv_TB) rm_Md_reset D pv_cl (pv_ty q) 36 a (pv_FM q a) A (pv_ZM) [.ref (a 0)] σ out :=
  pv_ofV (by decide) (Nat.le_of_ble_eq_true rfl) hD (fun p e s m args below meth c Q ls C hret hl hP => s_Md_reset_0 C hmv (Nat.le_refl _) (Nat.le_refl _) hret hl hP va_S.rf hf)
