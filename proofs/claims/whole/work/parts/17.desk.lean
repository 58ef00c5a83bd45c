theorem d_PV_byteOf_0 : decode prog_1_method_3_code 0 = .ok (.lload_n 0, 1) := by decide +kernel
theorem d_PV_byteOf_1 : decode prog_1_method_3_code 1 = .ok (.bipush 8, 2) := by decide +kernel
theorem d_PV_byteOf_3 : decode prog_1_method_3_code 3 = .ok (.iload_n 2, 1) := by decide +kernel
theorem d_PV_byteOf_4 : decode prog_1_method_3_code 4 = .ok (.imul, 1) := by decide +kernel
theorem d_PV_byteOf_5 : decode prog_1_method_3_code 5 = .ok (.lushr, 1) := by decide +kernel
theorem d_PV_byteOf_6 : decode prog_1_method_3_code 6 = .ok (.l2i, 1) := by decide +kernel
theorem d_PV_byteOf_7 : decode prog_1_method_3_code 7 = .ok (.sipush 255, 3) := by decide +kernel
theorem d_PV_byteOf_10 : decode prog_1_method_3_code 10 = .ok (.iand, 1) := by decide +kernel
theorem d_PV_byteOf_11 : decode prog_1_method_3_code 11 = .ok (.ireturn, 1) := by decide +kernel
def f_PV_byteOf_0 (σ : pv_S) (x0 : Int64) (x2 : Int32) : Option (Int32 × pv_S) :=
  some (((((((x0).toUInt64 >>> ((((8 : Int32) * x2)).toInt64.toUInt64 &&& Int64.toUInt64 63)).toInt64)).toInt32) &&& (255 : Int32)), σ)
set_option maxHeartbeats 4000000 in
set_option maxRecDepth 100000 in
theorem s_PV_byteOf_0 {p : Program} {l : Launch} {e : Env} {R : Room} {s : State} {m : MethodId} {args : Array Value} {below : List Frame} {meth : Method} {c : Code} {Q : State → Prop} {D : va_G} {q : Nat → ClassId} {a t : Nat → Nat} {A : Nat → Prop} (C : pv_C p s m args c prog_1_method_3_code 3 "PatchVoices" pv_TB D pv_cl (pv_ty q) 52 a A (pv_ZX t A)) (hmv : pv_mv A (pv_ZX t A)) (hRf : 0 ≤ R.frames) (hRl : 0 ≤ R.locals) {out : (Int32 × pv_S)} (hret : pv_Ri p l e R s m args below meth c prog_1_method_3_code D pv_cl 52 a (pv_FX q a) A Q out) {σ : pv_S} {x0 : Int64} {x2 : Int32} {H : Heap} {locs : List Loc} {ls : Array Slot} (hl : lv_has ls 3 [(0, .long x0), (2, .int x2)]) (hP : pv_W D pv_cl 52 a (pv_FX q a) σ H) (hS : va_S A s.heap H locs) (hf : f_PV_byteOf_0 σ x0 x2 = some out) : W p l e R s m args below meth c H locs 0 0 Q (F0 m 0 ls []) := by
  unfold f_PV_byteOf_0 at hf
  have hx := C.1
  have hb := C.2.1
  refine lv_lload_n hx hb d_PV_byteOf_0 rfl (lv_at hl 0 rfl) ?_
  refine lv_bipush (v := (8 : Int32)) hx hb d_PV_byteOf_1 (by decide) ?_
  refine lv_iload_n hx hb d_PV_byteOf_3 rfl (lv_at hl 1 rfl) ?_
  refine lv_imul hx hb d_PV_byteOf_4 ?_
  refine lv_lushr (v := ((x0).toUInt64 >>> ((((8 : Int32) * x2)).toInt64.toUInt64 &&& Int64.toUInt64 63)).toInt64) hx hb d_PV_byteOf_5 rfl ?_
  refine lv_l2i (v := ((((x0).toUInt64 >>> ((((8 : Int32) * x2)).toInt64.toUInt64 &&& Int64.toUInt64 63)).toInt64)).toInt32) hx hb d_PV_byteOf_6 rfl ?_
  refine lv_sipush (v := (255 : Int32)) hx hb d_PV_byteOf_7 (by decide) ?_
  refine lv_iand hx hb d_PV_byteOf_10 ?_
  obtain rfl := Option.some.inj hf
  exact hret _ _ _ _ d_PV_byteOf_11 hP hS
def f_PV_byteOf (σ : pv_S) (x0 : Int64) (x2 : Int32) : Option (Int32 × pv_S) := f_PV_byteOf_0 σ x0 x2
def rm_PV_byteOf : Room := { frames := 0, cells := 0, slots := 0, locals := 0 }
theorem c_PV_byteOf {l : Launch} {D : va_G} {q : Nat → ClassId} {a t : Nat → Nat} {A : Nat → Prop} (hD : pv_D 52 a A) (hmv : pv_mv A (pv_ZX t A)) {σ : pv_S} {x0 : Int64} {x2 : Int32} {out : (Int32 × pv_S)} (hf : f_PV_byteOf σ x0 x2 = some out) : pv_Mi l y_PV_byteOf (Cond.code y_PV_byteOf prog_1_method_3_code 3 (some .int) :: pv_TB) rm_PV_byteOf D pv_cl (pv_ty q) 52 a (pv_FX q a) A (pv_ZX t A) [.long x0, .int x2] σ out :=
  pv_ofI (by decide) (Nat.le_of_ble_eq_true rfl) hD (fun p e s m args below meth c Q ls C hret hl hP => s_PV_byteOf_0 C hmv (Nat.le_refl _) (Nat.le_refl _) hret hl hP va_S.rf hf)
theorem d_PV_type_0 : decode prog_1_method_2_code 0 = .ok (.iload_n 3, 1) := by decide +kernel
theorem d_PV_type_1 : decode prog_1_method_2_code 1 = .ok (.iconst 1, 1) := by decide +kernel
theorem d_PV_type_2 : decode prog_1_method_2_code 2 = .ok (.if_icmp .lt 21, 3) := by decide +kernel
theorem d_PV_type_5 : decode prog_1_method_2_code 5 = .ok (.iload_n 3, 1) := by decide +kernel
theorem d_PV_type_6 : decode prog_1_method_2_code 6 = .ok (.bipush 8, 2) := by decide +kernel
theorem d_PV_type_8 : decode prog_1_method_2_code 8 = .ok (.if_icmp .gt 15, 3) := by decide +kernel
theorem d_PV_type_11 : decode prog_1_method_2_code 11 = .ok (.aload_n 0, 1) := by decide +kernel
theorem d_PV_type_12 : decode prog_1_method_2_code 12 = .ok (.getfield 48, 3) := by decide +kernel
theorem d_PV_type_15 : decode prog_1_method_2_code 15 = .ok (.iload_n 3, 1) := by decide +kernel
theorem d_PV_type_16 : decode prog_1_method_2_code 16 = .ok (.iadd, 1) := by decide +kernel
theorem d_PV_type_17 : decode prog_1_method_2_code 17 = .ok (.sipush 300, 3) := by decide +kernel
theorem d_PV_type_20 : decode prog_1_method_2_code 20 = .ok (.if_icmp .le 5, 3) := by decide +kernel
theorem d_PV_type_23 : decode prog_1_method_2_code 23 = .ok (.iconst (-1), 1) := by decide +kernel
theorem d_PV_type_24 : decode prog_1_method_2_code 24 = .ok (.ireturn, 1) := by decide +kernel
theorem d_PV_type_25 : decode prog_1_method_2_code 25 = .ok (.iconst 0, 1) := by decide +kernel
theorem d_PV_type_26 : decode prog_1_method_2_code 26 = .ok (.istore 4, 2) := by decide +kernel
theorem d_PV_type_28 : decode prog_1_method_2_code 28 = .ok (.iload 4, 2) := by decide +kernel
theorem d_PV_type_30 : decode prog_1_method_2_code 30 = .ok (.iload_n 3, 1) := by decide +kernel
theorem d_PV_type_31 : decode prog_1_method_2_code 31 = .ok (.if_icmp .ge 33, 3) := by decide +kernel
theorem d_PV_type_34 : decode prog_1_method_2_code 34 = .ok (.lload_n 1, 1) := by decide +kernel
theorem d_PV_type_35 : decode prog_1_method_2_code 35 = .ok (.iload 4, 2) := by decide +kernel
theorem d_PV_type_37 : decode prog_1_method_2_code 37 = .ok (.invokestatic 51, 3) := by decide +kernel
theorem d_PV_type_40 : decode prog_1_method_2_code 40 = .ok (.istore 5, 2) := by decide +kernel
theorem d_PV_type_42 : decode prog_1_method_2_code 42 = .ok (.iload 5, 2) := by decide +kernel
theorem d_PV_type_44 : decode prog_1_method_2_code 44 = .ok (.bipush 32, 2) := by decide +kernel
theorem d_PV_type_46 : decode prog_1_method_2_code 46 = .ok (.if_icmp .lt 10, 3) := by decide +kernel
theorem d_PV_type_49 : decode prog_1_method_2_code 49 = .ok (.iload 5, 2) := by decide +kernel
theorem d_PV_type_51 : decode prog_1_method_2_code 51 = .ok (.bipush 126, 2) := by decide +kernel
theorem d_PV_type_53 : decode prog_1_method_2_code 53 = .ok (.if_icmp .le 5, 3) := by decide +kernel
theorem d_PV_type_56 : decode prog_1_method_2_code 56 = .ok (.iconst (-1), 1) := by decide +kernel
theorem d_PV_type_57 : decode prog_1_method_2_code 57 = .ok (.ireturn, 1) := by decide +kernel
theorem d_PV_type_58 : decode prog_1_method_2_code 58 = .ok (.iinc 4 1, 3) := by decide +kernel
theorem d_PV_type_61 : decode prog_1_method_2_code 61 = .ok (.goto (-33), 3) := by decide +kernel
theorem d_PV_type_64 : decode prog_1_method_2_code 64 = .ok (.iload_n 3, 1) := by decide +kernel
theorem d_PV_type_65 : decode prog_1_method_2_code 65 = .ok (.iconst 1, 1) := by decide +kernel
theorem d_PV_type_66 : decode prog_1_method_2_code 66 = .ok (.isub, 1) := by decide +kernel
theorem d_PV_type_67 : decode prog_1_method_2_code 67 = .ok (.istore 4, 2) := by decide +kernel
theorem d_PV_type_69 : decode prog_1_method_2_code 69 = .ok (.iload 4, 2) := by decide +kernel
theorem d_PV_type_71 : decode prog_1_method_2_code 71 = .ok (.ifCond .lt 35, 3) := by decide +kernel
theorem d_PV_type_74 : decode prog_1_method_2_code 74 = .ok (.aload_n 0, 1) := by decide +kernel
theorem d_PV_type_75 : decode prog_1_method_2_code 75 = .ok (.getfield 9, 3) := by decide +kernel
theorem d_PV_type_78 : decode prog_1_method_2_code 78 = .ok (.aload_n 0, 1) := by decide +kernel
theorem d_PV_type_79 : decode prog_1_method_2_code 79 = .ok (.getfield 48, 3) := by decide +kernel
theorem d_PV_type_82 : decode prog_1_method_2_code 82 = .ok (.lload_n 1, 1) := by decide +kernel
theorem d_PV_type_83 : decode prog_1_method_2_code 83 = .ok (.iload 4, 2) := by decide +kernel
theorem d_PV_type_85 : decode prog_1_method_2_code 85 = .ok (.invokestatic 51, 3) := by decide +kernel
theorem d_PV_type_88 : decode prog_1_method_2_code 88 = .ok (.i2c, 1) := by decide +kernel
theorem d_PV_type_89 : decode prog_1_method_2_code 89 = .ok (.castore, 1) := by decide +kernel
theorem d_PV_type_90 : decode prog_1_method_2_code 90 = .ok (.aload_n 0, 1) := by decide +kernel
theorem d_PV_type_91 : decode prog_1_method_2_code 91 = .ok (.dup, 1) := by decide +kernel
theorem d_PV_type_92 : decode prog_1_method_2_code 92 = .ok (.getfield 48, 3) := by decide +kernel
theorem d_PV_type_95 : decode prog_1_method_2_code 95 = .ok (.iconst 1, 1) := by decide +kernel
theorem d_PV_type_96 : decode prog_1_method_2_code 96 = .ok (.iadd, 1) := by decide +kernel
theorem d_PV_type_97 : decode prog_1_method_2_code 97 = .ok (.putfield 48, 3) := by decide +kernel
theorem d_PV_type_100 : decode prog_1_method_2_code 100 = .ok (.iinc 4 (-1), 3) := by decide +kernel
theorem d_PV_type_103 : decode prog_1_method_2_code 103 = .ok (.goto (-34), 3) := by decide +kernel
theorem d_PV_type_106 : decode prog_1_method_2_code 106 = .ok (.aload_n 0, 1) := by decide +kernel
theorem d_PV_type_107 : decode prog_1_method_2_code 107 = .ok (.getfield 48, 3) := by decide +kernel
theorem d_PV_type_110 : decode prog_1_method_2_code 110 = .ok (.ireturn, 1) := by decide +kernel
def f_PV_type_69b (k_69 : pv_S → Int64 → Int32 → Option (Int32 × pv_S)) (σ : pv_S) (x1 : Int64) (x4 : Int32) : Option (Int32 × pv_S) :=
  (if x4 < 0 then
  some ((σ.1 0 1), σ)
  else
  ((f_PV_byteOf σ x1 x4).bind fun q2 =>
(if pv_in (σ.1 0 1) 300 = true then
k_69 (pv_uI (pv_uI q2.2 1 ((σ.1 0 1)).toNatClampNeg (vp_nar .char (((q2.1).toUInt32 % 65536).toInt32))) 0 1 (((pv_uI q2.2 1 ((σ.1 0 1)).toNatClampNeg (vp_nar .char (((q2.1).toUInt32 % 65536).toInt32))).1 0 1) + (1 : Int32))) x1 (x4 + (-1 : Int32))
  else none)))
set_option maxHeartbeats 4000000 in
set_option maxRecDepth 100000 in
theorem s_PV_type_69b {p : Program} {l : Launch} {e : Env} {R : Room} {s : State} {m : MethodId} {args : Array Value} {below : List Frame} {meth : Method} {c : Code} {Q : State → Prop} {D : va_G} {q : Nat → ClassId} {a t : Nat → Nat} {A : Nat → Prop} (C : pv_C p s m args c prog_1_method_2_code 6 "PatchVoices" pv_TB D pv_cl (pv_ty q) 52 a A (pv_ZX t A)) (hmv : pv_mv A (pv_ZX t A)) (hRf : 1 ≤ R.frames) (hRl : 22 ≤ R.locals) {out : (Int32 × pv_S)} (hret : pv_Ri p l e R s m args below meth c prog_1_method_2_code D pv_cl 52 a (pv_FX q a) A Q out) {k_69 : pv_S → Int64 → Int32 → Option (Int32 × pv_S)} (hk_69 : ∀ (σ : pv_S) (x1 : Int64) (x4 : Int32) (H : Heap) (locs : List Loc) (ls : Array Slot), k_69 σ x1 x4 = some out → lv_has ls 6 [(0, .ref (a 0)), (1, .long x1), (4, .int x4)] → pv_W D pv_cl 52 a (pv_FX q a) σ H → va_S A s.heap H locs → W p l e R s m args below meth c H locs 0 0 Q (F0 m 69 ls [])) {σ : pv_S} {x1 : Int64} {x4 : Int32} {H : Heap} {locs : List Loc} {ls : Array Slot} (hl : lv_has ls 6 [(0, .ref (a 0)), (1, .long x1), (4, .int x4)]) (hP : pv_W D pv_cl 52 a (pv_FX q a) σ H) (hS : va_S A s.heap H locs) (hf : f_PV_type_69b k_69 σ x1 x4 = some out) : W p l e R s m args below meth c H locs 0 0 Q (F0 m 69 ls []) := by
  unfold f_PV_type_69b at hf
  have hx := C.1
  have hb := C.2.1
  refine lv_iload hx hb d_PV_type_69 (lv_at hl 2 rfl) ?_
  refine lv_if_lt (tgt := 106) hx hb d_PV_type_71 (by decide) (fun h => ?_) (fun h => ?_)
  · have hf := pv_t hf h
    refine lv_aload_n hx hb d_PV_type_106 rfl (lv_at hl 0 rfl) ?_
    refine pv_get C hP (v := .int (σ.1 0 1)) (j := 1) (by decide) (fx_0 _ _ _ _) fl_PV_48 rfl d_PV_type_107 ?_
    obtain rfl := Option.some.inj hf
    exact hret _ _ _ _ d_PV_type_110 hP hS
  · have hf := pv_f hf h
    refine lv_aload_n hx hb d_PV_type_74 rfl (lv_at hl 0 rfl) ?_
    refine pv_get C hP (v := .ref (a 1)) (j := 0) (by decide) (fx_0 _ _ _ _) fl_PV_9 rfl d_PV_type_75 ?_
    refine lv_aload_n hx hb d_PV_type_78 rfl (lv_at hl 0 rfl) ?_
    refine pv_get C hP (v := .int (σ.1 0 1)) (j := 1) (by decide) (fx_0 _ _ _ _) fl_PV_48 rfl d_PV_type_79 ?_
    refine lv_lload_n hx hb d_PV_type_82 rfl (lv_at hl 1 rfl) ?_
    refine lv_iload hx hb d_PV_type_83 (lv_at hl 2 rfl) ?_
    obtain ⟨q2, hc, hf⟩ := pv_b hf
    refine pv_callSi C hmv pv_good hP hS (As := [.long x1, .int x4]) (rest := [.int (σ.1 0 1), .ref (a 1)]) (c_PV_byteOf C.2.2.2.2.2.2.1 hmv hc) cs_PV_51 ⟨rfl, rfl, Nat.le_trans (Nat.le_of_ble_eq_true rfl) hRf, Nat.le_trans (Nat.le_of_ble_eq_true rfl) hRl⟩ rfl hl.1 rfl (Nat.le_of_ble_eq_true rfl) d_PV_type_85 ⟨Nat.zero_le _, Nat.zero_le _⟩ (fun H locs hP hS => ?_)
    refine lv_i2c (v := ((q2.1).toUInt32 % 65536).toInt32) hx hb d_PV_type_88 rfl ?_
    obtain ⟨hg, hf⟩ := pv_g hf
    refine pv_cast C hP hS (t0 := 1) (x := (((q2.1).toUInt32 % 65536).toInt32)) (by decide) (fun f g => (fx_1 _ _ f g)) rfl hg d_PV_type_89 (fun H locs hP hS => ?_)
    refine lv_aload_n hx hb d_PV_type_90 rfl (lv_at hl 0 rfl) ?_
    refine lv_dup hx hb d_PV_type_91 rfl ?_
    refine pv_get C hP (v := .int ((pv_uI q2.2 1 ((σ.1 0 1)).toNatClampNeg (vp_nar .char (((q2.1).toUInt32 % 65536).toInt32))).1 0 1)) (j := 1) (by decide) (fx_0 _ _ _ _) fl_PV_48 rfl d_PV_type_92 ?_
    refine lv_iconst (v := (1 : Int32)) hx hb d_PV_type_95 (by decide) ?_
    refine lv_iadd hx hb d_PV_type_96 ?_
    refine pv_putI C hP hS (x := (((pv_uI q2.2 1 ((σ.1 0 1)).toNatClampNeg (vp_nar .char (((q2.1).toUInt32 % 65536).toInt32))).1 0 1) + (1 : Int32))) (by decide) (fx_0 _ _ _ _) fw_PV_48 rfl rfl (Nat.le_of_ble_eq_true rfl) (fxs_0_1 _ _ _ _ _) d_PV_type_97 (fun H locs hP hS => ?_)
    refine lv_iinc (k := 2) (v := (x4 + (-1 : Int32))) (lv' := [(4, .int (x4 + (-1 : Int32))), (0, .ref (a 0)), (1, .long x1)]) hx hb d_PV_type_100 hl rfl (pv_inc (by decide)) (by decide) rfl (fun ls hl => ?_)
    refine lv_goto (tgt := 69) hx hb d_PV_type_103 (by decide) ?_
    exact hk_69 _ _ _ _ _ _ hf (lv_sub hl [1, 2, 0] rfl) hP hS
def f_PV_type_69 : Nat → pv_S → Int64 → Int32 → Option (Int32 × pv_S)
  | 0 => fun _ _ _ => none
  | n + 1 => f_PV_type_69b (f_PV_type_69 n)
set_option maxHeartbeats 4000000 in
theorem s_PV_type_69 {p : Program} {l : Launch} {e : Env} {R : Room} {s : State} {m : MethodId} {args : Array Value} {below : List Frame} {meth : Method} {c : Code} {Q : State → Prop} {D : va_G} {q : Nat → ClassId} {a t : Nat → Nat} {A : Nat → Prop} (C : pv_C p s m args c prog_1_method_2_code 6 "PatchVoices" pv_TB D pv_cl (pv_ty q) 52 a A (pv_ZX t A)) (hmv : pv_mv A (pv_ZX t A)) (hRf : 1 ≤ R.frames) (hRl : 22 ≤ R.locals) {out : (Int32 × pv_S)} (hret : pv_Ri p l e R s m args below meth c prog_1_method_2_code D pv_cl 52 a (pv_FX q a) A Q out) (n : Nat) : ∀ {σ : pv_S} {x1 : Int64} {x4 : Int32} {H : Heap} {locs : List Loc} {ls : Array Slot}, lv_has ls 6 [(0, .ref (a 0)), (1, .long x1), (4, .int x4)] → pv_W D pv_cl 52 a (pv_FX q a) σ H → va_S A s.heap H locs → f_PV_type_69 n σ x1 x4 = some out → W p l e R s m args below meth c H locs 0 0 Q (F0 m 69 ls []) := by
  induction n with
  | zero => intro σ x1 x4 H locs ls hl hP hS hf; cases hf
  | succ n ih => intro σ x1 x4 H locs ls hl hP hS hf; exact s_PV_type_69b C hmv hRf hRl hret (fun σ x1 x4 H locs ls hf hl hP hS => ih hl hP hS hf) hl hP hS hf
def f_PV_type_28b (k_28 : pv_S → Int64 → Int32 → Int32 → Option (Int32 × pv_S)) (σ : pv_S) (x1 : Int64) (x3 : Int32) (x4 : Int32) : Option (Int32 × pv_S) :=
  (if x3 ≤ x4 then
  f_PV_type_69 pv_fu σ x1 (x3 - (1 : Int32))
  else
  ((f_PV_byteOf σ x1 x4).bind fun q1 =>
(if q1.1 < (32 : Int32) then
  some ((-1 : Int32), q1.2)
  else
  (if q1.1 ≤ (126 : Int32) then
  k_28 q1.2 x1 x3 (x4 + (1 : Int32))
  else
  some ((-1 : Int32), q1.2)))))
set_option maxHeartbeats 4000000 in
set_option maxRecDepth 100000 in
theorem s_PV_type_28b {p : Program} {l : Launch} {e : Env} {R : Room} {s : State} {m : MethodId} {args : Array Value} {below : List Frame} {meth : Method} {c : Code} {Q : State → Prop} {D : va_G} {q : Nat → ClassId} {a t : Nat → Nat} {A : Nat → Prop} (C : pv_C p s m args c prog_1_method_2_code 6 "PatchVoices" pv_TB D pv_cl (pv_ty q) 52 a A (pv_ZX t A)) (hmv : pv_mv A (pv_ZX t A)) (hRf : 1 ≤ R.frames) (hRl : 22 ≤ R.locals) {out : (Int32 × pv_S)} (hret : pv_Ri p l e R s m args below meth c prog_1_method_2_code D pv_cl 52 a (pv_FX q a) A Q out) {k_28 : pv_S → Int64 → Int32 → Int32 → Option (Int32 × pv_S)} (hk_28 : ∀ (σ : pv_S) (x1 : Int64) (x3 : Int32) (x4 : Int32) (H : Heap) (locs : List Loc) (ls : Array Slot), k_28 σ x1 x3 x4 = some out → lv_has ls 6 [(0, .ref (a 0)), (1, .long x1), (3, .int x3), (4, .int x4)] → pv_W D pv_cl 52 a (pv_FX q a) σ H → va_S A s.heap H locs → W p l e R s m args below meth c H locs 0 0 Q (F0 m 28 ls [])) {σ : pv_S} {x1 : Int64} {x3 : Int32} {x4 : Int32} {H : Heap} {locs : List Loc} {ls : Array Slot} (hl : lv_has ls 6 [(0, .ref (a 0)), (1, .long x1), (3, .int x3), (4, .int x4)]) (hP : pv_W D pv_cl 52 a (pv_FX q a) σ H) (hS : va_S A s.heap H locs) (hf : f_PV_type_28b k_28 σ x1 x3 x4 = some out) : W p l e R s m args below meth c H locs 0 0 Q (F0 m 28 ls []) := by
  unfold f_PV_type_28b at hf
  have hx := C.1
  have hb := C.2.1
  refine lv_iload hx hb d_PV_type_28 (lv_at hl 3 rfl) ?_
  refine lv_iload_n hx hb d_PV_type_30 rfl (lv_at hl 2 rfl) ?_
  refine lv_icmp_ge (tgt := 64) hx hb d_PV_type_31 (by decide) (fun h => ?_) (fun h => ?_)
  · have hf := pv_t hf h
    refine lv_iload_n hx hb d_PV_type_64 rfl (lv_at hl 2 rfl) ?_
    refine lv_iconst (v := (1 : Int32)) hx hb d_PV_type_65 (by decide) ?_
    refine lv_isub hx hb d_PV_type_66 ?_
    refine lv_istore (lv' := [(4, .int (x3 - (1 : Int32))), (0, .ref (a 0)), (1, .long x1), (3, .int x3)]) hx hb d_PV_type_67 hl (by decide) rfl (fun ls hl => ?_)
    exact s_PV_type_69 C hmv hRf hRl hret pv_fu (lv_sub hl [1, 2, 0] rfl) hP hS hf
  · have hf := pv_f hf h
    refine lv_lload_n hx hb d_PV_type_34 rfl (lv_at hl 1 rfl) ?_
    refine lv_iload hx hb d_PV_type_35 (lv_at hl 3 rfl) ?_
    obtain ⟨q1, hc, hf⟩ := pv_b hf
    refine pv_callSi C hmv pv_good hP hS (As := [.long x1, .int x4]) (rest := []) (c_PV_byteOf C.2.2.2.2.2.2.1 hmv hc) cs_PV_51 ⟨rfl, rfl, Nat.le_trans (Nat.le_of_ble_eq_true rfl) hRf, Nat.le_trans (Nat.le_of_ble_eq_true rfl) hRl⟩ rfl hl.1 rfl (Nat.le_of_ble_eq_true rfl) d_PV_type_37 ⟨Nat.zero_le _, Nat.zero_le _⟩ (fun H locs hP hS => ?_)
    refine lv_istore (lv' := [(5, .int q1.1), (0, .ref (a 0)), (1, .long x1), (3, .int x3), (4, .int x4)]) hx hb d_PV_type_40 hl (by decide) rfl (fun ls hl => ?_)
    refine lv_iload hx hb d_PV_type_42 (lv_at hl 0 rfl) ?_
    refine lv_bipush (v := (32 : Int32)) hx hb d_PV_type_44 (by decide) ?_
    refine lv_icmp_lt (tgt := 56) hx hb d_PV_type_46 (by decide) (fun h => ?_) (fun h => ?_)
    · have hf := pv_t hf h
      refine lv_iconst (v := (-1 : Int32)) hx hb d_PV_type_56 (by decide) ?_
      obtain rfl := Option.some.inj hf
      exact hret _ _ _ _ d_PV_type_57 hP hS
    · have hf := pv_f hf h
      refine lv_iload hx hb d_PV_type_49 (lv_at hl 0 rfl) ?_
      refine lv_bipush (v := (126 : Int32)) hx hb d_PV_type_51 (by decide) ?_
      refine lv_icmp_le (tgt := 58) hx hb d_PV_type_53 (by decide) (fun h => ?_) (fun h => ?_)
      · have hf := pv_t hf h
        refine lv_iinc (k := 4) (v := (x4 + (1 : Int32))) (lv' := [(4, .int (x4 + (1 : Int32))), (5, .int q1.1), (0, .ref (a 0)), (1, .long x1), (3, .int x3)]) hx hb d_PV_type_58 hl rfl (pv_inc (by decide)) (by decide) rfl (fun ls hl => ?_)
        refine lv_goto (tgt := 28) hx hb d_PV_type_61 (by decide) ?_
        exact hk_28 _ _ _ _ _ _ _ hf (lv_sub hl [2, 3, 4, 0] rfl) hP hS
      · have hf := pv_f hf h
        refine lv_iconst (v := (-1 : Int32)) hx hb d_PV_type_56 (by decide) ?_
        obtain rfl := Option.some.inj hf
        exact hret _ _ _ _ d_PV_type_57 hP hS
def f_PV_type_28 : Nat → pv_S → Int64 → Int32 → Int32 → Option (Int32 × pv_S)
  | 0 => fun _ _ _ _ => none
  | n + 1 => f_PV_type_28b (f_PV_type_28 n)
set_option maxHeartbeats 4000000 in
theorem s_PV_type_28 {p : Program} {l : Launch} {e : Env} {R : Room} {s : State} {m : MethodId} {args : Array Value} {below : List Frame} {meth : Method} {c : Code} {Q : State → Prop} {D : va_G} {q : Nat → ClassId} {a t : Nat → Nat} {A : Nat → Prop} (C : pv_C p s m args c prog_1_method_2_code 6 "PatchVoices" pv_TB D pv_cl (pv_ty q) 52 a A (pv_ZX t A)) (hmv : pv_mv A (pv_ZX t A)) (hRf : 1 ≤ R.frames) (hRl : 22 ≤ R.locals) {out : (Int32 × pv_S)} (hret : pv_Ri p l e R s m args below meth c prog_1_method_2_code D pv_cl 52 a (pv_FX q a) A Q out) (n : Nat) : ∀ {σ : pv_S} {x1 : Int64} {x3 : Int32} {x4 : Int32} {H : Heap} {locs : List Loc} {ls : Array Slot}, lv_has ls 6 [(0, .ref (a 0)), (1, .long x1), (3, .int x3), (4, .int x4)] → pv_W D pv_cl 52 a (pv_FX q a) σ H → va_S A s.heap H locs → f_PV_type_28 n σ x1 x3 x4 = some out → W p l e R s m args below meth c H locs 0 0 Q (F0 m 28 ls []) := by
  induction n with
  | zero => intro σ x1 x3 x4 H locs ls hl hP hS hf; cases hf
  | succ n ih => intro σ x1 x3 x4 H locs ls hl hP hS hf; exact s_PV_type_28b C hmv hRf hRl hret (fun σ x1 x3 x4 H locs ls hf hl hP hS => ih hl hP hS hf) hl hP hS hf
def f_PV_type_0 (σ : pv_S) (x1 : Int64) (x3 : Int32) : Option (Int32 × pv_S) :=
  (if x3 < (1 : Int32) then
  some ((-1 : Int32), σ)
  else
  (if (8 : Int32) < x3 then
  some ((-1 : Int32), σ)
  else
  (if ((σ.1 0 1) + x3) ≤ (300 : Int32) then
  f_PV_type_28 pv_fu σ x1 x3 (0 : Int32)
  else
  some ((-1 : Int32), σ))))
set_option maxHeartbeats 4000000 in
set_option maxRecDepth 100000 in
theorem s_PV_type_0 {p : Program} {l : Launch} {e : Env} {R : Room} {s : State} {m : MethodId} {args : Array Value} {below : List Frame} {meth : Method} {c : Code} {Q : State → Prop} {D : va_G} {q : Nat → ClassId} {a t : Nat → Nat} {A : Nat → Prop} (C : pv_C p s m args c prog_1_method_2_code 6 "PatchVoices" pv_TB D pv_cl (pv_ty q) 52 a A (pv_ZX t A)) (hmv : pv_mv A (pv_ZX t A)) (hRf : 1 ≤ R.frames) (hRl : 22 ≤ R.locals) {out : (Int32 × pv_S)} (hret : pv_Ri p l e R s m args below meth c prog_1_method_2_code D pv_cl 52 a (pv_FX q a) A Q out) {σ : pv_S} {x1 : Int64} {x3 : Int32} {H : Heap} {locs : List Loc} {ls : Array Slot} (hl : lv_has ls 6 [(0, .ref (a 0)), (1, .long x1), (3, .int x3)]) (hP : pv_W D pv_cl 52 a (pv_FX q a) σ H) (hS : va_S A s.heap H locs) (hf : f_PV_type_0 σ x1 x3 = some out) : W p l e R s m args below meth c H locs 0 0 Q (F0 m 0 ls []) := by
  unfold f_PV_type_0 at hf
  have hx := C.1
  have hb := C.2.1
  refine lv_iload_n hx hb d_PV_type_0 rfl (lv_at hl 2 rfl) ?_
  refine lv_iconst (v := (1 : Int32)) hx hb d_PV_type_1 (by decide) ?_
  refine lv_icmp_lt (tgt := 23) hx hb d_PV_type_2 (by decide) (fun h => ?_) (fun h => ?_)
  · have hf := pv_t hf h
    refine lv_iconst (v := (-1 : Int32)) hx hb d_PV_type_23 (by decide) ?_
    obtain rfl := Option.some.inj hf
    exact hret _ _ _ _ d_PV_type_24 hP hS
  · have hf := pv_f hf h
    refine lv_iload_n hx hb d_PV_type_5 rfl (lv_at hl 2 rfl) ?_
    refine lv_bipush (v := (8 : Int32)) hx hb d_PV_type_6 (by decide) ?_
    refine lv_icmp_gt (tgt := 23) hx hb d_PV_type_8 (by decide) (fun h => ?_) (fun h => ?_)
    · have hf := pv_t hf h
      refine lv_iconst (v := (-1 : Int32)) hx hb d_PV_type_23 (by decide) ?_
      obtain rfl := Option.some.inj hf
      exact hret _ _ _ _ d_PV_type_24 hP hS
    · have hf := pv_f hf h
      refine lv_aload_n hx hb d_PV_type_11 rfl (lv_at hl 0 rfl) ?_
      refine pv_get C hP (v := .int (σ.1 0 1)) (j := 1) (by decide) (fx_0 _ _ _ _) fl_PV_48 rfl d_PV_type_12 ?_
      refine lv_iload_n hx hb d_PV_type_15 rfl (lv_at hl 2 rfl) ?_
      refine lv_iadd hx hb d_PV_type_16 ?_
      refine lv_sipush (v := (300 : Int32)) hx hb d_PV_type_17 (by decide) ?_
      refine lv_icmp_le (tgt := 25) hx hb d_PV_type_20 (by decide) (fun h => ?_) (fun h => ?_)
      · have hf := pv_t hf h
        refine lv_iconst (v := (0 : Int32)) hx hb d_PV_type_25 (by decide) ?_
        refine lv_istore (lv' := [(4, .int (0 : Int32)), (0, .ref (a 0)), (1, .long x1), (3, .int x3)]) hx hb d_PV_type_26 hl (by decide) rfl (fun ls hl => ?_)
        exact s_PV_type_28 C hmv hRf hRl hret pv_fu (lv_sub hl [1, 2, 3, 0] rfl) hP hS hf
      · have hf := pv_f hf h
        refine lv_iconst (v := (-1 : Int32)) hx hb d_PV_type_23 (by decide) ?_
        obtain rfl := Option.some.inj hf
        exact hret _ _ _ _ d_PV_type_24 hP hS
def f_PV_type (σ : pv_S) (x1 : Int64) (x3 : Int32) : Option (Int32 × pv_S) := f_PV_type_0 σ x1 x3
def rm_PV_type : Room := { frames := 1, cells := 0, slots := 0, locals := 22 }
theorem c_PV_type {l : Launch} {D : va_G} {q : Nat → ClassId} {a t : Nat → Nat} {A : Nat → Prop} (hD : pv_D 52 a A) (hmv : pv_mv A (pv_ZX t A)) {σ : pv_S} {x1 : Int64} {x3 : Int32} {out : (Int32 × pv_S)} (hf : f_PV_type σ x1 x3 = some out) : pv_Mi l y_PV_type (Cond.code y_PV_type prog_1_method_2_code 6 (some .int) :: pv_TB) rm_PV_type D pv_cl (pv_ty q) 52 a (pv_FX q a) A (pv_ZX t A) [.ref (a 0), .long x1, .int x3] σ out :=
  pv_ofI (by decide) (Nat.le_of_ble_eq_true rfl) hD (fun p e s m args below meth c Q ls C hret hl hP => s_PV_type_0 C hmv (Nat.le_refl _) (Nat.le_refl _) hret hl hP va_S.rf hf)
theorem d_PV_erase_0 : decode prog_1_method_4_code 0 = .ok (.aload_n 0, 1) := by decide +kernel
theorem d_PV_erase_1 : decode prog_1_method_4_code 1 = .ok (.getfield 48, 3) := by decide +kernel
theorem d_PV_erase_4 : decode prog_1_method_4_code 4 = .ok (.istore_n 1, 1) := by decide +kernel
theorem d_PV_erase_5 : decode prog_1_method_4_code 5 = .ok (.aload_n 0, 1) := by decide +kernel
theorem d_PV_erase_6 : decode prog_1_method_4_code 6 = .ok (.iconst 0, 1) := by decide +kernel
theorem d_PV_erase_7 : decode prog_1_method_4_code 7 = .ok (.putfield 48, 3) := by decide +kernel
theorem d_PV_erase_10 : decode prog_1_method_4_code 10 = .ok (.iload_n 1, 1) := by decide +kernel
theorem d_PV_erase_11 : decode prog_1_method_4_code 11 = .ok (.ireturn, 1) := by decide +kernel
def f_PV_erase_0 (σ : pv_S) : Option (Int32 × pv_S) :=
  some ((σ.1 0 1), (pv_uI σ 0 1 (0 : Int32)))
set_option maxHeartbeats 4000000 in
set_option maxRecDepth 100000 in
theorem s_PV_erase_0 {p : Program} {l : Launch} {e : Env} {R : Room} {s : State} {m : MethodId} {args : Array Value} {below : List Frame} {meth : Method} {c : Code} {Q : State → Prop} {D : va_G} {q : Nat → ClassId} {a t : Nat → Nat} {A : Nat → Prop} (C : pv_C p s m args c prog_1_method_4_code 2 "PatchVoices" pv_TB D pv_cl (pv_ty q) 52 a A (pv_ZX t A)) (hmv : pv_mv A (pv_ZX t A)) (hRf : 0 ≤ R.frames) (hRl : 0 ≤ R.locals) {out : (Int32 × pv_S)} (hret : pv_Ri p l e R s m args below meth c prog_1_method_4_code D pv_cl 52 a (pv_FX q a) A Q out) {σ : pv_S} {H : Heap} {locs : List Loc} {ls : Array Slot} (hl : lv_has ls 2 [(0, .ref (a 0))]) (hP : pv_W D pv_cl 52 a (pv_FX q a) σ H) (hS : va_S A s.heap H locs) (hf : f_PV_erase_0 σ = some out) : W p l e R s m args below meth c H locs 0 0 Q (F0 m 0 ls []) := by
  unfold f_PV_erase_0 at hf
  have hx := C.1
  have hb := C.2.1
  refine lv_aload_n hx hb d_PV_erase_0 rfl (lv_at hl 0 rfl) ?_
  refine pv_get C hP (v := .int (σ.1 0 1)) (j := 1) (by decide) (fx_0 _ _ _ _) fl_PV_48 rfl d_PV_erase_1 ?_
  refine lv_istore_n (lv' := [(1, .int (σ.1 0 1)), (0, .ref (a 0))]) hx hb d_PV_erase_4 rfl hl (by decide) rfl (fun ls hl => ?_)
  refine lv_aload_n hx hb d_PV_erase_5 rfl (lv_at hl 1 rfl) ?_
  refine lv_iconst (v := (0 : Int32)) hx hb d_PV_erase_6 (by decide) ?_
  refine pv_putI C hP hS (x := (0 : Int32)) (by decide) (fx_0 _ _ _ _) fw_PV_48 rfl rfl (Nat.le_of_ble_eq_true rfl) (fxs_0_1 _ _ _ _ _) d_PV_erase_7 (fun H locs hP hS => ?_)
  refine lv_iload_n hx hb d_PV_erase_10 rfl (lv_at hl 0 rfl) ?_
  obtain rfl := Option.some.inj hf
  exact hret _ _ _ _ d_PV_erase_11 hP hS
def f_PV_erase (σ : pv_S) : Option (Int32 × pv_S) := f_PV_erase_0 σ
def rm_PV_erase : Room := { frames := 0, cells := 0, slots := 0, locals := 0 }
theorem c_PV_erase {l : Launch} {D : va_G} {q : Nat → ClassId} {a t : Nat → Nat} {A : Nat → Prop} (hD : pv_D 52 a A) (hmv : pv_mv A (pv_ZX t A)) {σ : pv_S} {out : (Int32 × pv_S)} (hf : f_PV_erase σ = some out) : pv_Mi l y_PV_erase (Cond.code y_PV_erase prog_1_method_4_code 2 (some .int) :: pv_TB) rm_PV_erase D pv_cl (pv_ty q) 52 a (pv_FX q a) A (pv_ZX t A) [.ref (a 0)] σ out :=
  pv_ofI (by decide) (Nat.le_of_ble_eq_true rfl) hD (fun p e s m args below meth c Q ls C hret hl hP => s_PV_erase_0 C hmv (Nat.le_refl _) (Nat.le_refl _) hret hl hP va_S.rf hf)
theorem d_PV_fallSilent_0 : decode prog_1_method_25_code 0 = .ok (.iconst 0, 1) := by decide +kernel
theorem d_PV_fallSilent_1 : decode prog_1_method_25_code 1 = .ok (.istore_n 1, 1) := by decide +kernel
theorem d_PV_fallSilent_2 : decode prog_1_method_25_code 2 = .ok (.iload_n 1, 1) := by decide +kernel
theorem d_PV_fallSilent_3 : decode prog_1_method_25_code 3 = .ok (.iconst 4, 1) := by decide +kernel
theorem d_PV_fallSilent_4 : decode prog_1_method_25_code 4 = .ok (.if_icmp .ge 18, 3) := by decide +kernel
theorem d_PV_fallSilent_7 : decode prog_1_method_25_code 7 = .ok (.aload_n 0, 1) := by decide +kernel
theorem d_PV_fallSilent_8 : decode prog_1_method_25_code 8 = .ok (.getfield 33, 3) := by decide +kernel
theorem d_PV_fallSilent_11 : decode prog_1_method_25_code 11 = .ok (.iload_n 1, 1) := by decide +kernel
theorem d_PV_fallSilent_12 : decode prog_1_method_25_code 12 = .ok (.aaload, 1) := by decide +kernel
theorem d_PV_fallSilent_13 : decode prog_1_method_25_code 13 = .ok (.invokevirtual 217, 3) := by decide +kernel
theorem d_PV_fallSilent_16 : decode prog_1_method_25_code 16 = .ok (.iinc 1 1, 3) := by decide +kernel
theorem d_PV_fallSilent_19 : decode prog_1_method_25_code 19 = .ok (.goto (-17), 3) := by decide +kernel
theorem d_PV_fallSilent_22 : decode prog_1_method_25_code 22 = .ok (.aload_n 0, 1) := by decide +kernel
theorem d_PV_fallSilent_23 : decode prog_1_method_25_code 23 = .ok (.iconst 0, 1) := by decide +kernel
theorem d_PV_fallSilent_24 : decode prog_1_method_25_code 24 = .ok (.putfield 169, 3) := by decide +kernel
theorem d_PV_fallSilent_27 : decode prog_1_method_25_code 27 = .ok (.return_, 1) := by decide +kernel
def f_PV_fallSilent_2b (k_2 : pv_S → Int32 → Option pv_S) (σ : pv_S) (x1 : Int32) : Option pv_S :=
  (if (4 : Int32) ≤ x1 then
  some (pv_uI σ 0 11 (0 : Int32))
  else
  (if pv_in x1 4 = true then
((f_Vc_release ((x1).toNatClampNeg) σ).bind fun q1 =>
k_2 q1 (x1 + (1 : Int32)))
  else none))
set_option maxHeartbeats 4000000 in
set_option maxRecDepth 100000 in
theorem s_PV_fallSilent_2b {p : Program} {l : Launch} {e : Env} {R : Room} {s : State} {m : MethodId} {args : Array Value} {below : List Frame} {meth : Method} {c : Code} {Q : State → Prop} {D : va_G} {q : Nat → ClassId} {a t : Nat → Nat} {A : Nat → Prop} (C : pv_C p s m args c prog_1_method_25_code 2 "PatchVoices" pv_TB D pv_cl (pv_ty q) 52 a A (pv_ZX t A)) (hmv : pv_mv A (pv_ZX t A)) (hRf : 1 ≤ R.frames) (hRl : 20 ≤ R.locals) {out : pv_S} (hret : pv_Rv p l e R s m args below meth c prog_1_method_25_code D pv_cl 52 a (pv_FX q a) A Q out) {k_2 : pv_S → Int32 → Option pv_S} (hk_2 : ∀ (σ : pv_S) (x1 : Int32) (H : Heap) (locs : List Loc) (ls : Array Slot), k_2 σ x1 = some out → lv_has ls 2 [(0, .ref (a 0)), (1, .int x1)] → pv_W D pv_cl 52 a (pv_FX q a) σ H → va_S A s.heap H locs → W p l e R s m args below meth c H locs 0 0 Q (F0 m 2 ls [])) {σ : pv_S} {x1 : Int32} {H : Heap} {locs : List Loc} {ls : Array Slot} (hl : lv_has ls 2 [(0, .ref (a 0)), (1, .int x1)]) (hP : pv_W D pv_cl 52 a (pv_FX q a) σ H) (hS : va_S A s.heap H locs) (hf : f_PV_fallSilent_2b k_2 σ x1 = some out) : W p l e R s m args below meth c H locs 0 0 Q (F0 m 2 ls []) := by
  unfold f_PV_fallSilent_2b at hf
  have hx := C.1
  have hb := C.2.1
  refine lv_iload_n hx hb d_PV_fallSilent_2 rfl (lv_at hl 1 rfl) ?_
  refine lv_iconst (v := (4 : Int32)) hx hb d_PV_fallSilent_3 (by decide) ?_
  refine lv_icmp_ge (tgt := 22) hx hb d_PV_fallSilent_4 (by decide) (fun h => ?_) (fun h => ?_)
  · have hf := pv_t hf h
    refine lv_aload_n hx hb d_PV_fallSilent_22 rfl (lv_at hl 0 rfl) ?_
    refine lv_iconst (v := (0 : Int32)) hx hb d_PV_fallSilent_23 (by decide) ?_
    refine pv_putI C hP hS (x := (0 : Int32)) (by decide) (fx_0 _ _ _ _) fw_PV_169 rfl rfl (Nat.le_of_ble_eq_true rfl) (fxs_0_11 _ _ _ _ _) d_PV_fallSilent_24 (fun H locs hP hS => ?_)
    obtain rfl := Option.some.inj hf
    exact hret _ _ _ _ d_PV_fallSilent_27 hP hS
  · have hf := pv_f hf h
    refine lv_aload_n hx hb d_PV_fallSilent_7 rfl (lv_at hl 0 rfl) ?_
    refine pv_get C hP (v := .ref (a 25)) (j := 6) (by decide) (fx_0 _ _ _ _) fl_PV_33 rfl d_PV_fallSilent_8 ?_
    refine lv_iload_n hx hb d_PV_fallSilent_11 rfl (lv_at hl 1 rfl) ?_
    obtain ⟨hg, hf⟩ := pv_g hf
    have hi1 := hg
    have hi1l := pv_in_lt hi1
    refine pv_aald C hP (t0 := 4) (b := a (28 + 6 * (x1).toNatClampNeg)) (by decide) (fx_25 _ _ _ _) rfl hg (if_pos hi1l) d_PV_fallSilent_12 ?_
    obtain ⟨q1, hc, hf⟩ := pv_b hf
    refine pv_callVv C hmv pv_good hP hS (As := []) (rest := []) (by omega) (fx_v0 hi1l _ _ _ _) rfl (c_Vc_release hi1l C.2.2.2.2.2.2.1 hmv hc) cv_PV_217 ⟨rfl, rfl, Nat.le_trans (Nat.le_of_ble_eq_true rfl) hRf, Nat.le_trans (Nat.le_of_ble_eq_true rfl) hRl⟩ rfl hl.1 rfl (Nat.le_of_ble_eq_true rfl) d_PV_fallSilent_13 ⟨Nat.zero_le _, Nat.zero_le _⟩ (fun H locs hP hS => ?_)
    refine lv_iinc (k := 1) (v := (x1 + (1 : Int32))) (lv' := [(1, .int (x1 + (1 : Int32))), (0, .ref (a 0))]) hx hb d_PV_fallSilent_16 hl rfl (pv_inc (by decide)) (by decide) rfl (fun ls hl => ?_)
    refine lv_goto (tgt := 2) hx hb d_PV_fallSilent_19 (by decide) ?_
    exact hk_2 _ _ _ _ _ hf (lv_sub hl [1, 0] rfl) hP hS
def f_PV_fallSilent_2 : Nat → pv_S → Int32 → Option pv_S
  | 0 => fun _ _ => none
  | n + 1 => f_PV_fallSilent_2b (f_PV_fallSilent_2 n)
set_option maxHeartbeats 4000000 in
theorem s_PV_fallSilent_2 {p : Program} {l : Launch} {e : Env} {R : Room} {s : State} {m : MethodId} {args : Array Value} {below : List Frame} {meth : Method} {c : Code} {Q : State → Prop} {D : va_G} {q : Nat → ClassId} {a t : Nat → Nat} {A : Nat → Prop} (C : pv_C p s m args c prog_1_method_25_code 2 "PatchVoices" pv_TB D pv_cl (pv_ty q) 52 a A (pv_ZX t A)) (hmv : pv_mv A (pv_ZX t A)) (hRf : 1 ≤ R.frames) (hRl : 20 ≤ R.locals) {out : pv_S} (hret : pv_Rv p l e R s m args below meth c prog_1_method_25_code D pv_cl 52 a (pv_FX q a) A Q out) (n : Nat) : ∀ {σ : pv_S} {x1 : Int32} {H : Heap} {locs : List Loc} {ls : Array Slot}, lv_has ls 2 [(0, .ref (a 0)), (1, .int x1)] → pv_W D pv_cl 52 a (pv_FX q a) σ H → va_S A s.heap H locs → f_PV_fallSilent_2 n σ x1 = some out → W p l e R s m args below meth c H locs 0 0 Q (F0 m 2 ls []) := by
  induction n with
  | zero => intro σ x1 H locs ls hl hP hS hf; cases hf
  | succ n ih => intro σ x1 H locs ls hl hP hS hf; exact s_PV_fallSilent_2b C hmv hRf hRl hret (fun σ x1 H locs ls hf hl hP hS => ih hl hP hS hf) hl hP hS hf
def f_PV_fallSilent_0 (σ : pv_S) : Option pv_S :=
  f_PV_fallSilent_2 pv_fu σ (0 : Int32)
set_option maxHeartbeats 4000000 in
set_option maxRecDepth 100000 in
theorem s_PV_fallSilent_0 {p : Program} {l : Launch} {e : Env} {R : Room} {s : State} {m : MethodId} {args : Array Value} {below : List Frame} {meth : Method} {c : Code} {Q : State → Prop} {D : va_G} {q : Nat → ClassId} {a t : Nat → Nat} {A : Nat → Prop} (C : pv_C p s m args c prog_1_method_25_code 2 "PatchVoices" pv_TB D pv_cl (pv_ty q) 52 a A (pv_ZX t A)) (hmv : pv_mv A (pv_ZX t A)) (hRf : 1 ≤ R.frames) (hRl : 20 ≤ R.locals) {out : pv_S} (hret : pv_Rv p l e R s m args below meth c prog_1_method_25_code D pv_cl 52 a (pv_FX q a) A Q out) {σ : pv_S} {H : Heap} {locs : List Loc} {ls : Array Slot} (hl : lv_has ls 2 [(0, .ref (a 0))]) (hP : pv_W D pv_cl 52 a (pv_FX q a) σ H) (hS : va_S A s.heap H locs) (hf : f_PV_fallSilent_0 σ = some out) : W p l e R s m args below meth c H locs 0 0 Q (F0 m 0 ls []) := by
  unfold f_PV_fallSilent_0 at hf
  have hx := C.1
  have hb := C.2.1
  refine lv_iconst (v := (0 : Int32)) hx hb d_PV_fallSilent_0 (by decide) ?_
  refine lv_istore_n (lv' := [(1, .int (0 : Int32)), (0, .ref (a 0))]) hx hb d_PV_fallSilent_1 rfl hl (by decide) rfl (fun ls hl => ?_)
  exact s_PV_fallSilent_2 C hmv hRf hRl hret pv_fu (lv_sub hl [1, 0] rfl) hP hS hf
def f_PV_fallSilent (σ : pv_S) : Option pv_S := f_PV_fallSilent_0 σ
def rm_PV_fallSilent : Room := { frames := 1, cells := 0, slots := 0, locals := 20 }
theorem c_PV_fallSilent {l : Launch} {D : va_G} {q : Nat → ClassId} {a t : Nat → Nat} {A : Nat → Prop} (hD : pv_D 52 a A) (hmv : pv_mv A (pv_ZX t A)) {σ : pv_S} {out : pv_S} (hf : f_PV_fallSilent σ = some out) : pv_Mv l y_PV_fallSilent (Cond.code y_PV_fallSilent prog_1_method_25_code 2 none :: pv_TB) rm_PV_fallSilent D pv_cl (pv_ty q) 52 a (pv_FX q a) A (pv_ZX t A) [.ref (a 0)] σ out :=
  pv_ofV (by decide) (Nat.le_of_ble_eq_true rfl) hD (fun p e s m args below meth c Q ls C hret hl hP => s_PV_fallSilent_0 C hmv (Nat.le_refl _) (Nat.le_refl _) hret hl hP va_S.rf hf)
theorem d_PV_compile_0 : decode prog_1_method_5_code 0 = .ok (.aload_n 0, 1) := by decide +kernel
theorem d_PV_compile_1 : decode prog_1_method_5_code 1 = .ok (.iconst (-1), 1) := by decide +kernel
theorem d_PV_compile_2 : decode prog_1_method_5_code 2 = .ok (.putfield 27, 3) := by decide +kernel
theorem d_PV_compile_5 : decode prog_1_method_5_code 5 = .ok (.aload_n 0, 1) := by decide +kernel
theorem d_PV_compile_6 : decode prog_1_method_5_code 6 = .ok (.getfield 16, 3) := by decide +kernel
theorem d_PV_compile_9 : decode prog_1_method_5_code 9 = .ok (.aload_n 0, 1) := by decide +kernel
theorem d_PV_compile_10 : decode prog_1_method_5_code 10 = .ok (.getfield 9, 3) := by decide +kernel
theorem d_PV_compile_13 : decode prog_1_method_5_code 13 = .ok (.aload_n 0, 1) := by decide +kernel
theorem d_PV_compile_14 : decode prog_1_method_5_code 14 = .ok (.getfield 48, 3) := by decide +kernel
theorem d_PV_compile_17 : decode prog_1_method_5_code 17 = .ok (.invokevirtual 55, 3) := by decide +kernel
theorem d_PV_compile_20 : decode prog_1_method_5_code 20 = .ok (.istore_n 1, 1) := by decide +kernel
theorem d_PV_compile_21 : decode prog_1_method_5_code 21 = .ok (.iload_n 1, 1) := by decide +kernel
theorem d_PV_compile_22 : decode prog_1_method_5_code 22 = .ok (.iconst (-1), 1) := by decide +kernel
theorem d_PV_compile_23 : decode prog_1_method_5_code 23 = .ok (.if_icmp .eq 7, 3) := by decide +kernel
theorem d_PV_compile_26 : decode prog_1_method_5_code 26 = .ok (.iconst (-1), 1) := by decide +kernel
theorem d_PV_compile_27 : decode prog_1_method_5_code 27 = .ok (.iload_n 1, 1) := by decide +kernel
theorem d_PV_compile_28 : decode prog_1_method_5_code 28 = .ok (.isub, 1) := by decide +kernel
theorem d_PV_compile_29 : decode prog_1_method_5_code 29 = .ok (.ireturn, 1) := by decide +kernel
theorem d_PV_compile_30 : decode prog_1_method_5_code 30 = .ok (.aload_n 0, 1) := by decide +kernel
theorem d_PV_compile_31 : decode prog_1_method_5_code 31 = .ok (.getfield 16, 3) := by decide +kernel
theorem d_PV_compile_34 : decode prog_1_method_5_code 34 = .ok (.getfield 59, 3) := by decide +kernel
theorem d_PV_compile_37 : decode prog_1_method_5_code 37 = .ok (.astore_n 2, 1) := by decide +kernel
theorem d_PV_compile_38 : decode prog_1_method_5_code 38 = .ok (.aload_n 2, 1) := by decide +kernel
theorem d_PV_compile_39 : decode prog_1_method_5_code 39 = .ok (.invokevirtual 63, 3) := by decide +kernel
theorem d_PV_compile_42 : decode prog_1_method_5_code 42 = .ok (.aload_n 2, 1) := by decide +kernel
theorem d_PV_compile_43 : decode prog_1_method_5_code 43 = .ok (.invokevirtual 68, 3) := by decide +kernel
theorem d_PV_compile_46 : decode prog_1_method_5_code 46 = .ok (.istore_n 3, 1) := by decide +kernel
theorem d_PV_compile_47 : decode prog_1_method_5_code 47 = .ok (.iload_n 3, 1) := by decide +kernel
theorem d_PV_compile_48 : decode prog_1_method_5_code 48 = .ok (.ifCond .eq 14, 3) := by decide +kernel
theorem d_PV_compile_51 : decode prog_1_method_5_code 51 = .ok (.aload_n 0, 1) := by decide +kernel
theorem d_PV_compile_52 : decode prog_1_method_5_code 52 = .ok (.aload_n 2, 1) := by decide +kernel
theorem d_PV_compile_53 : decode prog_1_method_5_code 53 = .ok (.iload_n 3, 1) := by decide +kernel
theorem d_PV_compile_54 : decode prog_1_method_5_code 54 = .ok (.invokevirtual 72, 3) := by decide +kernel
theorem d_PV_compile_57 : decode prog_1_method_5_code 57 = .ok (.putfield 27, 3) := by decide +kernel
theorem d_PV_compile_60 : decode prog_1_method_5_code 60 = .ok (.iload_n 3, 1) := by decide +kernel
theorem d_PV_compile_61 : decode prog_1_method_5_code 61 = .ok (.ireturn, 1) := by decide +kernel
theorem d_PV_compile_62 : decode prog_1_method_5_code 62 = .ok (.aload_n 0, 1) := by decide +kernel
theorem d_PV_compile_63 : decode prog_1_method_5_code 63 = .ok (.getfield 23, 3) := by decide +kernel
theorem d_PV_compile_66 : decode prog_1_method_5_code 66 = .ok (.aload_n 2, 1) := by decide +kernel
theorem d_PV_compile_67 : decode prog_1_method_5_code 67 = .ok (.aload_n 0, 1) := by decide +kernel
theorem d_PV_compile_68 : decode prog_1_method_5_code 68 = .ok (.getfield 76, 3) := by decide +kernel
theorem d_PV_compile_71 : decode prog_1_method_5_code 71 = .ok (.invokevirtual 80, 3) := by decide +kernel
theorem d_PV_compile_74 : decode prog_1_method_5_code 74 = .ok (.aload_n 0, 1) := by decide +kernel
theorem d_PV_compile_75 : decode prog_1_method_5_code 75 = .ok (.invokevirtual 84, 3) := by decide +kernel
theorem d_PV_compile_78 : decode prog_1_method_5_code 78 = .ok (.iconst 0, 1) := by decide +kernel
theorem d_PV_compile_79 : decode prog_1_method_5_code 79 = .ok (.ireturn, 1) := by decide +kernel
def f_PV_compile_0 (σ : pv_S) : Option (Int32 × pv_S) :=
  ((f_Rd_read (pv_uI σ 0 5 (-1 : Int32)) ((pv_uI σ 0 5 (-1 : Int32)).1 0 1)).bind fun q1 =>
(if q1.1 = (-1 : Int32) then
  ((f_Pt_tieCords q1.2).bind fun q2 =>
((f_Pt_firstFault q2).bind fun q3 =>
(if q3.1 = 0 then
  ((f_Pg_make q3.2 (q3.2.1 0 4)).bind fun q4 =>
((f_PV_fallSilent q4).bind fun q5 =>
some ((0 : Int32), q5)))
  else
  ((f_Pt_leastWith q3.2 q3.1).bind fun q6 =>
some (q3.1, (pv_uI q6.2 0 5 q6.1))))))
  else
  some (((-1 : Int32) - q1.1), q1.2)))
set_option maxHeartbeats 4000000 in
set_option maxRecDepth 100000 in
theorem s_PV_compile_0 {p : Program} {l : Launch} {e : Env} {R : Room} {s : State} {m : MethodId} {args : Array Value} {below : List Frame} {meth : Method} {c : Code} {Q : State → Prop} {D : va_G} {q : Nat → ClassId} {a t : Nat → Nat} {A : Nat → Prop} (C : pv_C p s m args c prog_1_method_5_code 4 "PatchVoices" pv_TB D pv_cl (pv_ty q) 52 a A (pv_ZX t A)) (hmv : pv_mv A (pv_ZX t A)) (hRf : 9 ≤ R.frames) (hRl : 195 ≤ R.locals) {out : (Int32 × pv_S)} (hret : pv_Ri p l e R s m args below meth c prog_1_method_5_code D pv_cl 52 a (pv_FX q a) A Q out) {σ : pv_S} {H : Heap} {locs : List Loc} {ls : Array Slot} (hl : lv_has ls 4 [(0, .ref (a 0))]) (hP : pv_W D pv_cl 52 a (pv_FX q a) σ H) (hS : va_S A s.heap H locs) (hf : f_PV_compile_0 σ = some out) : W p l e R s m args below meth c H locs 0 0 Q (F0 m 0 ls []) := by
  unfold f_PV_compile_0 at hf
  have hx := C.1
  have hb := C.2.1
  refine lv_aload_n hx hb d_PV_compile_0 rfl (lv_at hl 0 rfl) ?_
  refine lv_iconst (v := (-1 : Int32)) hx hb d_PV_compile_1 (by decide) ?_
  refine pv_putI C hP hS (x := (-1 : Int32)) (by decide) (fx_0 _ _ _ _) fw_PV_27 rfl rfl (Nat.le_of_ble_eq_true rfl) (fxs_0_5 _ _ _ _ _) d_PV_compile_2 (fun H locs hP hS => ?_)
  refine lv_aload_n hx hb d_PV_compile_5 rfl (lv_at hl 0 rfl) ?_
  refine pv_get C hP (v := .ref (a 2)) (j := 2) (by decide) (fx_0 _ _ _ _) fl_PV_16 rfl d_PV_compile_6 ?_
  refine lv_aload_n hx hb d_PV_compile_9 rfl (lv_at hl 0 rfl) ?_
  refine pv_get C hP (v := .ref (a 1)) (j := 0) (by decide) (fx_0 _ _ _ _) fl_PV_9 rfl d_PV_compile_10 ?_
  refine lv_aload_n hx hb d_PV_compile_13 rfl (lv_at hl 0 rfl) ?_
  refine pv_get C hP (v := .int ((pv_uI σ 0 5 (-1 : Int32)).1 0 1)) (j := 1) (by decide) (fx_0 _ _ _ _) fl_PV_48 rfl d_PV_compile_14 ?_
  obtain ⟨q1, hc, hf⟩ := pv_b hf
  refine pv_callVi C hmv pv_good hP hS (As := [.ref (a 1), .int ((pv_uI σ 0 5 (-1 : Int32)).1 0 1)]) (rest := []) (by decide) (fx_2 _ _ _ _) rfl (c_Rd_read C.2.2.2.2.2.2.1 hmv hc) cv_PV_55 ⟨rfl, rfl, Nat.le_trans (Nat.le_of_ble_eq_true rfl) hRf, Nat.le_trans (Nat.le_of_ble_eq_true rfl) hRl⟩ rfl hl.1 rfl (Nat.le_of_ble_eq_true rfl) d_PV_compile_17 ⟨Nat.zero_le _, Nat.zero_le _⟩ (fun H locs hP hS => ?_)
  refine lv_istore_n (lv' := [(1, .int q1.1), (0, .ref (a 0))]) hx hb d_PV_compile_20 rfl hl (by decide) rfl (fun ls hl => ?_)
  refine lv_iload_n hx hb d_PV_compile_21 rfl (lv_at hl 0 rfl) ?_
  refine lv_iconst (v := (-1 : Int32)) hx hb d_PV_compile_22 (by decide) ?_
  refine lv_icmp_eq (tgt := 30) hx hb d_PV_compile_23 (by decide) (fun h => ?_) (fun h => ?_)
  · have hf := pv_t hf h
    refine lv_aload_n hx hb d_PV_compile_30 rfl (lv_at hl 1 rfl) ?_
    refine pv_get C hP (v := .ref (a 2)) (j := 2) (by decide) (fx_0 _ _ _ _) fl_PV_16 rfl d_PV_compile_31 ?_
    refine pv_get C hP (v := .ref (a 3)) (j := 0) (by decide) (fx_2 _ _ _ _) fl_PV_59 rfl d_PV_compile_34 ?_
    refine lv_astore_n (lv' := [(2, .ref (a 3)), (1, .int q1.1), (0, .ref (a 0))]) hx hb d_PV_compile_37 rfl hl (by decide) rfl (fun ls hl => ?_)
    refine lv_aload_n hx hb d_PV_compile_38 rfl (lv_at hl 0 rfl) ?_
    obtain ⟨q2, hc, hf⟩ := pv_b hf
    refine pv_callVv C hmv pv_good hP hS (As := []) (rest := []) (by decide) (fx_3 _ _ _ _) rfl (c_Pt_tieCords C.2.2.2.2.2.2.1 hmv hc) cv_PV_63 ⟨rfl, rfl, Nat.le_trans (Nat.le_of_ble_eq_true rfl) hRf, Nat.le_trans (Nat.le_of_ble_eq_true rfl) hRl⟩ rfl hl.1 rfl (Nat.le_of_ble_eq_true rfl) d_PV_compile_39 ⟨Nat.zero_le _, Nat.zero_le _⟩ (fun H locs hP hS => ?_)
    refine lv_aload_n hx hb d_PV_compile_42 rfl (lv_at hl 0 rfl) ?_
    obtain ⟨q3, hc, hf⟩ := pv_b hf
    refine pv_callVi C hmv pv_good hP hS (As := []) (rest := []) (by decide) (fx_3 _ _ _ _) rfl (c_Pt_firstFault C.2.2.2.2.2.2.1 hmv hc) cv_PV_68 ⟨rfl, rfl, Nat.le_trans (Nat.le_of_ble_eq_true rfl) hRf, Nat.le_trans (Nat.le_of_ble_eq_true rfl) hRl⟩ rfl hl.1 rfl (Nat.le_of_ble_eq_true rfl) d_PV_compile_43 ⟨Nat.zero_le _, Nat.zero_le _⟩ (fun H locs hP hS => ?_)
    refine lv_istore_n (lv' := [(3, .int q3.1), (2, .ref (a 3)), (1, .int q1.1), (0, .ref (a 0))]) hx hb d_PV_compile_46 rfl hl (by decide) rfl (fun ls hl => ?_)
    refine lv_iload_n hx hb d_PV_compile_47 rfl (lv_at hl 0 rfl) ?_
    refine lv_if_eq (tgt := 62) hx hb d_PV_compile_48 (by decide) (fun h => ?_) (fun h => ?_)
    · have hf := pv_t hf h
      refine lv_aload_n hx hb d_PV_compile_62 rfl (lv_at hl 3 rfl) ?_
      refine pv_get C hP (v := .ref (a 11)) (j := 3) (by decide) (fx_0 _ _ _ _) fl_PV_23 rfl d_PV_compile_63 ?_
      refine lv_aload_n hx hb d_PV_compile_66 rfl (lv_at hl 1 rfl) ?_
      refine lv_aload_n hx hb d_PV_compile_67 rfl (lv_at hl 3 rfl) ?_
      refine pv_get C hP (v := .int (q3.2.1 0 4)) (j := 4) (by decide) (fx_0 _ _ _ _) fl_PV_76 rfl d_PV_compile_68 ?_
      obtain ⟨q4, hc, hf⟩ := pv_b hf
      refine pv_callVv C hmv pv_good hP hS (As := [.ref (a 3), .int (q3.2.1 0 4)]) (rest := []) (by decide) (fx_11 _ _ _ _) rfl (c_Pg_make C.2.2.2.2.2.2.1 hmv hc) cv_PV_80 ⟨rfl, rfl, Nat.le_trans (Nat.le_of_ble_eq_true rfl) hRf, Nat.le_trans (Nat.le_of_ble_eq_true rfl) hRl⟩ rfl hl.1 rfl (Nat.le_of_ble_eq_true rfl) d_PV_compile_71 ⟨Nat.zero_le _, Nat.zero_le _⟩ (fun H locs hP hS => ?_)
      refine lv_aload_n hx hb d_PV_compile_74 rfl (lv_at hl 3 rfl) ?_
      obtain ⟨q5, hc, hf⟩ := pv_b hf
      refine pv_callVv C hmv pv_good hP hS (As := []) (rest := []) (by decide) (fx_0 _ _ _ _) rfl (c_PV_fallSilent C.2.2.2.2.2.2.1 hmv hc) cv_PV_84 ⟨rfl, rfl, Nat.le_trans (Nat.le_of_ble_eq_true rfl) hRf, Nat.le_trans (Nat.le_of_ble_eq_true rfl) hRl⟩ rfl hl.1 rfl (Nat.le_of_ble_eq_true rfl) d_PV_compile_75 ⟨Nat.zero_le _, Nat.zero_le _⟩ (fun H locs hP hS => ?_)
      refine lv_iconst (v := (0 : Int32)) hx hb d_PV_compile_78 (by decide) ?_
      obtain rfl := Option.some.inj hf
      exact hret _ _ _ _ d_PV_compile_79 hP hS
    · have hf := pv_f hf h
      refine lv_aload_n hx hb d_PV_compile_51 rfl (lv_at hl 3 rfl) ?_
      refine lv_aload_n hx hb d_PV_compile_52 rfl (lv_at hl 1 rfl) ?_
      refine lv_iload_n hx hb d_PV_compile_53 rfl (lv_at hl 0 rfl) ?_
      obtain ⟨q6, hc, hf⟩ := pv_b hf
      refine pv_callVi C hmv pv_good hP hS (As := [.int q3.1]) (rest := [.ref (a 0)]) (by decide) (fx_3 _ _ _ _) rfl (c_Pt_leastWith C.2.2.2.2.2.2.1 hmv hc) cv_PV_72 ⟨rfl, rfl, Nat.le_trans (Nat.le_of_ble_eq_true rfl) hRf, Nat.le_trans (Nat.le_of_ble_eq_true rfl) hRl⟩ rfl hl.1 rfl (Nat.le_of_ble_eq_true rfl) d_PV_compile_54 ⟨Nat.zero_le _, Nat.zero_le _⟩ (fun H locs hP hS => ?_)
      refine pv_putI C hP hS (x := q6.1) (by decide) (fx_0 _ _ _ _) fw_PV_27 rfl rfl (Nat.le_of_ble_eq_true rfl) (fxs_0_5 _ _ _ _ _) d_PV_compile_57 (fun H locs hP hS => ?_)
      refine lv_iload_n hx hb d_PV_compile_60 rfl (lv_at hl 0 rfl) ?_
      obtain rfl := Option.some.inj hf
      exact hret _ _ _ _ d_PV_compile_61 hP hS
  · have hf := pv_f hf h
    refine lv_iconst (v := (-1 : Int32)) hx hb d_PV_compile_26 (by decide) ?_
    refine lv_iload_n hx hb d_PV_compile_27 rfl (lv_at hl 0 rfl) ?_
    refine lv_isub hx hb d_PV_compile_28 ?_
    obtain rfl := Option.some.inj hf
    exact hret _ _ _ _ d_PV_compile_29 hP hS
def f_PV_compile (σ : pv_S) : Option (Int32 × pv_S) := f_PV_compile_0 σ
def rm_PV_compile : Room := { frames := 9, cells := 0, slots := 0, locals := 195 }
theorem c_PV_compile {l : Launch} {D : va_G} {q : Nat → ClassId} {a t : Nat → Nat} {A : Nat → Prop} (hD : pv_D 52 a A) (hmv : pv_mv A (pv_ZX t A)) {σ : pv_S} {out : (Int32 × pv_S)} (hf : f_PV_compile σ = some out) : pv_Mi l y_PV_compile (Cond.code y_PV_compile prog_1_method_5_code 4 (some .int) :: pv_TB) rm_PV_compile D pv_cl (pv_ty q) 52 a (pv_FX q a) A (pv_ZX t A) [.ref (a 0)] σ out :=
  pv_ofI (by decide) (Nat.le_of_ble_eq_true rfl) hD (fun p e s m args below meth c Q ls C hret hl hP => s_PV_compile_0 C hmv (Nat.le_refl _) (Nat.le_refl _) hret hl hP va_S.rf hf)
theorem d_PV_named_0 : decode prog_1_method_6_code 0 = .ok (.aload_n 0, 1) := by decide +kernel
theorem d_PV_named_1 : decode prog_1_method_6_code 1 = .ok (.getfield 27, 3) := by decide +kernel
theorem d_PV_named_4 : decode prog_1_method_6_code 4 = .ok (.ireturn, 1) := by decide +kernel
def f_PV_named_0 (σ : pv_S) : Option (Int32 × pv_S) :=
  some ((σ.1 0 5), σ)
set_option maxHeartbeats 4000000 in
set_option maxRecDepth 100000 in
theorem s_PV_named_0 {p : Program} {l : Launch} {e : Env} {R : Room} {s : State} {m : MethodId} {args : Array Value} {below : List Frame} {meth : Method} {c : Code} {Q : State → Prop} {D : va_G} {q : Nat → ClassId} {a t : Nat → Nat} {A : Nat → Prop} (C : pv_C p s m args c prog_1_method_6_code 1 "PatchVoices" pv_TB D pv_cl (pv_ty q) 52 a A (pv_ZX t A)) (hmv : pv_mv A (pv_ZX t A)) (hRf : 0 ≤ R.frames) (hRl : 0 ≤ R.locals) {out : (Int32 × pv_S)} (hret : pv_Ri p l e R s m args below meth c prog_1_method_6_code D pv_cl 52 a (pv_FX q a) A Q out) {σ : pv_S} {H : Heap} {locs : List Loc} {ls : Array Slot} (hl : lv_has ls 1 [(0, .ref (a 0))]) (hP : pv_W D pv_cl 52 a (pv_FX q a) σ H) (hS : va_S A s.heap H locs) (hf : f_PV_named_0 σ = some out) : W p l e R s m args below meth c H locs 0 0 Q (F0 m 0 ls []) := by
  unfold f_PV_named_0 at hf
  have hx := C.1
  have hb := C.2.1
  refine lv_aload_n hx hb d_PV_named_0 rfl (lv_at hl 0 rfl) ?_
  refine pv_get C hP (v := .int (σ.1 0 5)) (j := 5) (by decide) (fx_0 _ _ _ _) fl_PV_27 rfl d_PV_named_1 ?_
  obtain rfl := Option.some.inj hf
  exact hret _ _ _ _ d_PV_named_4 hP hS
def f_PV_named (σ : pv_S) : Option (Int32 × pv_S) := f_PV_named_0 σ
def rm_PV_named : Room := { frames := 0, cells := 0, slots := 0, locals := 0 }
theorem c_PV_named {l : Launch} {D : va_G} {q : Nat → ClassId} {a t : Nat → Nat} {A : Nat → Prop} (hD : pv_D 52 a A) (hmv : pv_mv A (pv_ZX t A)) {σ : pv_S} {out : (Int32 × pv_S)} (hf : f_PV_named σ = some out) : pv_Mi l y_PV_named (Cond.code y_PV_named prog_1_method_6_code 1 (some .int) :: pv_TB) rm_PV_named D pv_cl (pv_ty q) 52 a (pv_FX q a) A (pv_ZX t A) [.ref (a 0)] σ out :=
  pv_ofI (by decide) (Nat.le_of_ble_eq_true rfl) hD (fun p e s m args below meth c Q ls C hret hl hP => s_PV_named_0 C hmv (Nat.le_refl _) (Nat.le_refl _) hret hl hP va_S.rf hf)
theorem d_PV_optimise_0 : decode prog_1_method_7_code 0 = .ok (.aload_n 0, 1) := by decide +kernel
theorem d_PV_optimise_1 : decode prog_1_method_7_code 1 = .ok (.iload_n 1, 1) := by decide +kernel
theorem d_PV_optimise_2 : decode prog_1_method_7_code 2 = .ok (.putfield 76, 3) := by decide +kernel
theorem d_PV_optimise_5 : decode prog_1_method_7_code 5 = .ok (.return_, 1) := by decide +kernel
def f_PV_optimise_0 (σ : pv_S) (x1 : Int32) : Option pv_S :=
  (if pv_z x1 = true then
some (pv_uI σ 0 4 x1)
  else none)
set_option maxHeartbeats 4000000 in
set_option maxRecDepth 100000 in
theorem s_PV_optimise_0 {p : Program} {l : Launch} {e : Env} {R : Room} {s : State} {m : MethodId} {args : Array Value} {below : List Frame} {meth : Method} {c : Code} {Q : State → Prop} {D : va_G} {q : Nat → ClassId} {a t : Nat → Nat} {A : Nat → Prop} (C : pv_C p s m args c prog_1_method_7_code 2 "PatchVoices" pv_TB D pv_cl (pv_ty q) 52 a A (pv_ZX t A)) (hmv : pv_mv A (pv_ZX t A)) (hRf : 0 ≤ R.frames) (hRl : 0 ≤ R.locals) {out : pv_S} (hret : pv_Rv p l e R s m args below meth c prog_1_method_7_code D pv_cl 52 a (pv_FX q a) A Q out) {σ : pv_S} {x1 : Int32} {H : Heap} {locs : List Loc} {ls : Array Slot} (hl : lv_has ls 2 [(0, .ref (a 0)), (1, .int x1)]) (hP : pv_W D pv_cl 52 a (pv_FX q a) σ H) (hS : va_S A s.heap H locs) (hf : f_PV_optimise_0 σ x1 = some out) : W p l e R s m args below meth c H locs 0 0 Q (F0 m 0 ls []) := by
  unfold f_PV_optimise_0 at hf
  have hx := C.1
  have hb := C.2.1
  refine lv_aload_n hx hb d_PV_optimise_0 rfl (lv_at hl 0 rfl) ?_
  refine lv_iload_n hx hb d_PV_optimise_1 rfl (lv_at hl 1 rfl) ?_
  obtain ⟨hg, hf⟩ := pv_g hf
  refine pv_putI C hP hS (x := x1) (by decide) (fx_0 _ _ _ _) fw_PV_76 (pv_z_nar hg) (pv_z_fit hg) (Nat.le_of_ble_eq_true rfl) (fxs_0_4 _ _ _ _ _) d_PV_optimise_2 (fun H locs hP hS => ?_)
  obtain rfl := Option.some.inj hf
  exact hret _ _ _ _ d_PV_optimise_5 hP hS
def f_PV_optimise (σ : pv_S) (x1 : Int32) : Option pv_S := f_PV_optimise_0 σ x1
def rm_PV_optimise : Room := { frames := 0, cells := 0, slots := 0, locals := 0 }
theorem c_PV_optimise {l : Launch} {D : va_G} {q : Nat → ClassId} {a t : Nat → Nat} {A : Nat → Prop} (hD : pv_D 52 a A) (hmv : pv_mv A (pv_ZX t A)) {σ : pv_S} {x1 : Int32} {out : pv_S} (hf : f_PV_optimise σ x1 = some out) : pv_Mv l y_PV_optimise (Cond.code y_PV_optimise prog_1_method_7_code 2 none :: pv_TB) rm_PV_optimise D pv_cl (pv_ty q) 52 a (pv_FX q a) A (pv_ZX t A) [.ref (a 0), .int x1] σ out :=
  pv_ofV (by decide) (Nat.le_of_ble_eq_true rfl) hD (fun p e s m args below meth c Q ls C hret hl hP => s_PV_optimise_0 C hmv (Nat.le_refl _) (Nat.le_refl _) hret hl hP va_S.rf hf)
theorem d_PV_steps_0 : decode prog_1_method_8_code 0 = .ok (.aload_n 0, 1) := by decide +kernel
theorem d_PV_steps_1 : decode prog_1_method_8_code 1 = .ok (.getfield 23, 3) := by decide +kernel
theorem d_PV_steps_4 : decode prog_1_method_8_code 4 = .ok (.getfield 87, 3) := by decide +kernel
theorem d_PV_steps_7 : decode prog_1_method_8_code 7 = .ok (.ireturn, 1) := by decide +kernel
def f_PV_steps_0 (σ : pv_S) : Option (Int32 × pv_S) :=
  some ((σ.1 11 1), σ)
set_option maxHeartbeats 4000000 in
set_option maxRecDepth 100000 in
theorem s_PV_steps_0 {p : Program} {l : Launch} {e : Env} {R : Room} {s : State} {m : MethodId} {args : Array Value} {below : List Frame} {meth : Method} {c : Code} {Q : State → Prop} {D : va_G} {q : Nat → ClassId} {a t : Nat → Nat} {A : Nat → Prop} (C : pv_C p s m args c prog_1_method_8_code 1 "PatchVoices" pv_TB D pv_cl (pv_ty q) 52 a A (pv_ZX t A)) (hmv : pv_mv A (pv_ZX t A)) (hRf : 0 ≤ R.frames) (hRl : 0 ≤ R.locals) {out : (Int32 × pv_S)} (hret : pv_Ri p l e R s m args below meth c prog_1_method_8_code D pv_cl 52 a (pv_FX q a) A Q out) {σ : pv_S} {H : Heap} {locs : List Loc} {ls : Array Slot} (hl : lv_has ls 1 [(0, .ref (a 0))]) (hP : pv_W D pv_cl 52 a (pv_FX q a) σ H) (hS : va_S A s.heap H locs) (hf : f_PV_steps_0 σ = some out) : W p l e R s m args below meth c H locs 0 0 Q (F0 m 0 ls []) := by
  unfold f_PV_steps_0 at hf
  have hx := C.1
  have hb := C.2.1
  refine lv_aload_n hx hb d_PV_steps_0 rfl (lv_at hl 0 rfl) ?_
  refine pv_get C hP (v := .ref (a 11)) (j := 3) (by decide) (fx_0 _ _ _ _) fl_PV_23 rfl d_PV_steps_1 ?_
  refine pv_get C hP (v := .int (σ.1 11 1)) (j := 1) (by decide) (fx_11 _ _ _ _) fl_PV_87 rfl d_PV_steps_4 ?_
  obtain rfl := Option.some.inj hf
  exact hret _ _ _ _ d_PV_steps_7 hP hS
def f_PV_steps (σ : pv_S) : Option (Int32 × pv_S) := f_PV_steps_0 σ
def rm_PV_steps : Room := { frames := 0, cells := 0, slots := 0, locals := 0 }
theorem c_PV_steps {l : Launch} {D : va_G} {q : Nat → ClassId} {a t : Nat → Nat} {A : Nat → Prop} (hD : pv_D 52 a A) (hmv : pv_mv A (pv_ZX t A)) {σ : pv_S} {out : (Int32 × pv_S)} (hf : f_PV_steps σ = some out) : pv_Mi l y_PV_steps (Cond.code y_PV_steps prog_1_method_8_code 1 (some .int) :: pv_TB) rm_PV_steps D pv_cl (pv_ty q) 52 a (pv_FX q a) A (pv_ZX t A) [.ref (a 0)] σ out :=
  pv_ofI (by decide) (Nat.le_of_ble_eq_true rfl) hD (fun p e s m args below meth c Q ls C hret hl hP => s_PV_steps_0 C hmv (Nat.le_refl _) (Nat.le_refl _) hret hl hP va_S.rf hf)
theorem d_PV_slots_0 : decode prog_1_method_10_code 0 = .ok (.aload_n 0, 1) := by decide +kernel
theorem d_PV_slots_1 : decode prog_1_method_10_code 1 = .ok (.getfield 23, 3) := by decide +kernel
theorem d_PV_slots_4 : decode prog_1_method_10_code 4 = .ok (.getfield 106, 3) := by decide +kernel
theorem d_PV_slots_7 : decode prog_1_method_10_code 7 = .ok (.ireturn, 1) := by decide +kernel
def f_PV_slots_0 (σ : pv_S) : Option (Int32 × pv_S) :=
  some ((σ.1 11 4), σ)
set_option maxHeartbeats 4000000 in
set_option maxRecDepth 100000 in
theorem s_PV_slots_0 {p : Program} {l : Launch} {e : Env} {R : Room} {s : State} {m : MethodId} {args : Array Value} {below : List Frame} {meth : Method} {c : Code} {Q : State → Prop} {D : va_G} {q : Nat → ClassId} {a t : Nat → Nat} {A : Nat → Prop} (C : pv_C p s m args c prog_1_method_10_code 1 "PatchVoices" pv_TB D pv_cl (pv_ty q) 52 a A (pv_ZX t A)) (hmv : pv_mv A (pv_ZX t A)) (hRf : 0 ≤ R.frames) (hRl : 0 ≤ R.locals) {out : (Int32 × pv_S)} (hret : pv_Ri p l e R s m args below meth c prog_1_method_10_code D pv_cl 52 a (pv_FX q a) A Q out) {σ : pv_S} {H : Heap} {locs : List Loc} {ls : Array Slot} (hl : lv_has ls 1 [(0, .ref (a 0))]) (hP : pv_W D pv_cl 52 a (pv_FX q a) σ H) (hS : va_S A s.heap H locs) (hf : f_PV_slots_0 σ = some out) : W p l e R s m args below meth c H locs 0 0 Q (F0 m 0 ls []) := by
  unfold f_PV_slots_0 at hf
  have hx := C.1
  have hb := C.2.1
  refine lv_aload_n hx hb d_PV_slots_0 rfl (lv_at hl 0 rfl) ?_
  refine pv_get C hP (v := .ref (a 11)) (j := 3) (by decide) (fx_0 _ _ _ _) fl_PV_23 rfl d_PV_slots_1 ?_
  refine pv_get C hP (v := .int (σ.1 11 4)) (j := 4) (by decide) (fx_11 _ _ _ _) fl_PV_106 rfl d_PV_slots_4 ?_
  obtain rfl := Option.some.inj hf
  exact hret _ _ _ _ d_PV_slots_7 hP hS
def f_PV_slots (σ : pv_S) : Option (Int32 × pv_S) := f_PV_slots_0 σ
def rm_PV_slots : Room := { frames := 0, cells := 0, slots := 0, locals := 0 }
theorem c_PV_slots {l : Launch} {D : va_G} {q : Nat → ClassId} {a t : Nat → Nat} {A : Nat → Prop} (hD : pv_D 52 a A) (hmv : pv_mv A (pv_ZX t A)) {σ : pv_S} {out : (Int32 × pv_S)} (hf : f_PV_slots σ = some out) : pv_Mi l y_PV_slots (Cond.code y_PV_slots prog_1_method_10_code 1 (some .int) :: pv_TB) rm_PV_slots D pv_cl (pv_ty q) 52 a (pv_FX q a) A (pv_ZX t A) [.ref (a 0)] σ out :=
  pv_ofI (by decide) (Nat.le_of_ble_eq_true rfl) hD (fun p e s m args below meth c Q ls C hret hl hP => s_PV_slots_0 C hmv (Nat.le_refl _) (Nat.le_refl _) hret hl hP va_S.rf hf)
theorem d_PV_longestQuiet_0 : decode prog_1_method_14_code 0 = .ok (.iconst (-1), 1) := by decide +kernel
theorem d_PV_longestQuiet_1 : decode prog_1_method_14_code 1 = .ok (.istore_n 1, 1) := by decide +kernel
theorem d_PV_longestQuiet_2 : decode prog_1_method_14_code 2 = .ok (.iconst 0, 1) := by decide +kernel
theorem d_PV_longestQuiet_3 : decode prog_1_method_14_code 3 = .ok (.istore_n 2, 1) := by decide +kernel
theorem d_PV_longestQuiet_4 : decode prog_1_method_14_code 4 = .ok (.iload_n 2, 1) := by decide +kernel
theorem d_PV_longestQuiet_5 : decode prog_1_method_14_code 5 = .ok (.aload_n 0, 1) := by decide +kernel
theorem d_PV_longestQuiet_6 : decode prog_1_method_14_code 6 = .ok (.getfield 37, 3) := by decide +kernel
theorem d_PV_longestQuiet_9 : decode prog_1_method_14_code 9 = .ok (.if_icmp .ge 49, 3) := by decide +kernel
theorem d_PV_longestQuiet_12 : decode prog_1_method_14_code 12 = .ok (.aload_n 0, 1) := by decide +kernel
theorem d_PV_longestQuiet_13 : decode prog_1_method_14_code 13 = .ok (.getfield 33, 3) := by decide +kernel
theorem d_PV_longestQuiet_16 : decode prog_1_method_14_code 16 = .ok (.iload_n 2, 1) := by decide +kernel
theorem d_PV_longestQuiet_17 : decode prog_1_method_14_code 17 = .ok (.aaload, 1) := by decide +kernel
theorem d_PV_longestQuiet_18 : decode prog_1_method_14_code 18 = .ok (.getfield 133, 3) := by decide +kernel
theorem d_PV_longestQuiet_21 : decode prog_1_method_14_code 21 = .ok (.ifCond .ne 31, 3) := by decide +kernel
theorem d_PV_longestQuiet_24 : decode prog_1_method_14_code 24 = .ok (.iload_n 1, 1) := by decide +kernel
theorem d_PV_longestQuiet_25 : decode prog_1_method_14_code 25 = .ok (.iconst (-1), 1) := by decide +kernel
theorem d_PV_longestQuiet_26 : decode prog_1_method_14_code 26 = .ok (.if_icmp .eq 24, 3) := by decide +kernel
theorem d_PV_longestQuiet_29 : decode prog_1_method_14_code 29 = .ok (.aload_n 0, 1) := by decide +kernel
theorem d_PV_longestQuiet_30 : decode prog_1_method_14_code 30 = .ok (.getfield 33, 3) := by decide +kernel
theorem d_PV_longestQuiet_33 : decode prog_1_method_14_code 33 = .ok (.iload_n 2, 1) := by decide +kernel
theorem d_PV_longestQuiet_34 : decode prog_1_method_14_code 34 = .ok (.aaload, 1) := by decide +kernel
theorem d_PV_longestQuiet_35 : decode prog_1_method_14_code 35 = .ok (.getfield 136, 3) := by decide +kernel
theorem d_PV_longestQuiet_38 : decode prog_1_method_14_code 38 = .ok (.aload_n 0, 1) := by decide +kernel
theorem d_PV_longestQuiet_39 : decode prog_1_method_14_code 39 = .ok (.getfield 33, 3) := by decide +kernel
theorem d_PV_longestQuiet_42 : decode prog_1_method_14_code 42 = .ok (.iload_n 1, 1) := by decide +kernel
theorem d_PV_longestQuiet_43 : decode prog_1_method_14_code 43 = .ok (.aaload, 1) := by decide +kernel
theorem d_PV_longestQuiet_44 : decode prog_1_method_14_code 44 = .ok (.getfield 136, 3) := by decide +kernel
theorem d_PV_longestQuiet_47 : decode prog_1_method_14_code 47 = .ok (.if_icmp .le 5, 3) := by decide +kernel
theorem d_PV_longestQuiet_50 : decode prog_1_method_14_code 50 = .ok (.iload_n 2, 1) := by decide +kernel
theorem d_PV_longestQuiet_51 : decode prog_1_method_14_code 51 = .ok (.istore_n 1, 1) := by decide +kernel
theorem d_PV_longestQuiet_52 : decode prog_1_method_14_code 52 = .ok (.iinc 2 1, 3) := by decide +kernel
theorem d_PV_longestQuiet_55 : decode prog_1_method_14_code 55 = .ok (.goto (-51), 3) := by decide +kernel
theorem d_PV_longestQuiet_58 : decode prog_1_method_14_code 58 = .ok (.iload_n 1, 1) := by decide +kernel
theorem d_PV_longestQuiet_59 : decode prog_1_method_14_code 59 = .ok (.ireturn, 1) := by decide +kernel
def f_PV_longestQuiet_52 (k_4 : pv_S → Int32 → Int32 → Option (Int32 × pv_S)) (σ : pv_S) (x1 : Int32) (x2 : Int32) : Option (Int32 × pv_S) :=
  k_4 σ x1 (x2 + (1 : Int32))
set_option maxHeartbeats 4000000 in
set_option maxRecDepth 100000 in
theorem s_PV_longestQuiet_52 {p : Program} {l : Launch} {e : Env} {R : Room} {s : State} {m : MethodId} {args : Array Value} {below : List Frame} {meth : Method} {c : Code} {Q : State → Prop} {D : va_G} {q : Nat → ClassId} {a t : Nat → Nat} {A : Nat → Prop} (C : pv_C p s m args c prog_1_method_14_code 3 "PatchVoices" pv_TB D pv_cl (pv_ty q) 52 a A (pv_ZX t A)) (hmv : pv_mv A (pv_ZX t A)) (hRf : 0 ≤ R.frames) (hRl : 0 ≤ R.locals) {out : (Int32 × pv_S)} (hret : pv_Ri p l e R s m args below meth c prog_1_method_14_code D pv_cl 52 a (pv_FX q a) A Q out) {k_4 : pv_S → Int32 → Int32 → Option (Int32 × pv_S)} (hk_4 : ∀ (σ : pv_S) (x1 : Int32) (x2 : Int32) (H : Heap) (locs : List Loc) (ls : Array Slot), k_4 σ x1 x2 = some out → lv_has ls 3 [(0, .ref (a 0)), (1, .int x1), (2, .int x2)] → pv_W D pv_cl 52 a (pv_FX q a) σ H → va_S A s.heap H locs → W p l e R s m args below meth c H locs 0 0 Q (F0 m 4 ls [])) {σ : pv_S} {x1 : Int32} {x2 : Int32} {H : Heap} {locs : List Loc} {ls : Array Slot} (hl : lv_has ls 3 [(0, .ref (a 0)), (1, .int x1), (2, .int x2)]) (hP : pv_W D pv_cl 52 a (pv_FX q a) σ H) (hS : va_S A s.heap H locs) (hf : f_PV_longestQuiet_52 k_4 σ x1 x2 = some out) : W p l e R s m args below meth c H locs 0 0 Q (F0 m 52 ls []) := by
  unfold f_PV_longestQuiet_52 at hf
  have hx := C.1
  have hb := C.2.1
  refine lv_iinc (k := 2) (v := (x2 + (1 : Int32))) (lv' := [(2, .int (x2 + (1 : Int32))), (0, .ref (a 0)), (1, .int x1)]) hx hb d_PV_longestQuiet_52 hl rfl (pv_inc (by decide)) (by decide) rfl (fun ls hl => ?_)
  refine lv_goto (tgt := 4) hx hb d_PV_longestQuiet_55 (by decide) ?_
  exact hk_4 _ _ _ _ _ _ hf (lv_sub hl [1, 2, 0] rfl) hP hS
def f_PV_longestQuiet_50 (k_4 : pv_S → Int32 → Int32 → Option (Int32 × pv_S)) (σ : pv_S) (x2 : Int32) : Option (Int32 × pv_S) :=
  f_PV_longestQuiet_52 k_4 σ x2 x2
set_option maxHeartbeats 4000000 in
set_option maxRecDepth 100000 in
theorem s_PV_longestQuiet_50 {p : Program} {l : Launch} {e : Env} {R : Room} {s : State} {m : MethodId} {args : Array Value} {below : List Frame} {meth : Method} {c : Code} {Q : State → Prop} {D : va_G} {q : Nat → ClassId} {a t : Nat → Nat} {A : Nat → Prop} (C : pv_C p s m args c prog_1_method_14_code 3 "PatchVoices" pv_TB D pv_cl (pv_ty q) 52 a A (pv_ZX t A)) (hmv : pv_mv A (pv_ZX t A)) (hRf : 0 ≤ R.frames) (hRl : 0 ≤ R.locals) {out : (Int32 × pv_S)} (hret : pv_Ri p l e R s m args below meth c prog_1_method_14_code D pv_cl 52 a (pv_FX q a) A Q out) {k_4 : pv_S → Int32 → Int32 → Option (Int32 × pv_S)} (hk_4 : ∀ (σ : pv_S) (x1 : Int32) (x2 : Int32) (H : Heap) (locs : List Loc) (ls : Array Slot), k_4 σ x1 x2 = some out → lv_has ls 3 [(0, .ref (a 0)), (1, .int x1), (2, .int x2)] → pv_W D pv_cl 52 a (pv_FX q a) σ H → va_S A s.heap H locs → W p l e R s m args below meth c H locs 0 0 Q (F0 m 4 ls [])) {σ : pv_S} {x2 : Int32} {H : Heap} {locs : List Loc} {ls : Array Slot} (hl : lv_has ls 3 [(0, .ref (a 0)), (2, .int x2)]) (hP : pv_W D pv_cl 52 a (pv_FX q a) σ H) (hS : va_S A s.heap H locs) (hf : f_PV_longestQuiet_50 k_4 σ x2 = some out) : W p l e R s m args below meth c H locs 0 0 Q (F0 m 50 ls []) := by
  unfold f_PV_longestQuiet_50 at hf
  have hx := C.1
  have hb := C.2.1
  refine lv_iload_n hx hb d_PV_longestQuiet_50 rfl (lv_at hl 1 rfl) ?_
  refine lv_istore_n (lv' := [(1, .int x2), (0, .ref (a 0)), (2, .int x2)]) hx hb d_PV_longestQuiet_51 rfl hl (by decide) rfl (fun ls hl => ?_)
  exact s_PV_longestQuiet_52 C hmv hRf hRl hret hk_4 (lv_sub hl [1, 0, 2] rfl) hP hS hf
def f_PV_longestQuiet_4b (k_4 : pv_S → Int32 → Int32 → Option (Int32 × pv_S)) (σ : pv_S) (x1 : Int32) (x2 : Int32) : Option (Int32 × pv_S) :=
  (if (σ.1 0 7) ≤ x2 then
  some (x1, σ)
  else
  (if pv_in x2 4 = true then
(if (σ.1 (28 + 6 * (x2).toNatClampNeg) 2) = 0 then
  (if x1 = (-1 : Int32) then
  f_PV_longestQuiet_50 k_4 σ x2
  else
  (if pv_in x2 4 = true then
(if pv_in x1 4 = true then
(if (σ.1 (28 + 6 * (x2).toNatClampNeg) 4) ≤ (σ.1 (28 + 6 * (x1).toNatClampNeg) 4) then
  f_PV_longestQuiet_52 k_4 σ x1 x2
  else
  f_PV_longestQuiet_50 k_4 σ x2)
  else none)
  else none))
  else
  f_PV_longestQuiet_52 k_4 σ x1 x2)
  else none))
set_option maxHeartbeats 4000000 in
set_option maxRecDepth 100000 in
theorem s_PV_longestQuiet_4b {p : Program} {l : Launch} {e : Env} {R : Room} {s : State} {m : MethodId} {args : Array Value} {below : List Frame} {meth : Method} {c : Code} {Q : State → Prop} {D : va_G} {q : Nat → ClassId} {a t : Nat → Nat} {A : Nat → Prop} (C : pv_C p s m args c prog_1_method_14_code 3 "PatchVoices" pv_TB D pv_cl (pv_ty q) 52 a A (pv_ZX t A)) (hmv : pv_mv A (pv_ZX t A)) (hRf : 0 ≤ R.frames) (hRl : 0 ≤ R.locals) {out : (Int32 × pv_S)} (hret : pv_Ri p l e R s m args below meth c prog_1_method_14_code D pv_cl 52 a (pv_FX q a) A Q out) {k_4 : pv_S → Int32 → Int32 → Option (Int32 × pv_S)} (hk_4 : ∀ (σ : pv_S) (x1 : Int32) (x2 : Int32) (H : Heap) (locs : List Loc) (ls : Array Slot), k_4 σ x1 x2 = some out → lv_has ls 3 [(0, .ref (a 0)), (1, .int x1), (2, .int x2)] → pv_W D pv_cl 52 a (pv_FX q a) σ H → va_S A s.heap H locs → W p l e R s m args below meth c H locs 0 0 Q (F0 m 4 ls [])) {σ : pv_S} {x1 : Int32} {x2 : Int32} {H : Heap} {locs : List Loc} {ls : Array Slot} (hl : lv_has ls 3 [(0, .ref (a 0)), (1, .int x1), (2, .int x2)]) (hP : pv_W D pv_cl 52 a (pv_FX q a) σ H) (hS : va_S A s.heap H locs) (hf : f_PV_longestQuiet_4b k_4 σ x1 x2 = some out) : W p l e R s m args below meth c H locs 0 0 Q (F0 m 4 ls []) := by
  unfold f_PV_longestQuiet_4b at hf
  have hx := C.1
  have hb := C.2.1
  refine lv_iload_n hx hb d_PV_longestQuiet_4 rfl (lv_at hl 2 rfl) ?_
  refine lv_aload_n hx hb d_PV_longestQuiet_5 rfl (lv_at hl 0 rfl) ?_
  refine pv_get C hP (v := .int (σ.1 0 7)) (j := 7) (by decide) (fx_0 _ _ _ _) fl_PV_37 rfl d_PV_longestQuiet_6 ?_
  refine lv_icmp_ge (tgt := 58) hx hb d_PV_longestQuiet_9 (by decide) (fun h => ?_) (fun h => ?_)
  · have hf := pv_t hf h
    refine lv_iload_n hx hb d_PV_longestQuiet_58 rfl (lv_at hl 1 rfl) ?_
    obtain rfl := Option.some.inj hf
    exact hret _ _ _ _ d_PV_longestQuiet_59 hP hS
  · have hf := pv_f hf h
    refine lv_aload_n hx hb d_PV_longestQuiet_12 rfl (lv_at hl 0 rfl) ?_
    refine pv_get C hP (v := .ref (a 25)) (j := 6) (by decide) (fx_0 _ _ _ _) fl_PV_33 rfl d_PV_longestQuiet_13 ?_
    refine lv_iload_n hx hb d_PV_longestQuiet_16 rfl (lv_at hl 2 rfl) ?_
    obtain ⟨hg, hf⟩ := pv_g hf
    have hi1 := hg
    have hi1l := pv_in_lt hi1
    refine pv_aald C hP (t0 := 4) (b := a (28 + 6 * (x2).toNatClampNeg)) (by decide) (fx_25 _ _ _ _) rfl hg (if_pos hi1l) d_PV_longestQuiet_17 ?_
    refine pv_get C hP (v := .int (σ.1 (28 + 6 * (x2).toNatClampNeg) 2)) (j := 2) (by omega) (fx_v0 hi1l _ _ _ _) fl_PV_133 rfl d_PV_longestQuiet_18 ?_
    refine lv_if_ne (tgt := 52) hx hb d_PV_longestQuiet_21 (by decide) (fun h => ?_) (fun h => ?_)
    · have hf := pv_f hf h
      exact s_PV_longestQuiet_52 C hmv hRf hRl hret hk_4 (lv_sub hl [0, 1, 2] rfl) hP hS hf
    · have hf := pv_t hf h
      refine lv_iload_n hx hb d_PV_longestQuiet_24 rfl (lv_at hl 1 rfl) ?_
      refine lv_iconst (v := (-1 : Int32)) hx hb d_PV_longestQuiet_25 (by decide) ?_
      refine lv_icmp_eq (tgt := 50) hx hb d_PV_longestQuiet_26 (by decide) (fun h => ?_) (fun h => ?_)
      · have hf := pv_t hf h
        exact s_PV_longestQuiet_50 C hmv hRf hRl hret hk_4 (lv_sub hl [0, 2] rfl) hP hS hf
      · have hf := pv_f hf h
        refine lv_aload_n hx hb d_PV_longestQuiet_29 rfl (lv_at hl 0 rfl) ?_
        refine pv_get C hP (v := .ref (a 25)) (j := 6) (by decide) (fx_0 _ _ _ _) fl_PV_33 rfl d_PV_longestQuiet_30 ?_
        refine lv_iload_n hx hb d_PV_longestQuiet_33 rfl (lv_at hl 2 rfl) ?_
        obtain ⟨hg, hf⟩ := pv_g hf
        have hi2 := hg
        have hi2l := pv_in_lt hi2
        refine pv_aald C hP (t0 := 4) (b := a (28 + 6 * (x2).toNatClampNeg)) (by decide) (fx_25 _ _ _ _) rfl hg (if_pos hi2l) d_PV_longestQuiet_34 ?_
        refine pv_get C hP (v := .int (σ.1 (28 + 6 * (x2).toNatClampNeg) 4)) (j := 4) (by omega) (fx_v0 hi2l _ _ _ _) fl_PV_136 rfl d_PV_longestQuiet_35 ?_
        refine lv_aload_n hx hb d_PV_longestQuiet_38 rfl (lv_at hl 0 rfl) ?_
        refine pv_get C hP (v := .ref (a 25)) (j := 6) (by decide) (fx_0 _ _ _ _) fl_PV_33 rfl d_PV_longestQuiet_39 ?_
        refine lv_iload_n hx hb d_PV_longestQuiet_42 rfl (lv_at hl 1 rfl) ?_
        obtain ⟨hg, hf⟩ := pv_g hf
        have hi3 := hg
        have hi3l := pv_in_lt hi3
        refine pv_aald C hP (t0 := 4) (b := a (28 + 6 * (x1).toNatClampNeg)) (by decide) (fx_25 _ _ _ _) rfl hg (if_pos hi3l) d_PV_longestQuiet_43 ?_
        refine pv_get C hP (v := .int (σ.1 (28 + 6 * (x1).toNatClampNeg) 4)) (j := 4) (by omega) (fx_v0 hi3l _ _ _ _) fl_PV_136 rfl d_PV_longestQuiet_44 ?_
        refine lv_icmp_le (tgt := 52) hx hb d_PV_longestQuiet_47 (by decide) (fun h => ?_) (fun h => ?_)
        · have hf := pv_t hf h
          exact s_PV_longestQuiet_52 C hmv hRf hRl hret hk_4 (lv_sub hl [0, 1, 2] rfl) hP hS hf
        · have hf := pv_f hf h
          exact s_PV_longestQuiet_50 C hmv hRf hRl hret hk_4 (lv_sub hl [0, 2] rfl) hP hS hf
def f_PV_longestQuiet_4 : Nat → pv_S → Int32 → Int32 → Option (Int32 × pv_S)
  | 0 => fun _ _ _ => none
  | n + 1 => f_PV_longestQuiet_4b (f_PV_longestQuiet_4 n)
set_option maxHeartbeats 4000000 in
theorem s_PV_longestQuiet_4 {p : Program} {l : Launch} {e : Env} {R : Room} {s : State} {m : MethodId} {args : Array Value} {below : List Frame} {meth : Method} {c : Code} {Q : State → Prop} {D : va_G} {q : Nat → ClassId} {a t : Nat → Nat} {A : Nat → Prop} (C : pv_C p s m args c prog_1_method_14_code 3 "PatchVoices" pv_TB D pv_cl (pv_ty q) 52 a A (pv_ZX t A)) (hmv : pv_mv A (pv_ZX t A)) (hRf : 0 ≤ R.frames) (hRl : 0 ≤ R.locals) {out : (Int32 × pv_S)} (hret : pv_Ri p l e R s m args below meth c prog_1_method_14_code D pv_cl 52 a (pv_FX q a) A Q out) (n : Nat) : ∀ {σ : pv_S} {x1 : Int32} {x2 : Int32} {H : Heap} {locs : List Loc} {ls : Array Slot}, lv_has ls 3 [(0, .ref (a 0)), (1, .int x1), (2, .int x2)] → pv_W D pv_cl 52 a (pv_FX q a) σ H → va_S A s.heap H locs → f_PV_longestQuiet_4 n σ x1 x2 = some out → W p l e R s m args below meth c H locs 0 0 Q (F0 m 4 ls []) := by
  induction n with
  | zero => intro σ x1 x2 H locs ls hl hP hS hf; cases hf
  | succ n ih => intro σ x1 x2 H locs ls hl hP hS hf; exact s_PV_longestQuiet_4b C hmv hRf hRl hret (fun σ x1 x2 H locs ls hf hl hP hS => ih hl hP hS hf) hl hP hS hf
def f_PV_longestQuiet_0 (σ : pv_S) : Option (Int32 × pv_S) :=
  f_PV_longestQuiet_4 pv_fu σ (-1 : Int32) (0 : Int32)
set_option maxHeartbeats 4000000 in
set_option maxRecDepth 100000 in
theorem s_PV_longestQuiet_0 {p : Program} {l : Launch} {e : Env} {R : Room} {s : State} {m : MethodId} {args : Array Value} {below : List Frame} {meth : Method} {c : Code} {Q : State → Prop} {D : va_G} {q : Nat → ClassId} {a t : Nat → Nat} {A : Nat → Prop} (C : pv_C p s m args c prog_1_method_14_code 3 "PatchVoices" pv_TB D pv_cl (pv_ty q) 52 a A (pv_ZX t A)) (hmv : pv_mv A (pv_ZX t A)) (hRf : 0 ≤ R.frames) (hRl : 0 ≤ R.locals) {out : (Int32 × pv_S)} (hret : pv_Ri p l e R s m args below meth c prog_1_method_14_code D pv_cl 52 a (pv_FX q a) A Q out) {σ : pv_S} {H : Heap} {locs : List Loc} {ls : Array Slot} (hl : lv_has ls 3 [(0, .ref (a 0))]) (hP : pv_W D pv_cl 52 a (pv_FX q a) σ H) (hS : va_S A s.heap H locs) (hf : f_PV_longestQuiet_0 σ = some out) : W p l e R s m args below meth c H locs 0 0 Q (F0 m 0 ls []) := by
  unfold f_PV_longestQuiet_0 at hf
  have hx := C.1
  have hb := C.2.1
  refine lv_iconst (v := (-1 : Int32)) hx hb d_PV_longestQuiet_0 (by decide) ?_
  refine lv_istore_n (lv' := [(1, .int (-1 : Int32)), (0, .ref (a 0))]) hx hb d_PV_longestQuiet_1 rfl hl (by decide) rfl (fun ls hl => ?_)
  refine lv_iconst (v := (0 : Int32)) hx hb d_PV_longestQuiet_2 (by decide) ?_
  refine lv_istore_n (lv' := [(2, .int (0 : Int32)), (1, .int (-1 : Int32)), (0, .ref (a 0))]) hx hb d_PV_longestQuiet_3 rfl hl (by decide) rfl (fun ls hl => ?_)
  exact s_PV_longestQuiet_4 C hmv hRf hRl hret pv_fu (lv_sub hl [2, 1, 0] rfl) hP hS hf
def f_PV_longestQuiet (σ : pv_S) : Option (Int32 × pv_S) := f_PV_longestQuiet_0 σ
def rm_PV_longestQuiet : Room := { frames := 0, cells := 0, slots := 0, locals := 0 }
theorem c_PV_longestQuiet {l : Launch} {D : va_G} {q : Nat → ClassId} {a t : Nat → Nat} {A : Nat → Prop} (hD : pv_D 52 a A) (hmv : pv_mv A (pv_ZX t A)) {σ : pv_S} {out : (Int32 × pv_S)} (hf : f_PV_longestQuiet σ = some out) : pv_Mi l y_PV_longestQuiet (Cond.code y_PV_longestQuiet prog_1_method_14_code 3 (some .int) :: pv_TB) rm_PV_longestQuiet D pv_cl (pv_ty q) 52 a (pv_FX q a) A (pv_ZX t A) [.ref (a 0)] σ out :=
  pv_ofI (by decide) (Nat.le_of_ble_eq_true rfl) hD (fun p e s m args below meth c Q ls C hret hl hP => s_PV_longestQuiet_0 C hmv (Nat.le_refl _) (Nat.le_refl _) hret hl hP va_S.rf hf)
theorem d_PV_longestTaken_0 : decode prog_1_method_15_code 0 = .ok (.iconst 0, 1) := by decide +kernel
theorem d_PV_longestTaken_1 : decode prog_1_method_15_code 1 = .ok (.istore_n 1, 1) := by decide +kernel
theorem d_PV_longestTaken_2 : decode prog_1_method_15_code 2 = .ok (.iconst 1, 1) := by decide +kernel
theorem d_PV_longestTaken_3 : decode prog_1_method_15_code 3 = .ok (.istore_n 2, 1) := by decide +kernel
theorem d_PV_longestTaken_4 : decode prog_1_method_15_code 4 = .ok (.iload_n 2, 1) := by decide +kernel
theorem d_PV_longestTaken_5 : decode prog_1_method_15_code 5 = .ok (.aload_n 0, 1) := by decide +kernel
theorem d_PV_longestTaken_6 : decode prog_1_method_15_code 6 = .ok (.getfield 37, 3) := by decide +kernel
theorem d_PV_longestTaken_9 : decode prog_1_method_15_code 9 = .ok (.if_icmp .ge 33, 3) := by decide +kernel
theorem d_PV_longestTaken_12 : decode prog_1_method_15_code 12 = .ok (.aload_n 0, 1) := by decide +kernel
theorem d_PV_longestTaken_13 : decode prog_1_method_15_code 13 = .ok (.getfield 33, 3) := by decide +kernel
theorem d_PV_longestTaken_16 : decode prog_1_method_15_code 16 = .ok (.iload_n 2, 1) := by decide +kernel
theorem d_PV_longestTaken_17 : decode prog_1_method_15_code 17 = .ok (.aaload, 1) := by decide +kernel
theorem d_PV_longestTaken_18 : decode prog_1_method_15_code 18 = .ok (.getfield 139, 3) := by decide +kernel
theorem d_PV_longestTaken_21 : decode prog_1_method_15_code 21 = .ok (.aload_n 0, 1) := by decide +kernel
theorem d_PV_longestTaken_22 : decode prog_1_method_15_code 22 = .ok (.getfield 33, 3) := by decide +kernel
theorem d_PV_longestTaken_25 : decode prog_1_method_15_code 25 = .ok (.iload_n 1, 1) := by decide +kernel
theorem d_PV_longestTaken_26 : decode prog_1_method_15_code 26 = .ok (.aaload, 1) := by decide +kernel
theorem d_PV_longestTaken_27 : decode prog_1_method_15_code 27 = .ok (.getfield 139, 3) := by decide +kernel
theorem d_PV_longestTaken_30 : decode prog_1_method_15_code 30 = .ok (.lcmp, 1) := by decide +kernel
theorem d_PV_longestTaken_31 : decode prog_1_method_15_code 31 = .ok (.ifCond .ge 5, 3) := by decide +kernel
theorem d_PV_longestTaken_34 : decode prog_1_method_15_code 34 = .ok (.iload_n 2, 1) := by decide +kernel
theorem d_PV_longestTaken_35 : decode prog_1_method_15_code 35 = .ok (.istore_n 1, 1) := by decide +kernel
theorem d_PV_longestTaken_36 : decode prog_1_method_15_code 36 = .ok (.iinc 2 1, 3) := by decide +kernel
theorem d_PV_longestTaken_39 : decode prog_1_method_15_code 39 = .ok (.goto (-35), 3) := by decide +kernel
theorem d_PV_longestTaken_42 : decode prog_1_method_15_code 42 = .ok (.iload_n 1, 1) := by decide +kernel
theorem d_PV_longestTaken_43 : decode prog_1_method_15_code 43 = .ok (.ireturn, 1) := by decide +kernel
def f_PV_longestTaken_36 (k_4 : pv_S → Int32 → Int32 → Option (Int32 × pv_S)) (σ : pv_S) (x1 : Int32) (x2 : Int32) : Option (Int32 × pv_S) :=
  k_4 σ x1 (x2 + (1 : Int32))
set_option maxHeartbeats 4000000 in
set_option maxRecDepth 100000 in
theorem s_PV_longestTaken_36 {p : Program} {l : Launch} {e : Env} {R : Room} {s : State} {m : MethodId} {args : Array Value} {below : List Frame} {meth : Method} {c : Code} {Q : State → Prop} {D : va_G} {q : Nat → ClassId} {a t : Nat → Nat} {A : Nat → Prop} (C : pv_C p s m args c prog_1_method_15_code 3 "PatchVoices" pv_TB D pv_cl (pv_ty q) 52 a A (pv_ZX t A)) (hmv : pv_mv A (pv_ZX t A)) (hRf : 0 ≤ R.frames) (hRl : 0 ≤ R.locals) {out : (Int32 × pv_S)} (hret : pv_Ri p l e R s m args below meth c prog_1_method_15_code D pv_cl 52 a (pv_FX q a) A Q out) {k_4 : pv_S → Int32 → Int32 → Option (Int32 × pv_S)} (hk_4 : ∀ (σ : pv_S) (x1 : Int32) (x2 : Int32) (H : Heap) (locs : List Loc) (ls : Array Slot), k_4 σ x1 x2 = some out → lv_has ls 3 [(0, .ref (a 0)), (1, .int x1), (2, .int x2)] → pv_W D pv_cl 52 a (pv_FX q a) σ H → va_S A s.heap H locs → W p l e R s m args below meth c H locs 0 0 Q (F0 m 4 ls [])) {σ : pv_S} {x1 : Int32} {x2 : Int32} {H : Heap} {locs : List Loc} {ls : Array Slot} (hl : lv_has ls 3 [(0, .ref (a 0)), (1, .int x1), (2, .int x2)]) (hP : pv_W D pv_cl 52 a (pv_FX q a) σ H) (hS : va_S A s.heap H locs) (hf : f_PV_longestTaken_36 k_4 σ x1 x2 = some out) : W p l e R s m args below meth c H locs 0 0 Q (F0 m 36 ls []) := by
  unfold f_PV_longestTaken_36 at hf
  have hx := C.1
  have hb := C.2.1
  refine lv_iinc (k := 2) (v := (x2 + (1 : Int32))) (lv' := [(2, .int (x2 + (1 : Int32))), (0, .ref (a 0)), (1, .int x1)]) hx hb d_PV_longestTaken_36 hl rfl (pv_inc (by decide)) (by decide) rfl (fun ls hl => ?_)
  refine lv_goto (tgt := 4) hx hb d_PV_longestTaken_39 (by decide) ?_
  exact hk_4 _ _ _ _ _ _ hf (lv_sub hl [1, 2, 0] rfl) hP hS
def f_PV_longestTaken_4b (k_4 : pv_S → Int32 → Int32 → Option (Int32 × pv_S)) (σ : pv_S) (x1 : Int32) (x2 : Int32) : Option (Int32 × pv_S) :=
  (if (σ.1 0 7) ≤ x2 then
  some (x1, σ)
  else
  (if pv_in x2 4 = true then
(if pv_in x1 4 = true then
(if 0 ≤ (lg_cmp (σ.2 (28 + 6 * (x2).toNatClampNeg) 5) (σ.2 (28 + 6 * (x1).toNatClampNeg) 5)) then
  f_PV_longestTaken_36 k_4 σ x1 x2
  else
  f_PV_longestTaken_36 k_4 σ x2 x2)
  else none)
  else none))
set_option maxHeartbeats 4000000 in
set_option maxRecDepth 100000 in
theorem s_PV_longestTaken_4b {p : Program} {l : Launch} {e : Env} {R : Room} {s : State} {m : MethodId} {args : Array Value} {below : List Frame} {meth : Method} {c : Code} {Q : State → Prop} {D : va_G} {q : Nat → ClassId} {a t : Nat → Nat} {A : Nat → Prop} (C : pv_C p s m args c prog_1_method_15_code 3 "PatchVoices" pv_TB D pv_cl (pv_ty q) 52 a A (pv_ZX t A)) (hmv : pv_mv A (pv_ZX t A)) (hRf : 0 ≤ R.frames) (hRl : 0 ≤ R.locals) {out : (Int32 × pv_S)} (hret : pv_Ri p l e R s m args below meth c prog_1_method_15_code D pv_cl 52 a (pv_FX q a) A Q out) {k_4 : pv_S → Int32 → Int32 → Option (Int32 × pv_S)} (hk_4 : ∀ (σ : pv_S) (x1 : Int32) (x2 : Int32) (H : Heap) (locs : List Loc) (ls : Array Slot), k_4 σ x1 x2 = some out → lv_has ls 3 [(0, .ref (a 0)), (1, .int x1), (2, .int x2)] → pv_W D pv_cl 52 a (pv_FX q a) σ H → va_S A s.heap H locs → W p l e R s m args below meth c H locs 0 0 Q (F0 m 4 ls [])) {σ : pv_S} {x1 : Int32} {x2 : Int32} {H : Heap} {locs : List Loc} {ls : Array Slot} (hl : lv_has ls 3 [(0, .ref (a 0)), (1, .int x1), (2, .int x2)]) (hP : pv_W D pv_cl 52 a (pv_FX q a) σ H) (hS : va_S A s.heap H locs) (hf : f_PV_longestTaken_4b k_4 σ x1 x2 = some out) : W p l e R s m args below meth c H locs 0 0 Q (F0 m 4 ls []) := by
  unfold f_PV_longestTaken_4b at hf
  have hx := C.1
  have hb := C.2.1
  refine lv_iload_n hx hb d_PV_longestTaken_4 rfl (lv_at hl 2 rfl) ?_
  refine lv_aload_n hx hb d_PV_longestTaken_5 rfl (lv_at hl 0 rfl) ?_
  refine pv_get C hP (v := .int (σ.1 0 7)) (j := 7) (by decide) (fx_0 _ _ _ _) fl_PV_37 rfl d_PV_longestTaken_6 ?_
  refine lv_icmp_ge (tgt := 42) hx hb d_PV_longestTaken_9 (by decide) (fun h => ?_) (fun h => ?_)
  · have hf := pv_t hf h
    refine lv_iload_n hx hb d_PV_longestTaken_42 rfl (lv_at hl 1 rfl) ?_
    obtain rfl := Option.some.inj hf
    exact hret _ _ _ _ d_PV_longestTaken_43 hP hS
  · have hf := pv_f hf h
    refine lv_aload_n hx hb d_PV_longestTaken_12 rfl (lv_at hl 0 rfl) ?_
    refine pv_get C hP (v := .ref (a 25)) (j := 6) (by decide) (fx_0 _ _ _ _) fl_PV_33 rfl d_PV_longestTaken_13 ?_
    refine lv_iload_n hx hb d_PV_longestTaken_16 rfl (lv_at hl 2 rfl) ?_
    obtain ⟨hg, hf⟩ := pv_g hf
    have hi1 := hg
    have hi1l := pv_in_lt hi1
    refine pv_aald C hP (t0 := 4) (b := a (28 + 6 * (x2).toNatClampNeg)) (by decide) (fx_25 _ _ _ _) rfl hg (if_pos hi1l) d_PV_longestTaken_17 ?_
    refine pv_get C hP (v := .long (σ.2 (28 + 6 * (x2).toNatClampNeg) 5)) (j := 5) (by omega) (fx_v0 hi1l _ _ _ _) fl_PV_139 rfl d_PV_longestTaken_18 ?_
    refine lv_aload_n hx hb d_PV_longestTaken_21 rfl (lv_at hl 0 rfl) ?_
    refine pv_get C hP (v := .ref (a 25)) (j := 6) (by decide) (fx_0 _ _ _ _) fl_PV_33 rfl d_PV_longestTaken_22 ?_
    refine lv_iload_n hx hb d_PV_longestTaken_25 rfl (lv_at hl 1 rfl) ?_
    obtain ⟨hg, hf⟩ := pv_g hf
    have hi2 := hg
    have hi2l := pv_in_lt hi2
    refine pv_aald C hP (t0 := 4) (b := a (28 + 6 * (x1).toNatClampNeg)) (by decide) (fx_25 _ _ _ _) rfl hg (if_pos hi2l) d_PV_longestTaken_26 ?_
    refine pv_get C hP (v := .long (σ.2 (28 + 6 * (x1).toNatClampNeg) 5)) (j := 5) (by omega) (fx_v0 hi2l _ _ _ _) fl_PV_139 rfl d_PV_longestTaken_27 ?_
    refine W.lcmp hx hb d_PV_longestTaken_30 ?_
    refine lv_if_ge (tgt := 36) hx hb d_PV_longestTaken_31 (by decide) (fun h => ?_) (fun h => ?_)
    · have hf := pv_t hf h
      exact s_PV_longestTaken_36 C hmv hRf hRl hret hk_4 (lv_sub hl [0, 1, 2] rfl) hP hS hf
    · have hf := pv_f hf h
      refine lv_iload_n hx hb d_PV_longestTaken_34 rfl (lv_at hl 2 rfl) ?_
      refine lv_istore_n (lv' := [(1, .int x2), (0, .ref (a 0)), (2, .int x2)]) hx hb d_PV_longestTaken_35 rfl hl (by decide) rfl (fun ls hl => ?_)
      exact s_PV_longestTaken_36 C hmv hRf hRl hret hk_4 (lv_sub hl [1, 0, 2] rfl) hP hS hf
def f_PV_longestTaken_4 : Nat → pv_S → Int32 → Int32 → Option (Int32 × pv_S)
  | 0 => fun _ _ _ => none
  | n + 1 => f_PV_longestTaken_4b (f_PV_longestTaken_4 n)
set_option maxHeartbeats 4000000 in
theorem s_PV_longestTaken_4 {p : Program} {l : Launch} {e : Env} {R : Room} {s : State} {m : MethodId} {args : Array Value} {below : List Frame} {meth : Method} {c : Code} {Q : State → Prop} {D : va_G} {q : Nat → ClassId} {a t : Nat → Nat} {A : Nat → Prop} (C : pv_C p s m args c prog_1_method_15_code 3 "PatchVoices" pv_TB D pv_cl (pv_ty q) 52 a A (pv_ZX t A)) (hmv : pv_mv A (pv_ZX t A)) (hRf : 0 ≤ R.frames) (hRl : 0 ≤ R.locals) {out : (Int32 × pv_S)} (hret : pv_Ri p l e R s m args below meth c prog_1_method_15_code D pv_cl 52 a (pv_FX q a) A Q out) (n : Nat) : ∀ {σ : pv_S} {x1 : Int32} {x2 : Int32} {H : Heap} {locs : List Loc} {ls : Array Slot}, lv_has ls 3 [(0, .ref (a 0)), (1, .int x1), (2, .int x2)] → pv_W D pv_cl 52 a (pv_FX q a) σ H → va_S A s.heap H locs → f_PV_longestTaken_4 n σ x1 x2 = some out → W p l e R s m args below meth c H locs 0 0 Q (F0 m 4 ls []) := by
  induction n with
  | zero => intro σ x1 x2 H locs ls hl hP hS hf; cases hf
  | succ n ih => intro σ x1 x2 H locs ls hl hP hS hf; exact s_PV_longestTaken_4b C hmv hRf hRl hret (fun σ x1 x2 H locs ls hf hl hP hS => ih hl hP hS hf) hl hP hS hf
def f_PV_longestTaken_0 (σ : pv_S) : Option (Int32 × pv_S) :=
  f_PV_longestTaken_4 pv_fu σ (0 : Int32) (1 : Int32)
set_option maxHeartbeats 4000000 in
set_option maxRecDepth 100000 in
theorem s_PV_longestTaken_0 {p : Program} {l : Launch} {e : Env} {R : Room} {s : State} {m : MethodId} {args : Array Value} {below : List Frame} {meth : Method} {c : Code} {Q : State → Prop} {D : va_G} {q : Nat → ClassId} {a t : Nat → Nat} {A : Nat → Prop} (C : pv_C p s m args c prog_1_method_15_code 3 "PatchVoices" pv_TB D pv_cl (pv_ty q) 52 a A (pv_ZX t A)) (hmv : pv_mv A (pv_ZX t A)) (hRf : 0 ≤ R.frames) (hRl : 0 ≤ R.locals) {out : (Int32 × pv_S)} (hret : pv_Ri p l e R s m args below meth c prog_1_method_15_code D pv_cl 52 a (pv_FX q a) A Q out) {σ : pv_S} {H : Heap} {locs : List Loc} {ls : Array Slot} (hl : lv_has ls 3 [(0, .ref (a 0))]) (hP : pv_W D pv_cl 52 a (pv_FX q a) σ H) (hS : va_S A s.heap H locs) (hf : f_PV_longestTaken_0 σ = some out) : W p l e R s m args below meth c H locs 0 0 Q (F0 m 0 ls []) := by
  unfold f_PV_longestTaken_0 at hf
  have hx := C.1
  have hb := C.2.1
  refine lv_iconst (v := (0 : Int32)) hx hb d_PV_longestTaken_0 (by decide) ?_
  refine lv_istore_n (lv' := [(1, .int (0 : Int32)), (0, .ref (a 0))]) hx hb d_PV_longestTaken_1 rfl hl (by decide) rfl (fun ls hl => ?_)
  refine lv_iconst (v := (1 : Int32)) hx hb d_PV_longestTaken_2 (by decide) ?_
  refine lv_istore_n (lv' := [(2, .int (1 : Int32)), (1, .int (0 : Int32)), (0, .ref (a 0))]) hx hb d_PV_longestTaken_3 rfl hl (by decide) rfl (fun ls hl => ?_)
  exact s_PV_longestTaken_4 C hmv hRf hRl hret pv_fu (lv_sub hl [2, 1, 0] rfl) hP hS hf
def f_PV_longestTaken (σ : pv_S) : Option (Int32 × pv_S) := f_PV_longestTaken_0 σ
def rm_PV_longestTaken : Room := { frames := 0, cells := 0, slots := 0, locals := 0 }
theorem c_PV_longestTaken {l : Launch} {D : va_G} {q : Nat → ClassId} {a t : Nat → Nat} {A : Nat → Prop} (hD : pv_D 52 a A) (hmv : pv_mv A (pv_ZX t A)) {σ : pv_S} {out : (Int32 × pv_S)} (hf : f_PV_longestTaken σ = some out) : pv_Mi l y_PV_longestTaken (Cond.code y_PV_longestTaken prog_1_method_15_code 3 (some .int) :: pv_TB) rm_PV_longestTaken D pv_cl (pv_ty q) 52 a (pv_FX q a) A (pv_ZX t A) [.ref (a 0)] σ out :=
  pv_ofI (by decide) (Nat.le_of_ble_eq_true rfl) hD (fun p e s m args below meth c Q ls C hret hl hP => s_PV_longestTaken_0 C hmv (Nat.le_refl _) (Nat.le_refl _) hret hl hP va_S.rf hf)
theorem d_PV_voiceToTake_0 : decode prog_1_method_13_code 0 = .ok (.iconst 0, 1) := by decide +kernel
theorem d_PV_voiceToTake_1 : decode prog_1_method_13_code 1 = .ok (.istore_n 1, 1) := by decide +kernel
theorem d_PV_voiceToTake_2 : decode prog_1_method_13_code 2 = .ok (.iload_n 1, 1) := by decide +kernel
theorem d_PV_voiceToTake_3 : decode prog_1_method_13_code 3 = .ok (.aload_n 0, 1) := by decide +kernel
theorem d_PV_voiceToTake_4 : decode prog_1_method_13_code 4 = .ok (.getfield 37, 3) := by decide +kernel
theorem d_PV_voiceToTake_7 : decode prog_1_method_13_code 7 = .ok (.if_icmp .ge 23, 3) := by decide +kernel
theorem d_PV_voiceToTake_10 : decode prog_1_method_13_code 10 = .ok (.aload_n 0, 1) := by decide +kernel
theorem d_PV_voiceToTake_11 : decode prog_1_method_13_code 11 = .ok (.getfield 33, 3) := by decide +kernel
theorem d_PV_voiceToTake_14 : decode prog_1_method_13_code 14 = .ok (.iload_n 1, 1) := by decide +kernel
theorem d_PV_voiceToTake_15 : decode prog_1_method_13_code 15 = .ok (.aaload, 1) := by decide +kernel
theorem d_PV_voiceToTake_16 : decode prog_1_method_13_code 16 = .ok (.getfield 124, 3) := by decide +kernel
theorem d_PV_voiceToTake_19 : decode prog_1_method_13_code 19 = .ok (.ifCond .ne 5, 3) := by decide +kernel
theorem d_PV_voiceToTake_22 : decode prog_1_method_13_code 22 = .ok (.iload_n 1, 1) := by decide +kernel
theorem d_PV_voiceToTake_23 : decode prog_1_method_13_code 23 = .ok (.ireturn, 1) := by decide +kernel
theorem d_PV_voiceToTake_24 : decode prog_1_method_13_code 24 = .ok (.iinc 1 1, 3) := by decide +kernel
theorem d_PV_voiceToTake_27 : decode prog_1_method_13_code 27 = .ok (.goto (-25), 3) := by decide +kernel
theorem d_PV_voiceToTake_30 : decode prog_1_method_13_code 30 = .ok (.aload_n 0, 1) := by decide +kernel
theorem d_PV_voiceToTake_31 : decode prog_1_method_13_code 31 = .ok (.invokevirtual 127, 3) := by decide +kernel
theorem d_PV_voiceToTake_34 : decode prog_1_method_13_code 34 = .ok (.istore_n 1, 1) := by decide +kernel
theorem d_PV_voiceToTake_35 : decode prog_1_method_13_code 35 = .ok (.iload_n 1, 1) := by decide +kernel
theorem d_PV_voiceToTake_36 : decode prog_1_method_13_code 36 = .ok (.iconst (-1), 1) := by decide +kernel
theorem d_PV_voiceToTake_37 : decode prog_1_method_13_code 37 = .ok (.if_icmp .ne 10, 3) := by decide +kernel
theorem d_PV_voiceToTake_40 : decode prog_1_method_13_code 40 = .ok (.aload_n 0, 1) := by decide +kernel
theorem d_PV_voiceToTake_41 : decode prog_1_method_13_code 41 = .ok (.invokevirtual 130, 3) := by decide +kernel
theorem d_PV_voiceToTake_44 : decode prog_1_method_13_code 44 = .ok (.goto 4, 3) := by decide +kernel
theorem d_PV_voiceToTake_47 : decode prog_1_method_13_code 47 = .ok (.iload_n 1, 1) := by decide +kernel
theorem d_PV_voiceToTake_48 : decode prog_1_method_13_code 48 = .ok (.ireturn, 1) := by decide +kernel
def f_PV_voiceToTake_2b (k_2 : pv_S → Int32 → Option (Int32 × pv_S)) (σ : pv_S) (x1 : Int32) : Option (Int32 × pv_S) :=
  (if (σ.1 0 7) ≤ x1 then
  ((f_PV_longestQuiet σ).bind fun q1 =>
(if q1.1 = (-1 : Int32) then
  ((f_PV_longestTaken q1.2).bind fun q2 =>
some (q2.1, q2.2))
  else
  some (q1.1, q1.2)))
  else
  (if pv_in x1 4 = true then
(if (σ.1 (28 + 6 * (x1).toNatClampNeg) 0) = 0 then
  some (x1, σ)
  else
  k_2 σ (x1 + (1 : Int32)))
  else none))
set_option maxHeartbeats 4000000 in
set_option maxRecDepth 100000 in
theorem s_PV_voiceToTake_2b {p : Program} {l : Launch} {e : Env} {R : Room} {s : State} {m : MethodId} {args : Array Value} {below : List Frame} {meth : Method} {c : Code} {Q : State → Prop} {D : va_G} {q : Nat → ClassId} {a t : Nat → Nat} {A : Nat → Prop} (C : pv_C p s m args c prog_1_method_13_code 2 "PatchVoices" pv_TB D pv_cl (pv_ty q) 52 a A (pv_ZX t A)) (hmv : pv_mv A (pv_ZX t A)) (hRf : 1 ≤ R.frames) (hRl : 22 ≤ R.locals) {out : (Int32 × pv_S)} (hret : pv_Ri p l e R s m args below meth c prog_1_method_13_code D pv_cl 52 a (pv_FX q a) A Q out) {k_2 : pv_S → Int32 → Option (Int32 × pv_S)} (hk_2 : ∀ (σ : pv_S) (x1 : Int32) (H : Heap) (locs : List Loc) (ls : Array Slot), k_2 σ x1 = some out → lv_has ls 2 [(0, .ref (a 0)), (1, .int x1)] → pv_W D pv_cl 52 a (pv_FX q a) σ H → va_S A s.heap H locs → W p l e R s m args below meth c H locs 0 0 Q (F0 m 2 ls [])) {σ : pv_S} {x1 : Int32} {H : Heap} {locs : List Loc} {ls : Array Slot} (hl : lv_has ls 2 [(0, .ref (a 0)), (1, .int x1)]) (hP : pv_W D pv_cl 52 a (pv_FX q a) σ H) (hS : va_S A s.heap H locs) (hf : f_PV_voiceToTake_2b k_2 σ x1 = some out) : W p l e R s m args below meth c H locs 0 0 Q (F0 m 2 ls []) := by
  unfold f_PV_voiceToTake_2b at hf
  have hx := C.1
  have hb := C.2.1
  refine lv_iload_n hx hb d_PV_voiceToTake_2 rfl (lv_at hl 1 rfl) ?_
  refine lv_aload_n hx hb d_PV_voiceToTake_3 rfl (lv_at hl 0 rfl) ?_
  refine pv_get C hP (v := .int (σ.1 0 7)) (j := 7) (by decide) (fx_0 _ _ _ _) fl_PV_37 rfl d_PV_voiceToTake_4 ?_
  refine lv_icmp_ge (tgt := 30) hx hb d_PV_voiceToTake_7 (by decide) (fun h => ?_) (fun h => ?_)
  · have hf := pv_t hf h
    refine lv_aload_n hx hb d_PV_voiceToTake_30 rfl (lv_at hl 0 rfl) ?_
    obtain ⟨q1, hc, hf⟩ := pv_b hf
    refine pv_callVi C hmv pv_good hP hS (As := []) (rest := []) (by decide) (fx_0 _ _ _ _) rfl (c_PV_longestQuiet C.2.2.2.2.2.2.1 hmv hc) cv_PV_127 ⟨rfl, rfl, Nat.le_trans (Nat.le_of_ble_eq_true rfl) hRf, Nat.le_trans (Nat.le_of_ble_eq_true rfl) hRl⟩ rfl hl.1 rfl (Nat.le_of_ble_eq_true rfl) d_PV_voiceToTake_31 ⟨Nat.zero_le _, Nat.zero_le _⟩ (fun H locs hP hS => ?_)
    refine lv_istore_n (lv' := [(1, .int q1.1), (0, .ref (a 0))]) hx hb d_PV_voiceToTake_34 rfl hl (by decide) rfl (fun ls hl => ?_)
    refine lv_iload_n hx hb d_PV_voiceToTake_35 rfl (lv_at hl 0 rfl) ?_
    refine lv_iconst (v := (-1 : Int32)) hx hb d_PV_voiceToTake_36 (by decide) ?_
    refine lv_icmp_ne (tgt := 47) hx hb d_PV_voiceToTake_37 (by decide) (fun h => ?_) (fun h => ?_)
    · have hf := pv_f hf h
      refine lv_iload_n hx hb d_PV_voiceToTake_47 rfl (lv_at hl 0 rfl) ?_
      obtain rfl := Option.some.inj hf
      exact hret _ _ _ _ d_PV_voiceToTake_48 hP hS
    · have hf := pv_t hf h
      refine lv_aload_n hx hb d_PV_voiceToTake_40 rfl (lv_at hl 1 rfl) ?_
      obtain ⟨q2, hc, hf⟩ := pv_b hf
      refine pv_callVi C hmv pv_good hP hS (As := []) (rest := []) (by decide) (fx_0 _ _ _ _) rfl (c_PV_longestTaken C.2.2.2.2.2.2.1 hmv hc) cv_PV_130 ⟨rfl, rfl, Nat.le_trans (Nat.le_of_ble_eq_true rfl) hRf, Nat.le_trans (Nat.le_of_ble_eq_true rfl) hRl⟩ rfl hl.1 rfl (Nat.le_of_ble_eq_true rfl) d_PV_voiceToTake_41 ⟨Nat.zero_le _, Nat.zero_le _⟩ (fun H locs hP hS => ?_)
      refine lv_goto (tgt := 48) hx hb d_PV_voiceToTake_44 (by decide) ?_
      obtain rfl := Option.some.inj hf
      exact hret _ _ _ _ d_PV_voiceToTake_48 hP hS
  · have hf := pv_f hf h
    refine lv_aload_n hx hb d_PV_voiceToTake_10 rfl (lv_at hl 0 rfl) ?_
    refine pv_get C hP (v := .ref (a 25)) (j := 6) (by decide) (fx_0 _ _ _ _) fl_PV_33 rfl d_PV_voiceToTake_11 ?_
    refine lv_iload_n hx hb d_PV_voiceToTake_14 rfl (lv_at hl 1 rfl) ?_
    obtain ⟨hg, hf⟩ := pv_g hf
    have hi1 := hg
    have hi1l := pv_in_lt hi1
    refine pv_aald C hP (t0 := 4) (b := a (28 + 6 * (x1).toNatClampNeg)) (by decide) (fx_25 _ _ _ _) rfl hg (if_pos hi1l) d_PV_voiceToTake_15 ?_
    refine pv_get C hP (v := .int (σ.1 (28 + 6 * (x1).toNatClampNeg) 0)) (j := 0) (by omega) (fx_v0 hi1l _ _ _ _) fl_PV_124 rfl d_PV_voiceToTake_16 ?_
    refine lv_if_ne (tgt := 24) hx hb d_PV_voiceToTake_19 (by decide) (fun h => ?_) (fun h => ?_)
    · have hf := pv_f hf h
      refine lv_iinc (k := 1) (v := (x1 + (1 : Int32))) (lv' := [(1, .int (x1 + (1 : Int32))), (0, .ref (a 0))]) hx hb d_PV_voiceToTake_24 hl rfl (pv_inc (by decide)) (by decide) rfl (fun ls hl => ?_)
      refine lv_goto (tgt := 2) hx hb d_PV_voiceToTake_27 (by decide) ?_
      exact hk_2 _ _ _ _ _ hf (lv_sub hl [1, 0] rfl) hP hS
    · have hf := pv_t hf h
      refine lv_iload_n hx hb d_PV_voiceToTake_22 rfl (lv_at hl 1 rfl) ?_
      obtain rfl := Option.some.inj hf
      exact hret _ _ _ _ d_PV_voiceToTake_23 hP hS
def f_PV_voiceToTake_2 : Nat → pv_S → Int32 → Option (Int32 × pv_S)
  | 0 => fun _ _ => none
  | n + 1 => f_PV_voiceToTake_2b (f_PV_voiceToTake_2 n)
set_option maxHeartbeats 4000000 in
theorem s_PV_voiceToTake_2 {p : Program} {l : Launch} {e : Env} {R : Room} {s : State} {m : MethodId} {args : Array Value} {below : List Frame} {meth : Method} {c : Code} {Q : State → Prop} {D : va_G} {q : Nat → ClassId} {a t : Nat → Nat} {A : Nat → Prop} (C : pv_C p s m args c prog_1_method_13_code 2 "PatchVoices" pv_TB D pv_cl (pv_ty q) 52 a A (pv_ZX t A)) (hmv : pv_mv A (pv_ZX t A)) (hRf : 1 ≤ R.frames) (hRl : 22 ≤ R.locals) {out : (Int32 × pv_S)} (hret : pv_Ri p l e R s m args below meth c prog_1_method_13_code D pv_cl 52 a (pv_FX q a) A Q out) (n : Nat) : ∀ {σ : pv_S} {x1 : Int32} {H : Heap} {locs : List Loc} {ls : Array Slot}, lv_has ls 2 [(0, .ref (a 0)), (1, .int x1)] → pv_W D pv_cl 52 a (pv_FX q a) σ H → va_S A s.heap H locs → f_PV_voiceToTake_2 n σ x1 = some out → W p l e R s m args below meth c H locs 0 0 Q (F0 m 2 ls []) := by
  induction n with
  | zero => intro σ x1 H locs ls hl hP hS hf; cases hf
  | succ n ih => intro σ x1 H locs ls hl hP hS hf; exact s_PV_voiceToTake_2b C hmv hRf hRl hret (fun σ x1 H locs ls hf hl hP hS => ih hl hP hS hf) hl hP hS hf
def f_PV_voiceToTake_0 (σ : pv_S) : Option (Int32 × pv_S) :=
  f_PV_voiceToTake_2 pv_fu σ (0 : Int32)
set_option maxHeartbeats 4000000 in
set_option maxRecDepth 100000 in
theorem s_PV_voiceToTake_0 {p : Program} {l : Launch} {e : Env} {R : Room} {s : State} {m : MethodId} {args : Array Value} {below : List Frame} {meth : Method} {c : Code} {Q : State → Prop} {D : va_G} {q : Nat → ClassId} {a t : Nat → Nat} {A : Nat → Prop} (C : pv_C p s m args c prog_1_method_13_code 2 "PatchVoices" pv_TB D pv_cl (pv_ty q) 52 a A (pv_ZX t A)) (hmv : pv_mv A (pv_ZX t A)) (hRf : 1 ≤ R.frames) (hRl : 22 ≤ R.locals) {out : (Int32 × pv_S)} (hret : pv_Ri p l e R s m args below meth c prog_1_method_13_code D pv_cl 52 a (pv_FX q a) A Q out) {σ : pv_S} {H : Heap} {locs : List Loc} {ls : Array Slot} (hl : lv_has ls 2 [(0, .ref (a 0))]) (hP : pv_W D pv_cl 52 a (pv_FX q a) σ H) (hS : va_S A s.heap H locs) (hf : f_PV_voiceToTake_0 σ = some out) : W p l e R s m args below meth c H locs 0 0 Q (F0 m 0 ls []) := by
  unfold f_PV_voiceToTake_0 at hf
  have hx := C.1
  have hb := C.2.1
  refine lv_iconst (v := (0 : Int32)) hx hb d_PV_voiceToTake_0 (by decide) ?_
  refine lv_istore_n (lv' := [(1, .int (0 : Int32)), (0, .ref (a 0))]) hx hb d_PV_voiceToTake_1 rfl hl (by decide) rfl (fun ls hl => ?_)
  exact s_PV_voiceToTake_2 C hmv hRf hRl hret pv_fu (lv_sub hl [1, 0] rfl) hP hS hf
def f_PV_voiceToTake (σ : pv_S) : Option (Int32 × pv_S) := f_PV_voiceToTake_0 σ
def rm_PV_voiceToTake : Room := { frames := 1, cells := 0, slots := 0, locals := 22 }
theorem c_PV_voiceToTake {l : Launch} {D : va_G} {q : Nat → ClassId} {a t : Nat → Nat} {A : Nat → Prop} (hD : pv_D 52 a A) (hmv : pv_mv A (pv_ZX t A)) {σ : pv_S} {out : (Int32 × pv_S)} (hf : f_PV_voiceToTake σ = some out) : pv_Mi l y_PV_voiceToTake (Cond.code y_PV_voiceToTake prog_1_method_13_code 2 (some .int) :: pv_TB) rm_PV_voiceToTake D pv_cl (pv_ty q) 52 a (pv_FX q a) A (pv_ZX t A) [.ref (a 0)] σ out :=
  pv_ofI (by decide) (Nat.le_of_ble_eq_true rfl) hD (fun p e s m args below meth c Q ls C hret hl hP => s_PV_voiceToTake_0 C hmv (Nat.le_refl _) (Nat.le_refl _) hret hl hP va_S.rf hf)
theorem d_PV_isNoVoice_0 : decode prog_1_method_18_code 0 = .ok (.iload_n 1, 1) := by decide +kernel
theorem d_PV_isNoVoice_1 : decode prog_1_method_18_code 1 = .ok (.ifCond .lt 11, 3) := by decide +kernel
theorem d_PV_isNoVoice_4 : decode prog_1_method_18_code 4 = .ok (.iload_n 1, 1) := by decide +kernel
theorem d_PV_isNoVoice_5 : decode prog_1_method_18_code 5 = .ok (.aload_n 0, 1) := by decide +kernel
theorem d_PV_isNoVoice_6 : decode prog_1_method_18_code 6 = .ok (.getfield 37, 3) := by decide +kernel
theorem d_PV_isNoVoice_9 : decode prog_1_method_18_code 9 = .ok (.if_icmp .lt 7, 3) := by decide +kernel
theorem d_PV_isNoVoice_12 : decode prog_1_method_18_code 12 = .ok (.iconst 1, 1) := by decide +kernel
theorem d_PV_isNoVoice_13 : decode prog_1_method_18_code 13 = .ok (.goto 4, 3) := by decide +kernel
theorem d_PV_isNoVoice_16 : decode prog_1_method_18_code 16 = .ok (.iconst 0, 1) := by decide +kernel
theorem d_PV_isNoVoice_17 : decode prog_1_method_18_code 17 = .ok (.ireturn, 1) := by decide +kernel
def f_PV_isNoVoice_0 (σ : pv_S) (x1 : Int32) : Option (Int32 × pv_S) :=
  (if x1 < 0 then
  some ((1 : Int32), σ)
  else
  (if x1 < (σ.1 0 7) then
  some ((0 : Int32), σ)
  else
  some ((1 : Int32), σ)))
set_option maxHeartbeats 4000000 in
set_option maxRecDepth 100000 in
theorem s_PV_isNoVoice_0 {p : Program} {l : Launch} {e : Env} {R : Room} {s : State} {m : MethodId} {args : Array Value} {below : List Frame} {meth : Method} {c : Code} {Q : State → Prop} {D : va_G} {q : Nat → ClassId} {a t : Nat → Nat} {A : Nat → Prop} (C : pv_C p s m args c prog_1_method_18_code 2 "PatchVoices" pv_TB D pv_cl (pv_ty q) 52 a A (pv_ZX t A)) (hmv : pv_mv A (pv_ZX t A)) (hRf : 0 ≤ R.frames) (hRl : 0 ≤ R.locals) {out : (Int32 × pv_S)} (hret : pv_Rz p l e R s m args below meth c prog_1_method_18_code D pv_cl 52 a (pv_FX q a) A Q out) {σ : pv_S} {x1 : Int32} {H : Heap} {locs : List Loc} {ls : Array Slot} (hl : lv_has ls 2 [(0, .ref (a 0)), (1, .int x1)]) (hP : pv_W D pv_cl 52 a (pv_FX q a) σ H) (hS : va_S A s.heap H locs) (hf : f_PV_isNoVoice_0 σ x1 = some out) : W p l e R s m args below meth c H locs 0 0 Q (F0 m 0 ls []) := by
  unfold f_PV_isNoVoice_0 at hf
  have hx := C.1
  have hb := C.2.1
  refine lv_iload_n hx hb d_PV_isNoVoice_0 rfl (lv_at hl 1 rfl) ?_
  refine lv_if_lt (tgt := 12) hx hb d_PV_isNoVoice_1 (by decide) (fun h => ?_) (fun h => ?_)
  · have hf := pv_t hf h
    refine lv_iconst (v := (1 : Int32)) hx hb d_PV_isNoVoice_12 (by decide) ?_
    refine lv_goto (tgt := 17) hx hb d_PV_isNoVoice_13 (by decide) ?_
    obtain rfl := Option.some.inj hf
    exact hret _ _ _ _ d_PV_isNoVoice_17 rfl hP hS
  · have hf := pv_f hf h
    refine lv_iload_n hx hb d_PV_isNoVoice_4 rfl (lv_at hl 1 rfl) ?_
    refine lv_aload_n hx hb d_PV_isNoVoice_5 rfl (lv_at hl 0 rfl) ?_
    refine pv_get C hP (v := .int (σ.1 0 7)) (j := 7) (by decide) (fx_0 _ _ _ _) fl_PV_37 rfl d_PV_isNoVoice_6 ?_
    refine lv_icmp_lt (tgt := 16) hx hb d_PV_isNoVoice_9 (by decide) (fun h => ?_) (fun h => ?_)
    · have hf := pv_t hf h
      refine lv_iconst (v := (0 : Int32)) hx hb d_PV_isNoVoice_16 (by decide) ?_
      obtain rfl := Option.some.inj hf
      exact hret _ _ _ _ d_PV_isNoVoice_17 rfl hP hS
    · have hf := pv_f hf h
      refine lv_iconst (v := (1 : Int32)) hx hb d_PV_isNoVoice_12 (by decide) ?_
      refine lv_goto (tgt := 17) hx hb d_PV_isNoVoice_13 (by decide) ?_
      obtain rfl := Option.some.inj hf
      exact hret _ _ _ _ d_PV_isNoVoice_17 rfl hP hS
def f_PV_isNoVoice (σ : pv_S) (x1 : Int32) : Option (Int32 × pv_S) := f_PV_isNoVoice_0 σ x1
def rm_PV_isNoVoice : Room := { frames := 0, cells := 0, slots := 0, locals := 0 }
theorem c_PV_isNoVoice {l : Launch} {D : va_G} {q : Nat → ClassId} {a t : Nat → Nat} {A : Nat → Prop} (hD : pv_D 52 a A) (hmv : pv_mv A (pv_ZX t A)) {σ : pv_S} {x1 : Int32} {out : (Int32 × pv_S)} (hf : f_PV_isNoVoice σ x1 = some out) : pv_Mi l y_PV_isNoVoice (Cond.code y_PV_isNoVoice prog_1_method_18_code 2 (some .boolean) :: pv_TB) rm_PV_isNoVoice D pv_cl (pv_ty q) 52 a (pv_FX q a) A (pv_ZX t A) [.ref (a 0), .int x1] σ out :=
  pv_ofZ (by decide) (Nat.le_of_ble_eq_true rfl) hD (fun p e s m args below meth c Q ls C hret hl hP => s_PV_isNoVoice_0 C hmv (Nat.le_refl _) (Nat.le_refl _) hret hl hP va_S.rf hf)
theorem d_PV_nextSample_0 : decode prog_1_method_21_code 0 = .ok (.lconst 0, 1) := by decide +kernel
theorem d_PV_nextSample_1 : decode prog_1_method_21_code 1 = .ok (.lstore_n 1, 1) := by decide +kernel
theorem d_PV_nextSample_2 : decode prog_1_method_21_code 2 = .ok (.iconst 0, 1) := by decide +kernel
theorem d_PV_nextSample_3 : decode prog_1_method_21_code 3 = .ok (.istore_n 3, 1) := by decide +kernel
theorem d_PV_nextSample_4 : decode prog_1_method_21_code 4 = .ok (.iload_n 3, 1) := by decide +kernel
theorem d_PV_nextSample_5 : decode prog_1_method_21_code 5 = .ok (.aload_n 0, 1) := by decide +kernel
theorem d_PV_nextSample_6 : decode prog_1_method_21_code 6 = .ok (.getfield 37, 3) := by decide +kernel
theorem d_PV_nextSample_9 : decode prog_1_method_21_code 9 = .ok (.if_icmp .ge 42, 3) := by decide +kernel
theorem d_PV_nextSample_12 : decode prog_1_method_21_code 12 = .ok (.aload_n 0, 1) := by decide +kernel
theorem d_PV_nextSample_13 : decode prog_1_method_21_code 13 = .ok (.getfield 33, 3) := by decide +kernel
theorem d_PV_nextSample_16 : decode prog_1_method_21_code 16 = .ok (.iload_n 3, 1) := by decide +kernel
theorem d_PV_nextSample_17 : decode prog_1_method_21_code 17 = .ok (.aaload, 1) := by decide +kernel
theorem d_PV_nextSample_18 : decode prog_1_method_21_code 18 = .ok (.getfield 124, 3) := by decide +kernel
theorem d_PV_nextSample_21 : decode prog_1_method_21_code 21 = .ok (.ifCond .eq 24, 3) := by decide +kernel
theorem d_PV_nextSample_24 : decode prog_1_method_21_code 24 = .ok (.lload_n 1, 1) := by decide +kernel
theorem d_PV_nextSample_25 : decode prog_1_method_21_code 25 = .ok (.aload_n 0, 1) := by decide +kernel
theorem d_PV_nextSample_26 : decode prog_1_method_21_code 26 = .ok (.getfield 33, 3) := by decide +kernel
theorem d_PV_nextSample_29 : decode prog_1_method_21_code 29 = .ok (.iload_n 3, 1) := by decide +kernel
theorem d_PV_nextSample_30 : decode prog_1_method_21_code 30 = .ok (.aaload, 1) := by decide +kernel
theorem d_PV_nextSample_31 : decode prog_1_method_21_code 31 = .ok (.aload_n 0, 1) := by decide +kernel
theorem d_PV_nextSample_32 : decode prog_1_method_21_code 32 = .ok (.getfield 23, 3) := by decide +kernel
theorem d_PV_nextSample_35 : decode prog_1_method_21_code 35 = .ok (.aload_n 0, 1) := by decide +kernel
theorem d_PV_nextSample_36 : decode prog_1_method_21_code 36 = .ok (.getfield 40, 3) := by decide +kernel
theorem d_PV_nextSample_39 : decode prog_1_method_21_code 39 = .ok (.invokevirtual 172, 3) := by decide +kernel
theorem d_PV_nextSample_42 : decode prog_1_method_21_code 42 = .ok (.i2l, 1) := by decide +kernel
theorem d_PV_nextSample_43 : decode prog_1_method_21_code 43 = .ok (.ladd, 1) := by decide +kernel
theorem d_PV_nextSample_44 : decode prog_1_method_21_code 44 = .ok (.lstore_n 1, 1) := by decide +kernel
theorem d_PV_nextSample_45 : decode prog_1_method_21_code 45 = .ok (.iinc 3 1, 3) := by decide +kernel
theorem d_PV_nextSample_48 : decode prog_1_method_21_code 48 = .ok (.goto (-44), 3) := by decide +kernel
theorem d_PV_nextSample_51 : decode prog_1_method_21_code 51 = .ok (.ldc2_w 176, 3) := by decide +kernel
theorem d_PV_nextSample_54 : decode prog_1_method_21_code 54 = .ok (.ldc2_w 178, 3) := by decide +kernel
theorem d_PV_nextSample_57 : decode prog_1_method_21_code 57 = .ok (.lload_n 1, 1) := by decide +kernel
theorem d_PV_nextSample_58 : decode prog_1_method_21_code 58 = .ok (.invokestatic 180, 3) := by decide +kernel
theorem d_PV_nextSample_61 : decode prog_1_method_21_code 61 = .ok (.invokestatic 186, 3) := by decide +kernel
theorem d_PV_nextSample_64 : decode prog_1_method_21_code 64 = .ok (.l2i, 1) := by decide +kernel
theorem d_PV_nextSample_65 : decode prog_1_method_21_code 65 = .ok (.ireturn, 1) := by decide +kernel
def f_PV_nextSample_45 (k_4 : pv_S → Int64 → Int32 → Option (Int32 × pv_S)) (σ : pv_S) (x1 : Int64) (x3 : Int32) : Option (Int32 × pv_S) :=
  k_4 σ x1 (x3 + (1 : Int32))
set_option maxHeartbeats 4000000 in
set_option maxRecDepth 100000 in
theorem s_PV_nextSample_45 {p : Program} {l : Launch} {e : Env} {R : Room} {s : State} {m : MethodId} {args : Array Value} {below : List Frame} {meth : Method} {c : Code} {Q : State → Prop} {D : va_G} {q : Nat → ClassId} {a t : Nat → Nat} {A : Nat → Prop} (C : pv_C p s m args c prog_1_method_21_code 4 "PatchVoices" pv_TB D pv_cl (pv_ty q) 52 a A (pv_ZX t A)) (hmv : pv_mv A (pv_ZX t A)) (hRf : 5 ≤ R.frames) (hRl : 111 ≤ R.locals) {out : (Int32 × pv_S)} (hret : pv_Ri p l e R s m args below meth c prog_1_method_21_code D pv_cl 52 a (pv_FX q a) A Q out) {k_4 : pv_S → Int64 → Int32 → Option (Int32 × pv_S)} (hk_4 : ∀ (σ : pv_S) (x1 : Int64) (x3 : Int32) (H : Heap) (locs : List Loc) (ls : Array Slot), k_4 σ x1 x3 = some out → lv_has ls 4 [(0, .ref (a 0)), (1, .long x1), (3, .int x3)] → pv_W D pv_cl 52 a (pv_FX q a) σ H → va_S A s.heap H locs → W p l e R s m args below meth c H locs 0 0 Q (F0 m 4 ls [])) {σ : pv_S} {x1 : Int64} {x3 : Int32} {H : Heap} {locs : List Loc} {ls : Array Slot} (hl : lv_has ls 4 [(0, .ref (a 0)), (1, .long x1), (3, .int x3)]) (hP : pv_W D pv_cl 52 a (pv_FX q a) σ H) (hS : va_S A s.heap H locs) (hf : f_PV_nextSample_45 k_4 σ x1 x3 = some out) : W p l e R s m args below meth c H locs 0 0 Q (F0 m 45 ls []) := by
  unfold f_PV_nextSample_45 at hf
  have hx := C.1
  have hb := C.2.1
  refine lv_iinc (k := 2) (v := (x3 + (1 : Int32))) (lv' := [(3, .int (x3 + (1 : Int32))), (0, .ref (a 0)), (1, .long x1)]) hx hb d_PV_nextSample_45 hl rfl (pv_inc (by decide)) (by decide) rfl (fun ls hl => ?_)
  refine lv_goto (tgt := 4) hx hb d_PV_nextSample_48 (by decide) ?_
  exact hk_4 _ _ _ _ _ _ hf (lv_sub hl [1, 2, 0] rfl) hP hS
def f_PV_nextSample_4b (k_4 : pv_S → Int64 → Int32 → Option (Int32 × pv_S)) (σ : pv_S) (x1 : Int64) (x3 : Int32) : Option (Int32 × pv_S) :=
  (if (σ.1 0 7) ≤ x3 then
  some ((((if (if x1 < (32767 : Int64) then x1 else (32767 : Int64)) < (-32768 : Int64) then (-32768 : Int64) else (if x1 < (32767 : Int64) then x1 else (32767 : Int64)))).toInt32), σ)
  else
  (if pv_in x3 4 = true then
(if (σ.1 (28 + 6 * (x3).toNatClampNeg) 0) = 0 then
  f_PV_nextSample_45 k_4 σ x1 x3
  else
  (if pv_in x3 4 = true then
((f_Vc_play ((x3).toNatClampNeg) σ).bind fun q1 =>
f_PV_nextSample_45 k_4 q1.2 (x1 + ((q1.1).toInt64)) x3)
  else none))
  else none))
set_option maxHeartbeats 4000000 in
set_option maxRecDepth 100000 in
theorem s_PV_nextSample_4b {p : Program} {l : Launch} {e : Env} {R : Room} {s : State} {m : MethodId} {args : Array Value} {below : List Frame} {meth : Method} {c : Code} {Q : State → Prop} {D : va_G} {q : Nat → ClassId} {a t : Nat → Nat} {A : Nat → Prop} (C : pv_C p s m args c prog_1_method_21_code 4 "PatchVoices" pv_TB D pv_cl (pv_ty q) 52 a A (pv_ZX t A)) (hmv : pv_mv A (pv_ZX t A)) (hRf : 5 ≤ R.frames) (hRl : 111 ≤ R.locals) {out : (Int32 × pv_S)} (hret : pv_Ri p l e R s m args below meth c prog_1_method_21_code D pv_cl 52 a (pv_FX q a) A Q out) {k_4 : pv_S → Int64 → Int32 → Option (Int32 × pv_S)} (hk_4 : ∀ (σ : pv_S) (x1 : Int64) (x3 : Int32) (H : Heap) (locs : List Loc) (ls : Array Slot), k_4 σ x1 x3 = some out → lv_has ls 4 [(0, .ref (a 0)), (1, .long x1), (3, .int x3)] → pv_W D pv_cl 52 a (pv_FX q a) σ H → va_S A s.heap H locs → W p l e R s m args below meth c H locs 0 0 Q (F0 m 4 ls [])) {σ : pv_S} {x1 : Int64} {x3 : Int32} {H : Heap} {locs : List Loc} {ls : Array Slot} (hl : lv_has ls 4 [(0, .ref (a 0)), (1, .long x1), (3, .int x3)]) (hP : pv_W D pv_cl 52 a (pv_FX q a) σ H) (hS : va_S A s.heap H locs) (hf : f_PV_nextSample_4b k_4 σ x1 x3 = some out) : W p l e R s m args below meth c H locs 0 0 Q (F0 m 4 ls []) := by
  unfold f_PV_nextSample_4b at hf
  have hx := C.1
  have hb := C.2.1
  refine lv_iload_n hx hb d_PV_nextSample_4 rfl (lv_at hl 2 rfl) ?_
  refine lv_aload_n hx hb d_PV_nextSample_5 rfl (lv_at hl 0 rfl) ?_
  refine pv_get C hP (v := .int (σ.1 0 7)) (j := 7) (by decide) (fx_0 _ _ _ _) fl_PV_37 rfl d_PV_nextSample_6 ?_
  refine lv_icmp_ge (tgt := 51) hx hb d_PV_nextSample_9 (by decide) (fun h => ?_) (fun h => ?_)
  · have hf := pv_t hf h
    refine lv_ldc2 (v := (-32768 : Int64)) hx hb C.2.2.2.1 (C.2.2.2.2.1 _ w_1023) d_PV_nextSample_51 ?_
    refine lv_ldc2 (v := (32767 : Int64)) hx hb C.2.2.2.1 (C.2.2.2.2.1 _ w_1024) d_PV_nextSample_54 ?_
    refine lv_lload_n hx hb d_PV_nextSample_57 rfl (lv_at hl 1 rfl) ?_
    refine va_mmin_long hx hb (C.2.2.1.trans hl.1.symm) C.2.2.2.1 (C.2.2.2.2.1 _ w_1025) (C.2.2.2.2.1 _ w_643) (C.2.2.2.2.1 _ w_123) (C.2.2.2.2.1 _ w_644) (by omega) (Nat.le_trans (Nat.le_of_ble_eq_true rfl) hRl) (Nat.zero_le _) (Nat.zero_le _) d_PV_nextSample_58 ?_
    refine va_mmax_long hx hb (C.2.2.1.trans hl.1.symm) C.2.2.2.1 (C.2.2.2.2.1 _ w_1026) (C.2.2.2.2.1 _ w_646) (C.2.2.2.2.1 _ w_123) (C.2.2.2.2.1 _ w_647) (by omega) (Nat.le_trans (Nat.le_of_ble_eq_true rfl) hRl) (Nat.zero_le _) (Nat.zero_le _) d_PV_nextSample_61 ?_
    refine lv_l2i (v := ((if (if x1 < (32767 : Int64) then x1 else (32767 : Int64)) < (-32768 : Int64) then (-32768 : Int64) else (if x1 < (32767 : Int64) then x1 else (32767 : Int64)))).toInt32) hx hb d_PV_nextSample_64 rfl ?_
    obtain rfl := Option.some.inj hf
    exact hret _ _ _ _ d_PV_nextSample_65 hP hS
  · have hf := pv_f hf h
    refine lv_aload_n hx hb d_PV_nextSample_12 rfl (lv_at hl 0 rfl) ?_
    refine pv_get C hP (v := .ref (a 25)) (j := 6) (by decide) (fx_0 _ _ _ _) fl_PV_33 rfl d_PV_nextSample_13 ?_
    refine lv_iload_n hx hb d_PV_nextSample_16 rfl (lv_at hl 2 rfl) ?_
    obtain ⟨hg, hf⟩ := pv_g hf
    have hi1 := hg
    have hi1l := pv_in_lt hi1
    refine pv_aald C hP (t0 := 4) (b := a (28 + 6 * (x3).toNatClampNeg)) (by decide) (fx_25 _ _ _ _) rfl hg (if_pos hi1l) d_PV_nextSample_17 ?_
    refine pv_get C hP (v := .int (σ.1 (28 + 6 * (x3).toNatClampNeg) 0)) (j := 0) (by omega) (fx_v0 hi1l _ _ _ _) fl_PV_124 rfl d_PV_nextSample_18 ?_
    refine lv_if_eq (tgt := 45) hx hb d_PV_nextSample_21 (by decide) (fun h => ?_) (fun h => ?_)
    · have hf := pv_t hf h
      exact s_PV_nextSample_45 C hmv hRf hRl hret hk_4 (lv_sub hl [0, 1, 2] rfl) hP hS hf
    · have hf := pv_f hf h
      refine lv_lload_n hx hb d_PV_nextSample_24 rfl (lv_at hl 1 rfl) ?_
      refine lv_aload_n hx hb d_PV_nextSample_25 rfl (lv_at hl 0 rfl) ?_
      refine pv_get C hP (v := .ref (a 25)) (j := 6) (by decide) (fx_0 _ _ _ _) fl_PV_33 rfl d_PV_nextSample_26 ?_
      refine lv_iload_n hx hb d_PV_nextSample_29 rfl (lv_at hl 2 rfl) ?_
      obtain ⟨hg, hf⟩ := pv_g hf
      have hi2 := hg
      have hi2l := pv_in_lt hi2
      refine pv_aald C hP (t0 := 4) (b := a (28 + 6 * (x3).toNatClampNeg)) (by decide) (fx_25 _ _ _ _) rfl hg (if_pos hi2l) d_PV_nextSample_30 ?_
      refine lv_aload_n hx hb d_PV_nextSample_31 rfl (lv_at hl 0 rfl) ?_
      refine pv_get C hP (v := .ref (a 11)) (j := 3) (by decide) (fx_0 _ _ _ _) fl_PV_23 rfl d_PV_nextSample_32 ?_
      refine lv_aload_n hx hb d_PV_nextSample_35 rfl (lv_at hl 0 rfl) ?_
      refine pv_get C hP (v := .ref (a 26)) (j := 9) (by decide) (fx_0 _ _ _ _) fl_PV_40 rfl d_PV_nextSample_36 ?_
      obtain ⟨q1, hc, hf⟩ := pv_b hf
      refine pv_callVi C hmv pv_good hP hS (As := [.ref (a 11), .ref (a 26)]) (rest := [.long x1]) (by omega) (fx_v0 hi2l _ _ _ _) rfl (c_Vc_play hi2l C.2.2.2.2.2.2.1 hmv hc) cv_PV_172 ⟨rfl, rfl, Nat.le_trans (Nat.le_of_ble_eq_true rfl) hRf, Nat.le_trans (Nat.le_of_ble_eq_true rfl) hRl⟩ rfl hl.1 rfl (Nat.le_of_ble_eq_true rfl) d_PV_nextSample_39 ⟨Nat.zero_le _, Nat.zero_le _⟩ (fun H locs hP hS => ?_)
      refine lv_i2l (v := (q1.1).toInt64) hx hb d_PV_nextSample_42 rfl ?_
      refine lv_ladd hx hb d_PV_nextSample_43 ?_
      refine lv_lstore_n (lv' := [(1, .long (x1 + ((q1.1).toInt64))), (0, .ref (a 0)), (3, .int x3)]) hx hb d_PV_nextSample_44 rfl hl (by decide) rfl (fun ls hl => ?_)
      exact s_PV_nextSample_45 C hmv hRf hRl hret hk_4 (lv_sub hl [1, 0, 2] rfl) hP hS hf
def f_PV_nextSample_4 : Nat → pv_S → Int64 → Int32 → Option (Int32 × pv_S)
  | 0 => fun _ _ _ => none
  | n + 1 => f_PV_nextSample_4b (f_PV_nextSample_4 n)
set_option maxHeartbeats 4000000 in
theorem s_PV_nextSample_4 {p : Program} {l : Launch} {e : Env} {R : Room} {s : State} {m : MethodId} {args : Array Value} {below : List Frame} {meth : Method} {c : Code} {Q : State → Prop} {D : va_G} {q : Nat → ClassId} {a t : Nat → Nat} {A : Nat → Prop} (C : pv_C p s m args c prog_1_method_21_code 4 "PatchVoices" pv_TB D pv_cl (pv_ty q) 52 a A (pv_ZX t A)) (hmv : pv_mv A (pv_ZX t A)) (hRf : 5 ≤ R.frames) (hRl : 111 ≤ R.locals) {out : (Int32 × pv_S)} (hret : pv_Ri p l e R s m args below meth c prog_1_method_21_code D pv_cl 52 a (pv_FX q a) A Q out) (n : Nat) : ∀ {σ : pv_S} {x1 : Int64} {x3 : Int32} {H : Heap} {locs : List Loc} {ls : Array Slot}, lv_has ls 4 [(0, .ref (a 0)), (1, .long x1), (3, .int x3)] → pv_W D pv_cl 52 a (pv_FX q a) σ H → va_S A s.heap H locs → f_PV_nextSample_4 n σ x1 x3 = some out → W p l e R s m args below meth c H locs 0 0 Q (F0 m 4 ls []) := by
  induction n with
  | zero => intro σ x1 x3 H locs ls hl hP hS hf; cases hf
  | succ n ih => intro σ x1 x3 H locs ls hl hP hS hf; exact s_PV_nextSample_4b C hmv hRf hRl hret (fun σ x1 x3 H locs ls hf hl hP hS => ih hl hP hS hf) hl hP hS hf
def f_PV_nextSample_0 (σ : pv_S) : Option (Int32 × pv_S) :=
  f_PV_nextSample_4 pv_fu σ (0 : Int64) (0 : Int32)
set_option maxHeartbeats 4000000 in
set_option maxRecDepth 100000 in
theorem s_PV_nextSample_0 {p : Program} {l : Launch} {e : Env} {R : Room} {s : State} {m : MethodId} {args : Array Value} {below : List Frame} {meth : Method} {c : Code} {Q : State → Prop} {D : va_G} {q : Nat → ClassId} {a t : Nat → Nat} {A : Nat → Prop} (C : pv_C p s m args c prog_1_method_21_code 4 "PatchVoices" pv_TB D pv_cl (pv_ty q) 52 a A (pv_ZX t A)) (hmv : pv_mv A (pv_ZX t A)) (hRf : 5 ≤ R.frames) (hRl : 111 ≤ R.locals) {out : (Int32 × pv_S)} (hret : pv_Ri p l e R s m args below meth c prog_1_method_21_code D pv_cl 52 a (pv_FX q a) A Q out) {σ : pv_S} {H : Heap} {locs : List Loc} {ls : Array Slot} (hl : lv_has ls 4 [(0, .ref (a 0))]) (hP : pv_W D pv_cl 52 a (pv_FX q a) σ H) (hS : va_S A s.heap H locs) (hf : f_PV_nextSample_0 σ = some out) : W p l e R s m args below meth c H locs 0 0 Q (F0 m 0 ls []) := by
  unfold f_PV_nextSample_0 at hf
  have hx := C.1
  have hb := C.2.1
  refine lv_lconst (v := (0 : Int64)) hx hb d_PV_nextSample_0 (by decide) ?_
  refine lv_lstore_n (lv' := [(1, .long (0 : Int64)), (0, .ref (a 0))]) hx hb d_PV_nextSample_1 rfl hl (by decide) rfl (fun ls hl => ?_)
  refine lv_iconst (v := (0 : Int32)) hx hb d_PV_nextSample_2 (by decide) ?_
  refine lv_istore_n (lv' := [(3, .int (0 : Int32)), (1, .long (0 : Int64)), (0, .ref (a 0))]) hx hb d_PV_nextSample_3 rfl hl (by decide) rfl (fun ls hl => ?_)
  exact s_PV_nextSample_4 C hmv hRf hRl hret pv_fu (lv_sub hl [2, 1, 0] rfl) hP hS hf
def f_PV_nextSample (σ : pv_S) : Option (Int32 × pv_S) := f_PV_nextSample_0 σ
def rm_PV_nextSample : Room := { frames := 5, cells := 0, slots := 0, locals := 111 }
theorem c_PV_nextSample {l : Launch} {D : va_G} {q : Nat → ClassId} {a t : Nat → Nat} {A : Nat → Prop} (hD : pv_D 52 a A) (hmv : pv_mv A (pv_ZX t A)) {σ : pv_S} {out : (Int32 × pv_S)} (hf : f_PV_nextSample σ = some out) : pv_Mi l y_PV_nextSample (Cond.code y_PV_nextSample prog_1_method_21_code 4 (some .int) :: pv_TB) rm_PV_nextSample D pv_cl (pv_ty q) 52 a (pv_FX q a) A (pv_ZX t A) [.ref (a 0)] σ out :=
  pv_ofI (by decide) (Nat.le_of_ble_eq_true rfl) hD (fun p e s m args below meth c Q ls C hret hl hP => s_PV_nextSample_0 C hmv (Nat.le_refl _) (Nat.le_refl _) hret hl hP va_S.rf hf)
theorem d_PV_reset_0 : decode prog_1_method_24_code 0 = .ok (.aload_n 0, 1) := by decide +kernel
theorem d_PV_reset_1 : decode prog_1_method_24_code 1 = .ok (.invokevirtual 84, 3) := by decide +kernel
theorem d_PV_reset_4 : decode prog_1_method_24_code 4 = .ok (.return_, 1) := by decide +kernel
def f_PV_reset_0 (σ : pv_S) : Option pv_S :=
  ((f_PV_fallSilent σ).bind fun q1 =>
some q1)
set_option maxHeartbeats 4000000 in
set_option maxRecDepth 100000 in
theorem s_PV_reset_0 {p : Program} {l : Launch} {e : Env} {R : Room} {s : State} {m : MethodId} {args : Array Value} {below : List Frame} {meth : Method} {c : Code} {Q : State → Prop} {D : va_G} {q : Nat → ClassId} {a t : Nat → Nat} {A : Nat → Prop} (C : pv_C p s m args c prog_1_method_24_code 1 "PatchVoices" pv_TB D pv_cl (pv_ty q) 52 a A (pv_ZX t A)) (hmv : pv_mv A (pv_ZX t A)) (hRf : 2 ≤ R.frames) (hRl : 41 ≤ R.locals) {out : pv_S} (hret : pv_Rv p l e R s m args below meth c prog_1_method_24_code D pv_cl 52 a (pv_FX q a) A Q out) {σ : pv_S} {H : Heap} {locs : List Loc} {ls : Array Slot} (hl : lv_has ls 1 [(0, .ref (a 0))]) (hP : pv_W D pv_cl 52 a (pv_FX q a) σ H) (hS : va_S A s.heap H locs) (hf : f_PV_reset_0 σ = some out) : W p l e R s m args below meth c H locs 0 0 Q (F0 m 0 ls []) := by
  unfold f_PV_reset_0 at hf
  have hx := C.1
  have hb := C.2.1
  refine lv_aload_n hx hb d_PV_reset_0 rfl (lv_at hl 0 rfl) ?_
  obtain ⟨q1, hc, hf⟩ := pv_b hf
  refine pv_callVv C hmv pv_good hP hS (As := []) (rest := []) (by decide) (fx_0 _ _ _ _) rfl (c_PV_fallSilent C.2.2.2.2.2.2.1 hmv hc) cv_PV_84 ⟨rfl, rfl, Nat.le_trans (Nat.le_of_ble_eq_true rfl) hRf, Nat.le_trans (Nat.le_of_ble_eq_true rfl) hRl⟩ rfl hl.1 rfl (Nat.le_of_ble_eq_true rfl) d_PV_reset_1 ⟨Nat.zero_le _, Nat.zero_le _⟩ (fun H locs hP hS => ?_)
  obtain rfl := Option.some.inj hf
  exact hret _ _ _ _ d_PV_reset_4 hP hS
def f_PV_reset (σ : pv_S) : Option pv_S := f_PV_reset_0 σ
def rm_PV_reset : Room := { frames := 2, cells := 0, slots := 0, locals := 41 }
theorem c_PV_reset {l : Launch} {D : va_G} {q : Nat → ClassId} {a t : Nat → Nat} {A : Nat → Prop} (hD : pv_D 52 a A) (hmv : pv_mv A (pv_ZX t A)) {σ : pv_S} {out : pv_S} (hf : f_PV_reset σ = some out) : pv_Mv l y_PV_reset (Cond.code y_PV_reset prog_1_method_24_code 1 none :: pv_TB) rm_PV_reset D pv_cl (pv_ty q) 52 a (pv_FX q a) A (pv_ZX t A) [.ref (a 0)] σ out :=
  pv_ofV (by decide) (Nat.le_of_ble_eq_true rfl) hD (fun p e s m args below meth c Q ls C hret hl hP => s_PV_reset_0 C hmv (Nat.le_refl _) (Nat.le_refl _) hret hl hP va_S.rf hf)
