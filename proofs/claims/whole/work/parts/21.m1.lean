theorem d_Md_word_0 : decode prog_9_method_2_code 0 = .ok (.aload_n 0, 1) := by decide +kernel
theorem d_Md_word_1 : decode prog_9_method_2_code 1 = .ok (.getfield 13, 3) := by decide +kernel
theorem d_Md_word_4 : decode prog_9_method_2_code 4 = .ok (.iload_n 1, 1) := by decide +kernel
theorem d_Md_word_5 : decode prog_9_method_2_code 5 = .ok (.iload_n 2, 1) := by decide +kernel
theorem d_Md_word_6 : decode prog_9_method_2_code 6 = .ok (.bipush 16, 2) := by decide +kernel
theorem d_Md_word_8 : decode prog_9_method_2_code 8 = .ok (.ishl, 1) := by decide +kernel
theorem d_Md_word_9 : decode prog_9_method_2_code 9 = .ok (.iload_n 3, 1) := by decide +kernel
theorem d_Md_word_10 : decode prog_9_method_2_code 10 = .ok (.bipush 8, 2) := by decide +kernel
theorem d_Md_word_12 : decode prog_9_method_2_code 12 = .ok (.ishl, 1) := by decide +kernel
theorem d_Md_word_13 : decode prog_9_method_2_code 13 = .ok (.ior, 1) := by decide +kernel
theorem d_Md_word_14 : decode prog_9_method_2_code 14 = .ok (.iload 4, 2) := by decide +kernel
theorem d_Md_word_16 : decode prog_9_method_2_code 16 = .ok (.ior, 1) := by decide +kernel
theorem d_Md_word_17 : decode prog_9_method_2_code 17 = .ok (.iastore, 1) := by decide +kernel
theorem d_Md_word_18 : decode prog_9_method_2_code 18 = .ok (.aload_n 0, 1) := by decide +kernel
theorem d_Md_word_19 : decode prog_9_method_2_code 19 = .ok (.getfield 16, 3) := by decide +kernel
theorem d_Md_word_22 : decode prog_9_method_2_code 22 = .ok (.iload_n 1, 1) := by decide +kernel
theorem d_Md_word_23 : decode prog_9_method_2_code 23 = .ok (.iload 5, 2) := by decide +kernel
theorem d_Md_word_25 : decode prog_9_method_2_code 25 = .ok (.iastore, 1) := by decide +kernel
theorem d_Md_word_26 : decode prog_9_method_2_code 26 = .ok (.return_, 1) := by decide +kernel
def f_Md_word_0 (σ : pv_S) (x1 : Int32) (x2 : Int32) (x3 : Int32) (x4 : Int32) (x5 : Int32) : Option pv_S :=
  (if pv_in x1 20 = true then
(if pv_in x1 20 = true then
some (pv_uI (pv_uI σ 2 (x1).toNatClampNeg (((x2 <<< ((16 : Int32) &&& 31)) ||| (x3 <<< ((8 : Int32) &&& 31))) ||| x4)) 3 (x1).toNatClampNeg x5)
  else none)
  else none)
set_option maxHeartbeats 4000000 in
set_option maxRecDepth 100000 in
theorem s_Md_word_0 {p : Program} {l : Launch} {e : Env} {R : Room} {s : State} {m : MethodId} {args : Array Value} {below : List Frame} {meth : Method} {c : Code} {Q : State → Prop} {D : va_G} {q : Nat → ClassId} {a : Nat → Nat} {A : Nat → Prop} (C : pv_C p s m args c prog_9_method_2_code 6 "PatchVoicesModel" pv_TB D pv_cl (pv_ty q) 36 a A (pv_ZM)) (hmv : pv_mv A (pv_ZM)) (hRf : 0 ≤ R.frames) (hRl : 0 ≤ R.locals) {out : pv_S} (hret : pv_Rv p l e R s m args below meth c prog_9_method_2_code D pv_cl 36 a (pv_FM q a) A Q out) {σ : pv_S} {x1 : Int32} {x2 : Int32} {x3 : Int32} {x4 : Int32} {x5 : Int32} {H : Heap} {locs : List Loc} {ls : Array Slot} (hl : lv_has ls 6 [(0, .ref (a 0)), (1, .int x1), (2, .int x2), (3, .int x3), (4, .int x4), (5, .int x5)]) (hP : pv_W D pv_cl 36 a (pv_FM q a) σ H) (hS : va_S A s.heap H locs) (hf : f_Md_word_0 σ x1 x2 x3 x4 x5 = some out) : W p l e R s m args below meth c H locs 0 0 Q (F0 m 0 ls []) := by
  unfold f_Md_word_0 at hf
  have hx := C.1
  have hb := C.2.1
  refine lv_aload_n hx hb d_Md_word_0 rfl (lv_at hl 0 rfl) ?_
  refine pv_get C hP (v := .ref (a 2)) (j := 3) (by decide) (fm_0 _ _ _ _) fl_Md_13 rfl d_Md_word_1 ?_
  refine lv_iload_n hx hb d_Md_word_4 rfl (lv_at hl 1 rfl) ?_
  refine lv_iload_n hx hb d_Md_word_5 rfl (lv_at hl 2 rfl) ?_
  refine lv_bipush (v := (16 : Int32)) hx hb d_Md_word_6 (by decide) ?_
  refine lv_ishl hx hb d_Md_word_8 ?_
  refine lv_iload_n hx hb d_Md_word_9 rfl (lv_at hl 3 rfl) ?_
  refine lv_bipush (v := (8 : Int32)) hx hb d_Md_word_10 (by decide) ?_
  refine lv_ishl hx hb d_Md_word_12 ?_
  refine lv_ior hx hb d_Md_word_13 ?_
  refine lv_iload hx hb d_Md_word_14 (lv_at hl 4 rfl) ?_
  refine lv_ior hx hb d_Md_word_16 ?_
  obtain ⟨hg, hf⟩ := pv_g hf
  refine pv_iast C hP hS (t0 := 0) (x := (((x2 <<< ((16 : Int32) &&& 31)) ||| (x3 <<< ((8 : Int32) &&& 31))) ||| x4)) (by decide) (fun f g => (fm_2 _ _ f g)) rfl hg d_Md_word_17 (fun H locs hP hS => ?_)
  refine lv_aload_n hx hb d_Md_word_18 rfl (lv_at hl 0 rfl) ?_
  refine pv_get C hP (v := .ref (a 3)) (j := 4) (by decide) (fm_0 _ _ _ _) fl_Md_16 rfl d_Md_word_19 ?_
  refine lv_iload_n hx hb d_Md_word_22 rfl (lv_at hl 1 rfl) ?_
  refine lv_iload hx hb d_Md_word_23 (lv_at hl 5 rfl) ?_
  obtain ⟨hg, hf⟩ := pv_g hf
  refine pv_iast C hP hS (t0 := 0) (x := x5) (by decide) (fun f g => (fm_3 _ _ f g)) rfl hg d_Md_word_25 (fun H locs hP hS => ?_)
  obtain rfl := Option.some.inj hf
  exact hret _ _ _ _ d_Md_word_26 hP hS
def f_Md_word (σ : pv_S) (x1 : Int32) (x2 : Int32) (x3 : Int32) (x4 : Int32) (x5 : Int32) : Option pv_S := f_Md_word_0 σ x1 x2 x3 x4 x5
def rm_Md_word : Room := { frames := 0, cells := 0, slots := 0, locals := 0 }
theorem c_Md_word {l : Launch} {D : va_G} {q : Nat → ClassId} {a : Nat → Nat} {A : Nat → Prop} (hD : pv_D 36 a A) (hmv : pv_mv A (pv_ZM)) {σ : pv_S} {x1 : Int32} {x2 : Int32} {x3 : Int32} {x4 : Int32} {x5 : Int32} {out : pv_S} (hf : f_Md_word σ x1 x2 x3 x4 x5 = some out) : pv_Mv l y_Md_word (Cond.code y_Md_word prog_9_method_2_code 6 none :: pv_TB) rm_Md_word D pv_cl (pv_ty q) 36 a (pv_FM q a) A (pv_ZM) [.ref (a 0), .int x1, .int x2, .int x3, .int x4, .int x5] σ out :=
  pv_ofV (by decide) (Nat.le_of_ble_eq_true rfl) hD (fun p e s m args below meth c Q ls C hret hl hP => s_Md_word_0 C hmv (Nat.le_refl _) (Nat.le_refl _) hret hl hP va_S.rf hf)
theorem d_Md_thrown_0 : decode prog_9_method_3_code 0 = .ok (.aload_n 0, 1) := by decide +kernel
theorem d_Md_thrown_1 : decode prog_9_method_3_code 1 = .ok (.getfield 127, 3) := by decide +kernel
theorem d_Md_thrown_4 : decode prog_9_method_3_code 4 = .ok (.ireturn, 1) := by decide +kernel
def f_Md_thrown_0 (σ : pv_S) : Option (Int32 × pv_S) :=
  some ((σ.1 0 0), σ)
set_option maxHeartbeats 4000000 in
set_option maxRecDepth 100000 in
theorem s_Md_thrown_0 {p : Program} {l : Launch} {e : Env} {R : Room} {s : State} {m : MethodId} {args : Array Value} {below : List Frame} {meth : Method} {c : Code} {Q : State → Prop} {D : va_G} {q : Nat → ClassId} {a : Nat → Nat} {A : Nat → Prop} (C : pv_C p s m args c prog_9_method_3_code 1 "PatchVoicesModel" pv_TB D pv_cl (pv_ty q) 36 a A (pv_ZM)) (hmv : pv_mv A (pv_ZM)) (hRf : 0 ≤ R.frames) (hRl : 0 ≤ R.locals) {out : (Int32 × pv_S)} (hret : pv_Ri p l e R s m args below meth c prog_9_method_3_code D pv_cl 36 a (pv_FM q a) A Q out) {σ : pv_S} {H : Heap} {locs : List Loc} {ls : Array Slot} (hl : lv_has ls 1 [(0, .ref (a 0))]) (hP : pv_W D pv_cl 36 a (pv_FM q a) σ H) (hS : va_S A s.heap H locs) (hf : f_Md_thrown_0 σ = some out) : W p l e R s m args below meth c H locs 0 0 Q (F0 m 0 ls []) := by
  unfold f_Md_thrown_0 at hf
  have hx := C.1
  have hb := C.2.1
  refine lv_aload_n hx hb d_Md_thrown_0 rfl (lv_at hl 0 rfl) ?_
  refine pv_get C hP (v := .int (σ.1 0 0)) (j := 0) (by decide) (fm_0 _ _ _ _) fl_Md_127 rfl d_Md_thrown_1 ?_
  obtain rfl := Option.some.inj hf
  exact hret _ _ _ _ d_Md_thrown_4 hP hS
def f_Md_thrown (σ : pv_S) : Option (Int32 × pv_S) := f_Md_thrown_0 σ
def rm_Md_thrown : Room := { frames := 0, cells := 0, slots := 0, locals := 0 }
theorem c_Md_thrown {l : Launch} {D : va_G} {q : Nat → ClassId} {a : Nat → Nat} {A : Nat → Prop} (hD : pv_D 36 a A) (hmv : pv_mv A (pv_ZM)) {σ : pv_S} {out : (Int32 × pv_S)} (hf : f_Md_thrown σ = some out) : pv_Mi l y_Md_thrown (Cond.code y_Md_thrown prog_9_method_3_code 1 (some .int) :: pv_TB) rm_Md_thrown D pv_cl (pv_ty q) 36 a (pv_FM q a) A (pv_ZM) [.ref (a 0)] σ out :=
  pv_ofI (by decide) (Nat.le_of_ble_eq_true rfl) hD (fun p e s m args below meth c Q ls C hret hl hP => s_Md_thrown_0 C hmv (Nat.le_refl _) (Nat.le_refl _) hret hl hP va_S.rf hf)
theorem d_Md_type_0 : decode prog_9_method_4_code 0 = .ok (.aload_n 0, 1) := by decide +kernel
theorem d_Md_type_1 : decode prog_9_method_4_code 1 = .ok (.iconst 0, 1) := by decide +kernel
theorem d_Md_type_2 : decode prog_9_method_4_code 2 = .ok (.putfield 127, 3) := by decide +kernel
theorem d_Md_type_5 : decode prog_9_method_4_code 5 = .ok (.iload_n 3, 1) := by decide +kernel
theorem d_Md_type_6 : decode prog_9_method_4_code 6 = .ok (.iconst 1, 1) := by decide +kernel
theorem d_Md_type_7 : decode prog_9_method_4_code 7 = .ok (.if_icmp .lt 21, 3) := by decide +kernel
theorem d_Md_type_10 : decode prog_9_method_4_code 10 = .ok (.iload_n 3, 1) := by decide +kernel
theorem d_Md_type_11 : decode prog_9_method_4_code 11 = .ok (.bipush 8, 2) := by decide +kernel
theorem d_Md_type_13 : decode prog_9_method_4_code 13 = .ok (.if_icmp .gt 15, 3) := by decide +kernel
theorem d_Md_type_16 : decode prog_9_method_4_code 16 = .ok (.aload_n 0, 1) := by decide +kernel
theorem d_Md_type_17 : decode prog_9_method_4_code 17 = .ok (.getfield 130, 3) := by decide +kernel
theorem d_Md_type_20 : decode prog_9_method_4_code 20 = .ok (.iload_n 3, 1) := by decide +kernel
theorem d_Md_type_21 : decode prog_9_method_4_code 21 = .ok (.iadd, 1) := by decide +kernel
theorem d_Md_type_22 : decode prog_9_method_4_code 22 = .ok (.sipush 300, 3) := by decide +kernel
theorem d_Md_type_25 : decode prog_9_method_4_code 25 = .ok (.if_icmp .le 5, 3) := by decide +kernel
theorem d_Md_type_28 : decode prog_9_method_4_code 28 = .ok (.iconst (-1), 1) := by decide +kernel
theorem d_Md_type_29 : decode prog_9_method_4_code 29 = .ok (.ireturn, 1) := by decide +kernel
theorem d_Md_type_30 : decode prog_9_method_4_code 30 = .ok (.iconst 0, 1) := by decide +kernel
theorem d_Md_type_31 : decode prog_9_method_4_code 31 = .ok (.istore 4, 2) := by decide +kernel
theorem d_Md_type_33 : decode prog_9_method_4_code 33 = .ok (.iload 4, 2) := by decide +kernel
theorem d_Md_type_35 : decode prog_9_method_4_code 35 = .ok (.iload_n 3, 1) := by decide +kernel
theorem d_Md_type_36 : decode prog_9_method_4_code 36 = .ok (.if_icmp .ge 39, 3) := by decide +kernel
theorem d_Md_type_39 : decode prog_9_method_4_code 39 = .ok (.lload_n 1, 1) := by decide +kernel
theorem d_Md_type_40 : decode prog_9_method_4_code 40 = .ok (.bipush 8, 2) := by decide +kernel
theorem d_Md_type_42 : decode prog_9_method_4_code 42 = .ok (.iload 4, 2) := by decide +kernel
theorem d_Md_type_44 : decode prog_9_method_4_code 44 = .ok (.imul, 1) := by decide +kernel
theorem d_Md_type_45 : decode prog_9_method_4_code 45 = .ok (.lshr, 1) := by decide +kernel
theorem d_Md_type_46 : decode prog_9_method_4_code 46 = .ok (.ldc2_w 133, 3) := by decide +kernel
theorem d_Md_type_49 : decode prog_9_method_4_code 49 = .ok (.land, 1) := by decide +kernel
theorem d_Md_type_50 : decode prog_9_method_4_code 50 = .ok (.l2i, 1) := by decide +kernel
theorem d_Md_type_51 : decode prog_9_method_4_code 51 = .ok (.istore 5, 2) := by decide +kernel
theorem d_Md_type_53 : decode prog_9_method_4_code 53 = .ok (.iload 5, 2) := by decide +kernel
theorem d_Md_type_55 : decode prog_9_method_4_code 55 = .ok (.bipush 32, 2) := by decide +kernel
theorem d_Md_type_57 : decode prog_9_method_4_code 57 = .ok (.if_icmp .lt 10, 3) := by decide +kernel
theorem d_Md_type_60 : decode prog_9_method_4_code 60 = .ok (.iload 5, 2) := by decide +kernel
theorem d_Md_type_62 : decode prog_9_method_4_code 62 = .ok (.bipush 126, 2) := by decide +kernel
theorem d_Md_type_64 : decode prog_9_method_4_code 64 = .ok (.if_icmp .le 5, 3) := by decide +kernel
theorem d_Md_type_67 : decode prog_9_method_4_code 67 = .ok (.iconst (-1), 1) := by decide +kernel
theorem d_Md_type_68 : decode prog_9_method_4_code 68 = .ok (.ireturn, 1) := by decide +kernel
theorem d_Md_type_69 : decode prog_9_method_4_code 69 = .ok (.iinc 4 1, 3) := by decide +kernel
theorem d_Md_type_72 : decode prog_9_method_4_code 72 = .ok (.goto (-39), 3) := by decide +kernel
theorem d_Md_type_75 : decode prog_9_method_4_code 75 = .ok (.iload_n 3, 1) := by decide +kernel
theorem d_Md_type_76 : decode prog_9_method_4_code 76 = .ok (.iconst 1, 1) := by decide +kernel
theorem d_Md_type_77 : decode prog_9_method_4_code 77 = .ok (.isub, 1) := by decide +kernel
theorem d_Md_type_78 : decode prog_9_method_4_code 78 = .ok (.istore 4, 2) := by decide +kernel
theorem d_Md_type_80 : decode prog_9_method_4_code 80 = .ok (.iload 4, 2) := by decide +kernel
theorem d_Md_type_82 : decode prog_9_method_4_code 82 = .ok (.ifCond .lt 40, 3) := by decide +kernel
theorem d_Md_type_85 : decode prog_9_method_4_code 85 = .ok (.aload_n 0, 1) := by decide +kernel
theorem d_Md_type_86 : decode prog_9_method_4_code 86 = .ok (.getfield 7, 3) := by decide +kernel
theorem d_Md_type_89 : decode prog_9_method_4_code 89 = .ok (.aload_n 0, 1) := by decide +kernel
theorem d_Md_type_90 : decode prog_9_method_4_code 90 = .ok (.getfield 130, 3) := by decide +kernel
theorem d_Md_type_93 : decode prog_9_method_4_code 93 = .ok (.lload_n 1, 1) := by decide +kernel
theorem d_Md_type_94 : decode prog_9_method_4_code 94 = .ok (.bipush 8, 2) := by decide +kernel
theorem d_Md_type_96 : decode prog_9_method_4_code 96 = .ok (.iload 4, 2) := by decide +kernel
theorem d_Md_type_98 : decode prog_9_method_4_code 98 = .ok (.imul, 1) := by decide +kernel
theorem d_Md_type_99 : decode prog_9_method_4_code 99 = .ok (.lshr, 1) := by decide +kernel
theorem d_Md_type_100 : decode prog_9_method_4_code 100 = .ok (.ldc2_w 133, 3) := by decide +kernel
theorem d_Md_type_103 : decode prog_9_method_4_code 103 = .ok (.land, 1) := by decide +kernel
theorem d_Md_type_104 : decode prog_9_method_4_code 104 = .ok (.l2i, 1) := by decide +kernel
theorem d_Md_type_105 : decode prog_9_method_4_code 105 = .ok (.iastore, 1) := by decide +kernel
theorem d_Md_type_106 : decode prog_9_method_4_code 106 = .ok (.aload_n 0, 1) := by decide +kernel
theorem d_Md_type_107 : decode prog_9_method_4_code 107 = .ok (.dup, 1) := by decide +kernel
theorem d_Md_type_108 : decode prog_9_method_4_code 108 = .ok (.getfield 130, 3) := by decide +kernel
theorem d_Md_type_111 : decode prog_9_method_4_code 111 = .ok (.iconst 1, 1) := by decide +kernel
theorem d_Md_type_112 : decode prog_9_method_4_code 112 = .ok (.iadd, 1) := by decide +kernel
theorem d_Md_type_113 : decode prog_9_method_4_code 113 = .ok (.putfield 130, 3) := by decide +kernel
theorem d_Md_type_116 : decode prog_9_method_4_code 116 = .ok (.iinc 4 (-1), 3) := by decide +kernel
theorem d_Md_type_119 : decode prog_9_method_4_code 119 = .ok (.goto (-39), 3) := by decide +kernel
theorem d_Md_type_122 : decode prog_9_method_4_code 122 = .ok (.aload_n 0, 1) := by decide +kernel
theorem d_Md_type_123 : decode prog_9_method_4_code 123 = .ok (.getfield 130, 3) := by decide +kernel
theorem d_Md_type_126 : decode prog_9_method_4_code 126 = .ok (.ireturn, 1) := by decide +kernel
def f_Md_type_80b (k_80 : pv_S → Int64 → Int32 → Option (Int32 × pv_S)) (σ : pv_S) (x1 : Int64) (x4 : Int32) : Option (Int32 × pv_S) :=
  (if x4 < 0 then
  some ((σ.1 0 2), σ)
  else
  (if pv_in (σ.1 0 2) 300 = true then
k_80 (pv_uI (pv_uI σ 1 ((σ.1 0 2)).toNatClampNeg ((((x1 >>> ((((8 : Int32) * x4)).toInt64 &&& 63)) &&& (255 : Int64))).toInt32)) 0 2 (((pv_uI σ 1 ((σ.1 0 2)).toNatClampNeg ((((x1 >>> ((((8 : Int32) * x4)).toInt64 &&& 63)) &&& (255 : Int64))).toInt32)).1 0 2) + (1 : Int32))) x1 (x4 + (-1 : Int32))
  else none))
set_option maxHeartbeats 4000000 in
set_option maxRecDepth 100000 in
theorem s_Md_type_80b {p : Program} {l : Launch} {e : Env} {R : Room} {s : State} {m : MethodId} {args : Array Value} {below : List Frame} {meth : Method} {c : Code} {Q : State → Prop} {D : va_G} {q : Nat → ClassId} {a : Nat → Nat} {A : Nat → Prop} (C : pv_C p s m args c prog_9_method_4_code 6 "PatchVoicesModel" pv_TB D pv_cl (pv_ty q) 36 a A (pv_ZM)) (hmv : pv_mv A (pv_ZM)) (hRf : 0 ≤ R.frames) (hRl : 0 ≤ R.locals) {out : (Int32 × pv_S)} (hret : pv_Ri p l e R s m args below meth c prog_9_method_4_code D pv_cl 36 a (pv_FM q a) A Q out) {k_80 : pv_S → Int64 → Int32 → Option (Int32 × pv_S)} (hk_80 : ∀ (σ : pv_S) (x1 : Int64) (x4 : Int32) (H : Heap) (locs : List Loc) (ls : Array Slot), k_80 σ x1 x4 = some out → lv_has ls 6 [(0, .ref (a 0)), (1, .long x1), (4, .int x4)] → pv_W D pv_cl 36 a (pv_FM q a) σ H → va_S A s.heap H locs → W p l e R s m args below meth c H locs 0 0 Q (F0 m 80 ls [])) {σ : pv_S} {x1 : Int64} {x4 : Int32} {H : Heap} {locs : List Loc} {ls : Array Slot} (hl : lv_has ls 6 [(0, .ref (a 0)), (1, .long x1), (4, .int x4)]) (hP : pv_W D pv_cl 36 a (pv_FM q a) σ H) (hS : va_S A s.heap H locs) (hf : f_Md_type_80b k_80 σ x1 x4 = some out) : W p l e R s m args below meth c H locs 0 0 Q (F0 m 80 ls []) := by
  unfold f_Md_type_80b at hf
  have hx := C.1
  have hb := C.2.1
  refine lv_iload hx hb d_Md_type_80 (lv_at hl 2 rfl) ?_
  refine lv_if_lt (tgt := 122) hx hb d_Md_type_82 (by decide) (fun h => ?_) (fun h => ?_)
  · have hf := pv_t hf h
    refine lv_aload_n hx hb d_Md_type_122 rfl (lv_at hl 0 rfl) ?_
    refine pv_get C hP (v := .int (σ.1 0 2)) (j := 2) (by decide) (fm_0 _ _ _ _) fl_Md_130 rfl d_Md_type_123 ?_
    obtain rfl := Option.some.inj hf
    exact hret _ _ _ _ d_Md_type_126 hP hS
  · have hf := pv_f hf h
    refine lv_aload_n hx hb d_Md_type_85 rfl (lv_at hl 0 rfl) ?_
    refine pv_get C hP (v := .ref (a 1)) (j := 1) (by decide) (fm_0 _ _ _ _) fl_Md_7 rfl d_Md_type_86 ?_
    refine lv_aload_n hx hb d_Md_type_89 rfl (lv_at hl 0 rfl) ?_
    refine pv_get C hP (v := .int (σ.1 0 2)) (j := 2) (by decide) (fm_0 _ _ _ _) fl_Md_130 rfl d_Md_type_90 ?_
    refine lv_lload_n hx hb d_Md_type_93 rfl (lv_at hl 1 rfl) ?_
    refine lv_bipush (v := (8 : Int32)) hx hb d_Md_type_94 (by decide) ?_
    refine lv_iload hx hb d_Md_type_96 (lv_at hl 2 rfl) ?_
    refine lv_imul hx hb d_Md_type_98 ?_
    refine lv_lshr (v := x1 >>> ((((8 : Int32) * x4)).toInt64 &&& 63)) hx hb d_Md_type_99 rfl ?_
    refine lv_ldc2 (v := (255 : Int64)) hx hb C.2.2.2.1 (C.2.2.2.2.1 _ w_1232) d_Md_type_100 ?_
    refine lv_land hx hb d_Md_type_103 ?_
    refine lv_l2i (v := (((x1 >>> ((((8 : Int32) * x4)).toInt64 &&& 63)) &&& (255 : Int64))).toInt32) hx hb d_Md_type_104 rfl ?_
    obtain ⟨hg, hf⟩ := pv_g hf
    refine pv_iast C hP hS (t0 := 0) (x := ((((x1 >>> ((((8 : Int32) * x4)).toInt64 &&& 63)) &&& (255 : Int64))).toInt32)) (by decide) (fun f g => (fm_1 _ _ f g)) rfl hg d_Md_type_105 (fun H locs hP hS => ?_)
    refine lv_aload_n hx hb d_Md_type_106 rfl (lv_at hl 0 rfl) ?_
    refine lv_dup hx hb d_Md_type_107 rfl ?_
    refine pv_get C hP (v := .int ((pv_uI σ 1 ((σ.1 0 2)).toNatClampNeg ((((x1 >>> ((((8 : Int32) * x4)).toInt64 &&& 63)) &&& (255 : Int64))).toInt32)).1 0 2)) (j := 2) (by decide) (fm_0 _ _ _ _) fl_Md_130 rfl d_Md_type_108 ?_
    refine lv_iconst (v := (1 : Int32)) hx hb d_Md_type_111 (by decide) ?_
    refine lv_iadd hx hb d_Md_type_112 ?_
    refine pv_putI C hP hS (x := (((pv_uI σ 1 ((σ.1 0 2)).toNatClampNeg ((((x1 >>> ((((8 : Int32) * x4)).toInt64 &&& 63)) &&& (255 : Int64))).toInt32)).1 0 2) + (1 : Int32))) (by decide) (fm_0 _ _ _ _) fw_Md_130 rfl rfl (Nat.le_of_ble_eq_true rfl) (fms_0_2 _ _ _ _ _) d_Md_type_113 (fun H locs hP hS => ?_)
    refine lv_iinc (k := 2) (v := (x4 + (-1 : Int32))) (lv' := [(4, .int (x4 + (-1 : Int32))), (0, .ref (a 0)), (1, .long x1)]) hx hb d_Md_type_116 hl rfl (pv_inc (by decide)) (by decide) rfl (fun ls hl => ?_)
    refine lv_goto (tgt := 80) hx hb d_Md_type_119 (by decide) ?_
    exact hk_80 _ _ _ _ _ _ hf (lv_sub hl [1, 2, 0] rfl) hP hS
def f_Md_type_80 : Nat → pv_S → Int64 → Int32 → Option (Int32 × pv_S)
  | 0 => fun _ _ _ => none
  | n + 1 => f_Md_type_80b (f_Md_type_80 n)
set_option maxHeartbeats 4000000 in
theorem s_Md_type_80 {p : Program} {l : Launch} {e : Env} {R : Room} {s : State} {m : MethodId} {args : Array Value} {below : List Frame} {meth : Method} {c : Code} {Q : State → Prop} {D : va_G} {q : Nat → ClassId} {a : Nat → Nat} {A : Nat → Prop} (C : pv_C p s m args c prog_9_method_4_code 6 "PatchVoicesModel" pv_TB D pv_cl (pv_ty q) 36 a A (pv_ZM)) (hmv : pv_mv A (pv_ZM)) (hRf : 0 ≤ R.frames) (hRl : 0 ≤ R.locals) {out : (Int32 × pv_S)} (hret : pv_Ri p l e R s m args below meth c prog_9_method_4_code D pv_cl 36 a (pv_FM q a) A Q out) (n : Nat) : ∀ {σ : pv_S} {x1 : Int64} {x4 : Int32} {H : Heap} {locs : List Loc} {ls : Array Slot}, lv_has ls 6 [(0, .ref (a 0)), (1, .long x1), (4, .int x4)] → pv_W D pv_cl 36 a (pv_FM q a) σ H → va_S A s.heap H locs → f_Md_type_80 n σ x1 x4 = some out → W p l e R s m args below meth c H locs 0 0 Q (F0 m 80 ls []) := by
  induction n with
  | zero => intro σ x1 x4 H locs ls hl hP hS hf; cases hf
  | succ n ih => intro σ x1 x4 H locs ls hl hP hS hf; exact s_Md_type_80b C hmv hRf hRl hret (fun σ x1 x4 H locs ls hf hl hP hS => ih hl hP hS hf) hl hP hS hf
def f_Md_type_33b (k_33 : pv_S → Int64 → Int32 → Int32 → Option (Int32 × pv_S)) (σ : pv_S) (x1 : Int64) (x3 : Int32) (x4 : Int32) : Option (Int32 × pv_S) :=
  (if x3 ≤ x4 then
  f_Md_type_80 pv_fu σ x1 (x3 - (1 : Int32))
  else
  (if ((((x1 >>> ((((8 : Int32) * x4)).toInt64 &&& 63)) &&& (255 : Int64))).toInt32) < (32 : Int32) then
  some ((-1 : Int32), σ)
  else
  (if ((((x1 >>> ((((8 : Int32) * x4)).toInt64 &&& 63)) &&& (255 : Int64))).toInt32) ≤ (126 : Int32) then
  k_33 σ x1 x3 (x4 + (1 : Int32))
  else
  some ((-1 : Int32), σ))))
set_option maxHeartbeats 4000000 in
set_option maxRecDepth 100000 in
theorem s_Md_type_33b {p : Program} {l : Launch} {e : Env} {R : Room} {s : State} {m : MethodId} {args : Array Value} {below : List Frame} {meth : Method} {c : Code} {Q : State → Prop} {D : va_G} {q : Nat → ClassId} {a : Nat → Nat} {A : Nat → Prop} (C : pv_C p s m args c prog_9_method_4_code 6 "PatchVoicesModel" pv_TB D pv_cl (pv_ty q) 36 a A (pv_ZM)) (hmv : pv_mv A (pv_ZM)) (hRf : 0 ≤ R.frames) (hRl : 0 ≤ R.locals) {out : (Int32 × pv_S)} (hret : pv_Ri p l e R s m args below meth c prog_9_method_4_code D pv_cl 36 a (pv_FM q a) A Q out) {k_33 : pv_S → Int64 → Int32 → Int32 → Option (Int32 × pv_S)} (hk_33 : ∀ (σ : pv_S) (x1 : Int64) (x3 : Int32) (x4 : Int32) (H : Heap) (locs : List Loc) (ls : Array Slot), k_33 σ x1 x3 x4 = some out → lv_has ls 6 [(0, .ref (a 0)), (1, .long x1), (3, .int x3), (4, .int x4)] → pv_W D pv_cl 36 a (pv_FM q a) σ H → va_S A s.heap H locs → W p l e R s m args below meth c H locs 0 0 Q (F0 m 33 ls [])) {σ : pv_S} {x1 : Int64} {x3 : Int32} {x4 : Int32} {H : Heap} {locs : List Loc} {ls : Array Slot} (hl : lv_has ls 6 [(0, .ref (a 0)), (1, .long x1), (3, .int x3), (4, .int x4)]) (hP : pv_W D pv_cl 36 a (pv_FM q a) σ H) (hS : va_S A s.heap H locs) (hf : f_Md_type_33b k_33 σ x1 x3 x4 = some out) : W p l e R s m args below meth c H locs 0 0 Q (F0 m 33 ls []) := by
  unfold f_Md_type_33b at hf
  have hx := C.1
  have hb := C.2.1
  refine lv_iload hx hb d_Md_type_33 (lv_at hl 3 rfl) ?_
  refine lv_iload_n hx hb d_Md_type_35 rfl (lv_at hl 2 rfl) ?_
  refine lv_icmp_ge (tgt := 75) hx hb d_Md_type_36 (by decide) (fun h => ?_) (fun h => ?_)
  · have hf := pv_t hf h
    refine lv_iload_n hx hb d_Md_type_75 rfl (lv_at hl 2 rfl) ?_
    refine lv_iconst (v := (1 : Int32)) hx hb d_Md_type_76 (by decide) ?_
    refine lv_isub hx hb d_Md_type_77 ?_
    refine lv_istore (lv' := [(4, .int (x3 - (1 : Int32))), (0, .ref (a 0)), (1, .long x1), (3, .int x3)]) hx hb d_Md_type_78 hl (by decide) rfl (fun ls hl => ?_)
    exact s_Md_type_80 C hmv hRf hRl hret pv_fu (lv_sub hl [1, 2, 0] rfl) hP hS hf
  · have hf := pv_f hf h
    refine lv_lload_n hx hb d_Md_type_39 rfl (lv_at hl 1 rfl) ?_
    refine lv_bipush (v := (8 : Int32)) hx hb d_Md_type_40 (by decide) ?_
    refine lv_iload hx hb d_Md_type_42 (lv_at hl 3 rfl) ?_
    refine lv_imul hx hb d_Md_type_44 ?_
    refine lv_lshr (v := x1 >>> ((((8 : Int32) * x4)).toInt64 &&& 63)) hx hb d_Md_type_45 rfl ?_
    refine lv_ldc2 (v := (255 : Int64)) hx hb C.2.2.2.1 (C.2.2.2.2.1 _ w_1232) d_Md_type_46 ?_
    refine lv_land hx hb d_Md_type_49 ?_
    refine lv_l2i (v := (((x1 >>> ((((8 : Int32) * x4)).toInt64 &&& 63)) &&& (255 : Int64))).toInt32) hx hb d_Md_type_50 rfl ?_
    refine lv_istore (lv' := [(5, .int ((((x1 >>> ((((8 : Int32) * x4)).toInt64 &&& 63)) &&& (255 : Int64))).toInt32)), (0, .ref (a 0)), (1, .long x1), (3, .int x3), (4, .int x4)]) hx hb d_Md_type_51 hl (by decide) rfl (fun ls hl => ?_)
    refine lv_iload hx hb d_Md_type_53 (lv_at hl 0 rfl) ?_
    refine lv_bipush (v := (32 : Int32)) hx hb d_Md_type_55 (by decide) ?_
    refine lv_icmp_lt (tgt := 67) hx hb d_Md_type_57 (by decide) (fun h => ?_) (fun h => ?_)
    · have hf := pv_t hf h
      refine lv_iconst (v := (-1 : Int32)) hx hb d_Md_type_67 (by decide) ?_
      obtain rfl := Option.some.inj hf
      exact hret _ _ _ _ d_Md_type_68 hP hS
    · have hf := pv_f hf h
      refine lv_iload hx hb d_Md_type_60 (lv_at hl 0 rfl) ?_
      refine lv_bipush (v := (126 : Int32)) hx hb d_Md_type_62 (by decide) ?_
      refine lv_icmp_le (tgt := 69) hx hb d_Md_type_64 (by decide) (fun h => ?_) (fun h => ?_)
      · have hf := pv_t hf h
        refine lv_iinc (k := 4) (v := (x4 + (1 : Int32))) (lv' := [(4, .int (x4 + (1 : Int32))), (5, .int ((((x1 >>> ((((8 : Int32) * x4)).toInt64 &&& 63)) &&& (255 : Int64))).toInt32)), (0, .ref (a 0)), (1, .long x1), (3, .int x3)]) hx hb d_Md_type_69 hl rfl (pv_inc (by decide)) (by decide) rfl (fun ls hl => ?_)
        refine lv_goto (tgt := 33) hx hb d_Md_type_72 (by decide) ?_
        exact hk_33 _ _ _ _ _ _ _ hf (lv_sub hl [2, 3, 4, 0] rfl) hP hS
      · have hf := pv_f hf h
        refine lv_iconst (v := (-1 : Int32)) hx hb d_Md_type_67 (by decide) ?_
        obtain rfl := Option.some.inj hf
        exact hret _ _ _ _ d_Md_type_68 hP hS
def f_Md_type_33 : Nat → pv_S → Int64 → Int32 → Int32 → Option (Int32 × pv_S)
  | 0 => fun _ _ _ _ => none
  | n + 1 => f_Md_type_33b (f_Md_type_33 n)
set_option maxHeartbeats 4000000 in
theorem s_Md_type_33 {p : Program} {l : Launch} {e : Env} {R : Room} {s : State} {m : MethodId} {args : Array Value} {below : List Frame} {meth : Method} {c : Code} {Q : State → Prop} {D : va_G} {q : Nat → ClassId} {a : Nat → Nat} {A : Nat → Prop} (C : pv_C p s m args c prog_9_method_4_code 6 "PatchVoicesModel" pv_TB D pv_cl (pv_ty q) 36 a A (pv_ZM)) (hmv : pv_mv A (pv_ZM)) (hRf : 0 ≤ R.frames) (hRl : 0 ≤ R.locals) {out : (Int32 × pv_S)} (hret : pv_Ri p l e R s m args below meth c prog_9_method_4_code D pv_cl 36 a (pv_FM q a) A Q out) (n : Nat) : ∀ {σ : pv_S} {x1 : Int64} {x3 : Int32} {x4 : Int32} {H : Heap} {locs : List Loc} {ls : Array Slot}, lv_has ls 6 [(0, .ref (a 0)), (1, .long x1), (3, .int x3), (4, .int x4)] → pv_W D pv_cl 36 a (pv_FM q a) σ H → va_S A s.heap H locs → f_Md_type_33 n σ x1 x3 x4 = some out → W p l e R s m args below meth c H locs 0 0 Q (F0 m 33 ls []) := by
  induction n with
  | zero => intro σ x1 x3 x4 H locs ls hl hP hS hf; cases hf
  | succ n ih => intro σ x1 x3 x4 H locs ls hl hP hS hf; exact s_Md_type_33b C hmv hRf hRl hret (fun σ x1 x3 x4 H locs ls hf hl hP hS => ih hl hP hS hf) hl hP hS hf
def f_Md_type_0 (σ : pv_S) (x1 : Int64) (x3 : Int32) : Option (Int32 × pv_S) :=
  (if x3 < (1 : Int32) then
  some ((-1 : Int32), (pv_uI σ 0 0 (0 : Int32)))
  else
  (if (8 : Int32) < x3 then
  some ((-1 : Int32), (pv_uI σ 0 0 (0 : Int32)))
  else
  (if (((pv_uI σ 0 0 (0 : Int32)).1 0 2) + x3) ≤ (300 : Int32) then
  f_Md_type_33 pv_fu (pv_uI σ 0 0 (0 : Int32)) x1 x3 (0 : Int32)
  else
  some ((-1 : Int32), (pv_uI σ 0 0 (0 : Int32))))))
set_option maxHeartbeats 4000000 in
set_option maxRecDepth 100000 in
theorem s_Md_type_0 {p : Program} {l : Launch} {e : Env} {R : Room} {s : State} {m : MethodId} {args : Array Value} {below : List Frame} {meth : Method} {c : Code} {Q : State → Prop} {D : va_G} {q : Nat → ClassId} {a : Nat → Nat} {A : Nat → Prop} (C : pv_C p s m args c prog_9_method_4_code 6 "PatchVoicesModel" pv_TB D pv_cl (pv_ty q) 36 a A (pv_ZM)) (hmv : pv_mv A (pv_ZM)) (hRf : 0 ≤ R.frames) (hRl : 0 ≤ R.locals) {out : (Int32 × pv_S)} (hret : pv_Ri p l e R s m args below meth c prog_9_method_4_code D pv_cl 36 a (pv_FM q a) A Q out) {σ : pv_S} {x1 : Int64} {x3 : Int32} {H : Heap} {locs : List Loc} {ls : Array Slot} (hl : lv_has ls 6 [(0, .ref (a 0)), (1, .long x1), (3, .int x3)]) (hP : pv_W D pv_cl 36 a (pv_FM q a) σ H) (hS : va_S A s.heap H locs) (hf : f_Md_type_0 σ x1 x3 = some out) : W p l e R s m args below meth c H locs 0 0 Q (F0 m 0 ls []) := by
  unfold f_Md_type_0 at hf
  have hx := C.1
  have hb := C.2.1
  refine lv_aload_n hx hb d_Md_type_0 rfl (lv_at hl 0 rfl) ?_
  refine lv_iconst (v := (0 : Int32)) hx hb d_Md_type_1 (by decide) ?_
  refine pv_putI C hP hS (x := (0 : Int32)) (by decide) (fm_0 _ _ _ _) fw_Md_127 rfl rfl (Nat.le_of_ble_eq_true rfl) (fms_0_0 _ _ _ _ _) d_Md_type_2 (fun H locs hP hS => ?_)
  refine lv_iload_n hx hb d_Md_type_5 rfl (lv_at hl 2 rfl) ?_
  refine lv_iconst (v := (1 : Int32)) hx hb d_Md_type_6 (by decide) ?_
  refine lv_icmp_lt (tgt := 28) hx hb d_Md_type_7 (by decide) (fun h => ?_) (fun h => ?_)
  · have hf := pv_t hf h
    refine lv_iconst (v := (-1 : Int32)) hx hb d_Md_type_28 (by decide) ?_
    obtain rfl := Option.some.inj hf
    exact hret _ _ _ _ d_Md_type_29 hP hS
  · have hf := pv_f hf h
    refine lv_iload_n hx hb d_Md_type_10 rfl (lv_at hl 2 rfl) ?_
    refine lv_bipush (v := (8 : Int32)) hx hb d_Md_type_11 (by decide) ?_
    refine lv_icmp_gt (tgt := 28) hx hb d_Md_type_13 (by decide) (fun h => ?_) (fun h => ?_)
    · have hf := pv_t hf h
      refine lv_iconst (v := (-1 : Int32)) hx hb d_Md_type_28 (by decide) ?_
      obtain rfl := Option.some.inj hf
      exact hret _ _ _ _ d_Md_type_29 hP hS
    · have hf := pv_f hf h
      refine lv_aload_n hx hb d_Md_type_16 rfl (lv_at hl 0 rfl) ?_
      refine pv_get C hP (v := .int ((pv_uI σ 0 0 (0 : Int32)).1 0 2)) (j := 2) (by decide) (fm_0 _ _ _ _) fl_Md_130 rfl d_Md_type_17 ?_
      refine lv_iload_n hx hb d_Md_type_20 rfl (lv_at hl 2 rfl) ?_
      refine lv_iadd hx hb d_Md_type_21 ?_
      refine lv_sipush (v := (300 : Int32)) hx hb d_Md_type_22 (by decide) ?_
      refine lv_icmp_le (tgt := 30) hx hb d_Md_type_25 (by decide) (fun h => ?_) (fun h => ?_)
      · have hf := pv_t hf h
        refine lv_iconst (v := (0 : Int32)) hx hb d_Md_type_30 (by decide) ?_
        refine lv_istore (lv' := [(4, .int (0 : Int32)), (0, .ref (a 0)), (1, .long x1), (3, .int x3)]) hx hb d_Md_type_31 hl (by decide) rfl (fun ls hl => ?_)
        exact s_Md_type_33 C hmv hRf hRl hret pv_fu (lv_sub hl [1, 2, 3, 0] rfl) hP hS hf
      · have hf := pv_f hf h
        refine lv_iconst (v := (-1 : Int32)) hx hb d_Md_type_28 (by decide) ?_
        obtain rfl := Option.some.inj hf
        exact hret _ _ _ _ d_Md_type_29 hP hS
def f_Md_type (σ : pv_S) (x1 : Int64) (x3 : Int32) : Option (Int32 × pv_S) := f_Md_type_0 σ x1 x3
def rm_Md_type : Room := { frames := 0, cells := 0, slots := 0, locals := 0 }
theorem c_Md_type {l : Launch} {D : va_G} {q : Nat → ClassId} {a : Nat → Nat} {A : Nat → Prop} (hD : pv_D 36 a A) (hmv : pv_mv A (pv_ZM)) {σ : pv_S} {x1 : Int64} {x3 : Int32} {out : (Int32 × pv_S)} (hf : f_Md_type σ x1 x3 = some out) : pv_Mi l y_Md_type (Cond.code y_Md_type prog_9_method_4_code 6 (some .int) :: pv_TB) rm_Md_type D pv_cl (pv_ty q) 36 a (pv_FM q a) A (pv_ZM) [.ref (a 0), .long x1, .int x3] σ out :=
  pv_ofI (by decide) (Nat.le_of_ble_eq_true rfl) hD (fun p e s m args below meth c Q ls C hret hl hP => s_Md_type_0 C hmv (Nat.le_refl _) (Nat.le_refl _) hret hl hP va_S.rf hf)
theorem d_Md_erase_0 : decode prog_9_method_5_code 0 = .ok (.aload_n 0, 1) := by decide +kernel
theorem d_Md_erase_1 : decode prog_9_method_5_code 1 = .ok (.iconst 0, 1) := by decide +kernel
theorem d_Md_erase_2 : decode prog_9_method_5_code 2 = .ok (.putfield 127, 3) := by decide +kernel
theorem d_Md_erase_5 : decode prog_9_method_5_code 5 = .ok (.aload_n 0, 1) := by decide +kernel
theorem d_Md_erase_6 : decode prog_9_method_5_code 6 = .ok (.getfield 130, 3) := by decide +kernel
theorem d_Md_erase_9 : decode prog_9_method_5_code 9 = .ok (.istore_n 1, 1) := by decide +kernel
theorem d_Md_erase_10 : decode prog_9_method_5_code 10 = .ok (.aload_n 0, 1) := by decide +kernel
theorem d_Md_erase_11 : decode prog_9_method_5_code 11 = .ok (.iconst 0, 1) := by decide +kernel
theorem d_Md_erase_12 : decode prog_9_method_5_code 12 = .ok (.putfield 130, 3) := by decide +kernel
theorem d_Md_erase_15 : decode prog_9_method_5_code 15 = .ok (.iload_n 1, 1) := by decide +kernel
theorem d_Md_erase_16 : decode prog_9_method_5_code 16 = .ok (.ireturn, 1) := by decide +kernel
def f_Md_erase_0 (σ : pv_S) : Option (Int32 × pv_S) :=
  some (((pv_uI σ 0 0 (0 : Int32)).1 0 2), (pv_uI (pv_uI σ 0 0 (0 : Int32)) 0 2 (0 : Int32)))
set_option maxHeartbeats 4000000 in
set_option maxRecDepth 100000 in
theorem s_Md_erase_0 {p : Program} {l : Launch} {e : Env} {R : Room} {s : State} {m : MethodId} {args : Array Value} {below : List Frame} {meth : Method} {c : Code} {Q : State → Prop} {D : va_G} {q : Nat → ClassId} {a : Nat → Nat} {A : Nat → Prop} (C : pv_C p s m args c prog_9_method_5_code 2 "PatchVoicesModel" pv_TB D pv_cl (pv_ty q) 36 a A (pv_ZM)) (hmv : pv_mv A (pv_ZM)) (hRf : 0 ≤ R.frames) (hRl : 0 ≤ R.locals) {out : (Int32 × pv_S)} (hret : pv_Ri p l e R s m args below meth c prog_9_method_5_code D pv_cl 36 a (pv_FM q a) A Q out) {σ : pv_S} {H : Heap} {locs : List Loc} {ls : Array Slot} (hl : lv_has ls 2 [(0, .ref (a 0))]) (hP : pv_W D pv_cl 36 a (pv_FM q a) σ H) (hS : va_S A s.heap H locs) (hf : f_Md_erase_0 σ = some out) : W p l e R s m args below meth c H locs 0 0 Q (F0 m 0 ls []) := by
  unfold f_Md_erase_0 at hf
  have hx := C.1
  have hb := C.2.1
  refine lv_aload_n hx hb d_Md_erase_0 rfl (lv_at hl 0 rfl) ?_
  refine lv_iconst (v := (0 : Int32)) hx hb d_Md_erase_1 (by decide) ?_
  refine pv_putI C hP hS (x := (0 : Int32)) (by decide) (fm_0 _ _ _ _) fw_Md_127 rfl rfl (Nat.le_of_ble_eq_true rfl) (fms_0_0 _ _ _ _ _) d_Md_erase_2 (fun H locs hP hS => ?_)
  refine lv_aload_n hx hb d_Md_erase_5 rfl (lv_at hl 0 rfl) ?_
  refine pv_get C hP (v := .int ((pv_uI σ 0 0 (0 : Int32)).1 0 2)) (j := 2) (by decide) (fm_0 _ _ _ _) fl_Md_130 rfl d_Md_erase_6 ?_
  refine lv_istore_n (lv' := [(1, .int ((pv_uI σ 0 0 (0 : Int32)).1 0 2)), (0, .ref (a 0))]) hx hb d_Md_erase_9 rfl hl (by decide) rfl (fun ls hl => ?_)
  refine lv_aload_n hx hb d_Md_erase_10 rfl (lv_at hl 1 rfl) ?_
  refine lv_iconst (v := (0 : Int32)) hx hb d_Md_erase_11 (by decide) ?_
  refine pv_putI C hP hS (x := (0 : Int32)) (by decide) (fm_0 _ _ _ _) fw_Md_130 rfl rfl (Nat.le_of_ble_eq_true rfl) (fms_0_2 _ _ _ _ _) d_Md_erase_12 (fun H locs hP hS => ?_)
  refine lv_iload_n hx hb d_Md_erase_15 rfl (lv_at hl 0 rfl) ?_
  obtain rfl := Option.some.inj hf
  exact hret _ _ _ _ d_Md_erase_16 hP hS
def f_Md_erase (σ : pv_S) : Option (Int32 × pv_S) := f_Md_erase_0 σ
def rm_Md_erase : Room := { frames := 0, cells := 0, slots := 0, locals := 0 }
theorem c_Md_erase {l : Launch} {D : va_G} {q : Nat → ClassId} {a : Nat → Nat} {A : Nat → Prop} (hD : pv_D 36 a A) (hmv : pv_mv A (pv_ZM)) {σ : pv_S} {out : (Int32 × pv_S)} (hf : f_Md_erase σ = some out) : pv_Mi l y_Md_erase (Cond.code y_Md_erase prog_9_method_5_code 2 (some .int) :: pv_TB) rm_Md_erase D pv_cl (pv_ty q) 36 a (pv_FM q a) A (pv_ZM) [.ref (a 0)] σ out :=
  pv_ofI (by decide) (Nat.le_of_ble_eq_true rfl) hD (fun p e s m args below meth c Q ls C hret hl hP => s_Md_erase_0 C hmv (Nat.le_refl _) (Nat.le_refl _) hret hl hP va_S.rf hf)
theorem d_Md_isLetter_0 : decode prog_9_method_6_code 0 = .ok (.iload_n 0, 1) := by decide +kernel
theorem d_Md_isLetter_1 : decode prog_9_method_6_code 1 = .ok (.bipush 97, 2) := by decide +kernel
theorem d_Md_isLetter_3 : decode prog_9_method_6_code 3 = .ok (.if_icmp .lt 13, 3) := by decide +kernel
theorem d_Md_isLetter_6 : decode prog_9_method_6_code 6 = .ok (.iload_n 0, 1) := by decide +kernel
theorem d_Md_isLetter_7 : decode prog_9_method_6_code 7 = .ok (.bipush 122, 2) := by decide +kernel
theorem d_Md_isLetter_9 : decode prog_9_method_6_code 9 = .ok (.if_icmp .gt 7, 3) := by decide +kernel
theorem d_Md_isLetter_12 : decode prog_9_method_6_code 12 = .ok (.iconst 1, 1) := by decide +kernel
theorem d_Md_isLetter_13 : decode prog_9_method_6_code 13 = .ok (.goto 4, 3) := by decide +kernel
theorem d_Md_isLetter_16 : decode prog_9_method_6_code 16 = .ok (.iconst 0, 1) := by decide +kernel
theorem d_Md_isLetter_17 : decode prog_9_method_6_code 17 = .ok (.ireturn, 1) := by decide +kernel
def f_Md_isLetter_0 (σ : pv_S) (x0 : Int32) : Option (Int32 × pv_S) :=
  (if x0 < (97 : Int32) then
  some ((0 : Int32), σ)
  else
  (if (122 : Int32) < x0 then
  some ((0 : Int32), σ)
  else
  some ((1 : Int32), σ)))
set_option maxHeartbeats 4000000 in
set_option maxRecDepth 100000 in
theorem s_Md_isLetter_0 {p : Program} {l : Launch} {e : Env} {R : Room} {s : State} {m : MethodId} {args : Array Value} {below : List Frame} {meth : Method} {c : Code} {Q : State → Prop} {D : va_G} {q : Nat → ClassId} {a : Nat → Nat} {A : Nat → Prop} (C : pv_C p s m args c prog_9_method_6_code 1 "PatchVoicesModel" pv_TB D pv_cl (pv_ty q) 36 a A (pv_ZM)) (hmv : pv_mv A (pv_ZM)) (hRf : 0 ≤ R.frames) (hRl : 0 ≤ R.locals) {out : (Int32 × pv_S)} (hret : pv_Rz p l e R s m args below meth c prog_9_method_6_code D pv_cl 36 a (pv_FM q a) A Q out) {σ : pv_S} {x0 : Int32} {H : Heap} {locs : List Loc} {ls : Array Slot} (hl : lv_has ls 1 [(0, .int x0)]) (hP : pv_W D pv_cl 36 a (pv_FM q a) σ H) (hS : va_S A s.heap H locs) (hf : f_Md_isLetter_0 σ x0 = some out) : W p l e R s m args below meth c H locs 0 0 Q (F0 m 0 ls []) := by
  unfold f_Md_isLetter_0 at hf
  have hx := C.1
  have hb := C.2.1
  refine lv_iload_n hx hb d_Md_isLetter_0 rfl (lv_at hl 0 rfl) ?_
  refine lv_bipush (v := (97 : Int32)) hx hb d_Md_isLetter_1 (by decide) ?_
  refine lv_icmp_lt (tgt := 16) hx hb d_Md_isLetter_3 (by decide) (fun h => ?_) (fun h => ?_)
  · have hf := pv_t hf h
    refine lv_iconst (v := (0 : Int32)) hx hb d_Md_isLetter_16 (by decide) ?_
    obtain rfl := Option.some.inj hf
    exact hret _ _ _ _ d_Md_isLetter_17 rfl hP hS
  · have hf := pv_f hf h
    refine lv_iload_n hx hb d_Md_isLetter_6 rfl (lv_at hl 0 rfl) ?_
    refine lv_bipush (v := (122 : Int32)) hx hb d_Md_isLetter_7 (by decide) ?_
    refine lv_icmp_gt (tgt := 16) hx hb d_Md_isLetter_9 (by decide) (fun h => ?_) (fun h => ?_)
    · have hf := pv_t hf h
      refine lv_iconst (v := (0 : Int32)) hx hb d_Md_isLetter_16 (by decide) ?_
      obtain rfl := Option.some.inj hf
      exact hret _ _ _ _ d_Md_isLetter_17 rfl hP hS
    · have hf := pv_f hf h
      refine lv_iconst (v := (1 : Int32)) hx hb d_Md_isLetter_12 (by decide) ?_
      refine lv_goto (tgt := 17) hx hb d_Md_isLetter_13 (by decide) ?_
      obtain rfl := Option.some.inj hf
      exact hret _ _ _ _ d_Md_isLetter_17 rfl hP hS
def f_Md_isLetter (σ : pv_S) (x0 : Int32) : Option (Int32 × pv_S) := f_Md_isLetter_0 σ x0
def rm_Md_isLetter : Room := { frames := 0, cells := 0, slots := 0, locals := 0 }
theorem c_Md_isLetter {l : Launch} {D : va_G} {q : Nat → ClassId} {a : Nat → Nat} {A : Nat → Prop} (hD : pv_D 36 a A) (hmv : pv_mv A (pv_ZM)) {σ : pv_S} {x0 : Int32} {out : (Int32 × pv_S)} (hf : f_Md_isLetter σ x0 = some out) : pv_Mi l y_Md_isLetter (Cond.code y_Md_isLetter prog_9_method_6_code 1 (some .boolean) :: pv_TB) rm_Md_isLetter D pv_cl (pv_ty q) 36 a (pv_FM q a) A (pv_ZM) [.int x0] σ out :=
  pv_ofZ (by decide) (Nat.le_of_ble_eq_true rfl) hD (fun p e s m args below meth c Q ls C hret hl hP => s_Md_isLetter_0 C hmv (Nat.le_refl _) (Nat.le_refl _) hret hl hP va_S.rf hf)
theorem d_Md_isDigit_0 : decode prog_9_method_7_code 0 = .ok (.iload_n 0, 1) := by decide +kernel
theorem d_Md_isDigit_1 : decode prog_9_method_7_code 1 = .ok (.bipush 48, 2) := by decide +kernel
theorem d_Md_isDigit_3 : decode prog_9_method_7_code 3 = .ok (.if_icmp .lt 13, 3) := by decide +kernel
theorem d_Md_isDigit_6 : decode prog_9_method_7_code 6 = .ok (.iload_n 0, 1) := by decide +kernel
theorem d_Md_isDigit_7 : decode prog_9_method_7_code 7 = .ok (.bipush 57, 2) := by decide +kernel
theorem d_Md_isDigit_9 : decode prog_9_method_7_code 9 = .ok (.if_icmp .gt 7, 3) := by decide +kernel
theorem d_Md_isDigit_12 : decode prog_9_method_7_code 12 = .ok (.iconst 1, 1) := by decide +kernel
theorem d_Md_isDigit_13 : decode prog_9_method_7_code 13 = .ok (.goto 4, 3) := by decide +kernel
theorem d_Md_isDigit_16 : decode prog_9_method_7_code 16 = .ok (.iconst 0, 1) := by decide +kernel
theorem d_Md_isDigit_17 : decode prog_9_method_7_code 17 = .ok (.ireturn, 1) := by decide +kernel
def f_Md_isDigit_0 (σ : pv_S) (x0 : Int32) : Option (Int32 × pv_S) :=
  (if x0 < (48 : Int32) then
  some ((0 : Int32), σ)
  else
  (if (57 : Int32) < x0 then
  some ((0 : Int32), σ)
  else
  some ((1 : Int32), σ)))
set_option maxHeartbeats 4000000 in
set_option maxRecDepth 100000 in
theorem s_Md_isDigit_0 {p : Program} {l : Launch} {e : Env} {R : Room} {s : State} {m : MethodId} {args : Array Value} {below : List Frame} {meth : Method} {c : Code} {Q : State → Prop} {D : va_G} {q : Nat → ClassId} {a : Nat → Nat} {A : Nat → Prop} (C : pv_C p s m args c prog_9_method_7_code 1 "PatchVoicesModel" pv_TB D pv_cl (pv_ty q) 36 a A (pv_ZM)) (hmv : pv_mv A (pv_ZM)) (hRf : 0 ≤ R.frames) (hRl : 0 ≤ R.locals) {out : (Int32 × pv_S)} (hret : pv_Rz p l e R s m args below meth c prog_9_method_7_code D pv_cl 36 a (pv_FM q a) A Q out) {σ : pv_S} {x0 : Int32} {H : Heap} {locs : List Loc} {ls : Array Slot} (hl : lv_has ls 1 [(0, .int x0)]) (hP : pv_W D pv_cl 36 a (pv_FM q a) σ H) (hS : va_S A s.heap H locs) (hf : f_Md_isDigit_0 σ x0 = some out) : W p l e R s m args below meth c H locs 0 0 Q (F0 m 0 ls []) := by
  unfold f_Md_isDigit_0 at hf
  have hx := C.1
  have hb := C.2.1
  refine lv_iload_n hx hb d_Md_isDigit_0 rfl (lv_at hl 0 rfl) ?_
  refine lv_bipush (v := (48 : Int32)) hx hb d_Md_isDigit_1 (by decide) ?_
  refine lv_icmp_lt (tgt := 16) hx hb d_Md_isDigit_3 (by decide) (fun h => ?_) (fun h => ?_)
  · have hf := pv_t hf h
    refine lv_iconst (v := (0 : Int32)) hx hb d_Md_isDigit_16 (by decide) ?_
    obtain rfl := Option.some.inj hf
    exact hret _ _ _ _ d_Md_isDigit_17 rfl hP hS
  · have hf := pv_f hf h
    refine lv_iload_n hx hb d_Md_isDigit_6 rfl (lv_at hl 0 rfl) ?_
    refine lv_bipush (v := (57 : Int32)) hx hb d_Md_isDigit_7 (by decide) ?_
    refine lv_icmp_gt (tgt := 16) hx hb d_Md_isDigit_9 (by decide) (fun h => ?_) (fun h => ?_)
    · have hf := pv_t hf h
      refine lv_iconst (v := (0 : Int32)) hx hb d_Md_isDigit_16 (by decide) ?_
      obtain rfl := Option.some.inj hf
      exact hret _ _ _ _ d_Md_isDigit_17 rfl hP hS
    · have hf := pv_f hf h
      refine lv_iconst (v := (1 : Int32)) hx hb d_Md_isDigit_12 (by decide) ?_
      refine lv_goto (tgt := 17) hx hb d_Md_isDigit_13 (by decide) ?_
      obtain rfl := Option.some.inj hf
      exact hret _ _ _ _ d_Md_isDigit_17 rfl hP hS
def f_Md_isDigit (σ : pv_S) (x0 : Int32) : Option (Int32 × pv_S) := f_Md_isDigit_0 σ x0
def rm_Md_isDigit : Room := { frames := 0, cells := 0, slots := 0, locals := 0 }
theorem c_Md_isDigit {l : Launch} {D : va_G} {q : Nat → ClassId} {a : Nat → Nat} {A : Nat → Prop} (hD : pv_D 36 a A) (hmv : pv_mv A (pv_ZM)) {σ : pv_S} {x0 : Int32} {out : (Int32 × pv_S)} (hf : f_Md_isDigit σ x0 = some out) : pv_Mi l y_Md_isDigit (Cond.code y_Md_isDigit prog_9_method_7_code 1 (some .boolean) :: pv_TB) rm_Md_isDigit D pv_cl (pv_ty q) 36 a (pv_FM q a) A (pv_ZM) [.int x0] σ out :=
  pv_ofZ (by decide) (Nat.le_of_ble_eq_true rfl) hD (fun p e s m args below meth c Q ls C hret hl hP => s_Md_isDigit_0 C hmv (Nat.le_refl _) (Nat.le_refl _) hret hl hP va_S.rf hf)
theorem d_Md_first_0 : decode prog_9_method_8_code 0 = .ok (.aload_n 0, 1) := by decide +kernel
theorem d_Md_first_1 : decode prog_9_method_8_code 1 = .ok (.iload_n 1, 1) := by decide +kernel
theorem d_Md_first_2 : decode prog_9_method_8_code 2 = .ok (.putfield 135, 3) := by decide +kernel
theorem d_Md_first_5 : decode prog_9_method_8_code 5 = .ok (.aload_n 0, 1) := by decide +kernel
theorem d_Md_first_6 : decode prog_9_method_8_code 6 = .ok (.iconst 1, 1) := by decide +kernel
theorem d_Md_first_7 : decode prog_9_method_8_code 7 = .ok (.putfield 138, 3) := by decide +kernel
theorem d_Md_first_10 : decode prog_9_method_8_code 10 = .ok (.aload_n 0, 1) := by decide +kernel
theorem d_Md_first_11 : decode prog_9_method_8_code 11 = .ok (.iload_n 2, 1) := by decide +kernel
theorem d_Md_first_12 : decode prog_9_method_8_code 12 = .ok (.putfield 141, 3) := by decide +kernel
theorem d_Md_first_15 : decode prog_9_method_8_code 15 = .ok (.return_, 1) := by decide +kernel
def f_Md_first_0 (σ : pv_S) (x1 : Int32) (x2 : Int32) : Option pv_S :=
  some (pv_uI (pv_uI (pv_uI σ 0 11 x1) 0 12 (1 : Int32)) 0 13 x2)
set_option maxHeartbeats 4000000 in
set_option maxRecDepth 100000 in
theorem s_Md_first_0 {p : Program} {l : Launch} {e : Env} {R : Room} {s : State} {m : MethodId} {args : Array Value} {below : List Frame} {meth : Method} {c : Code} {Q : State → Prop} {D : va_G} {q : Nat → ClassId} {a : Nat → Nat} {A : Nat → Prop} (C : pv_C p s m args c prog_9_method_8_code 3 "PatchVoicesModel" pv_TB D pv_cl (pv_ty q) 36 a A (pv_ZM)) (hmv : pv_mv A (pv_ZM)) (hRf : 0 ≤ R.frames) (hRl : 0 ≤ R.locals) {out : pv_S} (hret : pv_Rv p l e R s m args below meth c prog_9_method_8_code D pv_cl 36 a (pv_FM q a) A Q out) {σ : pv_S} {x1 : Int32} {x2 : Int32} {H : Heap} {locs : List Loc} {ls : Array Slot} (hl : lv_has ls 3 [(0, .ref (a 0)), (1, .int x1), (2, .int x2)]) (hP : pv_W D pv_cl 36 a (pv_FM q a) σ H) (hS : va_S A s.heap H locs) (hf : f_Md_first_0 σ x1 x2 = some out) : W p l e R s m args below meth c H locs 0 0 Q (F0 m 0 ls []) := by
  unfold f_Md_first_0 at hf
  have hx := C.1
  have hb := C.2.1
  refine lv_aload_n hx hb d_Md_first_0 rfl (lv_at hl 0 rfl) ?_
  refine lv_iload_n hx hb d_Md_first_1 rfl (lv_at hl 1 rfl) ?_
  refine pv_putI C hP hS (x := x1) (by decide) (fm_0 _ _ _ _) fw_Md_135 rfl rfl (Nat.le_of_ble_eq_true rfl) (fms_0_11 _ _ _ _ _) d_Md_first_2 (fun H locs hP hS => ?_)
  refine lv_aload_n hx hb d_Md_first_5 rfl (lv_at hl 0 rfl) ?_
  refine lv_iconst (v := (1 : Int32)) hx hb d_Md_first_6 (by decide) ?_
  refine pv_putI C hP hS (x := (1 : Int32)) (by decide) (fm_0 _ _ _ _) fw_Md_138 rfl rfl (Nat.le_of_ble_eq_true rfl) (fms_0_12 _ _ _ _ _) d_Md_first_7 (fun H locs hP hS => ?_)
  refine lv_aload_n hx hb d_Md_first_10 rfl (lv_at hl 0 rfl) ?_
  refine lv_iload_n hx hb d_Md_first_11 rfl (lv_at hl 2 rfl) ?_
  refine pv_putI C hP hS (x := x2) (by decide) (fm_0 _ _ _ _) fw_Md_141 rfl rfl (Nat.le_of_ble_eq_true rfl) (fms_0_13 _ _ _ _ _) d_Md_first_12 (fun H locs hP hS => ?_)
  obtain rfl := Option.some.inj hf
  exact hret _ _ _ _ d_Md_first_15 hP hS
def f_Md_first (σ : pv_S) (x1 : Int32) (x2 : Int32) : Option pv_S := f_Md_first_0 σ x1 x2
def rm_Md_first : Room := { frames := 0, cells := 0, slots := 0, locals := 0 }
theorem c_Md_first {l : Launch} {D : va_G} {q : Nat → ClassId} {a : Nat → Nat} {A : Nat → Prop} (hD : pv_D 36 a A) (hmv : pv_mv A (pv_ZM)) {σ : pv_S} {x1 : Int32} {x2 : Int32} {out : pv_S} (hf : f_Md_first σ x1 x2 = some out) : pv_Mv l y_Md_first (Cond.code y_Md_first prog_9_method_8_code 3 none :: pv_TB) rm_Md_first D pv_cl (pv_ty q) 36 a (pv_FM q a) A (pv_ZM) [.ref (a 0), .int x1, .int x2] σ out :=
  pv_ofV (by decide) (Nat.le_of_ble_eq_true rfl) hD (fun p e s m args below meth c Q ls C hret hl hP => s_Md_first_0 C hmv (Nat.le_refl _) (Nat.le_refl _) hret hl hP va_S.rf hf)
theorem d_Md_more_0 : decode prog_9_method_9_code 0 = .ok (.aload_n 0, 1) := by decide +kernel
theorem d_Md_more_1 : decode prog_9_method_9_code 1 = .ok (.aload_n 0, 1) := by decide +kernel
theorem d_Md_more_2 : decode prog_9_method_9_code 2 = .ok (.getfield 138, 3) := by decide +kernel
theorem d_Md_more_5 : decode prog_9_method_9_code 5 = .ok (.iload_n 2, 1) := by decide +kernel
theorem d_Md_more_6 : decode prog_9_method_9_code 6 = .ok (.if_icmp .ge 15, 3) := by decide +kernel
theorem d_Md_more_9 : decode prog_9_method_9_code 9 = .ok (.aload_n 0, 1) := by decide +kernel
theorem d_Md_more_10 : decode prog_9_method_9_code 10 = .ok (.getfield 141, 3) := by decide +kernel
theorem d_Md_more_13 : decode prog_9_method_9_code 13 = .ok (.bipush 8, 2) := by decide +kernel
theorem d_Md_more_15 : decode prog_9_method_9_code 15 = .ok (.ishl, 1) := by decide +kernel
theorem d_Md_more_16 : decode prog_9_method_9_code 16 = .ok (.iload_n 1, 1) := by decide +kernel
theorem d_Md_more_17 : decode prog_9_method_9_code 17 = .ok (.ior, 1) := by decide +kernel
theorem d_Md_more_18 : decode prog_9_method_9_code 18 = .ok (.goto 7, 3) := by decide +kernel
theorem d_Md_more_21 : decode prog_9_method_9_code 21 = .ok (.aload_n 0, 1) := by decide +kernel
theorem d_Md_more_22 : decode prog_9_method_9_code 22 = .ok (.getfield 141, 3) := by decide +kernel
theorem d_Md_more_25 : decode prog_9_method_9_code 25 = .ok (.putfield 141, 3) := by decide +kernel
theorem d_Md_more_28 : decode prog_9_method_9_code 28 = .ok (.aload_n 0, 1) := by decide +kernel
theorem d_Md_more_29 : decode prog_9_method_9_code 29 = .ok (.dup, 1) := by decide +kernel
theorem d_Md_more_30 : decode prog_9_method_9_code 30 = .ok (.getfield 138, 3) := by decide +kernel
theorem d_Md_more_33 : decode prog_9_method_9_code 33 = .ok (.iconst 1, 1) := by decide +kernel
theorem d_Md_more_34 : decode prog_9_method_9_code 34 = .ok (.iadd, 1) := by decide +kernel
theorem d_Md_more_35 : decode prog_9_method_9_code 35 = .ok (.putfield 138, 3) := by decide +kernel
theorem d_Md_more_38 : decode prog_9_method_9_code 38 = .ok (.aload_n 0, 1) := by decide +kernel
theorem d_Md_more_39 : decode prog_9_method_9_code 39 = .ok (.getfield 138, 3) := by decide +kernel
theorem d_Md_more_42 : decode prog_9_method_9_code 42 = .ok (.iload_n 2, 1) := by decide +kernel
theorem d_Md_more_43 : decode prog_9_method_9_code 43 = .ok (.if_icmp .gt 7, 3) := by decide +kernel
theorem d_Md_more_46 : decode prog_9_method_9_code 46 = .ok (.iconst 1, 1) := by decide +kernel
theorem d_Md_more_47 : decode prog_9_method_9_code 47 = .ok (.goto 4, 3) := by decide +kernel
theorem d_Md_more_50 : decode prog_9_method_9_code 50 = .ok (.iconst 0, 1) := by decide +kernel
theorem d_Md_more_51 : decode prog_9_method_9_code 51 = .ok (.ireturn, 1) := by decide +kernel
def f_Md_more_25 (σ : pv_S) (x2 : Int32) (s0 : Int32) : Option (Int32 × pv_S) :=
  (if x2 < ((pv_uI (pv_uI σ 0 13 s0) 0 12 (((pv_uI σ 0 13 s0).1 0 12) + (1 : Int32))).1 0 12) then
  some ((0 : Int32), (pv_uI (pv_uI σ 0 13 s0) 0 12 (((pv_uI σ 0 13 s0).1 0 12) + (1 : Int32))))
  else
  some ((1 : Int32), (pv_uI (pv_uI σ 0 13 s0) 0 12 (((pv_uI σ 0 13 s0).1 0 12) + (1 : Int32)))))
set_option maxHeartbeats 4000000 in
set_option maxRecDepth 100000 in
theorem s_Md_more_25 {p : Program} {l : Launch} {e : Env} {R : Room} {s : State} {m : MethodId} {args : Array Value} {below : List Frame} {meth : Method} {c : Code} {Q : State → Prop} {D : va_G} {q : Nat → ClassId} {a : Nat → Nat} {A : Nat → Prop} (C : pv_C p s m args c prog_9_method_9_code 3 "PatchVoicesModel" pv_TB D pv_cl (pv_ty q) 36 a A (pv_ZM)) (hmv : pv_mv A (pv_ZM)) (hRf : 0 ≤ R.frames) (hRl : 0 ≤ R.locals) {out : (Int32 × pv_S)} (hret : pv_Rz p l e R s m args below meth c prog_9_method_9_code D pv_cl 36 a (pv_FM q a) A Q out) {σ : pv_S} {x2 : Int32} {s0 : Int32} {H : Heap} {locs : List Loc} {ls : Array Slot} (hl : lv_has ls 3 [(0, .ref (a 0)), (2, .int x2)]) (hP : pv_W D pv_cl 36 a (pv_FM q a) σ H) (hS : va_S A s.heap H locs) (hf : f_Md_more_25 σ x2 s0 = some out) : W p l e R s m args below meth c H locs 0 0 Q (F0 m 25 ls [.int s0, .ref (a 0)]) := by
  unfold f_Md_more_25 at hf
  have hx := C.1
  have hb := C.2.1
  refine pv_putI C hP hS (x := s0) (by decide) (fm_0 _ _ _ _) fw_Md_141 rfl rfl (Nat.le_of_ble_eq_true rfl) (fms_0_13 _ _ _ _ _) d_Md_more_25 (fun H locs hP hS => ?_)
  refine lv_aload_n hx hb d_Md_more_28 rfl (lv_at hl 0 rfl) ?_
  refine lv_dup hx hb d_Md_more_29 rfl ?_
  refine pv_get C hP (v := .int ((pv_uI σ 0 13 s0).1 0 12)) (j := 12) (by decide) (fm_0 _ _ _ _) fl_Md_138 rfl d_Md_more_30 ?_
  refine lv_iconst (v := (1 : Int32)) hx hb d_Md_more_33 (by decide) ?_
  refine lv_iadd hx hb d_Md_more_34 ?_
  refine pv_putI C hP hS (x := (((pv_uI σ 0 13 s0).1 0 12) + (1 : Int32))) (by decide) (fm_0 _ _ _ _) fw_Md_138 rfl rfl (Nat.le_of_ble_eq_true rfl) (fms_0_12 _ _ _ _ _) d_Md_more_35 (fun H locs hP hS => ?_)
  refine lv_aload_n hx hb d_Md_more_38 rfl (lv_at hl 0 rfl) ?_
  refine pv_get C hP (v := .int ((pv_uI (pv_uI σ 0 13 s0) 0 12 (((pv_uI σ 0 13 s0).1 0 12) + (1 : Int32))).1 0 12)) (j := 12) (by decide) (fm_0 _ _ _ _) fl_Md_138 rfl d_Md_more_39 ?_
  refine lv_iload_n hx hb d_Md_more_42 rfl (lv_at hl 1 rfl) ?_
  refine lv_icmp_gt (tgt := 50) hx hb d_Md_more_43 (by decide) (fun h => ?_) (fun h => ?_)
  · have hf := pv_t hf h
    refine lv_iconst (v := (0 : Int32)) hx hb d_Md_more_50 (by decide) ?_
    obtain rfl := Option.some.inj hf
    exact hret _ _ _ _ d_Md_more_51 rfl hP hS
  · have hf := pv_f hf h
    refine lv_iconst (v := (1 : Int32)) hx hb d_Md_more_46 (by decide) ?_
    refine lv_goto (tgt := 51) hx hb d_Md_more_47 (by decide) ?_
    obtain rfl := Option.some.inj hf
    exact hret _ _ _ _ d_Md_more_51 rfl hP hS
def f_Md_more_0 (σ : pv_S) (x1 : Int32) (x2 : Int32) : Option (Int32 × pv_S) :=
  (if x2 ≤ (σ.1 0 12) then
  f_Md_more_25 σ x2 (σ.1 0 13)
  else
  f_Md_more_25 σ x2 (((σ.1 0 13) <<< ((8 : Int32) &&& 31)) ||| x1))
set_option maxHeartbeats 4000000 in
set_option maxRecDepth 100000 in
theorem s_Md_more_0 {p : Program} {l : Launch} {e : Env} {R : Room} {s : State} {m : MethodId} {args : Array Value} {below : List Frame} {meth : Method} {c : Code} {Q : State → Prop} {D : va_G} {q : Nat → ClassId} {a : Nat → Nat} {A : Nat → Prop} (C : pv_C p s m args c prog_9_method_9_code 3 "PatchVoicesModel" pv_TB D pv_cl (pv_ty q) 36 a A (pv_ZM)) (hmv : pv_mv A (pv_ZM)) (hRf : 0 ≤ R.frames) (hRl : 0 ≤ R.locals) {out : (Int32 × pv_S)} (hret : pv_Rz p l e R s m args below meth c prog_9_method_9_code D pv_cl 36 a (pv_FM q a) A Q out) {σ : pv_S} {x1 : Int32} {x2 : Int32} {H : Heap} {locs : List Loc} {ls : Array Slot} (hl : lv_has ls 3 [(0, .ref (a 0)), (1, .int x1), (2, .int x2)]) (hP : pv_W D pv_cl 36 a (pv_FM q a) σ H) (hS : va_S A s.heap H locs) (hf : f_Md_more_0 σ x1 x2 = some out) : W p l e R s m args below meth c H locs 0 0 Q (F0 m 0 ls []) := by
  unfold f_Md_more_0 at hf
  have hx := C.1
  have hb := C.2.1
  refine lv_aload_n hx hb d_Md_more_0 rfl (lv_at hl 0 rfl) ?_
  refine lv_aload_n hx hb d_Md_more_1 rfl (lv_at hl 0 rfl) ?_
  refine pv_get C hP (v := .int (σ.1 0 12)) (j := 12) (by decide) (fm_0 _ _ _ _) fl_Md_138 rfl d_Md_more_2 ?_
  refine lv_iload_n hx hb d_Md_more_5 rfl (lv_at hl 2 rfl) ?_
  refine lv_icmp_ge (tgt := 21) hx hb d_Md_more_6 (by decide) (fun h => ?_) (fun h => ?_)
  · have hf := pv_t hf h
    refine lv_aload_n hx hb d_Md_more_21 rfl (lv_at hl 0 rfl) ?_
    refine pv_get C hP (v := .int (σ.1 0 13)) (j := 13) (by decide) (fm_0 _ _ _ _) fl_Md_141 rfl d_Md_more_22 ?_
    exact s_Md_more_25 C hmv hRf hRl hret (lv_sub hl [0, 2] rfl) hP hS hf
  · have hf := pv_f hf h
    refine lv_aload_n hx hb d_Md_more_9 rfl (lv_at hl 0 rfl) ?_
    refine pv_get C hP (v := .int (σ.1 0 13)) (j := 13) (by decide) (fm_0 _ _ _ _) fl_Md_141 rfl d_Md_more_10 ?_
    refine lv_bipush (v := (8 : Int32)) hx hb d_Md_more_13 (by decide) ?_
    refine lv_ishl hx hb d_Md_more_15 ?_
    refine lv_iload_n hx hb d_Md_more_16 rfl (lv_at hl 1 rfl) ?_
    refine lv_ior hx hb d_Md_more_17 ?_
    refine lv_goto (tgt := 25) hx hb d_Md_more_18 (by decide) ?_
    exact s_Md_more_25 C hmv hRf hRl hret (lv_sub hl [0, 2] rfl) hP hS hf
def f_Md_more (σ : pv_S) (x1 : Int32) (x2 : Int32) : Option (Int32 × pv_S) := f_Md_more_0 σ x1 x2
def rm_Md_more : Room := { frames := 0, cells := 0, slots := 0, locals := 0 }
theorem c_Md_more {l : Launch} {D : va_G} {q : Nat → ClassId} {a : Nat → Nat} {A : Nat → Prop} (hD : pv_D 36 a A) (hmv : pv_mv A (pv_ZM)) {σ : pv_S} {x1 : Int32} {x2 : Int32} {out : (Int32 × pv_S)} (hf : f_Md_more σ x1 x2 = some out) : pv_Mi l y_Md_more (Cond.code y_Md_more prog_9_method_9_code 3 (some .boolean) :: pv_TB) rm_Md_more D pv_cl (pv_ty q) 36 a (pv_FM q a) A (pv_ZM) [.ref (a 0), .int x1, .int x2] σ out :=
  pv_ofZ (by decide) (Nat.le_of_ble_eq_true rfl) hD (fun p e s m args below meth c Q ls C hret hl hP => s_Md_more_0 C hmv (Nat.le_refl _) (Nat.le_refl _) hret hl hP va_S.rf hf)
theorem d_Md_isWord_0 : decode prog_9_method_10_code 0 = .ok (.iconst 0, 1) := by decide +kernel
theorem d_Md_isWord_1 : decode prog_9_method_10_code 1 = .ok (.istore_n 2, 1) := by decide +kernel
theorem d_Md_isWord_2 : decode prog_9_method_10_code 2 = .ok (.iconst 0, 1) := by decide +kernel
theorem d_Md_isWord_3 : decode prog_9_method_10_code 3 = .ok (.istore_n 3, 1) := by decide +kernel
theorem d_Md_isWord_4 : decode prog_9_method_10_code 4 = .ok (.iload_n 3, 1) := by decide +kernel
theorem d_Md_isWord_5 : decode prog_9_method_10_code 5 = .ok (.bipush 20, 2) := by decide +kernel
theorem d_Md_isWord_7 : decode prog_9_method_10_code 7 = .ok (.if_icmp .ge 63, 3) := by decide +kernel
theorem d_Md_isWord_10 : decode prog_9_method_10_code 10 = .ok (.aload_n 0, 1) := by decide +kernel
theorem d_Md_isWord_11 : decode prog_9_method_10_code 11 = .ok (.getfield 138, 3) := by decide +kernel
theorem d_Md_isWord_14 : decode prog_9_method_10_code 14 = .ok (.iconst 3, 1) := by decide +kernel
theorem d_Md_isWord_15 : decode prog_9_method_10_code 15 = .ok (.if_icmp .gt 55, 3) := by decide +kernel
theorem d_Md_isWord_18 : decode prog_9_method_10_code 18 = .ok (.iload_n 2, 1) := by decide +kernel
theorem d_Md_isWord_19 : decode prog_9_method_10_code 19 = .ok (.ifCond .ne 39, 3) := by decide +kernel
theorem d_Md_isWord_22 : decode prog_9_method_10_code 22 = .ok (.aload_n 0, 1) := by decide +kernel
theorem d_Md_isWord_23 : decode prog_9_method_10_code 23 = .ok (.getfield 13, 3) := by decide +kernel
theorem d_Md_isWord_26 : decode prog_9_method_10_code 26 = .ok (.iload_n 3, 1) := by decide +kernel
theorem d_Md_isWord_27 : decode prog_9_method_10_code 27 = .ok (.iaload, 1) := by decide +kernel
theorem d_Md_isWord_28 : decode prog_9_method_10_code 28 = .ok (.bipush 24, 2) := by decide +kernel
theorem d_Md_isWord_30 : decode prog_9_method_10_code 30 = .ok (.bipush 8, 2) := by decide +kernel
theorem d_Md_isWord_32 : decode prog_9_method_10_code 32 = .ok (.aload_n 0, 1) := by decide +kernel
theorem d_Md_isWord_33 : decode prog_9_method_10_code 33 = .ok (.getfield 138, 3) := by decide +kernel
theorem d_Md_isWord_36 : decode prog_9_method_10_code 36 = .ok (.imul, 1) := by decide +kernel
theorem d_Md_isWord_37 : decode prog_9_method_10_code 37 = .ok (.isub, 1) := by decide +kernel
theorem d_Md_isWord_38 : decode prog_9_method_10_code 38 = .ok (.ishr, 1) := by decide +kernel
theorem d_Md_isWord_39 : decode prog_9_method_10_code 39 = .ok (.aload_n 0, 1) := by decide +kernel
theorem d_Md_isWord_40 : decode prog_9_method_10_code 40 = .ok (.getfield 141, 3) := by decide +kernel
theorem d_Md_isWord_43 : decode prog_9_method_10_code 43 = .ok (.if_icmp .ne 19, 3) := by decide +kernel
theorem d_Md_isWord_46 : decode prog_9_method_10_code 46 = .ok (.iload_n 1, 1) := by decide +kernel
theorem d_Md_isWord_47 : decode prog_9_method_10_code 47 = .ok (.ifCond .eq 11, 3) := by decide +kernel
theorem d_Md_isWord_50 : decode prog_9_method_10_code 50 = .ok (.aload_n 0, 1) := by decide +kernel
theorem d_Md_isWord_51 : decode prog_9_method_10_code 51 = .ok (.getfield 138, 3) := by decide +kernel
theorem d_Md_isWord_54 : decode prog_9_method_10_code 54 = .ok (.iconst 3, 1) := by decide +kernel
theorem d_Md_isWord_55 : decode prog_9_method_10_code 55 = .ok (.if_icmp .ne 7, 3) := by decide +kernel
theorem d_Md_isWord_58 : decode prog_9_method_10_code 58 = .ok (.iconst 1, 1) := by decide +kernel
theorem d_Md_isWord_59 : decode prog_9_method_10_code 59 = .ok (.goto 4, 3) := by decide +kernel
theorem d_Md_isWord_62 : decode prog_9_method_10_code 62 = .ok (.iconst 0, 1) := by decide +kernel
theorem d_Md_isWord_63 : decode prog_9_method_10_code 63 = .ok (.istore_n 2, 1) := by decide +kernel
theorem d_Md_isWord_64 : decode prog_9_method_10_code 64 = .ok (.iinc 3 1, 3) := by decide +kernel
theorem d_Md_isWord_67 : decode prog_9_method_10_code 67 = .ok (.goto (-63), 3) := by decide +kernel
theorem d_Md_isWord_70 : decode prog_9_method_10_code 70 = .ok (.iload_n 2, 1) := by decide +kernel
theorem d_Md_isWord_71 : decode prog_9_method_10_code 71 = .ok (.ireturn, 1) := by decide +kernel
def f_Md_isWord_63 (k_4 : pv_S → Int32 → Int32 → Int32 → Option (Int32 × pv_S)) (σ : pv_S) (x1 : Int32) (x3 : Int32) (s0 : Int32) : Option (Int32 × pv_S) :=
  k_4 σ x1 s0 (x3 + (1 : Int32))
set_option maxHeartbeats 4000000 in
set_option maxRecDepth 100000 in
theorem s_Md_isWord_63 {p : Program} {l : Launch} {e : Env} {R : Room} {s : State} {m : MethodId} {args : Array Value} {below : List Frame} {meth : Method} {c : Code} {Q : State → Prop} {D : va_G} {q : Nat → ClassId} {a : Nat → Nat} {A : Nat → Prop} (C : pv_C p s m args c prog_9_method_10_code 4 "PatchVoicesModel" pv_TB D pv_cl (pv_ty q) 36 a A (pv_ZM)) (hmv : pv_mv A (pv_ZM)) (hRf : 0 ≤ R.frames) (hRl : 0 ≤ R.locals) {out : (Int32 × pv_S)} (hret : pv_Rz p l e R s m args below meth c prog_9_method_10_code D pv_cl 36 a (pv_FM q a) A Q out) {k_4 : pv_S → Int32 → Int32 → Int32 → Option (Int32 × pv_S)} (hk_4 : ∀ (σ : pv_S) (x1 : Int32) (x2 : Int32) (x3 : Int32) (H : Heap) (locs : List Loc) (ls : Array Slot), k_4 σ x1 x2 x3 = some out → lv_has ls 4 [(0, .ref (a 0)), (1, .int x1), (2, .int x2), (3, .int x3)] → pv_W D pv_cl 36 a (pv_FM q a) σ H → va_S A s.heap H locs → W p l e R s m args below meth c H locs 0 0 Q (F0 m 4 ls [])) {σ : pv_S} {x1 : Int32} {x3 : Int32} {s0 : Int32} {H : Heap} {locs : List Loc} {ls : Array Slot} (hl : lv_has ls 4 [(0, .ref (a 0)), (1, .int x1), (3, .int x3)]) (hP : pv_W D pv_cl 36 a (pv_FM q a) σ H) (hS : va_S A s.heap H locs) (hf : f_Md_isWord_63 k_4 σ x1 x3 s0 = some out) : W p l e R s m args below meth c H locs 0 0 Q (F0 m 63 ls [.int s0]) := by
  unfold f_Md_isWord_63 at hf
  have hx := C.1
  have hb := C.2.1
  refine lv_istore_n (lv' := [(2, .int s0), (0, .ref (a 0)), (1, .int x1), (3, .int x3)]) hx hb d_Md_isWord_63 rfl hl (by decide) rfl (fun ls hl => ?_)
  refine lv_iinc (k := 3) (v := (x3 + (1 : Int32))) (lv' := [(3, .int (x3 + (1 : Int32))), (2, .int s0), (0, .ref (a 0)), (1, .int x1)]) hx hb d_Md_isWord_64 hl rfl (pv_inc (by decide)) (by decide) rfl (fun ls hl => ?_)
  refine lv_goto (tgt := 4) hx hb d_Md_isWord_67 (by decide) ?_
  exact hk_4 _ _ _ _ _ _ _ hf (lv_sub hl [2, 3, 1, 0] rfl) hP hS
def f_Md_isWord_62 (k_4 : pv_S → Int32 → Int32 → Int32 → Option (Int32 × pv_S)) (σ : pv_S) (x1 : Int32) (x3 : Int32) : Option (Int32 × pv_S) :=
  f_Md_isWord_63 k_4 σ x1 x3 (0 : Int32)
set_option maxHeartbeats 4000000 in
set_option maxRecDepth 100000 in
theorem s_Md_isWord_62 {p : Program} {l : Launch} {e : Env} {R : Room} {s : State} {m : MethodId} {args : Array Value} {below : List Frame} {meth : Method} {c : Code} {Q : State → Prop} {D : va_G} {q : Nat → ClassId} {a : Nat → Nat} {A : Nat → Prop} (C : pv_C p s m args c prog_9_method_10_code 4 "PatchVoicesModel" pv_TB D pv_cl (pv_ty q) 36 a A (pv_ZM)) (hmv : pv_mv A (pv_ZM)) (hRf : 0 ≤ R.frames) (hRl : 0 ≤ R.locals) {out : (Int32 × pv_S)} (hret : pv_Rz p l e R s m args below meth c prog_9_method_10_code D pv_cl 36 a (pv_FM q a) A Q out) {k_4 : pv_S → Int32 → Int32 → Int32 → Option (Int32 × pv_S)} (hk_4 : ∀ (σ : pv_S) (x1 : Int32) (x2 : Int32) (x3 : Int32) (H : Heap) (locs : List Loc) (ls : Array Slot), k_4 σ x1 x2 x3 = some out → lv_has ls 4 [(0, .ref (a 0)), (1, .int x1), (2, .int x2), (3, .int x3)] → pv_W D pv_cl 36 a (pv_FM q a) σ H → va_S A s.heap H locs → W p l e R s m args below meth c H locs 0 0 Q (F0 m 4 ls [])) {σ : pv_S} {x1 : Int32} {x3 : Int32} {H : Heap} {locs : List Loc} {ls : Array Slot} (hl : lv_has ls 4 [(0, .ref (a 0)), (1, .int x1), (3, .int x3)]) (hP : pv_W D pv_cl 36 a (pv_FM q a) σ H) (hS : va_S A s.heap H locs) (hf : f_Md_isWord_62 k_4 σ x1 x3 = some out) : W p l e R s m args below meth c H locs 0 0 Q (F0 m 62 ls []) := by
  unfold f_Md_isWord_62 at hf
  have hx := C.1
  have hb := C.2.1
  refine lv_iconst (v := (0 : Int32)) hx hb d_Md_isWord_62 (by decide) ?_
  exact s_Md_isWord_63 C hmv hRf hRl hret hk_4 (lv_sub hl [0, 1, 2] rfl) hP hS hf
def f_Md_isWord_58 (k_4 : pv_S → Int32 → Int32 → Int32 → Option (Int32 × pv_S)) (σ : pv_S) (x1 : Int32) (x3 : Int32) : Option (Int32 × pv_S) :=
  f_Md_isWord_63 k_4 σ x1 x3 (1 : Int32)
set_option maxHeartbeats 4000000 in
set_option maxRecDepth 100000 in
theorem s_Md_isWord_58 {p : Program} {l : Launch} {e : Env} {R : Room} {s : State} {m : MethodId} {args : Array Value} {below : List Frame} {meth : Method} {c : Code} {Q : State → Prop} {D : va_G} {q : Nat → ClassId} {a : Nat → Nat} {A : Nat → Prop} (C : pv_C p s m args c prog_9_method_10_code 4 "PatchVoicesModel" pv_TB D pv_cl (pv_ty q) 36 a A (pv_ZM)) (hmv : pv_mv A (pv_ZM)) (hRf : 0 ≤ R.frames) (hRl : 0 ≤ R.locals) {out : (Int32 × pv_S)} (hret : pv_Rz p l e R s m args below meth c prog_9_method_10_code D pv_cl 36 a (pv_FM q a) A Q out) {k_4 : pv_S → Int32 → Int32 → Int32 → Option (Int32 × pv_S)} (hk_4 : ∀ (σ : pv_S) (x1 : Int32) (x2 : Int32) (x3 : Int32) (H : Heap) (locs : List Loc) (ls : Array Slot), k_4 σ x1 x2 x3 = some out → lv_has ls 4 [(0, .ref (a 0)), (1, .int x1), (2, .int x2), (3, .int x3)] → pv_W D pv_cl 36 a (pv_FM q a) σ H → va_S A s.heap H locs → W p l e R s m args below meth c H locs 0 0 Q (F0 m 4 ls [])) {σ : pv_S} {x1 : Int32} {x3 : Int32} {H : Heap} {locs : List Loc} {ls : Array Slot} (hl : lv_has ls 4 [(0, .ref (a 0)), (1, .int x1), (3, .int x3)]) (hP : pv_W D pv_cl 36 a (pv_FM q a) σ H) (hS : va_S A s.heap H locs) (hf : f_Md_isWord_58 k_4 σ x1 x3 = some out) : W p l e R s m args below meth c H locs 0 0 Q (F0 m 58 ls []) := by
  unfold f_Md_isWord_58 at hf
  have hx := C.1
  have hb := C.2.1
  refine lv_iconst (v := (1 : Int32)) hx hb d_Md_isWord_58 (by decide) ?_
  refine lv_goto (tgt := 63) hx hb d_Md_isWord_59 (by decide) ?_
  exact s_Md_isWord_63 C hmv hRf hRl hret hk_4 (lv_sub hl [0, 1, 2] rfl) hP hS hf
def f_Md_isWord_4b (k_4 : pv_S → Int32 → Int32 → Int32 → Option (Int32 × pv_S)) (σ : pv_S) (x1 : Int32) (x2 : Int32) (x3 : Int32) : Option (Int32 × pv_S) :=
  (if (20 : Int32) ≤ x3 then
  (if pv_z x2 = true then
some (x2, σ)
  else none)
  else
  (if (3 : Int32) < (σ.1 0 12) then
  (if pv_z x2 = true then
some (x2, σ)
  else none)
  else
  (if x2 = 0 then
  (if pv_in x3 20 = true then
(if ((σ.1 2 (x3).toNatClampNeg) >>> (((24 : Int32) - ((8 : Int32) * (σ.1 0 12))) &&& 31)) = (σ.1 0 13) then
  (if x1 = 0 then
  f_Md_isWord_58 k_4 σ x1 x3
  else
  (if (σ.1 0 12) = (3 : Int32) then
  f_Md_isWord_58 k_4 σ x1 x3
  else
  f_Md_isWord_62 k_4 σ x1 x3))
  else
  f_Md_isWord_62 k_4 σ x1 x3)
  else none)
  else
  f_Md_isWord_58 k_4 σ x1 x3)))
set_option maxHeartbeats 4000000 in
set_option maxRecDepth 100000 in
theorem s_Md_isWord_4b {p : Program} {l : Launch} {e : Env} {R : Room} {s : State} {m : MethodId} {args : Array Value} {below : List Frame} {meth : Method} {c : Code} {Q : State → Prop} {D : va_G} {q : Nat → ClassId} {a : Nat → Nat} {A : Nat → Prop} (C : pv_C p s m args c prog_9_method_10_code 4 "PatchVoicesModel" pv_TB D pv_cl (pv_ty q) 36 a A (pv_ZM)) (hmv : pv_mv A (pv_ZM)) (hRf : 0 ≤ R.frames) (hRl : 0 ≤ R.locals) {out : (Int32 × pv_S)} (hret : pv_Rz p l e R s m args below meth c prog_9_method_10_code D pv_cl 36 a (pv_FM q a) A Q out) {k_4 : pv_S → Int32 → Int32 → Int32 → Option (Int32 × pv_S)} (hk_4 : ∀ (σ : pv_S) (x1 : Int32) (x2 : Int32) (x3 : Int32) (H : Heap) (locs : List Loc) (ls : Array Slot), k_4 σ x1 x2 x3 = some out → lv_has ls 4 [(0, .ref (a 0)), (1, .int x1), (2, .int x2), (3, .int x3)] → pv_W D pv_cl 36 a (pv_FM q a) σ H → va_S A s.heap H locs → W p l e R s m args below meth c H locs 0 0 Q (F0 m 4 ls [])) {σ : pv_S} {x1 : Int32} {x2 : Int32} {x3 : Int32} {H : Heap} {locs : List Loc} {ls : Array Slot} (hl : lv_has ls 4 [(0, .ref (a 0)), (1, .int x1), (2, .int x2), (3, .int x3)]) (hP : pv_W D pv_cl 36 a (pv_FM q a) σ H) (hS : va_S A s.heap H locs) (hf : f_Md_isWord_4b k_4 σ x1 x2 x3 = some out) : W p l e R s m args below meth c H locs 0 0 Q (F0 m 4 ls []) := by
  unfold f_Md_isWord_4b at hf
  have hx := C.1
  have hb := C.2.1
  refine lv_iload_n hx hb d_Md_isWord_4 rfl (lv_at hl 3 rfl) ?_
  refine lv_bipush (v := (20 : Int32)) hx hb d_Md_isWord_5 (by decide) ?_
  refine lv_icmp_ge (tgt := 70) hx hb d_Md_isWord_7 (by decide) (fun h => ?_) (fun h => ?_)
  · have hf := pv_t hf h
    refine lv_iload_n hx hb d_Md_isWord_70 rfl (lv_at hl 2 rfl) ?_
    obtain ⟨hg, hf⟩ := pv_g hf
    obtain rfl := Option.some.inj hf
    exact hret _ _ _ _ d_Md_isWord_71 hg hP hS
  · have hf := pv_f hf h
    refine lv_aload_n hx hb d_Md_isWord_10 rfl (lv_at hl 0 rfl) ?_
    refine pv_get C hP (v := .int (σ.1 0 12)) (j := 12) (by decide) (fm_0 _ _ _ _) fl_Md_138 rfl d_Md_isWord_11 ?_
    refine lv_iconst (v := (3 : Int32)) hx hb d_Md_isWord_14 (by decide) ?_
    refine lv_icmp_gt (tgt := 70) hx hb d_Md_isWord_15 (by decide) (fun h => ?_) (fun h => ?_)
    · have hf := pv_t hf h
      refine lv_iload_n hx hb d_Md_isWord_70 rfl (lv_at hl 2 rfl) ?_
      obtain ⟨hg, hf⟩ := pv_g hf
      obtain rfl := Option.some.inj hf
      exact hret _ _ _ _ d_Md_isWord_71 hg hP hS
    · have hf := pv_f hf h
      refine lv_iload_n hx hb d_Md_isWord_18 rfl (lv_at hl 2 rfl) ?_
      refine lv_if_ne (tgt := 58) hx hb d_Md_isWord_19 (by decide) (fun h => ?_) (fun h => ?_)
      · have hf := pv_f hf h
        exact s_Md_isWord_58 C hmv hRf hRl hret hk_4 (lv_sub hl [0, 1, 3] rfl) hP hS hf
      · have hf := pv_t hf h
        refine lv_aload_n hx hb d_Md_isWord_22 rfl (lv_at hl 0 rfl) ?_
        refine pv_get C hP (v := .ref (a 2)) (j := 3) (by decide) (fm_0 _ _ _ _) fl_Md_13 rfl d_Md_isWord_23 ?_
        refine lv_iload_n hx hb d_Md_isWord_26 rfl (lv_at hl 3 rfl) ?_
        obtain ⟨hg, hf⟩ := pv_g hf
        refine pv_iald C hP (t0 := 0) (by decide) (fm_2 _ _ _ _) rfl hg d_Md_isWord_27 ?_
        refine lv_bipush (v := (24 : Int32)) hx hb d_Md_isWord_28 (by decide) ?_
        refine lv_bipush (v := (8 : Int32)) hx hb d_Md_isWord_30 (by decide) ?_
        refine lv_aload_n hx hb d_Md_isWord_32 rfl (lv_at hl 0 rfl) ?_
        refine pv_get C hP (v := .int (σ.1 0 12)) (j := 12) (by decide) (fm_0 _ _ _ _) fl_Md_138 rfl d_Md_isWord_33 ?_
        refine lv_imul hx hb d_Md_isWord_36 ?_
        refine lv_isub hx hb d_Md_isWord_37 ?_
        refine lv_ishr hx hb d_Md_isWord_38 ?_
        refine lv_aload_n hx hb d_Md_isWord_39 rfl (lv_at hl 0 rfl) ?_
        refine pv_get C hP (v := .int (σ.1 0 13)) (j := 13) (by decide) (fm_0 _ _ _ _) fl_Md_141 rfl d_Md_isWord_40 ?_
        refine lv_icmp_ne (tgt := 62) hx hb d_Md_isWord_43 (by decide) (fun h => ?_) (fun h => ?_)
        · have hf := pv_f hf h
          exact s_Md_isWord_62 C hmv hRf hRl hret hk_4 (lv_sub hl [0, 1, 3] rfl) hP hS hf
        · have hf := pv_t hf h
          refine lv_iload_n hx hb d_Md_isWord_46 rfl (lv_at hl 1 rfl) ?_
          refine lv_if_eq (tgt := 58) hx hb d_Md_isWord_47 (by decide) (fun h => ?_) (fun h => ?_)
          · have hf := pv_t hf h
            exact s_Md_isWord_58 C hmv hRf hRl hret hk_4 (lv_sub hl [0, 1, 3] rfl) hP hS hf
          · have hf := pv_f hf h
            refine lv_aload_n hx hb d_Md_isWord_50 rfl (lv_at hl 0 rfl) ?_
            refine pv_get C hP (v := .int (σ.1 0 12)) (j := 12) (by decide) (fm_0 _ _ _ _) fl_Md_138 rfl d_Md_isWord_51 ?_
            refine lv_iconst (v := (3 : Int32)) hx hb d_Md_isWord_54 (by decide) ?_
            refine lv_icmp_ne (tgt := 62) hx hb d_Md_isWord_55 (by decide) (fun h => ?_) (fun h => ?_)
            · have hf := pv_f hf h
              exact s_Md_isWord_62 C hmv hRf hRl hret hk_4 (lv_sub hl [0, 1, 3] rfl) hP hS hf
            · have hf := pv_t hf h
              exact s_Md_isWord_58 C hmv hRf hRl hret hk_4 (lv_sub hl [0, 1, 3] rfl) hP hS hf
def f_Md_isWord_4 : Nat → pv_S → Int32 → Int32 → Int32 → Option (Int32 × pv_S)
  | 0 => fun _ _ _ _ => none
  | n + 1 => f_Md_isWord_4b (f_Md_isWord_4 n)
set_option maxHeartbeats 4000000 in
theorem s_Md_isWord_4 {p : Program} {l : Launch} {e : Env} {R : Room} {s : State} {m : MethodId} {args : Array Value} {below : List Frame} {meth : Method} {c : Code} {Q : State → Prop} {D : va_G} {q : Nat → ClassId} {a : Nat → Nat} {A : Nat → Prop} (C : pv_C p s m args c prog_9_method_10_code 4 "PatchVoicesModel" pv_TB D pv_cl (pv_ty q) 36 a A (pv_ZM)) (hmv : pv_mv A (pv_ZM)) (hRf : 0 ≤ R.frames) (hRl : 0 ≤ R.locals) {out : (Int32 × pv_S)} (hret : pv_Rz p l e R s m args below meth c prog_9_method_10_code D pv_cl 36 a (pv_FM q a) A Q out) (n : Nat) : ∀ {σ : pv_S} {x1 : Int32} {x2 : Int32} {x3 : Int32} {H : Heap} {locs : List Loc} {ls : Array Slot}, lv_has ls 4 [(0, .ref (a 0)), (1, .int x1), (2, .int x2), (3, .int x3)] → pv_W D pv_cl 36 a (pv_FM q a) σ H → va_S A s.heap H locs → f_Md_isWord_4 n σ x1 x2 x3 = some out → W p l e R s m args below meth c H locs 0 0 Q (F0 m 4 ls []) := by
  induction n with
  | zero => intro σ x1 x2 x3 H locs ls hl hP hS hf; cases hf
  | succ n ih => intro σ x1 x2 x3 H locs ls hl hP hS hf; exact s_Md_isWord_4b C hmv hRf hRl hret (fun σ x1 x2 x3 H locs ls hf hl hP hS => ih hl hP hS hf) hl hP hS hf
def f_Md_isWord_0 (σ : pv_S) (x1 : Int32) : Option (Int32 × pv_S) :=
  f_Md_isWord_4 pv_fu σ x1 (0 : Int32) (0 : Int32)
set_option maxHeartbeats 4000000 in
set_option maxRecDepth 100000 in
theorem s_Md_isWord_0 {p : Program} {l : Launch} {e : Env} {R : Room} {s : State} {m : MethodId} {args : Array Value} {below : List Frame} {meth : Method} {c : Code} {Q : State → Prop} {D : va_G} {q : Nat → ClassId} {a : Nat → Nat} {A : Nat → Prop} (C : pv_C p s m args c prog_9_method_10_code 4 "PatchVoicesModel" pv_TB D pv_cl (pv_ty q) 36 a A (pv_ZM)) (hmv : pv_mv A (pv_ZM)) (hRf : 0 ≤ R.frames) (hRl : 0 ≤ R.locals) {out : (Int32 × pv_S)} (hret : pv_Rz p l e R s m args below meth c prog_9_method_10_code D pv_cl 36 a (pv_FM q a) A Q out) {σ : pv_S} {x1 : Int32} {H : Heap} {locs : List Loc} {ls : Array Slot} (hl : lv_has ls 4 [(0, .ref (a 0)), (1, .int x1)]) (hP : pv_W D pv_cl 36 a (pv_FM q a) σ H) (hS : va_S A s.heap H locs) (hf : f_Md_isWord_0 σ x1 = some out) : W p l e R s m args below meth c H locs 0 0 Q (F0 m 0 ls []) := by
  unfold f_Md_isWord_0 at hf
  have hx := C.1
  have hb := C.2.1
  refine lv_iconst (v := (0 : Int32)) hx hb d_Md_isWord_0 (by decide) ?_
  refine lv_istore_n (lv' := [(2, .int (0 : Int32)), (0, .ref (a 0)), (1, .int x1)]) hx hb d_Md_isWord_1 rfl hl (by decide) rfl (fun ls hl => ?_)
  refine lv_iconst (v := (0 : Int32)) hx hb d_Md_isWord_2 (by decide) ?_
  refine lv_istore_n (lv' := [(3, .int (0 : Int32)), (2, .int (0 : Int32)), (0, .ref (a 0)), (1, .int x1)]) hx hb d_Md_isWord_3 rfl hl (by decide) rfl (fun ls hl => ?_)
  exact s_Md_isWord_4 C hmv hRf hRl hret pv_fu (lv_sub hl [2, 3, 1, 0] rfl) hP hS hf
def f_Md_isWord (σ : pv_S) (x1 : Int32) : Option (Int32 × pv_S) := f_Md_isWord_0 σ x1
def rm_Md_isWord : Room := { frames := 0, cells := 0, slots := 0, locals := 0 }
theorem c_Md_isWord {l : Launch} {D : va_G} {q : Nat → ClassId} {a : Nat → Nat} {A : Nat → Prop} (hD : pv_D 36 a A) (hmv : pv_mv A (pv_ZM)) {σ : pv_S} {x1 : Int32} {out : (Int32 × pv_S)} (hf : f_Md_isWord σ x1 = some out) : pv_Mi l y_Md_isWord (Cond.code y_Md_isWord prog_9_method_10_code 4 (some .boolean) :: pv_TB) rm_Md_isWord D pv_cl (pv_ty q) 36 a (pv_FM q a) A (pv_ZM) [.ref (a 0), .int x1] σ out :=
  pv_ofZ (by decide) (Nat.le_of_ble_eq_true rfl) hD (fun p e s m args below meth c Q ls C hret hl hP => s_Md_isWord_0 C hmv (Nat.le_refl _) (Nat.le_refl _) hret hl hP va_S.rf hf)
theorem d_Md_input_0 : decode prog_9_method_11_code 0 = .ok (.iconst 4, 1) := by decide +kernel
theorem d_Md_input_1 : decode prog_9_method_11_code 1 = .ok (.aload_n 0, 1) := by decide +kernel
theorem d_Md_input_2 : decode prog_9_method_11_code 2 = .ok (.getfield 144, 3) := by decide +kernel
theorem d_Md_input_5 : decode prog_9_method_11_code 5 = .ok (.imul, 1) := by decide +kernel
theorem d_Md_input_6 : decode prog_9_method_11_code 6 = .ok (.aload_n 0, 1) := by decide +kernel
theorem d_Md_input_7 : decode prog_9_method_11_code 7 = .ok (.getfield 25, 3) := by decide +kernel
theorem d_Md_input_10 : decode prog_9_method_11_code 10 = .ok (.aload_n 0, 1) := by decide +kernel
theorem d_Md_input_11 : decode prog_9_method_11_code 11 = .ok (.getfield 144, 3) := by decide +kernel
theorem d_Md_input_14 : decode prog_9_method_11_code 14 = .ok (.iaload, 1) := by decide +kernel
theorem d_Md_input_15 : decode prog_9_method_11_code 15 = .ok (.iadd, 1) := by decide +kernel
theorem d_Md_input_16 : decode prog_9_method_11_code 16 = .ok (.istore_n 3, 1) := by decide +kernel
theorem d_Md_input_17 : decode prog_9_method_11_code 17 = .ok (.aload_n 0, 1) := by decide +kernel
theorem d_Md_input_18 : decode prog_9_method_11_code 18 = .ok (.getfield 28, 3) := by decide +kernel
theorem d_Md_input_21 : decode prog_9_method_11_code 21 = .ok (.iload_n 3, 1) := by decide +kernel
theorem d_Md_input_22 : decode prog_9_method_11_code 22 = .ok (.iload_n 1, 1) := by decide +kernel
theorem d_Md_input_23 : decode prog_9_method_11_code 23 = .ok (.iastore, 1) := by decide +kernel
theorem d_Md_input_24 : decode prog_9_method_11_code 24 = .ok (.aload_n 0, 1) := by decide +kernel
theorem d_Md_input_25 : decode prog_9_method_11_code 25 = .ok (.getfield 31, 3) := by decide +kernel
theorem d_Md_input_28 : decode prog_9_method_11_code 28 = .ok (.iload_n 3, 1) := by decide +kernel
theorem d_Md_input_29 : decode prog_9_method_11_code 29 = .ok (.iload_n 2, 1) := by decide +kernel
theorem d_Md_input_30 : decode prog_9_method_11_code 30 = .ok (.iastore, 1) := by decide +kernel
theorem d_Md_input_31 : decode prog_9_method_11_code 31 = .ok (.aload_n 0, 1) := by decide +kernel
theorem d_Md_input_32 : decode prog_9_method_11_code 32 = .ok (.getfield 25, 3) := by decide +kernel
theorem d_Md_input_35 : decode prog_9_method_11_code 35 = .ok (.aload_n 0, 1) := by decide +kernel
theorem d_Md_input_36 : decode prog_9_method_11_code 36 = .ok (.getfield 144, 3) := by decide +kernel
theorem d_Md_input_39 : decode prog_9_method_11_code 39 = .ok (.dup2, 1) := by decide +kernel
theorem d_Md_input_40 : decode prog_9_method_11_code 40 = .ok (.iaload, 1) := by decide +kernel
theorem d_Md_input_41 : decode prog_9_method_11_code 41 = .ok (.iconst 1, 1) := by decide +kernel
theorem d_Md_input_42 : decode prog_9_method_11_code 42 = .ok (.iadd, 1) := by decide +kernel
theorem d_Md_input_43 : decode prog_9_method_11_code 43 = .ok (.iastore, 1) := by decide +kernel
theorem d_Md_input_44 : decode prog_9_method_11_code 44 = .ok (.aload_n 0, 1) := by decide +kernel
theorem d_Md_input_45 : decode prog_9_method_11_code 45 = .ok (.bipush 8, 2) := by decide +kernel
theorem d_Md_input_47 : decode prog_9_method_11_code 47 = .ok (.putfield 135, 3) := by decide +kernel
theorem d_Md_input_50 : decode prog_9_method_11_code 50 = .ok (.return_, 1) := by decide +kernel
def f_Md_input_0 (σ : pv_S) (x1 : Int32) (x2 : Int32) : Option pv_S :=
  (if pv_in (σ.1 0 5) 40 = true then
(if pv_in (((4 : Int32) * (σ.1 0 5)) + (σ.1 6 ((σ.1 0 5)).toNatClampNeg)) 160 = true then
(if pv_in (((4 : Int32) * (σ.1 0 5)) + (σ.1 6 ((σ.1 0 5)).toNatClampNeg)) 160 = true then
(if pv_in ((pv_uI (pv_uI σ 7 ((((4 : Int32) * (σ.1 0 5)) + (σ.1 6 ((σ.1 0 5)).toNatClampNeg))).toNatClampNeg x1) 8 ((((4 : Int32) * (σ.1 0 5)) + (σ.1 6 ((σ.1 0 5)).toNatClampNeg))).toNatClampNeg x2).1 0 5) 40 = true then
(if pv_in ((pv_uI (pv_uI σ 7 ((((4 : Int32) * (σ.1 0 5)) + (σ.1 6 ((σ.1 0 5)).toNatClampNeg))).toNatClampNeg x1) 8 ((((4 : Int32) * (σ.1 0 5)) + (σ.1 6 ((σ.1 0 5)).toNatClampNeg))).toNatClampNeg x2).1 0 5) 40 = true then
some (pv_uI (pv_uI (pv_uI (pv_uI σ 7 ((((4 : Int32) * (σ.1 0 5)) + (σ.1 6 ((σ.1 0 5)).toNatClampNeg))).toNatClampNeg x1) 8 ((((4 : Int32) * (σ.1 0 5)) + (σ.1 6 ((σ.1 0 5)).toNatClampNeg))).toNatClampNeg x2) 6 (((pv_uI (pv_uI σ 7 ((((4 : Int32) * (σ.1 0 5)) + (σ.1 6 ((σ.1 0 5)).toNatClampNeg))).toNatClampNeg x1) 8 ((((4 : Int32) * (σ.1 0 5)) + (σ.1 6 ((σ.1 0 5)).toNatClampNeg))).toNatClampNeg x2).1 0 5)).toNatClampNeg (((pv_uI (pv_uI σ 7 ((((4 : Int32) * (σ.1 0 5)) + (σ.1 6 ((σ.1 0 5)).toNatClampNeg))).toNatClampNeg x1) 8 ((((4 : Int32) * (σ.1 0 5)) + (σ.1 6 ((σ.1 0 5)).toNatClampNeg))).toNatClampNeg x2).1 6 (((pv_uI (pv_uI σ 7 ((((4 : Int32) * (σ.1 0 5)) + (σ.1 6 ((σ.1 0 5)).toNatClampNeg))).toNatClampNeg x1) 8 ((((4 : Int32) * (σ.1 0 5)) + (σ.1 6 ((σ.1 0 5)).toNatClampNeg))).toNatClampNeg x2).1 0 5)).toNatClampNeg) + (1 : Int32))) 0 11 (8 : Int32))
  else none)
  else none)
  else none)
  else none)
  else none)
set_option maxHeartbeats 4000000 in
set_option maxRecDepth 100000 in
theorem s_Md_input_0 {p : Program} {l : Launch} {e : Env} {R : Room} {s : State} {m : MethodId} {args : Array Value} {below : List Frame} {meth : Method} {c : Code} {Q : State → Prop} {D : va_G} {q : Nat → ClassId} {a : Nat → Nat} {A : Nat → Prop} (C : pv_C p s m args c prog_9_method_11_code 4 "PatchVoicesModel" pv_TB D pv_cl (pv_ty q) 36 a A (pv_ZM)) (hmv : pv_mv A (pv_ZM)) (hRf : 0 ≤ R.frames) (hRl : 0 ≤ R.locals) {out : pv_S} (hret : pv_Rv p l e R s m args below meth c prog_9_method_11_code D pv_cl 36 a (pv_FM q a) A Q out) {σ : pv_S} {x1 : Int32} {x2 : Int32} {H : Heap} {locs : List Loc} {ls : Array Slot} (hl : lv_has ls 4 [(0, .ref (a 0)), (1, .int x1), (2, .int x2)]) (hP : pv_W D pv_cl 36 a (pv_FM q a) σ H) (hS : va_S A s.heap H locs) (hf : f_Md_input_0 σ x1 x2 = some out) : W p l e R s m args below meth c H locs 0 0 Q (F0 m 0 ls []) := by
  unfold f_Md_input_0 at hf
  have hx := C.1
  have hb := C.2.1
  refine lv_iconst (v := (4 : Int32)) hx hb d_Md_input_0 (by decide) ?_
  refine lv_aload_n hx hb d_Md_input_1 rfl (lv_at hl 0 rfl) ?_
  refine pv_get C hP (v := .int (σ.1 0 5)) (j := 5) (by decide) (fm_0 _ _ _ _) fl_Md_144 rfl d_Md_input_2 ?_
  refine lv_imul hx hb d_Md_input_5 ?_
  refine lv_aload_n hx hb d_Md_input_6 rfl (lv_at hl 0 rfl) ?_
  refine pv_get C hP (v := .ref (a 6)) (j := 8) (by decide) (fm_0 _ _ _ _) fl_Md_25 rfl d_Md_input_7 ?_
  refine lv_aload_n hx hb d_Md_input_10 rfl (lv_at hl 0 rfl) ?_
  refine pv_get C hP (v := .int (σ.1 0 5)) (j := 5) (by decide) (fm_0 _ _ _ _) fl_Md_144 rfl d_Md_input_11 ?_
  obtain ⟨hg, hf⟩ := pv_g hf
  refine pv_iald C hP (t0 := 0) (by decide) (fm_6 _ _ _ _) rfl hg d_Md_input_14 ?_
  refine lv_iadd hx hb d_Md_input_15 ?_
  refine lv_istore_n (lv' := [(3, .int (((4 : Int32) * (σ.1 0 5)) + (σ.1 6 ((σ.1 0 5)).toNatClampNeg))), (0, .ref (a 0)), (1, .int x1), (2, .int x2)]) hx hb d_Md_input_16 rfl hl (by decide) rfl (fun ls hl => ?_)
  refine lv_aload_n hx hb d_Md_input_17 rfl (lv_at hl 1 rfl) ?_
  refine pv_get C hP (v := .ref (a 7)) (j := 9) (by decide) (fm_0 _ _ _ _) fl_Md_28 rfl d_Md_input_18 ?_
  refine lv_iload_n hx hb d_Md_input_21 rfl (lv_at hl 0 rfl) ?_
  refine lv_iload_n hx hb d_Md_input_22 rfl (lv_at hl 2 rfl) ?_
  obtain ⟨hg, hf⟩ := pv_g hf
  refine pv_iast C hP hS (t0 := 0) (x := x1) (by decide) (fun f g => (fm_7 _ _ f g)) rfl hg d_Md_input_23 (fun H locs hP hS => ?_)
  refine lv_aload_n hx hb d_Md_input_24 rfl (lv_at hl 1 rfl) ?_
  refine pv_get C hP (v := .ref (a 8)) (j := 10) (by decide) (fm_0 _ _ _ _) fl_Md_31 rfl d_Md_input_25 ?_
  refine lv_iload_n hx hb d_Md_input_28 rfl (lv_at hl 0 rfl) ?_
  refine lv_iload_n hx hb d_Md_input_29 rfl (lv_at hl 3 rfl) ?_
  obtain ⟨hg, hf⟩ := pv_g hf
  refine pv_iast C hP hS (t0 := 0) (x := x2) (by decide) (fun f g => (fm_8 _ _ f g)) rfl hg d_Md_input_30 (fun H locs hP hS => ?_)
  refine lv_aload_n hx hb d_Md_input_31 rfl (lv_at hl 1 rfl) ?_
  refine pv_get C hP (v := .ref (a 6)) (j := 8) (by decide) (fm_0 _ _ _ _) fl_Md_25 rfl d_Md_input_32 ?_
  refine lv_aload_n hx hb d_Md_input_35 rfl (lv_at hl 1 rfl) ?_
  refine pv_get C hP (v := .int ((pv_uI (pv_uI σ 7 ((((4 : Int32) * (σ.1 0 5)) + (σ.1 6 ((σ.1 0 5)).toNatClampNeg))).toNatClampNeg x1) 8 ((((4 : Int32) * (σ.1 0 5)) + (σ.1 6 ((σ.1 0 5)).toNatClampNeg))).toNatClampNeg x2).1 0 5)) (j := 5) (by decide) (fm_0 _ _ _ _) fl_Md_144 rfl d_Md_input_36 ?_
  refine lv_dup2_11 hx hb d_Md_input_39 rfl rfl ?_
  obtain ⟨hg, hf⟩ := pv_g hf
  refine pv_iald C hP (t0 := 0) (by decide) (fm_6 _ _ _ _) rfl hg d_Md_input_40 ?_
  refine lv_iconst (v := (1 : Int32)) hx hb d_Md_input_41 (by decide) ?_
  refine lv_iadd hx hb d_Md_input_42 ?_
  obtain ⟨hg, hf⟩ := pv_g hf
  refine pv_iast C hP hS (t0 := 0) (x := (((pv_uI (pv_uI σ 7 ((((4 : Int32) * (σ.1 0 5)) + (σ.1 6 ((σ.1 0 5)).toNatClampNeg))).toNatClampNeg x1) 8 ((((4 : Int32) * (σ.1 0 5)) + (σ.1 6 ((σ.1 0 5)).toNatClampNeg))).toNatClampNeg x2).1 6 (((pv_uI (pv_uI σ 7 ((((4 : Int32) * (σ.1 0 5)) + (σ.1 6 ((σ.1 0 5)).toNatClampNeg))).toNatClampNeg x1) 8 ((((4 : Int32) * (σ.1 0 5)) + (σ.1 6 ((σ.1 0 5)).toNatClampNeg))).toNatClampNeg x2).1 0 5)).toNatClampNeg) + (1 : Int32))) (by decide) (fun f g => (fm_6 _ _ f g)) rfl hg d_Md_input_43 (fun H locs hP hS => ?_)
  refine lv_aload_n hx hb d_Md_input_44 rfl (lv_at hl 1 rfl) ?_
  refine lv_bipush (v := (8 : Int32)) hx hb d_Md_input_45 (by decide) ?_
  refine pv_putI C hP hS (x := (8 : Int32)) (by decide) (fm_0 _ _ _ _) fw_Md_135 rfl rfl (Nat.le_of_ble_eq_true rfl) (fms_0_11 _ _ _ _ _) d_Md_input_47 (fun H locs hP hS => ?_)
  obtain rfl := Option.some.inj hf
  exact hret _ _ _ _ d_Md_input_50 hP hS
def f_Md_input (σ : pv_S) (x1 : Int32) (x2 : Int32) : Option pv_S := f_Md_input_0 σ x1 x2
def rm_Md_input : Room := { frames := 0, cells := 0, slots := 0, locals := 0 }
theorem c_Md_input {l : Launch} {D : va_G} {q : Nat → ClassId} {a : Nat → Nat} {A : Nat → Prop} (hD : pv_D 36 a A) (hmv : pv_mv A (pv_ZM)) {σ : pv_S} {x1 : Int32} {x2 : Int32} {out : pv_S} (hf : f_Md_input σ x1 x2 = some out) : pv_Mv l y_Md_input (Cond.code y_Md_input prog_9_method_11_code 4 none :: pv_TB) rm_Md_input D pv_cl (pv_ty q) 36 a (pv_FM q a) A (pv_ZM) [.ref (a 0), .int x1, .int x2] σ out :=
  pv_ofV (by decide) (Nat.le_of_ble_eq_true rfl) hD (fun p e s m args below meth c Q ls C hret hl hP => s_Md_input_0 C hmv (Nat.le_refl _) (Nat.le_refl _) hret hl hP va_S.rf hf)
theorem d_Md_endName_0 : decode prog_9_method_12_code 0 = .ok (.aload_n 0, 1) := by decide +kernel
theorem d_Md_endName_1 : decode prog_9_method_12_code 1 = .ok (.getfield 19, 3) := by decide +kernel
theorem d_Md_endName_4 : decode prog_9_method_12_code 4 = .ok (.aload_n 0, 1) := by decide +kernel
theorem d_Md_endName_5 : decode prog_9_method_12_code 5 = .ok (.getfield 144, 3) := by decide +kernel
theorem d_Md_endName_8 : decode prog_9_method_12_code 8 = .ok (.aload_n 0, 1) := by decide +kernel
theorem d_Md_endName_9 : decode prog_9_method_12_code 9 = .ok (.getfield 141, 3) := by decide +kernel
theorem d_Md_endName_12 : decode prog_9_method_12_code 12 = .ok (.iastore, 1) := by decide +kernel
theorem d_Md_endName_13 : decode prog_9_method_12_code 13 = .ok (.aload_n 0, 1) := by decide +kernel
theorem d_Md_endName_14 : decode prog_9_method_12_code 14 = .ok (.getfield 25, 3) := by decide +kernel
theorem d_Md_endName_17 : decode prog_9_method_12_code 17 = .ok (.aload_n 0, 1) := by decide +kernel
theorem d_Md_endName_18 : decode prog_9_method_12_code 18 = .ok (.getfield 144, 3) := by decide +kernel
theorem d_Md_endName_21 : decode prog_9_method_12_code 21 = .ok (.iconst 0, 1) := by decide +kernel
theorem d_Md_endName_22 : decode prog_9_method_12_code 22 = .ok (.iastore, 1) := by decide +kernel
theorem d_Md_endName_23 : decode prog_9_method_12_code 23 = .ok (.aload_n 0, 1) := by decide +kernel
theorem d_Md_endName_24 : decode prog_9_method_12_code 24 = .ok (.iconst 2, 1) := by decide +kernel
theorem d_Md_endName_25 : decode prog_9_method_12_code 25 = .ok (.putfield 135, 3) := by decide +kernel
theorem d_Md_endName_28 : decode prog_9_method_12_code 28 = .ok (.return_, 1) := by decide +kernel
def f_Md_endName_0 (σ : pv_S) : Option pv_S :=
  (if pv_in (σ.1 0 5) 40 = true then
(if pv_in ((pv_uI σ 4 ((σ.1 0 5)).toNatClampNeg (σ.1 0 13)).1 0 5) 40 = true then
some (pv_uI (pv_uI (pv_uI σ 4 ((σ.1 0 5)).toNatClampNeg (σ.1 0 13)) 6 (((pv_uI σ 4 ((σ.1 0 5)).toNatClampNeg (σ.1 0 13)).1 0 5)).toNatClampNeg (0 : Int32)) 0 11 (2 : Int32))
  else none)
  else none)
set_option maxHeartbeats 4000000 in
set_option maxRecDepth 100000 in
theorem s_Md_endName_0 {p : Program} {l : Launch} {e : Env} {R : Room} {s : State} {m : MethodId} {args : Array Value} {below : List Frame} {meth : Method} {c : Code} {Q : State → Prop} {D : va_G} {q : Nat → ClassId} {a : Nat → Nat} {A : Nat → Prop} (C : pv_C p s m args c prog_9_method_12_code 1 "PatchVoicesModel" pv_TB D pv_cl (pv_ty q) 36 a A (pv_ZM)) (hmv : pv_mv A (pv_ZM)) (hRf : 0 ≤ R.frames) (hRl : 0 ≤ R.locals) {out : pv_S} (hret : pv_Rv p l e R s m args below meth c prog_9_method_12_code D pv_cl 36 a (pv_FM q a) A Q out) {σ : pv_S} {H : Heap} {locs : List Loc} {ls : Array Slot} (hl : lv_has ls 1 [(0, .ref (a 0))]) (hP : pv_W D pv_cl 36 a (pv_FM q a) σ H) (hS : va_S A s.heap H locs) (hf : f_Md_endName_0 σ = some out) : W p l e R s m args below meth c H locs 0 0 Q (F0 m 0 ls []) := by
  unfold f_Md_endName_0 at hf
  have hx := C.1
  have hb := C.2.1
  refine lv_aload_n hx hb d_Md_endName_0 rfl (lv_at hl 0 rfl) ?_
  refine pv_get C hP (v := .ref (a 4)) (j := 6) (by decide) (fm_0 _ _ _ _) fl_Md_19 rfl d_Md_endName_1 ?_
  refine lv_aload_n hx hb d_Md_endName_4 rfl (lv_at hl 0 rfl) ?_
  refine pv_get C hP (v := .int (σ.1 0 5)) (j := 5) (by decide) (fm_0 _ _ _ _) fl_Md_144 rfl d_Md_endName_5 ?_
  refine lv_aload_n hx hb d_Md_endName_8 rfl (lv_at hl 0 rfl) ?_
  refine pv_get C hP (v := .int (σ.1 0 13)) (j := 13) (by decide) (fm_0 _ _ _ _) fl_Md_141 rfl d_Md_endName_9 ?_
  obtain ⟨hg, hf⟩ := pv_g hf
  refine pv_iast C hP hS (t0 := 0) (x := (σ.1 0 13)) (by decide) (fun f g => (fm_4 _ _ f g)) rfl hg d_Md_endName_12 (fun H locs hP hS => ?_)
  refine lv_aload_n hx hb d_Md_endName_13 rfl (lv_at hl 0 rfl) ?_
  refine pv_get C hP (v := .ref (a 6)) (j := 8) (by decide) (fm_0 _ _ _ _) fl_Md_25 rfl d_Md_endName_14 ?_
  refine lv_aload_n hx hb d_Md_endName_17 rfl (lv_at hl 0 rfl) ?_
  refine pv_get C hP (v := .int ((pv_uI σ 4 ((σ.1 0 5)).toNatClampNeg (σ.1 0 13)).1 0 5)) (j := 5) (by decide) (fm_0 _ _ _ _) fl_Md_144 rfl d_Md_endName_18 ?_
  refine lv_iconst (v := (0 : Int32)) hx hb d_Md_endName_21 (by decide) ?_
  obtain ⟨hg, hf⟩ := pv_g hf
  refine pv_iast C hP hS (t0 := 0) (x := (0 : Int32)) (by decide) (fun f g => (fm_6 _ _ f g)) rfl hg d_Md_endName_22 (fun H locs hP hS => ?_)
  refine lv_aload_n hx hb d_Md_endName_23 rfl (lv_at hl 0 rfl) ?_
  refine lv_iconst (v := (2 : Int32)) hx hb d_Md_endName_24 (by decide) ?_
  refine pv_putI C hP hS (x := (2 : Int32)) (by decide) (fm_0 _ _ _ _) fw_Md_135 rfl rfl (Nat.le_of_ble_eq_true rfl) (fms_0_11 _ _ _ _ _) d_Md_endName_25 (fun H locs hP hS => ?_)
  obtain rfl := Option.some.inj hf
  exact hret _ _ _ _ d_Md_endName_28 hP hS
def f_Md_endName (σ : pv_S) : Option pv_S := f_Md_endName_0 σ
def rm_Md_endName : Room := { frames := 0, cells := 0, slots := 0, locals := 0 }
theorem c_Md_endName {l : Launch} {D : va_G} {q : Nat → ClassId} {a : Nat → Nat} {A : Nat → Prop} (hD : pv_D 36 a A) (hmv : pv_mv A (pv_ZM)) {σ : pv_S} {out : pv_S} (hf : f_Md_endName σ = some out) : pv_Mv l y_Md_endName (Cond.code y_Md_endName prog_9_method_12_code 1 none :: pv_TB) rm_Md_endName D pv_cl (pv_ty q) 36 a (pv_FM q a) A (pv_ZM) [.ref (a 0)] σ out :=
  pv_ofV (by decide) (Nat.le_of_ble_eq_true rfl) hD (fun p e s m args below meth c Q ls C hret hl hP => s_Md_endName_0 C hmv (Nat.le_refl _) (Nat.le_refl _) hret hl hP va_S.rf hf)
theorem d_Md_endWord_0 : decode prog_9_method_13_code 0 = .ok (.iconst 0, 1) := by decide +kernel
theorem d_Md_endWord_1 : decode prog_9_method_13_code 1 = .ok (.istore_n 1, 1) := by decide +kernel
theorem d_Md_endWord_2 : decode prog_9_method_13_code 2 = .ok (.iload_n 1, 1) := by decide +kernel
theorem d_Md_endWord_3 : decode prog_9_method_13_code 3 = .ok (.bipush 20, 2) := by decide +kernel
theorem d_Md_endWord_5 : decode prog_9_method_13_code 5 = .ok (.if_icmp .ge 44, 3) := by decide +kernel
theorem d_Md_endWord_8 : decode prog_9_method_13_code 8 = .ok (.aload_n 0, 1) := by decide +kernel
theorem d_Md_endWord_9 : decode prog_9_method_13_code 9 = .ok (.getfield 22, 3) := by decide +kernel
theorem d_Md_endWord_12 : decode prog_9_method_13_code 12 = .ok (.aload_n 0, 1) := by decide +kernel
theorem d_Md_endWord_13 : decode prog_9_method_13_code 13 = .ok (.getfield 144, 3) := by decide +kernel
theorem d_Md_endWord_16 : decode prog_9_method_13_code 16 = .ok (.aload_n 0, 1) := by decide +kernel
theorem d_Md_endWord_17 : decode prog_9_method_13_code 17 = .ok (.getfield 13, 3) := by decide +kernel
theorem d_Md_endWord_20 : decode prog_9_method_13_code 20 = .ok (.iload_n 1, 1) := by decide +kernel
theorem d_Md_endWord_21 : decode prog_9_method_13_code 21 = .ok (.iaload, 1) := by decide +kernel
theorem d_Md_endWord_22 : decode prog_9_method_13_code 22 = .ok (.aload_n 0, 1) := by decide +kernel
theorem d_Md_endWord_23 : decode prog_9_method_13_code 23 = .ok (.getfield 141, 3) := by decide +kernel
theorem d_Md_endWord_26 : decode prog_9_method_13_code 26 = .ok (.if_icmp .ne 7, 3) := by decide +kernel
theorem d_Md_endWord_29 : decode prog_9_method_13_code 29 = .ok (.iload_n 1, 1) := by decide +kernel
theorem d_Md_endWord_30 : decode prog_9_method_13_code 30 = .ok (.goto 12, 3) := by decide +kernel
theorem d_Md_endWord_33 : decode prog_9_method_13_code 33 = .ok (.aload_n 0, 1) := by decide +kernel
theorem d_Md_endWord_34 : decode prog_9_method_13_code 34 = .ok (.getfield 22, 3) := by decide +kernel
theorem d_Md_endWord_37 : decode prog_9_method_13_code 37 = .ok (.aload_n 0, 1) := by decide +kernel
theorem d_Md_endWord_38 : decode prog_9_method_13_code 38 = .ok (.getfield 144, 3) := by decide +kernel
theorem d_Md_endWord_41 : decode prog_9_method_13_code 41 = .ok (.iaload, 1) := by decide +kernel
theorem d_Md_endWord_42 : decode prog_9_method_13_code 42 = .ok (.iastore, 1) := by decide +kernel
theorem d_Md_endWord_43 : decode prog_9_method_13_code 43 = .ok (.iinc 1 1, 3) := by decide +kernel
theorem d_Md_endWord_46 : decode prog_9_method_13_code 46 = .ok (.goto (-44), 3) := by decide +kernel
theorem d_Md_endWord_49 : decode prog_9_method_13_code 49 = .ok (.aload_n 0, 1) := by decide +kernel
theorem d_Md_endWord_50 : decode prog_9_method_13_code 50 = .ok (.iconst 5, 1) := by decide +kernel
theorem d_Md_endWord_51 : decode prog_9_method_13_code 51 = .ok (.putfield 135, 3) := by decide +kernel
theorem d_Md_endWord_54 : decode prog_9_method_13_code 54 = .ok (.return_, 1) := by decide +kernel
def f_Md_endWord_42 (k_2 : pv_S → Int32 → Option pv_S) (σ : pv_S) (x1 : Int32) (s0 : Int32) (s1 : Int32) : Option pv_S :=
  (if pv_in s1 40 = true then
k_2 (pv_uI σ 5 (s1).toNatClampNeg s0) (x1 + (1 : Int32))
  else none)
set_option maxHeartbeats 4000000 in
set_option maxRecDepth 100000 in
theorem s_Md_endWord_42 {p : Program} {l : Launch} {e : Env} {R : Room} {s : State} {m : MethodId} {args : Array Value} {below : List Frame} {meth : Method} {c : Code} {Q : State → Prop} {D : va_G} {q : Nat → ClassId} {a : Nat → Nat} {A : Nat → Prop} (C : pv_C p s m args c prog_9_method_13_code 2 "PatchVoicesModel" pv_TB D pv_cl (pv_ty q) 36 a A (pv_ZM)) (hmv : pv_mv A (pv_ZM)) (hRf : 0 ≤ R.frames) (hRl : 0 ≤ R.locals) {out : pv_S} (hret : pv_Rv p l e R s m args below meth c prog_9_method_13_code D pv_cl 36 a (pv_FM q a) A Q out) {k_2 : pv_S → Int32 → Option pv_S} (hk_2 : ∀ (σ : pv_S) (x1 : Int32) (H : Heap) (locs : List Loc) (ls : Array Slot), k_2 σ x1 = some out → lv_has ls 2 [(0, .ref (a 0)), (1, .int x1)] → pv_W D pv_cl 36 a (pv_FM q a) σ H → va_S A s.heap H locs → W p l e R s m args below meth c H locs 0 0 Q (F0 m 2 ls [])) {σ : pv_S} {x1 : Int32} {s0 : Int32} {s1 : Int32} {H : Heap} {locs : List Loc} {ls : Array Slot} (hl : lv_has ls 2 [(0, .ref (a 0)), (1, .int x1)]) (hP : pv_W D pv_cl 36 a (pv_FM q a) σ H) (hS : va_S A s.heap H locs) (hf : f_Md_endWord_42 k_2 σ x1 s0 s1 = some out) : W p l e R s m args below meth c H locs 0 0 Q (F0 m 42 ls [.int s0, .int s1, .ref (a 5)]) := by
  unfold f_Md_endWord_42 at hf
  have hx := C.1
  have hb := C.2.1
  obtain ⟨hg, hf⟩ := pv_g hf
  refine pv_iast C hP hS (t0 := 0) (x := s0) (by decide) (fun f g => (fm_5 _ _ f g)) rfl hg d_Md_endWord_42 (fun H locs hP hS => ?_)
  refine lv_iinc (k := 1) (v := (x1 + (1 : Int32))) (lv' := [(1, .int (x1 + (1 : Int32))), (0, .ref (a 0))]) hx hb d_Md_endWord_43 hl rfl (pv_inc (by decide)) (by decide) rfl (fun ls hl => ?_)
  refine lv_goto (tgt := 2) hx hb d_Md_endWord_46 (by decide) ?_
  exact hk_2 _ _ _ _ _ hf (lv_sub hl [1, 0] rfl) hP hS
def f_Md_endWord_2b (k_2 : pv_S → Int32 → Option pv_S) (σ : pv_S) (x1 : Int32) : Option pv_S :=
  (if (20 : Int32) ≤ x1 then
  some (pv_uI σ 0 11 (5 : Int32))
  else
  (if pv_in x1 20 = true then
(if (σ.1 2 (x1).toNatClampNeg) = (σ.1 0 13) then
  f_Md_endWord_42 k_2 σ x1 x1 (σ.1 0 5)
  else
  (if pv_in (σ.1 0 5) 40 = true then
f_Md_endWord_42 k_2 σ x1 (σ.1 5 ((σ.1 0 5)).toNatClampNeg) (σ.1 0 5)
  else none))
  else none))
set_option maxHeartbeats 4000000 in
set_option maxRecDepth 100000 in
theorem s_Md_endWord_2b {p : Program} {l : Launch} {e : Env} {R : Room} {s : State} {m : MethodId} {args : Array Value} {below : List Frame} {meth : Method} {c : Code} {Q : State → Prop} {D : va_G} {q : Nat → ClassId} {a : Nat → Nat} {A : Nat → Prop} (C : pv_C p s m args c prog_9_method_13_code 2 "PatchVoicesModel" pv_TB D pv_cl (pv_ty q) 36 a A (pv_ZM)) (hmv : pv_mv A (pv_ZM)) (hRf : 0 ≤ R.frames) (hRl : 0 ≤ R.locals) {out : pv_S} (hret : pv_Rv p l e R s m args below meth c prog_9_method_13_code D pv_cl 36 a (pv_FM q a) A Q out) {k_2 : pv_S → Int32 → Option pv_S} (hk_2 : ∀ (σ : pv_S) (x1 : Int32) (H : Heap) (locs : List Loc) (ls : Array Slot), k_2 σ x1 = some out → lv_has ls 2 [(0, .ref (a 0)), (1, .int x1)] → pv_W D pv_cl 36 a (pv_FM q a) σ H → va_S A s.heap H locs → W p l e R s m args below meth c H locs 0 0 Q (F0 m 2 ls [])) {σ : pv_S} {x1 : Int32} {H : Heap} {locs : List Loc} {ls : Array Slot} (hl : lv_has ls 2 [(0, .ref (a 0)), (1, .int x1)]) (hP : pv_W D pv_cl 36 a (pv_FM q a) σ H) (hS : va_S A s.heap H locs) (hf : f_Md_endWord_2b k_2 σ x1 = some out) : W p l e R s m args below meth c H locs 0 0 Q (F0 m 2 ls []) := by
  unfold f_Md_endWord_2b at hf
  have hx := C.1
  have hb := C.2.1
  refine lv_iload_n hx hb d_Md_endWord_2 rfl (lv_at hl 1 rfl) ?_
  refine lv_bipush (v := (20 : Int32)) hx hb d_Md_endWord_3 (by decide) ?_
  refine lv_icmp_ge (tgt := 49) hx hb d_Md_endWord_5 (by decide) (fun h => ?_) (fun h => ?_)
  · have hf := pv_t hf h
    refine lv_aload_n hx hb d_Md_endWord_49 rfl (lv_at hl 0 rfl) ?_
    refine lv_iconst (v := (5 : Int32)) hx hb d_Md_endWord_50 (by decide) ?_
    refine pv_putI C hP hS (x := (5 : Int32)) (by decide) (fm_0 _ _ _ _) fw_Md_135 rfl rfl (Nat.le_of_ble_eq_true rfl) (fms_0_11 _ _ _ _ _) d_Md_endWord_51 (fun H locs hP hS => ?_)
    obtain rfl := Option.some.inj hf
    exact hret _ _ _ _ d_Md_endWord_54 hP hS
  · have hf := pv_f hf h
    refine lv_aload_n hx hb d_Md_endWord_8 rfl (lv_at hl 0 rfl) ?_
    refine pv_get C hP (v := .ref (a 5)) (j := 7) (by decide) (fm_0 _ _ _ _) fl_Md_22 rfl d_Md_endWord_9 ?_
    refine lv_aload_n hx hb d_Md_endWord_12 rfl (lv_at hl 0 rfl) ?_
    refine pv_get C hP (v := .int (σ.1 0 5)) (j := 5) (by decide) (fm_0 _ _ _ _) fl_Md_144 rfl d_Md_endWord_13 ?_
    refine lv_aload_n hx hb d_Md_endWord_16 rfl (lv_at hl 0 rfl) ?_
    refine pv_get C hP (v := .ref (a 2)) (j := 3) (by decide) (fm_0 _ _ _ _) fl_Md_13 rfl d_Md_endWord_17 ?_
    refine lv_iload_n hx hb d_Md_endWord_20 rfl (lv_at hl 1 rfl) ?_
    obtain ⟨hg, hf⟩ := pv_g hf
    refine pv_iald C hP (t0 := 0) (by decide) (fm_2 _ _ _ _) rfl hg d_Md_endWord_21 ?_
    refine lv_aload_n hx hb d_Md_endWord_22 rfl (lv_at hl 0 rfl) ?_
    refine pv_get C hP (v := .int (σ.1 0 13)) (j := 13) (by decide) (fm_0 _ _ _ _) fl_Md_141 rfl d_Md_endWord_23 ?_
    refine lv_icmp_ne (tgt := 33) hx hb d_Md_endWord_26 (by decide) (fun h => ?_) (fun h => ?_)
    · have hf := pv_f hf h
      refine lv_aload_n hx hb d_Md_endWord_33 rfl (lv_at hl 0 rfl) ?_
      refine pv_get C hP (v := .ref (a 5)) (j := 7) (by decide) (fm_0 _ _ _ _) fl_Md_22 rfl d_Md_endWord_34 ?_
      refine lv_aload_n hx hb d_Md_endWord_37 rfl (lv_at hl 0 rfl) ?_
      refine pv_get C hP (v := .int (σ.1 0 5)) (j := 5) (by decide) (fm_0 _ _ _ _) fl_Md_144 rfl d_Md_endWord_38 ?_
      obtain ⟨hg, hf⟩ := pv_g hf
      refine pv_iald C hP (t0 := 0) (by decide) (fm_5 _ _ _ _) rfl hg d_Md_endWord_41 ?_
      exact s_Md_endWord_42 C hmv hRf hRl hret hk_2 (lv_sub hl [0, 1] rfl) hP hS hf
    · have hf := pv_t hf h
      refine lv_iload_n hx hb d_Md_endWord_29 rfl (lv_at hl 1 rfl) ?_
      refine lv_goto (tgt := 42) hx hb d_Md_endWord_30 (by decide) ?_
      exact s_Md_endWord_42 C hmv hRf hRl hret hk_2 (lv_sub hl [0, 1] rfl) hP hS hf
def f_Md_endWord_2 : Nat → pv_S → Int32 → Option pv_S
  | 0 => fun _ _ => none
  | n + 1 => f_Md_endWord_2b (f_Md_endWord_2 n)
set_option maxHeartbeats 4000000 in
theorem s_Md_endWord_2 {p : Program} {l : Launch} {e : Env} {R : Room} {s : State} {m : MethodId} {args : Array Value} {below : List Frame} {meth : Method} {c : Code} {Q : State → Prop} {D : va_G} {q : Nat → ClassId} {a : Nat → Nat} {A : Nat → Prop} (C : pv_C p s m args c prog_9_method_13_code 2 "PatchVoicesModel" pv_TB D pv_cl (pv_ty q) 36 a A (pv_ZM)) (hmv : pv_mv A (pv_ZM)) (hRf : 0 ≤ R.frames) (hRl : 0 ≤ R.locals) {out : pv_S} (hret : pv_Rv p l e R s m args below meth c prog_9_method_13_code D pv_cl 36 a (pv_FM q a) A Q out) (n : Nat) : ∀ {σ : pv_S} {x1 : Int32} {H : Heap} {locs : List Loc} {ls : Array Slot}, lv_has ls 2 [(0, .ref (a 0)), (1, .int x1)] → pv_W D pv_cl 36 a (pv_FM q a) σ H → va_S A s.heap H locs → f_Md_endWord_2 n σ x1 = some out → W p l e R s m args below meth c H locs 0 0 Q (F0 m 2 ls []) := by
  induction n with
  | zero => intro σ x1 H locs ls hl hP hS hf; cases hf
  | succ n ih => intro σ x1 H locs ls hl hP hS hf; exact s_Md_endWord_2b C hmv hRf hRl hret (fun σ x1 H locs ls hf hl hP hS => ih hl hP hS hf) hl hP hS hf
def f_Md_endWord_0 (σ : pv_S) : Option pv_S :=
  f_Md_endWord_2 pv_fu σ (0 : Int32)
set_option maxHeartbeats 4000000 in
set_option maxRecDepth 100000 in
theorem s_Md_endWord_0 {p : Program} {l : Launch} {e : Env} {R : Room} {s : State} {m : MethodId} {args : Array Value} {below : List Frame} {meth : Method} {c : Code} {Q : State → Prop} {D : va_G} {q : Nat → ClassId} {a : Nat → Nat} {A : Nat → Prop} (C : pv_C p s m args c prog_9_method_13_code 2 "PatchVoicesModel" pv_TB D pv_cl (pv_ty q) 36 a A (pv_ZM)) (hmv : pv_mv A (pv_ZM)) (hRf : 0 ≤ R.frames) (hRl : 0 ≤ R.locals) {out : pv_S} (hret : pv_Rv p l e R s m args below meth c prog_9_method_13_code D pv_cl 36 a (pv_FM q a) A Q out) {σ : pv_S} {H : Heap} {locs : List Loc} {ls : Array Slot} (hl : lv_has ls 2 [(0, .ref (a 0))]) (hP : pv_W D pv_cl 36 a (pv_FM q a) σ H) (hS : va_S A s.heap H locs) (hf : f_Md_endWord_0 σ = some out) : W p l e R s m args below meth c H locs 0 0 Q (F0 m 0 ls []) := by
  unfold f_Md_endWord_0 at hf
  have hx := C.1
  have hb := C.2.1
  refine lv_iconst (v := (0 : Int32)) hx hb d_Md_endWord_0 (by decide) ?_
  refine lv_istore_n (lv' := [(1, .int (0 : Int32)), (0, .ref (a 0))]) hx hb d_Md_endWord_1 rfl hl (by decide) rfl (fun ls hl => ?_)
  exact s_Md_endWord_2 C hmv hRf hRl hret pv_fu (lv_sub hl [1, 0] rfl) hP hS hf
def f_Md_endWord (σ : pv_S) : Option pv_S := f_Md_endWord_0 σ
def rm_Md_endWord : Room := { frames := 0, cells := 0, slots := 0, locals := 0 }
theorem c_Md_endWord {l : Launch} {D : va_G} {q : Nat → ClassId} {a : Nat → Nat} {A : Nat → Prop} (hD : pv_D 36 a A) (hmv : pv_mv A (pv_ZM)) {σ : pv_S} {out : pv_S} (hf : f_Md_endWord σ = some out) : pv_Mv l y_Md_endWord (Cond.code y_Md_endWord prog_9_method_13_code 2 none :: pv_TB) rm_Md_endWord D pv_cl (pv_ty q) 36 a (pv_FM q a) A (pv_ZM) [.ref (a 0)] σ out :=
  pv_ofV (by decide) (Nat.le_of_ble_eq_true rfl) hD (fun p e s m args below meth c Q ls C hret hl hP => s_Md_endWord_0 C hmv (Nat.le_refl _) (Nat.le_refl _) hret hl hP va_S.rf hf)
theorem d_Md_front2_0 : decode prog_9_method_15_code 0 = .ok (.aload_n 0, 1) := by decide +kernel
theorem d_Md_front2_1 : decode prog_9_method_15_code 1 = .ok (.iload_n 1, 1) := by decide +kernel
theorem d_Md_front2_2 : decode prog_9_method_15_code 2 = .ok (.bipush 61, 2) := by decide +kernel
theorem d_Md_front2_4 : decode prog_9_method_15_code 4 = .ok (.if_icmp .ne 7, 3) := by decide +kernel
theorem d_Md_front2_7 : decode prog_9_method_15_code 7 = .ok (.iconst 3, 1) := by decide +kernel
theorem d_Md_front2_8 : decode prog_9_method_15_code 8 = .ok (.goto 4, 3) := by decide +kernel
theorem d_Md_front2_11 : decode prog_9_method_15_code 11 = .ok (.iconst 2, 1) := by decide +kernel
theorem d_Md_front2_12 : decode prog_9_method_15_code 12 = .ok (.putfield 135, 3) := by decide +kernel
theorem d_Md_front2_15 : decode prog_9_method_15_code 15 = .ok (.iload_n 1, 1) := by decide +kernel
theorem d_Md_front2_16 : decode prog_9_method_15_code 16 = .ok (.bipush 61, 2) := by decide +kernel
theorem d_Md_front2_18 : decode prog_9_method_15_code 18 = .ok (.if_icmp .eq 9, 3) := by decide +kernel
theorem d_Md_front2_21 : decode prog_9_method_15_code 21 = .ok (.iload_n 1, 1) := by decide +kernel
theorem d_Md_front2_22 : decode prog_9_method_15_code 22 = .ok (.bipush 32, 2) := by decide +kernel
theorem d_Md_front2_24 : decode prog_9_method_15_code 24 = .ok (.if_icmp .ne 7, 3) := by decide +kernel
theorem d_Md_front2_27 : decode prog_9_method_15_code 27 = .ok (.iconst 1, 1) := by decide +kernel
theorem d_Md_front2_28 : decode prog_9_method_15_code 28 = .ok (.goto 4, 3) := by decide +kernel
theorem d_Md_front2_31 : decode prog_9_method_15_code 31 = .ok (.iconst 0, 1) := by decide +kernel
theorem d_Md_front2_32 : decode prog_9_method_15_code 32 = .ok (.ireturn, 1) := by decide +kernel
def f_Md_front2_12 (σ : pv_S) (x1 : Int32) (s0 : Int32) : Option (Int32 × pv_S) :=
  (if x1 = (61 : Int32) then
  some ((1 : Int32), (pv_uI σ 0 11 s0))
  else
  (if x1 = (32 : Int32) then
  some ((1 : Int32), (pv_uI σ 0 11 s0))
  else
  some ((0 : Int32), (pv_uI σ 0 11 s0))))
set_option maxHeartbeats 4000000 in
set_option maxRecDepth 100000 in
theorem s_Md_front2_12 {p : Program} {l : Launch} {e : Env} {R : Room} {s : State} {m : MethodId} {args : Array Value} {below : List Frame} {meth : Method} {c : Code} {Q : State → Prop} {D : va_G} {q : Nat → ClassId} {a : Nat → Nat} {A : Nat → Prop} (C : pv_C p s m args c prog_9_method_15_code 2 "PatchVoicesModel" pv_TB D pv_cl (pv_ty q) 36 a A (pv_ZM)) (hmv : pv_mv A (pv_ZM)) (hRf : 0 ≤ R.frames) (hRl : 0 ≤ R.locals) {out : (Int32 × pv_S)} (hret : pv_Rz p l e R s m args below meth c prog_9_method_15_code D pv_cl 36 a (pv_FM q a) A Q out) {σ : pv_S} {x1 : Int32} {s0 : Int32} {H : Heap} {locs : List Loc} {ls : Array Slot} (hl : lv_has ls 2 [(1, .int x1)]) (hP : pv_W D pv_cl 36 a (pv_FM q a) σ H) (hS : va_S A s.heap H locs) (hf : f_Md_front2_12 σ x1 s0 = some out) : W p l e R s m args below meth c H locs 0 0 Q (F0 m 12 ls [.int s0, .ref (a 0)]) := by
  unfold f_Md_front2_12 at hf
  have hx := C.1
  have hb := C.2.1
  refine pv_putI C hP hS (x := s0) (by decide) (fm_0 _ _ _ _) fw_Md_135 rfl rfl (Nat.le_of_ble_eq_true rfl) (fms_0_11 _ _ _ _ _) d_Md_front2_12 (fun H locs hP hS => ?_)
  refine lv_iload_n hx hb d_Md_front2_15 rfl (lv_at hl 0 rfl) ?_
  refine lv_bipush (v := (61 : Int32)) hx hb d_Md_front2_16 (by decide) ?_
  refine lv_icmp_eq (tgt := 27) hx hb d_Md_front2_18 (by decide) (fun h => ?_) (fun h => ?_)
  · have hf := pv_t hf h
    refine lv_iconst (v := (1 : Int32)) hx hb d_Md_front2_27 (by decide) ?_
    refine lv_goto (tgt := 32) hx hb d_Md_front2_28 (by decide) ?_
    obtain rfl := Option.some.inj hf
    exact hret _ _ _ _ d_Md_front2_32 rfl hP hS
  · have hf := pv_f hf h
    refine lv_iload_n hx hb d_Md_front2_21 rfl (lv_at hl 0 rfl) ?_
    refine lv_bipush (v := (32 : Int32)) hx hb d_Md_front2_22 (by decide) ?_
    refine lv_icmp_ne (tgt := 31) hx hb d_Md_front2_24 (by decide) (fun h => ?_) (fun h => ?_)
    · have hf := pv_f hf h
      refine lv_iconst (v := (0 : Int32)) hx hb d_Md_front2_31 (by decide) ?_
      obtain rfl := Option.some.inj hf
      exact hret _ _ _ _ d_Md_front2_32 rfl hP hS
    · have hf := pv_t hf h
      refine lv_iconst (v := (1 : Int32)) hx hb d_Md_front2_27 (by decide) ?_
      refine lv_goto (tgt := 32) hx hb d_Md_front2_28 (by decide) ?_
      obtain rfl := Option.some.inj hf
      exact hret _ _ _ _ d_Md_front2_32 rfl hP hS
def f_Md_front2_0 (σ : pv_S) (x1 : Int32) : Option (Int32 × pv_S) :=
  (if x1 = (61 : Int32) then
  f_Md_front2_12 σ x1 (3 : Int32)
  else
  f_Md_front2_12 σ x1 (2 : Int32))
set_option maxHeartbeats 4000000 in
set_option maxRecDepth 100000 in
theorem s_Md_front2_0 {p : Program} {l : Launch} {e : Env} {R : Room} {s : State} {m : MethodId} {args : Array Value} {below : List Frame} {meth : Method} {c : Code} {Q : State → Prop} {D : va_G} {q : Nat → ClassId} {a : Nat → Nat} {A : Nat → Prop} (C : pv_C p s m args c prog_9_method_15_code 2 "PatchVoicesModel" pv_TB D pv_cl (pv_ty q) 36 a A (pv_ZM)) (hmv : pv_mv A (pv_ZM)) (hRf : 0 ≤ R.frames) (hRl : 0 ≤ R.locals) {out : (Int32 × pv_S)} (hret : pv_Rz p l e R s m args below meth c prog_9_method_15_code D pv_cl 36 a (pv_FM q a) A Q out) {σ : pv_S} {x1 : Int32} {H : Heap} {locs : List Loc} {ls : Array Slot} (hl : lv_has ls 2 [(0, .ref (a 0)), (1, .int x1)]) (hP : pv_W D pv_cl 36 a (pv_FM q a) σ H) (hS : va_S A s.heap H locs) (hf : f_Md_front2_0 σ x1 = some out) : W p l e R s m args below meth c H locs 0 0 Q (F0 m 0 ls []) := by
  unfold f_Md_front2_0 at hf
  have hx := C.1
  have hb := C.2.1
  refine lv_aload_n hx hb d_Md_front2_0 rfl (lv_at hl 0 rfl) ?_
  refine lv_iload_n hx hb d_Md_front2_1 rfl (lv_at hl 1 rfl) ?_
  refine lv_bipush (v := (61 : Int32)) hx hb d_Md_front2_2 (by decide) ?_
  refine lv_icmp_ne (tgt := 11) hx hb d_Md_front2_4 (by decide) (fun h => ?_) (fun h => ?_)
  · have hf := pv_f hf h
    refine lv_iconst (v := (2 : Int32)) hx hb d_Md_front2_11 (by decide) ?_
    exact s_Md_front2_12 C hmv hRf hRl hret (lv_sub hl [1] rfl) hP hS hf
  · have hf := pv_t hf h
    refine lv_iconst (v := (3 : Int32)) hx hb d_Md_front2_7 (by decide) ?_
    refine lv_goto (tgt := 12) hx hb d_Md_front2_8 (by decide) ?_
    exact s_Md_front2_12 C hmv hRf hRl hret (lv_sub hl [1] rfl) hP hS hf
def f_Md_front2 (σ : pv_S) (x1 : Int32) : Option (Int32 × pv_S) := f_Md_front2_0 σ x1
def rm_Md_front2 : Room := { frames := 0, cells := 0, slots := 0, locals := 0 }
theorem c_Md_front2 {l : Launch} {D : va_G} {q : Nat → ClassId} {a : Nat → Nat} {A : Nat → Prop} (hD : pv_D 36 a A) (hmv : pv_mv A (pv_ZM)) {σ : pv_S} {x1 : Int32} {out : (Int32 × pv_S)} (hf : f_Md_front2 σ x1 = some out) : pv_Mi l y_Md_front2 (Cond.code y_Md_front2 prog_9_method_15_code 2 (some .boolean) :: pv_TB) rm_Md_front2 D pv_cl (pv_ty q) 36 a (pv_FM q a) A (pv_ZM) [.ref (a 0), .int x1] σ out :=
  pv_ofZ (by decide) (Nat.le_of_ble_eq_true rfl) hD (fun p e s m args below meth c Q ls C hret hl hP => s_Md_front2_0 C hmv (Nat.le_refl _) (Nat.le_refl _) hret hl hP va_S.rf hf)
theorem d_Md_front5_0 : decode prog_9_method_16_code 0 = .ok (.aload_n 0, 1) := by decide +kernel
theorem d_Md_front5_1 : decode prog_9_method_16_code 1 = .ok (.iload_n 1, 1) := by decide +kernel
theorem d_Md_front5_2 : decode prog_9_method_16_code 2 = .ok (.bipush 40, 2) := by decide +kernel
theorem d_Md_front5_4 : decode prog_9_method_16_code 4 = .ok (.if_icmp .ne 8, 3) := by decide +kernel
theorem d_Md_front5_7 : decode prog_9_method_16_code 7 = .ok (.bipush 6, 2) := by decide +kernel
theorem d_Md_front5_9 : decode prog_9_method_16_code 9 = .ok (.goto 4, 3) := by decide +kernel
theorem d_Md_front5_12 : decode prog_9_method_16_code 12 = .ok (.iconst 5, 1) := by decide +kernel
theorem d_Md_front5_13 : decode prog_9_method_16_code 13 = .ok (.putfield 135, 3) := by decide +kernel
theorem d_Md_front5_16 : decode prog_9_method_16_code 16 = .ok (.iload_n 1, 1) := by decide +kernel
theorem d_Md_front5_17 : decode prog_9_method_16_code 17 = .ok (.bipush 40, 2) := by decide +kernel
theorem d_Md_front5_19 : decode prog_9_method_16_code 19 = .ok (.if_icmp .eq 9, 3) := by decide +kernel
theorem d_Md_front5_22 : decode prog_9_method_16_code 22 = .ok (.iload_n 1, 1) := by decide +kernel
theorem d_Md_front5_23 : decode prog_9_method_16_code 23 = .ok (.bipush 32, 2) := by decide +kernel
theorem d_Md_front5_25 : decode prog_9_method_16_code 25 = .ok (.if_icmp .ne 7, 3) := by decide +kernel
theorem d_Md_front5_28 : decode prog_9_method_16_code 28 = .ok (.iconst 1, 1) := by decide +kernel
theorem d_Md_front5_29 : decode prog_9_method_16_code 29 = .ok (.goto 4, 3) := by decide +kernel
theorem d_Md_front5_32 : decode prog_9_method_16_code 32 = .ok (.iconst 0, 1) := by decide +kernel
theorem d_Md_front5_33 : decode prog_9_method_16_code 33 = .ok (.ireturn, 1) := by decide +kernel
def f_Md_front5_13 (σ : pv_S) (x1 : Int32) (s0 : Int32) : Option (Int32 × pv_S) :=
  (if x1 = (40 : Int32) then
  some ((1 : Int32), (pv_uI σ 0 11 s0))
  else
  (if x1 = (32 : Int32) then
  some ((1 : Int32), (pv_uI σ 0 11 s0))
  else
  some ((0 : Int32), (pv_uI σ 0 11 s0))))
set_option maxHeartbeats 4000000 in
set_option maxRecDepth 100000 in
theorem s_Md_front5_13 {p : Program} {l : Launch} {e : Env} {R : Room} {s : State} {m : MethodId} {args : Array Value} {below : List Frame} {meth : Method} {c : Code} {Q : State → Prop} {D : va_G} {q : Nat → ClassId} {a : Nat → Nat} {A : Nat → Prop} (C : pv_C p s m args c prog_9_method_16_code 2 "PatchVoicesModel" pv_TB D pv_cl (pv_ty q) 36 a A (pv_ZM)) (hmv : pv_mv A (pv_ZM)) (hRf : 0 ≤ R.frames) (hRl : 0 ≤ R.locals) {out : (Int32 × pv_S)} (hret : pv_Rz p l e R s m args below meth c prog_9_method_16_code D pv_cl 36 a (pv_FM q a) A Q out) {σ : pv_S} {x1 : Int32} {s0 : Int32} {H : Heap} {locs : List Loc} {ls : Array Slot} (hl : lv_has ls 2 [(1, .int x1)]) (hP : pv_W D pv_cl 36 a (pv_FM q a) σ H) (hS : va_S A s.heap H locs) (hf : f_Md_front5_13 σ x1 s0 = some out) : W p l e R s m args below meth c H locs 0 0 Q (F0 m 13 ls [.int s0, .ref (a 0)]) := by
  unfold f_Md_front5_13 at hf
  have hx := C.1
  have hb := C.2.1
  refine pv_putI C hP hS (x := s0) (by decide) (fm_0 _ _ _ _) fw_Md_135 rfl rfl (Nat.le_of_ble_eq_true rfl) (fms_0_11 _ _ _ _ _) d_Md_front5_13 (fun H locs hP hS => ?_)
  refine lv_iload_n hx hb d_Md_front5_16 rfl (lv_at hl 0 rfl) ?_
  refine lv_bipush (v := (40 : Int32)) hx hb d_Md_front5_17 (by decide) ?_
  refine lv_icmp_eq (tgt := 28) hx hb d_Md_front5_19 (by decide) (fun h => ?_) (fun h => ?_)
  · have hf := pv_t hf h
    refine lv_iconst (v := (1 : Int32)) hx hb d_Md_front5_28 (by decide) ?_
    refine lv_goto (tgt := 33) hx hb d_Md_front5_29 (by decide) ?_
    obtain rfl := Option.some.inj hf
    exact hret _ _ _ _ d_Md_front5_33 rfl hP hS
  · have hf := pv_f hf h
    refine lv_iload_n hx hb d_Md_front5_22 rfl (lv_at hl 0 rfl) ?_
    refine lv_bipush (v := (32 : Int32)) hx hb d_Md_front5_23 (by decide) ?_
    refine lv_icmp_ne (tgt := 32) hx hb d_Md_front5_25 (by decide) (fun h => ?_) (fun h => ?_)
    · have hf := pv_f hf h
      refine lv_iconst (v := (0 : Int32)) hx hb d_Md_front5_32 (by decide) ?_
      obtain rfl := Option.some.inj hf
      exact hret _ _ _ _ d_Md_front5_33 rfl hP hS
    · have hf := pv_t hf h
      refine lv_iconst (v := (1 : Int32)) hx hb d_Md_front5_28 (by decide) ?_
      refine lv_goto (tgt := 33) hx hb d_Md_front5_29 (by decide) ?_
      obtain rfl := Option.some.inj hf
      exact hret _ _ _ _ d_Md_front5_33 rfl hP hS
def f_Md_front5_0 (σ : pv_S) (x1 : Int32) : Option (Int32 × pv_S) :=
  (if x1 = (40 : Int32) then
  f_Md_front5_13 σ x1 (6 : Int32)
  else
  f_Md_front5_13 σ x1 (5 : Int32))
set_option maxHeartbeats 4000000 in
set_option maxRecDepth 100000 in
theorem s_Md_front5_0 {p : Program} {l : Launch} {e : Env} {R : Room} {s : State} {m : MethodId} {args : Array Value} {below : List Frame} {meth : Method} {c : Code} {Q : State → Prop} {D : va_G} {q : Nat → ClassId} {a : Nat → Nat} {A : Nat → Prop} (C : pv_C p s m args c prog_9_method_16_code 2 "PatchVoicesModel" pv_TB D pv_cl (pv_ty q) 36 a A (pv_ZM)) (hmv : pv_mv A (pv_ZM)) (hRf : 0 ≤ R.frames) (hRl : 0 ≤ R.locals) {out : (Int32 × pv_S)} (hret : pv_Rz p l e R s m args below meth c prog_9_method_16_code D pv_cl 36 a (pv_FM q a) A Q out) {σ : pv_S} {x1 : Int32} {H : Heap} {locs : List Loc} {ls : Array Slot} (hl : lv_has ls 2 [(0, .ref (a 0)), (1, .int x1)]) (hP : pv_W D pv_cl 36 a (pv_FM q a) σ H) (hS : va_S A s.heap H locs) (hf : f_Md_front5_0 σ x1 = some out) : W p l e R s m args below meth c H locs 0 0 Q (F0 m 0 ls []) := by
  unfold f_Md_front5_0 at hf
  have hx := C.1
  have hb := C.2.1
  refine lv_aload_n hx hb d_Md_front5_0 rfl (lv_at hl 0 rfl) ?_
  refine lv_iload_n hx hb d_Md_front5_1 rfl (lv_at hl 1 rfl) ?_
  refine lv_bipush (v := (40 : Int32)) hx hb d_Md_front5_2 (by decide) ?_
  refine lv_icmp_ne (tgt := 12) hx hb d_Md_front5_4 (by decide) (fun h => ?_) (fun h => ?_)
  · have hf := pv_f hf h
    refine lv_iconst (v := (5 : Int32)) hx hb d_Md_front5_12 (by decide) ?_
    exact s_Md_front5_13 C hmv hRf hRl hret (lv_sub hl [1] rfl) hP hS hf
  · have hf := pv_t hf h
    refine lv_bipush (v := (6 : Int32)) hx hb d_Md_front5_7 (by decide) ?_
    refine lv_goto (tgt := 13) hx hb d_Md_front5_9 (by decide) ?_
    exact s_Md_front5_13 C hmv hRf hRl hret (lv_sub hl [1] rfl) hP hS hf
def f_Md_front5 (σ : pv_S) (x1 : Int32) : Option (Int32 × pv_S) := f_Md_front5_0 σ x1
def rm_Md_front5 : Room := { frames := 0, cells := 0, slots := 0, locals := 0 }
theorem c_Md_front5 {l : Launch} {D : va_G} {q : Nat → ClassId} {a : Nat → Nat} {A : Nat → Prop} (hD : pv_D 36 a A) (hmv : pv_mv A (pv_ZM)) {σ : pv_S} {x1 : Int32} {out : (Int32 × pv_S)} (hf : f_Md_front5 σ x1 = some out) : pv_Mi l y_Md_front5 (Cond.code y_Md_front5 prog_9_method_16_code 2 (some .boolean) :: pv_TB) rm_Md_front5 D pv_cl (pv_ty q) 36 a (pv_FM q a) A (pv_ZM) [.ref (a 0), .int x1] σ out :=
  pv_ofZ (by decide) (Nat.le_of_ble_eq_true rfl) hD (fun p e s m args below meth c Q ls C hret hl hP => s_Md_front5_0 C hmv (Nat.le_refl _) (Nat.le_refl _) hret hl hP va_S.rf hf)
theorem d_Md_front_0 : decode prog_9_method_14_code 0 = .ok (.aload_n 0, 1) := by decide +kernel
theorem d_Md_front_1 : decode prog_9_method_14_code 1 = .ok (.getfield 135, 3) := by decide +kernel
theorem d_Md_front_4 : decode prog_9_method_14_code 4 = .ok (.tableswitch 194 (0) (4) #[36, 71, 95, 101, 144], 36) := by decide +kernel
theorem d_Md_front_40 : decode prog_9_method_14_code 40 = .ok (.aload_n 0, 1) := by decide +kernel
theorem d_Md_front_41 : decode prog_9_method_14_code 41 = .ok (.iload_n 1, 1) := by decide +kernel
theorem d_Md_front_42 : decode prog_9_method_14_code 42 = .ok (.bipush 32, 2) := by decide +kernel
theorem d_Md_front_44 : decode prog_9_method_14_code 44 = .ok (.if_icmp .ne 7, 3) := by decide +kernel
theorem d_Md_front_47 : decode prog_9_method_14_code 47 = .ok (.iconst 0, 1) := by decide +kernel
theorem d_Md_front_48 : decode prog_9_method_14_code 48 = .ok (.goto 4, 3) := by decide +kernel
theorem d_Md_front_51 : decode prog_9_method_14_code 51 = .ok (.iconst 1, 1) := by decide +kernel
theorem d_Md_front_52 : decode prog_9_method_14_code 52 = .ok (.iload_n 1, 1) := by decide +kernel
theorem d_Md_front_53 : decode prog_9_method_14_code 53 = .ok (.invokevirtual 147, 3) := by decide +kernel
theorem d_Md_front_56 : decode prog_9_method_14_code 56 = .ok (.iload_n 1, 1) := by decide +kernel
theorem d_Md_front_57 : decode prog_9_method_14_code 57 = .ok (.bipush 32, 2) := by decide +kernel
theorem d_Md_front_59 : decode prog_9_method_14_code 59 = .ok (.if_icmp .eq 10, 3) := by decide +kernel
theorem d_Md_front_62 : decode prog_9_method_14_code 62 = .ok (.iload_n 1, 1) := by decide +kernel
theorem d_Md_front_63 : decode prog_9_method_14_code 63 = .ok (.invokestatic 151, 3) := by decide +kernel
theorem d_Md_front_66 : decode prog_9_method_14_code 66 = .ok (.ifCond .eq 7, 3) := by decide +kernel
theorem d_Md_front_69 : decode prog_9_method_14_code 69 = .ok (.iconst 1, 1) := by decide +kernel
theorem d_Md_front_70 : decode prog_9_method_14_code 70 = .ok (.goto 4, 3) := by decide +kernel
theorem d_Md_front_73 : decode prog_9_method_14_code 73 = .ok (.iconst 0, 1) := by decide +kernel
theorem d_Md_front_74 : decode prog_9_method_14_code 74 = .ok (.ireturn, 1) := by decide +kernel
theorem d_Md_front_75 : decode prog_9_method_14_code 75 = .ok (.iload_n 1, 1) := by decide +kernel
theorem d_Md_front_76 : decode prog_9_method_14_code 76 = .ok (.invokestatic 151, 3) := by decide +kernel
theorem d_Md_front_79 : decode prog_9_method_14_code 79 = .ok (.ifCond .eq 10, 3) := by decide +kernel
theorem d_Md_front_82 : decode prog_9_method_14_code 82 = .ok (.aload_n 0, 1) := by decide +kernel
theorem d_Md_front_83 : decode prog_9_method_14_code 83 = .ok (.iload_n 1, 1) := by decide +kernel
theorem d_Md_front_84 : decode prog_9_method_14_code 84 = .ok (.iconst 4, 1) := by decide +kernel
theorem d_Md_front_85 : decode prog_9_method_14_code 85 = .ok (.invokevirtual 155, 3) := by decide +kernel
theorem d_Md_front_88 : decode prog_9_method_14_code 88 = .ok (.ireturn, 1) := by decide +kernel
theorem d_Md_front_89 : decode prog_9_method_14_code 89 = .ok (.aload_n 0, 1) := by decide +kernel
theorem d_Md_front_90 : decode prog_9_method_14_code 90 = .ok (.invokevirtual 159, 3) := by decide +kernel
theorem d_Md_front_93 : decode prog_9_method_14_code 93 = .ok (.aload_n 0, 1) := by decide +kernel
theorem d_Md_front_94 : decode prog_9_method_14_code 94 = .ok (.iload_n 1, 1) := by decide +kernel
theorem d_Md_front_95 : decode prog_9_method_14_code 95 = .ok (.invokevirtual 162, 3) := by decide +kernel
theorem d_Md_front_98 : decode prog_9_method_14_code 98 = .ok (.ireturn, 1) := by decide +kernel
theorem d_Md_front_99 : decode prog_9_method_14_code 99 = .ok (.aload_n 0, 1) := by decide +kernel
theorem d_Md_front_100 : decode prog_9_method_14_code 100 = .ok (.iload_n 1, 1) := by decide +kernel
theorem d_Md_front_101 : decode prog_9_method_14_code 101 = .ok (.invokevirtual 162, 3) := by decide +kernel
theorem d_Md_front_104 : decode prog_9_method_14_code 104 = .ok (.ireturn, 1) := by decide +kernel
theorem d_Md_front_105 : decode prog_9_method_14_code 105 = .ok (.aload_n 0, 1) := by decide +kernel
theorem d_Md_front_106 : decode prog_9_method_14_code 106 = .ok (.iload_n 1, 1) := by decide +kernel
theorem d_Md_front_107 : decode prog_9_method_14_code 107 = .ok (.bipush 32, 2) := by decide +kernel
theorem d_Md_front_109 : decode prog_9_method_14_code 109 = .ok (.if_icmp .ne 7, 3) := by decide +kernel
theorem d_Md_front_112 : decode prog_9_method_14_code 112 = .ok (.iconst 3, 1) := by decide +kernel
theorem d_Md_front_113 : decode prog_9_method_14_code 113 = .ok (.goto 4, 3) := by decide +kernel
theorem d_Md_front_116 : decode prog_9_method_14_code 116 = .ok (.iconst 4, 1) := by decide +kernel
theorem d_Md_front_117 : decode prog_9_method_14_code 117 = .ok (.iload_n 1, 1) := by decide +kernel
theorem d_Md_front_118 : decode prog_9_method_14_code 118 = .ok (.invokevirtual 147, 3) := by decide +kernel
theorem d_Md_front_121 : decode prog_9_method_14_code 121 = .ok (.iload_n 1, 1) := by decide +kernel
theorem d_Md_front_122 : decode prog_9_method_14_code 122 = .ok (.bipush 32, 2) := by decide +kernel
theorem d_Md_front_124 : decode prog_9_method_14_code 124 = .ok (.if_icmp .eq 18, 3) := by decide +kernel
theorem d_Md_front_127 : decode prog_9_method_14_code 127 = .ok (.iload_n 1, 1) := by decide +kernel
theorem d_Md_front_128 : decode prog_9_method_14_code 128 = .ok (.invokestatic 151, 3) := by decide +kernel
theorem d_Md_front_131 : decode prog_9_method_14_code 131 = .ok (.ifCond .eq 15, 3) := by decide +kernel
theorem d_Md_front_134 : decode prog_9_method_14_code 134 = .ok (.aload_n 0, 1) := by decide +kernel
theorem d_Md_front_135 : decode prog_9_method_14_code 135 = .ok (.iconst 0, 1) := by decide +kernel
theorem d_Md_front_136 : decode prog_9_method_14_code 136 = .ok (.invokevirtual 165, 3) := by decide +kernel
theorem d_Md_front_139 : decode prog_9_method_14_code 139 = .ok (.ifCond .eq 7, 3) := by decide +kernel
theorem d_Md_front_142 : decode prog_9_method_14_code 142 = .ok (.iconst 1, 1) := by decide +kernel
theorem d_Md_front_143 : decode prog_9_method_14_code 143 = .ok (.goto 4, 3) := by decide +kernel
theorem d_Md_front_146 : decode prog_9_method_14_code 146 = .ok (.iconst 0, 1) := by decide +kernel
theorem d_Md_front_147 : decode prog_9_method_14_code 147 = .ok (.ireturn, 1) := by decide +kernel
theorem d_Md_front_148 : decode prog_9_method_14_code 148 = .ok (.iload_n 1, 1) := by decide +kernel
theorem d_Md_front_149 : decode prog_9_method_14_code 149 = .ok (.invokestatic 151, 3) := by decide +kernel
theorem d_Md_front_152 : decode prog_9_method_14_code 152 = .ok (.ifCond .eq 26, 3) := by decide +kernel
theorem d_Md_front_155 : decode prog_9_method_14_code 155 = .ok (.aload_n 0, 1) := by decide +kernel
theorem d_Md_front_156 : decode prog_9_method_14_code 156 = .ok (.iload_n 1, 1) := by decide +kernel
theorem d_Md_front_157 : decode prog_9_method_14_code 157 = .ok (.iconst 3, 1) := by decide +kernel
theorem d_Md_front_158 : decode prog_9_method_14_code 158 = .ok (.invokevirtual 155, 3) := by decide +kernel
theorem d_Md_front_161 : decode prog_9_method_14_code 161 = .ok (.ifCond .eq 15, 3) := by decide +kernel
theorem d_Md_front_164 : decode prog_9_method_14_code 164 = .ok (.aload_n 0, 1) := by decide +kernel
theorem d_Md_front_165 : decode prog_9_method_14_code 165 = .ok (.iconst 0, 1) := by decide +kernel
theorem d_Md_front_166 : decode prog_9_method_14_code 166 = .ok (.invokevirtual 165, 3) := by decide +kernel
theorem d_Md_front_169 : decode prog_9_method_14_code 169 = .ok (.ifCond .eq 7, 3) := by decide +kernel
theorem d_Md_front_172 : decode prog_9_method_14_code 172 = .ok (.iconst 1, 1) := by decide +kernel
theorem d_Md_front_173 : decode prog_9_method_14_code 173 = .ok (.goto 4, 3) := by decide +kernel
theorem d_Md_front_176 : decode prog_9_method_14_code 176 = .ok (.iconst 0, 1) := by decide +kernel
theorem d_Md_front_177 : decode prog_9_method_14_code 177 = .ok (.ireturn, 1) := by decide +kernel
theorem d_Md_front_178 : decode prog_9_method_14_code 178 = .ok (.aload_n 0, 1) := by decide +kernel
theorem d_Md_front_179 : decode prog_9_method_14_code 179 = .ok (.iconst 1, 1) := by decide +kernel
theorem d_Md_front_180 : decode prog_9_method_14_code 180 = .ok (.invokevirtual 165, 3) := by decide +kernel
theorem d_Md_front_183 : decode prog_9_method_14_code 183 = .ok (.ifCond .ne 5, 3) := by decide +kernel
theorem d_Md_front_186 : decode prog_9_method_14_code 186 = .ok (.iconst 0, 1) := by decide +kernel
theorem d_Md_front_187 : decode prog_9_method_14_code 187 = .ok (.ireturn, 1) := by decide +kernel
theorem d_Md_front_188 : decode prog_9_method_14_code 188 = .ok (.aload_n 0, 1) := by decide +kernel
theorem d_Md_front_189 : decode prog_9_method_14_code 189 = .ok (.invokevirtual 169, 3) := by decide +kernel
theorem d_Md_front_192 : decode prog_9_method_14_code 192 = .ok (.aload_n 0, 1) := by decide +kernel
theorem d_Md_front_193 : decode prog_9_method_14_code 193 = .ok (.iload_n 1, 1) := by decide +kernel
theorem d_Md_front_194 : decode prog_9_method_14_code 194 = .ok (.invokevirtual 172, 3) := by decide +kernel
theorem d_Md_front_197 : decode prog_9_method_14_code 197 = .ok (.ireturn, 1) := by decide +kernel
theorem d_Md_front_198 : decode prog_9_method_14_code 198 = .ok (.aload_n 0, 1) := by decide +kernel
theorem d_Md_front_199 : decode prog_9_method_14_code 199 = .ok (.iload_n 1, 1) := by decide +kernel
theorem d_Md_front_200 : decode prog_9_method_14_code 200 = .ok (.invokevirtual 172, 3) := by decide +kernel
theorem d_Md_front_203 : decode prog_9_method_14_code 203 = .ok (.ireturn, 1) := by decide +kernel
def f_Md_front_117 (σ : pv_S) (x1 : Int32) (s0 : Int32) : Option (Int32 × pv_S) :=
  ((f_Md_first σ s0 x1).bind fun q13 =>
(if x1 = (32 : Int32) then
  some ((1 : Int32), q13)
  else
  ((f_Md_isLetter q13 x1).bind fun q14 =>
(if q14.1 = 0 then
  some ((0 : Int32), q14.2)
  else
  ((f_Md_isWord q14.2 (0 : Int32)).bind fun q15 =>
(if q15.1 = 0 then
  some ((0 : Int32), q15.2)
  else
  some ((1 : Int32), q15.2)))))))
set_option maxHeartbeats 4000000 in
set_option maxRecDepth 100000 in
theorem s_Md_front_117 {p : Program} {l : Launch} {e : Env} {R : Room} {s : State} {m : MethodId} {args : Array Value} {below : List Frame} {meth : Method} {c : Code} {Q : State → Prop} {D : va_G} {q : Nat → ClassId} {a : Nat → Nat} {A : Nat → Prop} (C : pv_C p s m args c prog_9_method_14_code 2 "PatchVoicesModel" pv_TB D pv_cl (pv_ty q) 36 a A (pv_ZM)) (hmv : pv_mv A (pv_ZM)) (hRf : 1 ≤ R.frames) (hRl : 23 ≤ R.locals) {out : (Int32 × pv_S)} (hret : pv_Rz p l e R s m args below meth c prog_9_method_14_code D pv_cl 36 a (pv_FM q a) A Q out) {σ : pv_S} {x1 : Int32} {s0 : Int32} {H : Heap} {locs : List Loc} {ls : Array Slot} (hl : lv_has ls 2 [(0, .ref (a 0)), (1, .int x1)]) (hP : pv_W D pv_cl 36 a (pv_FM q a) σ H) (hS : va_S A s.heap H locs) (hf : f_Md_front_117 σ x1 s0 = some out) : W p l e R s m args below meth c H locs 0 0 Q (F0 m 117 ls [.int s0, .ref (a 0)]) := by
  unfold f_Md_front_117 at hf
  have hx := C.1
  have hb := C.2.1
  refine lv_iload_n hx hb d_Md_front_117 rfl (lv_at hl 1 rfl) ?_
  obtain ⟨q13, hc, hf⟩ := pv_b hf
  refine pv_callVv C hmv pv_good hP hS (As := [.int s0, .int x1]) (rest := []) (by decide) (fm_0 _ _ _ _) rfl (c_Md_first C.2.2.2.2.2.2.1 hmv hc) cv_Md_147 ⟨rfl, rfl, Nat.le_trans (Nat.le_of_ble_eq_true rfl) hRf, Nat.le_trans (Nat.le_of_ble_eq_true rfl) hRl⟩ rfl hl.1 rfl (Nat.le_of_ble_eq_true rfl) d_Md_front_118 ⟨Nat.zero_le _, Nat.zero_le _⟩ (fun H locs hP hS => ?_)
  refine lv_iload_n hx hb d_Md_front_121 rfl (lv_at hl 1 rfl) ?_
  refine lv_bipush (v := (32 : Int32)) hx hb d_Md_front_122 (by decide) ?_
  refine lv_icmp_eq (tgt := 142) hx hb d_Md_front_124 (by decide) (fun h => ?_) (fun h => ?_)
  · have hf := pv_t hf h
    refine lv_iconst (v := (1 : Int32)) hx hb d_Md_front_142 (by decide) ?_
    refine lv_goto (tgt := 147) hx hb d_Md_front_143 (by decide) ?_
    obtain rfl := Option.some.inj hf
    exact hret _ _ _ _ d_Md_front_147 rfl hP hS
  · have hf := pv_f hf h
    refine lv_iload_n hx hb d_Md_front_127 rfl (lv_at hl 1 rfl) ?_
    obtain ⟨q14, hc, hf⟩ := pv_b hf
    refine pv_callSi C hmv pv_good hP hS (As := [.int x1]) (rest := []) (c_Md_isLetter C.2.2.2.2.2.2.1 hmv hc) cs_Md_151 ⟨rfl, rfl, Nat.le_trans (Nat.le_of_ble_eq_true rfl) hRf, Nat.le_trans (Nat.le_of_ble_eq_true rfl) hRl⟩ rfl hl.1 rfl (Nat.le_of_ble_eq_true rfl) d_Md_front_128 ⟨Nat.zero_le _, Nat.zero_le _⟩ (fun H locs hP hS => ?_)
    refine lv_if_eq (tgt := 146) hx hb d_Md_front_131 (by decide) (fun h => ?_) (fun h => ?_)
    · have hf := pv_t hf h
      refine lv_iconst (v := (0 : Int32)) hx hb d_Md_front_146 (by decide) ?_
      obtain rfl := Option.some.inj hf
      exact hret _ _ _ _ d_Md_front_147 rfl hP hS
    · have hf := pv_f hf h
      refine lv_aload_n hx hb d_Md_front_134 rfl (lv_at hl 0 rfl) ?_
      refine lv_iconst (v := (0 : Int32)) hx hb d_Md_front_135 (by decide) ?_
      obtain ⟨q15, hc, hf⟩ := pv_b hf
      refine pv_callVi C hmv pv_good hP hS (As := [.int (0 : Int32)]) (rest := []) (by decide) (fm_0 _ _ _ _) rfl (c_Md_isWord C.2.2.2.2.2.2.1 hmv hc) cv_Md_165 ⟨rfl, rfl, Nat.le_trans (Nat.le_of_ble_eq_true rfl) hRf, Nat.le_trans (Nat.le_of_ble_eq_true rfl) hRl⟩ rfl hl.1 rfl (Nat.le_of_ble_eq_true rfl) d_Md_front_136 ⟨Nat.zero_le _, Nat.zero_le _⟩ (fun H locs hP hS => ?_)
      refine lv_if_eq (tgt := 146) hx hb d_Md_front_139 (by decide) (fun h => ?_) (fun h => ?_)
      · have hf := pv_t hf h
        refine lv_iconst (v := (0 : Int32)) hx hb d_Md_front_146 (by decide) ?_
        obtain rfl := Option.some.inj hf
        exact hret _ _ _ _ d_Md_front_147 rfl hP hS
      · have hf := pv_f hf h
        refine lv_iconst (v := (1 : Int32)) hx hb d_Md_front_142 (by decide) ?_
        refine lv_goto (tgt := 147) hx hb d_Md_front_143 (by decide) ?_
        obtain rfl := Option.some.inj hf
        exact hret _ _ _ _ d_Md_front_147 rfl hP hS
def f_Md_front_52 (σ : pv_S) (x1 : Int32) (s0 : Int32) : Option (Int32 × pv_S) :=
  ((f_Md_first σ s0 x1).bind fun q16 =>
(if x1 = (32 : Int32) then
  some ((1 : Int32), q16)
  else
  ((f_Md_isLetter q16 x1).bind fun q17 =>
(if q17.1 = 0 then
  some ((0 : Int32), q17.2)
  else
  some ((1 : Int32), q17.2)))))
set_option maxHeartbeats 4000000 in
set_option maxRecDepth 100000 in
theorem s_Md_front_52 {p : Program} {l : Launch} {e : Env} {R : Room} {s : State} {m : MethodId} {args : Array Value} {below : List Frame} {meth : Method} {c : Code} {Q : State → Prop} {D : va_G} {q : Nat → ClassId} {a : Nat → Nat} {A : Nat → Prop} (C : pv_C p s m args c prog_9_method_14_code 2 "PatchVoicesModel" pv_TB D pv_cl (pv_ty q) 36 a A (pv_ZM)) (hmv : pv_mv A (pv_ZM)) (hRf : 1 ≤ R.frames) (hRl : 23 ≤ R.locals) {out : (Int32 × pv_S)} (hret : pv_Rz p l e R s m args below meth c prog_9_method_14_code D pv_cl 36 a (pv_FM q a) A Q out) {σ : pv_S} {x1 : Int32} {s0 : Int32} {H : Heap} {locs : List Loc} {ls : Array Slot} (hl : lv_has ls 2 [(1, .int x1)]) (hP : pv_W D pv_cl 36 a (pv_FM q a) σ H) (hS : va_S A s.heap H locs) (hf : f_Md_front_52 σ x1 s0 = some out) : W p l e R s m args below meth c H locs 0 0 Q (F0 m 52 ls [.int s0, .ref (a 0)]) := by
  unfold f_Md_front_52 at hf
  have hx := C.1
  have hb := C.2.1
  refine lv_iload_n hx hb d_Md_front_52 rfl (lv_at hl 0 rfl) ?_
  obtain ⟨q16, hc, hf⟩ := pv_b hf
  refine pv_callVv C hmv pv_good hP hS (As := [.int s0, .int x1]) (rest := []) (by decide) (fm_0 _ _ _ _) rfl (c_Md_first C.2.2.2.2.2.2.1 hmv hc) cv_Md_147 ⟨rfl, rfl, Nat.le_trans (Nat.le_of_ble_eq_true rfl) hRf, Nat.le_trans (Nat.le_of_ble_eq_true rfl) hRl⟩ rfl hl.1 rfl (Nat.le_of_ble_eq_true rfl) d_Md_front_53 ⟨Nat.zero_le _, Nat.zero_le _⟩ (fun H locs hP hS => ?_)
  refine lv_iload_n hx hb d_Md_front_56 rfl (lv_at hl 0 rfl) ?_
  refine lv_bipush (v := (32 : Int32)) hx hb d_Md_front_57 (by decide) ?_
  refine lv_icmp_eq (tgt := 69) hx hb d_Md_front_59 (by decide) (fun h => ?_) (fun h => ?_)
  · have hf := pv_t hf h
    refine lv_iconst (v := (1 : Int32)) hx hb d_Md_front_69 (by decide) ?_
    refine lv_goto (tgt := 74) hx hb d_Md_front_70 (by decide) ?_
    obtain rfl := Option.some.inj hf
    exact hret _ _ _ _ d_Md_front_74 rfl hP hS
  · have hf := pv_f hf h
    refine lv_iload_n hx hb d_Md_front_62 rfl (lv_at hl 0 rfl) ?_
    obtain ⟨q17, hc, hf⟩ := pv_b hf
    refine pv_callSi C hmv pv_good hP hS (As := [.int x1]) (rest := []) (c_Md_isLetter C.2.2.2.2.2.2.1 hmv hc) cs_Md_151 ⟨rfl, rfl, Nat.le_trans (Nat.le_of_ble_eq_true rfl) hRf, Nat.le_trans (Nat.le_of_ble_eq_true rfl) hRl⟩ rfl hl.1 rfl (Nat.le_of_ble_eq_true rfl) d_Md_front_63 ⟨Nat.zero_le _, Nat.zero_le _⟩ (fun H locs hP hS => ?_)
    refine lv_if_eq (tgt := 73) hx hb d_Md_front_66 (by decide) (fun h => ?_) (fun h => ?_)
    · have hf := pv_t hf h
      refine lv_iconst (v := (0 : Int32)) hx hb d_Md_front_73 (by decide) ?_
      obtain rfl := Option.some.inj hf
      exact hret _ _ _ _ d_Md_front_74 rfl hP hS
    · have hf := pv_f hf h
      refine lv_iconst (v := (1 : Int32)) hx hb d_Md_front_69 (by decide) ?_
      refine lv_goto (tgt := 74) hx hb d_Md_front_70 (by decide) ?_
      obtain rfl := Option.some.inj hf
      exact hret _ _ _ _ d_Md_front_74 rfl hP hS
def f_Md_front_0 (σ : pv_S) (x1 : Int32) : Option (Int32 × pv_S) :=
  (if (σ.1 0 11) = (0 : Int32) then
  (if x1 = (32 : Int32) then
  f_Md_front_52 σ x1 (0 : Int32)
  else
  f_Md_front_52 σ x1 (1 : Int32))
  else
(if (σ.1 0 11) = (1 : Int32) then
  ((f_Md_isLetter σ x1).bind fun q1 =>
(if q1.1 = 0 then
  ((f_Md_endName q1.2).bind fun q2 =>
((f_Md_front2 q2 x1).bind fun q3 =>
(if pv_z q3.1 = true then
some (q3.1, q3.2)
  else none)))
  else
  ((f_Md_more q1.2 x1 (4 : Int32)).bind fun q4 =>
(if pv_z q4.1 = true then
some (q4.1, q4.2)
  else none))))
  else
(if (σ.1 0 11) = (2 : Int32) then
  ((f_Md_front2 σ x1).bind fun q5 =>
(if pv_z q5.1 = true then
some (q5.1, q5.2)
  else none))
  else
(if (σ.1 0 11) = (3 : Int32) then
  (if x1 = (32 : Int32) then
  f_Md_front_117 σ x1 (3 : Int32)
  else
  f_Md_front_117 σ x1 (4 : Int32))
  else
(if (σ.1 0 11) = (4 : Int32) then
  ((f_Md_isLetter σ x1).bind fun q6 =>
(if q6.1 = 0 then
  ((f_Md_isWord q6.2 (1 : Int32)).bind fun q7 =>
(if q7.1 = 0 then
  some ((0 : Int32), q7.2)
  else
  ((f_Md_endWord q7.2).bind fun q8 =>
((f_Md_front5 q8 x1).bind fun q9 =>
(if pv_z q9.1 = true then
some (q9.1, q9.2)
  else none)))))
  else
  ((f_Md_more q6.2 x1 (3 : Int32)).bind fun q10 =>
(if q10.1 = 0 then
  some ((0 : Int32), q10.2)
  else
  ((f_Md_isWord q10.2 (0 : Int32)).bind fun q11 =>
(if q11.1 = 0 then
  some ((0 : Int32), q11.2)
  else
  some ((1 : Int32), q11.2)))))))
  else
  ((f_Md_front5 σ x1).bind fun q12 =>
(if pv_z q12.1 = true then
some (q12.1, q12.2)
  else none)))))))
set_option maxHeartbeats 4000000 in
set_option maxRecDepth 100000 in
theorem s_Md_front_0 {p : Program} {l : Launch} {e : Env} {R : Room} {s : State} {m : MethodId} {args : Array Value} {below : List Frame} {meth : Method} {c : Code} {Q : State → Prop} {D : va_G} {q : Nat → ClassId} {a : Nat → Nat} {A : Nat → Prop} (C : pv_C p s m args c prog_9_method_14_code 2 "PatchVoicesModel" pv_TB D pv_cl (pv_ty q) 36 a A (pv_ZM)) (hmv : pv_mv A (pv_ZM)) (hRf : 1 ≤ R.frames) (hRl : 23 ≤ R.locals) {out : (Int32 × pv_S)} (hret : pv_Rz p l e R s m args below meth c prog_9_method_14_code D pv_cl 36 a (pv_FM q a) A Q out) {σ : pv_S} {x1 : Int32} {H : Heap} {locs : List Loc} {ls : Array Slot} (hl : lv_has ls 2 [(0, .ref (a 0)), (1, .int x1)]) (hP : pv_W D pv_cl 36 a (pv_FM q a) σ H) (hS : va_S A s.heap H locs) (hf : f_Md_front_0 σ x1 = some out) : W p l e R s m args below meth c H locs 0 0 Q (F0 m 0 ls []) := by
  unfold f_Md_front_0 at hf
  have hx := C.1
  have hb := C.2.1
  refine lv_aload_n hx hb d_Md_front_0 rfl (lv_at hl 0 rfl) ?_
  refine pv_get C hP (v := .int (σ.1 0 11)) (j := 11) (by decide) (fm_0 _ _ _ _) fl_Md_135 rfl d_Md_front_1 ?_
  by_cases h0 : (σ.1 0 11) = (0 : Int32)
  · have hf := pv_t hf h0
    refine lv_tableIn (tgt := 40) hx hb d_Md_front_4 (by rw [h0]; decide) (by rw [h0]; decide) (by first | (rw [h0]; done) | (rw [h0]; rfl)) (by decide) ?_
    refine lv_aload_n hx hb d_Md_front_40 rfl (lv_at hl 0 rfl) ?_
    refine lv_iload_n hx hb d_Md_front_41 rfl (lv_at hl 1 rfl) ?_
    refine lv_bipush (v := (32 : Int32)) hx hb d_Md_front_42 (by decide) ?_
    refine lv_icmp_ne (tgt := 51) hx hb d_Md_front_44 (by decide) (fun h => ?_) (fun h => ?_)
    · have hf := pv_f hf h
      refine lv_iconst (v := (1 : Int32)) hx hb d_Md_front_51 (by decide) ?_
      exact s_Md_front_52 C hmv hRf hRl hret (lv_sub hl [1] rfl) hP hS hf
    · have hf := pv_t hf h
      refine lv_iconst (v := (0 : Int32)) hx hb d_Md_front_47 (by decide) ?_
      refine lv_goto (tgt := 52) hx hb d_Md_front_48 (by decide) ?_
      exact s_Md_front_52 C hmv hRf hRl hret (lv_sub hl [1] rfl) hP hS hf
  · have hf := pv_f hf h0
    by_cases h1 : (σ.1 0 11) = (1 : Int32)
    · have hf := pv_t hf h1
      refine lv_tableIn (tgt := 75) hx hb d_Md_front_4 (by rw [h1]; decide) (by rw [h1]; decide) (by first | (rw [h1]; done) | (rw [h1]; rfl)) (by decide) ?_
      refine lv_iload_n hx hb d_Md_front_75 rfl (lv_at hl 1 rfl) ?_
      obtain ⟨q1, hc, hf⟩ := pv_b hf
      refine pv_callSi C hmv pv_good hP hS (As := [.int x1]) (rest := []) (c_Md_isLetter C.2.2.2.2.2.2.1 hmv hc) cs_Md_151 ⟨rfl, rfl, Nat.le_trans (Nat.le_of_ble_eq_true rfl) hRf, Nat.le_trans (Nat.le_of_ble_eq_true rfl) hRl⟩ rfl hl.1 rfl (Nat.le_of_ble_eq_true rfl) d_Md_front_76 ⟨Nat.zero_le _, Nat.zero_le _⟩ (fun H locs hP hS => ?_)
      refine lv_if_eq (tgt := 89) hx hb d_Md_front_79 (by decide) (fun h => ?_) (fun h => ?_)
      · have hf := pv_t hf h
        refine lv_aload_n hx hb d_Md_front_89 rfl (lv_at hl 0 rfl) ?_
        obtain ⟨q2, hc, hf⟩ := pv_b hf
        refine pv_callVv C hmv pv_good hP hS (As := []) (rest := []) (by decide) (fm_0 _ _ _ _) rfl (c_Md_endName C.2.2.2.2.2.2.1 hmv hc) cv_Md_159 ⟨rfl, rfl, Nat.le_trans (Nat.le_of_ble_eq_true rfl) hRf, Nat.le_trans (Nat.le_of_ble_eq_true rfl) hRl⟩ rfl hl.1 rfl (Nat.le_of_ble_eq_true rfl) d_Md_front_90 ⟨Nat.zero_le _, Nat.zero_le _⟩ (fun H locs hP hS => ?_)
        refine lv_aload_n hx hb d_Md_front_93 rfl (lv_at hl 0 rfl) ?_
        refine lv_iload_n hx hb d_Md_front_94 rfl (lv_at hl 1 rfl) ?_
        obtain ⟨q3, hc, hf⟩ := pv_b hf
        refine pv_callVi C hmv pv_good hP hS (As := [.int x1]) (rest := []) (by decide) (fm_0 _ _ _ _) rfl (c_Md_front2 C.2.2.2.2.2.2.1 hmv hc) cv_Md_162 ⟨rfl, rfl, Nat.le_trans (Nat.le_of_ble_eq_true rfl) hRf, Nat.le_trans (Nat.le_of_ble_eq_true rfl) hRl⟩ rfl hl.1 rfl (Nat.le_of_ble_eq_true rfl) d_Md_front_95 ⟨Nat.zero_le _, Nat.zero_le _⟩ (fun H locs hP hS => ?_)
        obtain ⟨hg, hf⟩ := pv_g hf
        obtain rfl := Option.some.inj hf
        exact hret _ _ _ _ d_Md_front_98 hg hP hS
      · have hf := pv_f hf h
        refine lv_aload_n hx hb d_Md_front_82 rfl (lv_at hl 0 rfl) ?_
        refine lv_iload_n hx hb d_Md_front_83 rfl (lv_at hl 1 rfl) ?_
        refine lv_iconst (v := (4 : Int32)) hx hb d_Md_front_84 (by decide) ?_
        obtain ⟨q4, hc, hf⟩ := pv_b hf
        refine pv_callVi C hmv pv_good hP hS (As := [.int x1, .int (4 : Int32)]) (rest := []) (by decide) (fm_0 _ _ _ _) rfl (c_Md_more C.2.2.2.2.2.2.1 hmv hc) cv_Md_155 ⟨rfl, rfl, Nat.le_trans (Nat.le_of_ble_eq_true rfl) hRf, Nat.le_trans (Nat.le_of_ble_eq_true rfl) hRl⟩ rfl hl.1 rfl (Nat.le_of_ble_eq_true rfl) d_Md_front_85 ⟨Nat.zero_le _, Nat.zero_le _⟩ (fun H locs hP hS => ?_)
        obtain ⟨hg, hf⟩ := pv_g hf
        obtain rfl := Option.some.inj hf
        exact hret _ _ _ _ d_Md_front_88 hg hP hS
    · have hf := pv_f hf h1
      by_cases h2 : (σ.1 0 11) = (2 : Int32)
      · have hf := pv_t hf h2
        refine lv_tableIn (tgt := 99) hx hb d_Md_front_4 (by rw [h2]; decide) (by rw [h2]; decide) (by first | (rw [h2]; done) | (rw [h2]; rfl)) (by decide) ?_
        refine lv_aload_n hx hb d_Md_front_99 rfl (lv_at hl 0 rfl) ?_
        refine lv_iload_n hx hb d_Md_front_100 rfl (lv_at hl 1 rfl) ?_
        obtain ⟨q5, hc, hf⟩ := pv_b hf
        refine pv_callVi C hmv pv_good hP hS (As := [.int x1]) (rest := []) (by decide) (fm_0 _ _ _ _) rfl (c_Md_front2 C.2.2.2.2.2.2.1 hmv hc) cv_Md_162 ⟨rfl, rfl, Nat.le_trans (Nat.le_of_ble_eq_true rfl) hRf, Nat.le_trans (Nat.le_of_ble_eq_true rfl) hRl⟩ rfl hl.1 rfl (Nat.le_of_ble_eq_true rfl) d_Md_front_101 ⟨Nat.zero_le _, Nat.zero_le _⟩ (fun H locs hP hS => ?_)
        obtain ⟨hg, hf⟩ := pv_g hf
        obtain rfl := Option.some.inj hf
        exact hret _ _ _ _ d_Md_front_104 hg hP hS
      · have hf := pv_f hf h2
        by_cases h3 : (σ.1 0 11) = (3 : Int32)
        · have hf := pv_t hf h3
          refine lv_tableIn (tgt := 105) hx hb d_Md_front_4 (by rw [h3]; decide) (by rw [h3]; decide) (by first | (rw [h3]; done) | (rw [h3]; rfl)) (by decide) ?_
          refine lv_aload_n hx hb d_Md_front_105 rfl (lv_at hl 0 rfl) ?_
          refine lv_iload_n hx hb d_Md_front_106 rfl (lv_at hl 1 rfl) ?_
          refine lv_bipush (v := (32 : Int32)) hx hb d_Md_front_107 (by decide) ?_
          refine lv_icmp_ne (tgt := 116) hx hb d_Md_front_109 (by decide) (fun h => ?_) (fun h => ?_)
          · have hf := pv_f hf h
            refine lv_iconst (v := (4 : Int32)) hx hb d_Md_front_116 (by decide) ?_
            exact s_Md_front_117 C hmv hRf hRl hret (lv_sub hl [0, 1] rfl) hP hS hf
          · have hf := pv_t hf h
            refine lv_iconst (v := (3 : Int32)) hx hb d_Md_front_112 (by decide) ?_
            refine lv_goto (tgt := 117) hx hb d_Md_front_113 (by decide) ?_
            exact s_Md_front_117 C hmv hRf hRl hret (lv_sub hl [0, 1] rfl) hP hS hf
        · have hf := pv_f hf h3
          by_cases h4 : (σ.1 0 11) = (4 : Int32)
          · have hf := pv_t hf h4
            refine lv_tableIn (tgt := 148) hx hb d_Md_front_4 (by rw [h4]; decide) (by rw [h4]; decide) (by first | (rw [h4]; done) | (rw [h4]; rfl)) (by decide) ?_
            refine lv_iload_n hx hb d_Md_front_148 rfl (lv_at hl 1 rfl) ?_
            obtain ⟨q6, hc, hf⟩ := pv_b hf
            refine pv_callSi C hmv pv_good hP hS (As := [.int x1]) (rest := []) (c_Md_isLetter C.2.2.2.2.2.2.1 hmv hc) cs_Md_151 ⟨rfl, rfl, Nat.le_trans (Nat.le_of_ble_eq_true rfl) hRf, Nat.le_trans (Nat.le_of_ble_eq_true rfl) hRl⟩ rfl hl.1 rfl (Nat.le_of_ble_eq_true rfl) d_Md_front_149 ⟨Nat.zero_le _, Nat.zero_le _⟩ (fun H locs hP hS => ?_)
            refine lv_if_eq (tgt := 178) hx hb d_Md_front_152 (by decide) (fun h => ?_) (fun h => ?_)
            · have hf := pv_t hf h
              refine lv_aload_n hx hb d_Md_front_178 rfl (lv_at hl 0 rfl) ?_
              refine lv_iconst (v := (1 : Int32)) hx hb d_Md_front_179 (by decide) ?_
              obtain ⟨q7, hc, hf⟩ := pv_b hf
              refine pv_callVi C hmv pv_good hP hS (As := [.int (1 : Int32)]) (rest := []) (by decide) (fm_0 _ _ _ _) rfl (c_Md_isWord C.2.2.2.2.2.2.1 hmv hc) cv_Md_165 ⟨rfl, rfl, Nat.le_trans (Nat.le_of_ble_eq_true rfl) hRf, Nat.le_trans (Nat.le_of_ble_eq_true rfl) hRl⟩ rfl hl.1 rfl (Nat.le_of_ble_eq_true rfl) d_Md_front_180 ⟨Nat.zero_le _, Nat.zero_le _⟩ (fun H locs hP hS => ?_)
              refine lv_if_ne (tgt := 188) hx hb d_Md_front_183 (by decide) (fun h => ?_) (fun h => ?_)
              · have hf := pv_f hf h
                refine lv_aload_n hx hb d_Md_front_188 rfl (lv_at hl 0 rfl) ?_
                obtain ⟨q8, hc, hf⟩ := pv_b hf
                refine pv_callVv C hmv pv_good hP hS (As := []) (rest := []) (by decide) (fm_0 _ _ _ _) rfl (c_Md_endWord C.2.2.2.2.2.2.1 hmv hc) cv_Md_169 ⟨rfl, rfl, Nat.le_trans (Nat.le_of_ble_eq_true rfl) hRf, Nat.le_trans (Nat.le_of_ble_eq_true rfl) hRl⟩ rfl hl.1 rfl (Nat.le_of_ble_eq_true rfl) d_Md_front_189 ⟨Nat.zero_le _, Nat.zero_le _⟩ (fun H locs hP hS => ?_)
                refine lv_aload_n hx hb d_Md_front_192 rfl (lv_at hl 0 rfl) ?_
                refine lv_iload_n hx hb d_Md_front_193 rfl (lv_at hl 1 rfl) ?_
                obtain ⟨q9, hc, hf⟩ := pv_b hf
                refine pv_callVi C hmv pv_good hP hS (As := [.int x1]) (rest := []) (by decide) (fm_0 _ _ _ _) rfl (c_Md_front5 C.2.2.2.2.2.2.1 hmv hc) cv_Md_172 ⟨rfl, rfl, Nat.le_trans (Nat.le_of_ble_eq_true rfl) hRf, Nat.le_trans (Nat.le_of_ble_eq_true rfl) hRl⟩ rfl hl.1 rfl (Nat.le_of_ble_eq_true rfl) d_Md_front_194 ⟨Nat.zero_le _, Nat.zero_le _⟩ (fun H locs hP hS => ?_)
                obtain ⟨hg, hf⟩ := pv_g hf
                obtain rfl := Option.some.inj hf
                exact hret _ _ _ _ d_Md_front_197 hg hP hS
              · have hf := pv_t hf h
                refine lv_iconst (v := (0 : Int32)) hx hb d_Md_front_186 (by decide) ?_
                obtain rfl := Option.some.inj hf
                exact hret _ _ _ _ d_Md_front_187 rfl hP hS
            · have hf := pv_f hf h
              refine lv_aload_n hx hb d_Md_front_155 rfl (lv_at hl 0 rfl) ?_
              refine lv_iload_n hx hb d_Md_front_156 rfl (lv_at hl 1 rfl) ?_
              refine lv_iconst (v := (3 : Int32)) hx hb d_Md_front_157 (by decide) ?_
              obtain ⟨q10, hc, hf⟩ := pv_b hf
              refine pv_callVi C hmv pv_good hP hS (As := [.int x1, .int (3 : Int32)]) (rest := []) (by decide) (fm_0 _ _ _ _) rfl (c_Md_more C.2.2.2.2.2.2.1 hmv hc) cv_Md_155 ⟨rfl, rfl, Nat.le_trans (Nat.le_of_ble_eq_true rfl) hRf, Nat.le_trans (Nat.le_of_ble_eq_true rfl) hRl⟩ rfl hl.1 rfl (Nat.le_of_ble_eq_true rfl) d_Md_front_158 ⟨Nat.zero_le _, Nat.zero_le _⟩ (fun H locs hP hS => ?_)
              refine lv_if_eq (tgt := 176) hx hb d_Md_front_161 (by decide) (fun h => ?_) (fun h => ?_)
              · have hf := pv_t hf h
                refine lv_iconst (v := (0 : Int32)) hx hb d_Md_front_176 (by decide) ?_
                obtain rfl := Option.some.inj hf
                exact hret _ _ _ _ d_Md_front_177 rfl hP hS
              · have hf := pv_f hf h
                refine lv_aload_n hx hb d_Md_front_164 rfl (lv_at hl 0 rfl) ?_
                refine lv_iconst (v := (0 : Int32)) hx hb d_Md_front_165 (by decide) ?_
                obtain ⟨q11, hc, hf⟩ := pv_b hf
                refine pv_callVi C hmv pv_good hP hS (As := [.int (0 : Int32)]) (rest := []) (by decide) (fm_0 _ _ _ _) rfl (c_Md_isWord C.2.2.2.2.2.2.1 hmv hc) cv_Md_165 ⟨rfl, rfl, Nat.le_trans (Nat.le_of_ble_eq_true rfl) hRf, Nat.le_trans (Nat.le_of_ble_eq_true rfl) hRl⟩ rfl hl.1 rfl (Nat.le_of_ble_eq_true rfl) d_Md_front_166 ⟨Nat.zero_le _, Nat.zero_le _⟩ (fun H locs hP hS => ?_)
                refine lv_if_eq (tgt := 176) hx hb d_Md_front_169 (by decide) (fun h => ?_) (fun h => ?_)
                · have hf := pv_t hf h
                  refine lv_iconst (v := (0 : Int32)) hx hb d_Md_front_176 (by decide) ?_
                  obtain rfl := Option.some.inj hf
                  exact hret _ _ _ _ d_Md_front_177 rfl hP hS
                · have hf := pv_f hf h
                  refine lv_iconst (v := (1 : Int32)) hx hb d_Md_front_172 (by decide) ?_
                  refine lv_goto (tgt := 177) hx hb d_Md_front_173 (by decide) ?_
                  obtain rfl := Option.some.inj hf
                  exact hret _ _ _ _ d_Md_front_177 rfl hP hS
          · have hf := pv_f hf h4
            refine lv_tableOut (tgt := 198) hx hb d_Md_front_4 (by have z0 := lv_neT h0 (a := 0) (by decide); have z1 := lv_neT h1 (a := 1) (by decide); have z2 := lv_neT h2 (a := 2) (by decide); have z3 := lv_neT h3 (a := 3) (by decide); have z4 := lv_neT h4 (a := 4) (by decide); omega) (by decide) ?_
            refine lv_aload_n hx hb d_Md_front_198 rfl (lv_at hl 0 rfl) ?_
            refine lv_iload_n hx hb d_Md_front_199 rfl (lv_at hl 1 rfl) ?_
            obtain ⟨q12, hc, hf⟩ := pv_b hf
            refine pv_callVi C hmv pv_good hP hS (As := [.int x1]) (rest := []) (by decide) (fm_0 _ _ _ _) rfl (c_Md_front5 C.2.2.2.2.2.2.1 hmv hc) cv_Md_172 ⟨rfl, rfl, Nat.le_trans (Nat.le_of_ble_eq_true rfl) hRf, Nat.le_trans (Nat.le_of_ble_eq_true rfl) hRl⟩ rfl hl.1 rfl (Nat.le_of_ble_eq_true rfl) d_Md_front_200 ⟨Nat.zero_le _, Nat.zero_le _⟩ (fun H locs hP hS => ?_)
            obtain ⟨hg, hf⟩ := pv_g hf
            obtain rfl := Option.some.inj hf
            exact hret _ _ _ _ d_Md_front_203 hg hP hS
def f_Md_front (σ : pv_S) (x1 : Int32) : Option (Int32 × pv_S) := f_Md_front_0 σ x1
def rm_Md_front : Room := { frames := 1, cells := 0, slots := 0, locals := 23 }
theorem c_Md_front {l : Launch} {D : va_G} {q : Nat → ClassId} {a : Nat → Nat} {A : Nat → Prop} (hD : pv_D 36 a A) (hmv : pv_mv A (pv_ZM)) {σ : pv_S} {x1 : Int32} {out : (Int32 × pv_S)} (hf : f_Md_front σ x1 = some out) : pv_Mi l y_Md_front (Cond.code y_Md_front prog_9_method_14_code 2 (some .boolean) :: pv_TB) rm_Md_front D pv_cl (pv_ty q) 36 a (pv_FM q a) A (pv_ZM) [.ref (a 0), .int x1] σ out :=
  pv_ofZ (by decide) (Nat.le_of_ble_eq_true rfl) hD (fun p e s m args below meth c Q ls C hret hl hP => s_Md_front_0 C hmv (Nat.le_refl _) (Nat.le_refl _) hret hl hP va_S.rf hf)
theorem d_Md_begins_0 : decode prog_9_method_17_code 0 = .ok (.aload_n 0, 1) := by decide +kernel
theorem d_Md_begins_1 : decode prog_9_method_17_code 1 = .ok (.iload_n 1, 1) := by decide +kernel
theorem d_Md_begins_2 : decode prog_9_method_17_code 2 = .ok (.bipush 45, 2) := by decide +kernel
theorem d_Md_begins_4 : decode prog_9_method_17_code 4 = .ok (.if_icmp .ne 7, 3) := by decide +kernel
theorem d_Md_begins_7 : decode prog_9_method_17_code 7 = .ok (.iconst 1, 1) := by decide +kernel
theorem d_Md_begins_8 : decode prog_9_method_17_code 8 = .ok (.goto 4, 3) := by decide +kernel
theorem d_Md_begins_11 : decode prog_9_method_17_code 11 = .ok (.iconst 0, 1) := by decide +kernel
theorem d_Md_begins_12 : decode prog_9_method_17_code 12 = .ok (.putfield 175, 3) := by decide +kernel
theorem d_Md_begins_15 : decode prog_9_method_17_code 15 = .ok (.iload_n 1, 1) := by decide +kernel
theorem d_Md_begins_16 : decode prog_9_method_17_code 16 = .ok (.invokestatic 151, 3) := by decide +kernel
theorem d_Md_begins_19 : decode prog_9_method_17_code 19 = .ok (.ifCond .eq 13, 3) := by decide +kernel
theorem d_Md_begins_22 : decode prog_9_method_17_code 22 = .ok (.aload_n 0, 1) := by decide +kernel
theorem d_Md_begins_23 : decode prog_9_method_17_code 23 = .ok (.bipush 7, 2) := by decide +kernel
theorem d_Md_begins_25 : decode prog_9_method_17_code 25 = .ok (.iload_n 1, 1) := by decide +kernel
theorem d_Md_begins_26 : decode prog_9_method_17_code 26 = .ok (.invokevirtual 147, 3) := by decide +kernel
theorem d_Md_begins_29 : decode prog_9_method_17_code 29 = .ok (.goto 29, 3) := by decide +kernel
theorem d_Md_begins_32 : decode prog_9_method_17_code 32 = .ok (.iload_n 1, 1) := by decide +kernel
theorem d_Md_begins_33 : decode prog_9_method_17_code 33 = .ok (.invokestatic 179, 3) := by decide +kernel
theorem d_Md_begins_36 : decode prog_9_method_17_code 36 = .ok (.ifCond .eq 16, 3) := by decide +kernel
theorem d_Md_begins_39 : decode prog_9_method_17_code 39 = .ok (.aload_n 0, 1) := by decide +kernel
theorem d_Md_begins_40 : decode prog_9_method_17_code 40 = .ok (.bipush 10, 2) := by decide +kernel
theorem d_Md_begins_42 : decode prog_9_method_17_code 42 = .ok (.iload_n 1, 1) := by decide +kernel
theorem d_Md_begins_43 : decode prog_9_method_17_code 43 = .ok (.bipush 48, 2) := by decide +kernel
theorem d_Md_begins_45 : decode prog_9_method_17_code 45 = .ok (.isub, 1) := by decide +kernel
theorem d_Md_begins_46 : decode prog_9_method_17_code 46 = .ok (.invokevirtual 147, 3) := by decide +kernel
theorem d_Md_begins_49 : decode prog_9_method_17_code 49 = .ok (.goto 9, 3) := by decide +kernel
theorem d_Md_begins_52 : decode prog_9_method_17_code 52 = .ok (.aload_n 0, 1) := by decide +kernel
theorem d_Md_begins_53 : decode prog_9_method_17_code 53 = .ok (.bipush 9, 2) := by decide +kernel
theorem d_Md_begins_55 : decode prog_9_method_17_code 55 = .ok (.putfield 135, 3) := by decide +kernel
theorem d_Md_begins_58 : decode prog_9_method_17_code 58 = .ok (.iload_n 1, 1) := by decide +kernel
theorem d_Md_begins_59 : decode prog_9_method_17_code 59 = .ok (.invokestatic 151, 3) := by decide +kernel
theorem d_Md_begins_62 : decode prog_9_method_17_code 62 = .ok (.ifCond .ne 17, 3) := by decide +kernel
theorem d_Md_begins_65 : decode prog_9_method_17_code 65 = .ok (.iload_n 1, 1) := by decide +kernel
theorem d_Md_begins_66 : decode prog_9_method_17_code 66 = .ok (.invokestatic 179, 3) := by decide +kernel
theorem d_Md_begins_69 : decode prog_9_method_17_code 69 = .ok (.ifCond .ne 10, 3) := by decide +kernel
theorem d_Md_begins_72 : decode prog_9_method_17_code 72 = .ok (.aload_n 0, 1) := by decide +kernel
theorem d_Md_begins_73 : decode prog_9_method_17_code 73 = .ok (.getfield 175, 3) := by decide +kernel
theorem d_Md_begins_76 : decode prog_9_method_17_code 76 = .ok (.ifCond .eq 7, 3) := by decide +kernel
theorem d_Md_begins_79 : decode prog_9_method_17_code 79 = .ok (.iconst 1, 1) := by decide +kernel
theorem d_Md_begins_80 : decode prog_9_method_17_code 80 = .ok (.goto 4, 3) := by decide +kernel
theorem d_Md_begins_83 : decode prog_9_method_17_code 83 = .ok (.iconst 0, 1) := by decide +kernel
theorem d_Md_begins_84 : decode prog_9_method_17_code 84 = .ok (.ireturn, 1) := by decide +kernel
def f_Md_begins_58 (σ : pv_S) (x1 : Int32) : Option (Int32 × pv_S) :=
  ((f_Md_isLetter σ x1).bind fun q5 =>
(if q5.1 = 0 then
  ((f_Md_isDigit q5.2 x1).bind fun q6 =>
(if q6.1 = 0 then
  (if (q6.2.1 0 14) = 0 then
  some ((0 : Int32), q6.2)
  else
  some ((1 : Int32), q6.2))
  else
  some ((1 : Int32), q6.2)))
  else
  some ((1 : Int32), q5.2)))
set_option maxHeartbeats 4000000 in
set_option maxRecDepth 100000 in
theorem s_Md_begins_58 {p : Program} {l : Launch} {e : Env} {R : Room} {s : State} {m : MethodId} {args : Array Value} {below : List Frame} {meth : Method} {c : Code} {Q : State → Prop} {D : va_G} {q : Nat → ClassId} {a : Nat → Nat} {A : Nat → Prop} (C : pv_C p s m args c prog_9_method_17_code 2 "PatchVoicesModel" pv_TB D pv_cl (pv_ty q) 36 a A (pv_ZM)) (hmv : pv_mv A (pv_ZM)) (hRf : 1 ≤ R.frames) (hRl : 22 ≤ R.locals) {out : (Int32 × pv_S)} (hret : pv_Rz p l e R s m args below meth c prog_9_method_17_code D pv_cl 36 a (pv_FM q a) A Q out) {σ : pv_S} {x1 : Int32} {H : Heap} {locs : List Loc} {ls : Array Slot} (hl : lv_has ls 2 [(0, .ref (a 0)), (1, .int x1)]) (hP : pv_W D pv_cl 36 a (pv_FM q a) σ H) (hS : va_S A s.heap H locs) (hf : f_Md_begins_58 σ x1 = some out) : W p l e R s m args below meth c H locs 0 0 Q (F0 m 58 ls []) := by
  unfold f_Md_begins_58 at hf
  have hx := C.1
  have hb := C.2.1
  refine lv_iload_n hx hb d_Md_begins_58 rfl (lv_at hl 1 rfl) ?_
  obtain ⟨q5, hc, hf⟩ := pv_b hf
  refine pv_callSi C hmv pv_good hP hS (As := [.int x1]) (rest := []) (c_Md_isLetter C.2.2.2.2.2.2.1 hmv hc) cs_Md_151 ⟨rfl, rfl, Nat.le_trans (Nat.le_of_ble_eq_true rfl) hRf, Nat.le_trans (Nat.le_of_ble_eq_true rfl) hRl⟩ rfl hl.1 rfl (Nat.le_of_ble_eq_true rfl) d_Md_begins_59 ⟨Nat.zero_le _, Nat.zero_le _⟩ (fun H locs hP hS => ?_)
  refine lv_if_ne (tgt := 79) hx hb d_Md_begins_62 (by decide) (fun h => ?_) (fun h => ?_)
  · have hf := pv_f hf h
    refine lv_iconst (v := (1 : Int32)) hx hb d_Md_begins_79 (by decide) ?_
    refine lv_goto (tgt := 84) hx hb d_Md_begins_80 (by decide) ?_
    obtain rfl := Option.some.inj hf
    exact hret _ _ _ _ d_Md_begins_84 rfl hP hS
  · have hf := pv_t hf h
    refine lv_iload_n hx hb d_Md_begins_65 rfl (lv_at hl 1 rfl) ?_
    obtain ⟨q6, hc, hf⟩ := pv_b hf
    refine pv_callSi C hmv pv_good hP hS (As := [.int x1]) (rest := []) (c_Md_isDigit C.2.2.2.2.2.2.1 hmv hc) cs_Md_179 ⟨rfl, rfl, Nat.le_trans (Nat.le_of_ble_eq_true rfl) hRf, Nat.le_trans (Nat.le_of_ble_eq_true rfl) hRl⟩ rfl hl.1 rfl (Nat.le_of_ble_eq_true rfl) d_Md_begins_66 ⟨Nat.zero_le _, Nat.zero_le _⟩ (fun H locs hP hS => ?_)
    refine lv_if_ne (tgt := 79) hx hb d_Md_begins_69 (by decide) (fun h => ?_) (fun h => ?_)
    · have hf := pv_f hf h
      refine lv_iconst (v := (1 : Int32)) hx hb d_Md_begins_79 (by decide) ?_
      refine lv_goto (tgt := 84) hx hb d_Md_begins_80 (by decide) ?_
      obtain rfl := Option.some.inj hf
      exact hret _ _ _ _ d_Md_begins_84 rfl hP hS
    · have hf := pv_t hf h
      refine lv_aload_n hx hb d_Md_begins_72 rfl (lv_at hl 0 rfl) ?_
      refine pv_get C hP (v := .int (q6.2.1 0 14)) (j := 14) (by decide) (fm_0 _ _ _ _) fl_Md_175 rfl d_Md_begins_73 ?_
      refine lv_if_eq (tgt := 83) hx hb d_Md_begins_76 (by decide) (fun h => ?_) (fun h => ?_)
      · have hf := pv_t hf h
        refine lv_iconst (v := (0 : Int32)) hx hb d_Md_begins_83 (by decide) ?_
        obtain rfl := Option.some.inj hf
        exact hret _ _ _ _ d_Md_begins_84 rfl hP hS
      · have hf := pv_f hf h
        refine lv_iconst (v := (1 : Int32)) hx hb d_Md_begins_79 (by decide) ?_
        refine lv_goto (tgt := 84) hx hb d_Md_begins_80 (by decide) ?_
        obtain rfl := Option.some.inj hf
        exact hret _ _ _ _ d_Md_begins_84 rfl hP hS
def f_Md_begins_12 (σ : pv_S) (x1 : Int32) (s0 : Int32) : Option (Int32 × pv_S) :=
  (if pv_z s0 = true then
((f_Md_isLetter (pv_uI σ 0 14 s0) x1).bind fun q1 =>
(if q1.1 = 0 then
  ((f_Md_isDigit q1.2 x1).bind fun q2 =>
(if q2.1 = 0 then
  f_Md_begins_58 (pv_uI q2.2 0 11 (9 : Int32)) x1
  else
  ((f_Md_first q2.2 (10 : Int32) (x1 - (48 : Int32))).bind fun q3 =>
f_Md_begins_58 q3 x1)))
  else
  ((f_Md_first q1.2 (7 : Int32) x1).bind fun q4 =>
f_Md_begins_58 q4 x1)))
  else none)
set_option maxHeartbeats 4000000 in
set_option maxRecDepth 100000 in
theorem s_Md_begins_12 {p : Program} {l : Launch} {e : Env} {R : Room} {s : State} {m : MethodId} {args : Array Value} {below : List Frame} {meth : Method} {c : Code} {Q : State → Prop} {D : va_G} {q : Nat → ClassId} {a : Nat → Nat} {A : Nat → Prop} (C : pv_C p s m args c prog_9_method_17_code 2 "PatchVoicesModel" pv_TB D pv_cl (pv_ty q) 36 a A (pv_ZM)) (hmv : pv_mv A (pv_ZM)) (hRf : 1 ≤ R.frames) (hRl : 22 ≤ R.locals) {out : (Int32 × pv_S)} (hret : pv_Rz p l e R s m args below meth c prog_9_method_17_code D pv_cl 36 a (pv_FM q a) A Q out) {σ : pv_S} {x1 : Int32} {s0 : Int32} {H : Heap} {locs : List Loc} {ls : Array Slot} (hl : lv_has ls 2 [(0, .ref (a 0)), (1, .int x1)]) (hP : pv_W D pv_cl 36 a (pv_FM q a) σ H) (hS : va_S A s.heap H locs) (hf : f_Md_begins_12 σ x1 s0 = some out) : W p l e R s m args below meth c H locs 0 0 Q (F0 m 12 ls [.int s0, .ref (a 0)]) := by
  unfold f_Md_begins_12 at hf
  have hx := C.1
  have hb := C.2.1
  obtain ⟨hg, hf⟩ := pv_g hf
  refine pv_putI C hP hS (x := s0) (by decide) (fm_0 _ _ _ _) fw_Md_175 (pv_z_nar hg) (pv_z_fit hg) (Nat.le_of_ble_eq_true rfl) (fms_0_14 _ _ _ _ _) d_Md_begins_12 (fun H locs hP hS => ?_)
  refine lv_iload_n hx hb d_Md_begins_15 rfl (lv_at hl 1 rfl) ?_
  obtain ⟨q1, hc, hf⟩ := pv_b hf
  refine pv_callSi C hmv pv_good hP hS (As := [.int x1]) (rest := []) (c_Md_isLetter C.2.2.2.2.2.2.1 hmv hc) cs_Md_151 ⟨rfl, rfl, Nat.le_trans (Nat.le_of_ble_eq_true rfl) hRf, Nat.le_trans (Nat.le_of_ble_eq_true rfl) hRl⟩ rfl hl.1 rfl (Nat.le_of_ble_eq_true rfl) d_Md_begins_16 ⟨Nat.zero_le _, Nat.zero_le _⟩ (fun H locs hP hS => ?_)
  refine lv_if_eq (tgt := 32) hx hb d_Md_begins_19 (by decide) (fun h => ?_) (fun h => ?_)
  · have hf := pv_t hf h
    refine lv_iload_n hx hb d_Md_begins_32 rfl (lv_at hl 1 rfl) ?_
    obtain ⟨q2, hc, hf⟩ := pv_b hf
    refine pv_callSi C hmv pv_good hP hS (As := [.int x1]) (rest := []) (c_Md_isDigit C.2.2.2.2.2.2.1 hmv hc) cs_Md_179 ⟨rfl, rfl, Nat.le_trans (Nat.le_of_ble_eq_true rfl) hRf, Nat.le_trans (Nat.le_of_ble_eq_true rfl) hRl⟩ rfl hl.1 rfl (Nat.le_of_ble_eq_true rfl) d_Md_begins_33 ⟨Nat.zero_le _, Nat.zero_le _⟩ (fun H locs hP hS => ?_)
    refine lv_if_eq (tgt := 52) hx hb d_Md_begins_36 (by decide) (fun h => ?_) (fun h => ?_)
    · have hf := pv_t hf h
      refine lv_aload_n hx hb d_Md_begins_52 rfl (lv_at hl 0 rfl) ?_
      refine lv_bipush (v := (9 : Int32)) hx hb d_Md_begins_53 (by decide) ?_
      refine pv_putI C hP hS (x := (9 : Int32)) (by decide) (fm_0 _ _ _ _) fw_Md_135 rfl rfl (Nat.le_of_ble_eq_true rfl) (fms_0_11 _ _ _ _ _) d_Md_begins_55 (fun H locs hP hS => ?_)
      exact s_Md_begins_58 C hmv hRf hRl hret (lv_sub hl [0, 1] rfl) hP hS hf
    · have hf := pv_f hf h
      refine lv_aload_n hx hb d_Md_begins_39 rfl (lv_at hl 0 rfl) ?_
      refine lv_bipush (v := (10 : Int32)) hx hb d_Md_begins_40 (by decide) ?_
      refine lv_iload_n hx hb d_Md_begins_42 rfl (lv_at hl 1 rfl) ?_
      refine lv_bipush (v := (48 : Int32)) hx hb d_Md_begins_43 (by decide) ?_
      refine lv_isub hx hb d_Md_begins_45 ?_
      obtain ⟨q3, hc, hf⟩ := pv_b hf
      refine pv_callVv C hmv pv_good hP hS (As := [.int (10 : Int32), .int (x1 - (48 : Int32))]) (rest := []) (by decide) (fm_0 _ _ _ _) rfl (c_Md_first C.2.2.2.2.2.2.1 hmv hc) cv_Md_147 ⟨rfl, rfl, Nat.le_trans (Nat.le_of_ble_eq_true rfl) hRf, Nat.le_trans (Nat.le_of_ble_eq_true rfl) hRl⟩ rfl hl.1 rfl (Nat.le_of_ble_eq_true rfl) d_Md_begins_46 ⟨Nat.zero_le _, Nat.zero_le _⟩ (fun H locs hP hS => ?_)
      refine lv_goto (tgt := 58) hx hb d_Md_begins_49 (by decide) ?_
      exact s_Md_begins_58 C hmv hRf hRl hret (lv_sub hl [0, 1] rfl) hP hS hf
  · have hf := pv_f hf h
    refine lv_aload_n hx hb d_Md_begins_22 rfl (lv_at hl 0 rfl) ?_
    refine lv_bipush (v := (7 : Int32)) hx hb d_Md_begins_23 (by decide) ?_
    refine lv_iload_n hx hb d_Md_begins_25 rfl (lv_at hl 1 rfl) ?_
    obtain ⟨q4, hc, hf⟩ := pv_b hf
    refine pv_callVv C hmv pv_good hP hS (As := [.int (7 : Int32), .int x1]) (rest := []) (by decide) (fm_0 _ _ _ _) rfl (c_Md_first C.2.2.2.2.2.2.1 hmv hc) cv_Md_147 ⟨rfl, rfl, Nat.le_trans (Nat.le_of_ble_eq_true rfl) hRf, Nat.le_trans (Nat.le_of_ble_eq_true rfl) hRl⟩ rfl hl.1 rfl (Nat.le_of_ble_eq_true rfl) d_Md_begins_26 ⟨Nat.zero_le _, Nat.zero_le _⟩ (fun H locs hP hS => ?_)
    refine lv_goto (tgt := 58) hx hb d_Md_begins_29 (by decide) ?_
    exact s_Md_begins_58 C hmv hRf hRl hret (lv_sub hl [0, 1] rfl) hP hS hf
def f_Md_begins_0 (σ : pv_S) (x1 : Int32) : Option (Int32 × pv_S) :=
  (if x1 = (45 : Int32) then
  f_Md_begins_12 σ x1 (1 : Int32)
  else
  f_Md_begins_12 σ x1 (0 : Int32))
set_option maxHeartbeats 4000000 in
set_option maxRecDepth 100000 in
theorem s_Md_begins_0 {p : Program} {l : Launch} {e : Env} {R : Room} {s : State} {m : MethodId} {args : Array Value} {below : List Frame} {meth : Method} {c : Code} {Q : State → Prop} {D : va_G} {q : Nat → ClassId} {a : Nat → Nat} {A : Nat → Prop} (C : pv_C p s m args c prog_9_method_17_code 2 "PatchVoicesModel" pv_TB D pv_cl (pv_ty q) 36 a A (pv_ZM)) (hmv : pv_mv A (pv_ZM)) (hRf : 1 ≤ R.frames) (hRl : 22 ≤ R.locals) {out : (Int32 × pv_S)} (hret : pv_Rz p l e R s m args below meth c prog_9_method_17_code D pv_cl 36 a (pv_FM q a) A Q out) {σ : pv_S} {x1 : Int32} {H : Heap} {locs : List Loc} {ls : Array Slot} (hl : lv_has ls 2 [(0, .ref (a 0)), (1, .int x1)]) (hP : pv_W D pv_cl 36 a (pv_FM q a) σ H) (hS : va_S A s.heap H locs) (hf : f_Md_begins_0 σ x1 = some out) : W p l e R s m args below meth c H locs 0 0 Q (F0 m 0 ls []) := by
  unfold f_Md_begins_0 at hf
  have hx := C.1
  have hb := C.2.1
  refine lv_aload_n hx hb d_Md_begins_0 rfl (lv_at hl 0 rfl) ?_
  refine lv_iload_n hx hb d_Md_begins_1 rfl (lv_at hl 1 rfl) ?_
  refine lv_bipush (v := (45 : Int32)) hx hb d_Md_begins_2 (by decide) ?_
  refine lv_icmp_ne (tgt := 11) hx hb d_Md_begins_4 (by decide) (fun h => ?_) (fun h => ?_)
  · have hf := pv_f hf h
    refine lv_iconst (v := (0 : Int32)) hx hb d_Md_begins_11 (by decide) ?_
    exact s_Md_begins_12 C hmv hRf hRl hret (lv_sub hl [0, 1] rfl) hP hS hf
  · have hf := pv_t hf h
    refine lv_iconst (v := (1 : Int32)) hx hb d_Md_begins_7 (by decide) ?_
    refine lv_goto (tgt := 12) hx hb d_Md_begins_8 (by decide) ?_
    exact s_Md_begins_12 C hmv hRf hRl hret (lv_sub hl [0, 1] rfl) hP hS hf
def f_Md_begins (σ : pv_S) (x1 : Int32) : Option (Int32 × pv_S) := f_Md_begins_0 σ x1
def rm_Md_begins : Room := { frames := 1, cells := 0, slots := 0, locals := 22 }
theorem c_Md_begins {l : Launch} {D : va_G} {q : Nat → ClassId} {a : Nat → Nat} {A : Nat → Prop} (hD : pv_D 36 a A) (hmv : pv_mv A (pv_ZM)) {σ : pv_S} {x1 : Int32} {out : (Int32 × pv_S)} (hf : f_Md_begins σ x1 = some out) : pv_Mi l y_Md_begins (Cond.code y_Md_begins prog_9_method_17_code 2 (some .boolean) :: pv_TB) rm_Md_begins D pv_cl (pv_ty q) 36 a (pv_FM q a) A (pv_ZM) [.ref (a 0), .int x1] σ out :=
  pv_ofZ (by decide) (Nat.le_of_ble_eq_true rfl) hD (fun p e s m args below meth c Q ls C hret hl hP => s_Md_begins_0 C hmv (Nat.le_refl _) (Nat.le_refl _) hret hl hP va_S.rf hf)
theorem d_Md_back8_0 : decode prog_9_method_19_code 0 = .ok (.aload_n 0, 1) := by decide +kernel
theorem d_Md_back8_1 : decode prog_9_method_19_code 1 = .ok (.iload_n 1, 1) := by decide +kernel
theorem d_Md_back8_2 : decode prog_9_method_19_code 2 = .ok (.bipush 44, 2) := by decide +kernel
theorem d_Md_back8_4 : decode prog_9_method_19_code 4 = .ok (.if_icmp .ne 8, 3) := by decide +kernel
theorem d_Md_back8_7 : decode prog_9_method_19_code 7 = .ok (.bipush 11, 2) := by decide +kernel
theorem d_Md_back8_9 : decode prog_9_method_19_code 9 = .ok (.goto 16, 3) := by decide +kernel
theorem d_Md_back8_12 : decode prog_9_method_19_code 12 = .ok (.iload_n 1, 1) := by decide +kernel
theorem d_Md_back8_13 : decode prog_9_method_19_code 13 = .ok (.bipush 41, 2) := by decide +kernel
theorem d_Md_back8_15 : decode prog_9_method_19_code 15 = .ok (.if_icmp .ne 8, 3) := by decide +kernel
theorem d_Md_back8_18 : decode prog_9_method_19_code 18 = .ok (.bipush 12, 2) := by decide +kernel
theorem d_Md_back8_20 : decode prog_9_method_19_code 20 = .ok (.goto 5, 3) := by decide +kernel
theorem d_Md_back8_23 : decode prog_9_method_19_code 23 = .ok (.bipush 8, 2) := by decide +kernel
theorem d_Md_back8_25 : decode prog_9_method_19_code 25 = .ok (.putfield 135, 3) := by decide +kernel
theorem d_Md_back8_28 : decode prog_9_method_19_code 28 = .ok (.iload_n 1, 1) := by decide +kernel
theorem d_Md_back8_29 : decode prog_9_method_19_code 29 = .ok (.bipush 32, 2) := by decide +kernel
theorem d_Md_back8_31 : decode prog_9_method_19_code 31 = .ok (.if_icmp .eq 28, 3) := by decide +kernel
theorem d_Md_back8_34 : decode prog_9_method_19_code 34 = .ok (.iload_n 1, 1) := by decide +kernel
theorem d_Md_back8_35 : decode prog_9_method_19_code 35 = .ok (.bipush 41, 2) := by decide +kernel
theorem d_Md_back8_37 : decode prog_9_method_19_code 37 = .ok (.if_icmp .eq 22, 3) := by decide +kernel
theorem d_Md_back8_40 : decode prog_9_method_19_code 40 = .ok (.iload_n 1, 1) := by decide +kernel
theorem d_Md_back8_41 : decode prog_9_method_19_code 41 = .ok (.bipush 44, 2) := by decide +kernel
theorem d_Md_back8_43 : decode prog_9_method_19_code 43 = .ok (.if_icmp .ne 20, 3) := by decide +kernel
theorem d_Md_back8_46 : decode prog_9_method_19_code 46 = .ok (.aload_n 0, 1) := by decide +kernel
theorem d_Md_back8_47 : decode prog_9_method_19_code 47 = .ok (.getfield 25, 3) := by decide +kernel
theorem d_Md_back8_50 : decode prog_9_method_19_code 50 = .ok (.aload_n 0, 1) := by decide +kernel
theorem d_Md_back8_51 : decode prog_9_method_19_code 51 = .ok (.getfield 144, 3) := by decide +kernel
theorem d_Md_back8_54 : decode prog_9_method_19_code 54 = .ok (.iaload, 1) := by decide +kernel
theorem d_Md_back8_55 : decode prog_9_method_19_code 55 = .ok (.iconst 4, 1) := by decide +kernel
theorem d_Md_back8_56 : decode prog_9_method_19_code 56 = .ok (.if_icmp .ge 7, 3) := by decide +kernel
theorem d_Md_back8_59 : decode prog_9_method_19_code 59 = .ok (.iconst 1, 1) := by decide +kernel
theorem d_Md_back8_60 : decode prog_9_method_19_code 60 = .ok (.goto 4, 3) := by decide +kernel
theorem d_Md_back8_63 : decode prog_9_method_19_code 63 = .ok (.iconst 0, 1) := by decide +kernel
theorem d_Md_back8_64 : decode prog_9_method_19_code 64 = .ok (.ireturn, 1) := by decide +kernel
def f_Md_back8_25 (σ : pv_S) (x1 : Int32) (s0 : Int32) : Option (Int32 × pv_S) :=
  (if x1 = (32 : Int32) then
  some ((1 : Int32), (pv_uI σ 0 11 s0))
  else
  (if x1 = (41 : Int32) then
  some ((1 : Int32), (pv_uI σ 0 11 s0))
  else
  (if x1 = (44 : Int32) then
  (if pv_in ((pv_uI σ 0 11 s0).1 0 5) 40 = true then
(if (4 : Int32) ≤ ((pv_uI σ 0 11 s0).1 6 (((pv_uI σ 0 11 s0).1 0 5)).toNatClampNeg) then
  some ((0 : Int32), (pv_uI σ 0 11 s0))
  else
  some ((1 : Int32), (pv_uI σ 0 11 s0)))
  else none)
  else
  some ((0 : Int32), (pv_uI σ 0 11 s0)))))
set_option maxHeartbeats 4000000 in
set_option maxRecDepth 100000 in
theorem s_Md_back8_25 {p : Program} {l : Launch} {e : Env} {R : Room} {s : State} {m : MethodId} {args : Array Value} {below : List Frame} {meth : Method} {c : Code} {Q : State → Prop} {D : va_G} {q : Nat → ClassId} {a : Nat → Nat} {A : Nat → Prop} (C : pv_C p s m args c prog_9_method_19_code 2 "PatchVoicesModel" pv_TB D pv_cl (pv_ty q) 36 a A (pv_ZM)) (hmv : pv_mv A (pv_ZM)) (hRf : 0 ≤ R.frames) (hRl : 0 ≤ R.locals) {out : (Int32 × pv_S)} (hret : pv_Rz p l e R s m args below meth c prog_9_method_19_code D pv_cl 36 a (pv_FM q a) A Q out) {σ : pv_S} {x1 : Int32} {s0 : Int32} {H : Heap} {locs : List Loc} {ls : Array Slot} (hl : lv_has ls 2 [(0, .ref (a 0)), (1, .int x1)]) (hP : pv_W D pv_cl 36 a (pv_FM q a) σ H) (hS : va_S A s.heap H locs) (hf : f_Md_back8_25 σ x1 s0 = some out) : W p l e R s m args below meth c H locs 0 0 Q (F0 m 25 ls [.int s0, .ref (a 0)]) := by
  unfold f_Md_back8_25 at hf
  have hx := C.1
  have hb := C.2.1
  refine pv_putI C hP hS (x := s0) (by decide) (fm_0 _ _ _ _) fw_Md_135 rfl rfl (Nat.le_of_ble_eq_true rfl) (fms_0_11 _ _ _ _ _) d_Md_back8_25 (fun H locs hP hS => ?_)
  refine lv_iload_n hx hb d_Md_back8_28 rfl (lv_at hl 1 rfl) ?_
  refine lv_bipush (v := (32 : Int32)) hx hb d_Md_back8_29 (by decide) ?_
  refine lv_icmp_eq (tgt := 59) hx hb d_Md_back8_31 (by decide) (fun h => ?_) (fun h => ?_)
  · have hf := pv_t hf h
    refine lv_iconst (v := (1 : Int32)) hx hb d_Md_back8_59 (by decide) ?_
    refine lv_goto (tgt := 64) hx hb d_Md_back8_60 (by decide) ?_
    obtain rfl := Option.some.inj hf
    exact hret _ _ _ _ d_Md_back8_64 rfl hP hS
  · have hf := pv_f hf h
    refine lv_iload_n hx hb d_Md_back8_34 rfl (lv_at hl 1 rfl) ?_
    refine lv_bipush (v := (41 : Int32)) hx hb d_Md_back8_35 (by decide) ?_
    refine lv_icmp_eq (tgt := 59) hx hb d_Md_back8_37 (by decide) (fun h => ?_) (fun h => ?_)
    · have hf := pv_t hf h
      refine lv_iconst (v := (1 : Int32)) hx hb d_Md_back8_59 (by decide) ?_
      refine lv_goto (tgt := 64) hx hb d_Md_back8_60 (by decide) ?_
      obtain rfl := Option.some.inj hf
      exact hret _ _ _ _ d_Md_back8_64 rfl hP hS
    · have hf := pv_f hf h
      refine lv_iload_n hx hb d_Md_back8_40 rfl (lv_at hl 1 rfl) ?_
      refine lv_bipush (v := (44 : Int32)) hx hb d_Md_back8_41 (by decide) ?_
      refine lv_icmp_ne (tgt := 63) hx hb d_Md_back8_43 (by decide) (fun h => ?_) (fun h => ?_)
      · have hf := pv_f hf h
        refine lv_iconst (v := (0 : Int32)) hx hb d_Md_back8_63 (by decide) ?_
        obtain rfl := Option.some.inj hf
        exact hret _ _ _ _ d_Md_back8_64 rfl hP hS
      · have hf := pv_t hf h
        refine lv_aload_n hx hb d_Md_back8_46 rfl (lv_at hl 0 rfl) ?_
        refine pv_get C hP (v := .ref (a 6)) (j := 8) (by decide) (fm_0 _ _ _ _) fl_Md_25 rfl d_Md_back8_47 ?_
        refine lv_aload_n hx hb d_Md_back8_50 rfl (lv_at hl 0 rfl) ?_
        refine pv_get C hP (v := .int ((pv_uI σ 0 11 s0).1 0 5)) (j := 5) (by decide) (fm_0 _ _ _ _) fl_Md_144 rfl d_Md_back8_51 ?_
        obtain ⟨hg, hf⟩ := pv_g hf
        refine pv_iald C hP (t0 := 0) (by decide) (fm_6 _ _ _ _) rfl hg d_Md_back8_54 ?_
        refine lv_iconst (v := (4 : Int32)) hx hb d_Md_back8_55 (by decide) ?_
        refine lv_icmp_ge (tgt := 63) hx hb d_Md_back8_56 (by decide) (fun h => ?_) (fun h => ?_)
        · have hf := pv_t hf h
          refine lv_iconst (v := (0 : Int32)) hx hb d_Md_back8_63 (by decide) ?_
          obtain rfl := Option.some.inj hf
          exact hret _ _ _ _ d_Md_back8_64 rfl hP hS
        · have hf := pv_f hf h
          refine lv_iconst (v := (1 : Int32)) hx hb d_Md_back8_59 (by decide) ?_
          refine lv_goto (tgt := 64) hx hb d_Md_back8_60 (by decide) ?_
          obtain rfl := Option.some.inj hf
          exact hret _ _ _ _ d_Md_back8_64 rfl hP hS
def f_Md_back8_0 (σ : pv_S) (x1 : Int32) : Option (Int32 × pv_S) :=
  (if x1 = (44 : Int32) then
  f_Md_back8_25 σ x1 (11 : Int32)
  else
  (if x1 = (41 : Int32) then
  f_Md_back8_25 σ x1 (12 : Int32)
  else
  f_Md_back8_25 σ x1 (8 : Int32)))
set_option maxHeartbeats 4000000 in
set_option maxRecDepth 100000 in
theorem s_Md_back8_0 {p : Program} {l : Launch} {e : Env} {R : Room} {s : State} {m : MethodId} {args : Array Value} {below : List Frame} {meth : Method} {c : Code} {Q : State → Prop} {D : va_G} {q : Nat → ClassId} {a : Nat → Nat} {A : Nat → Prop} (C : pv_C p s m args c prog_9_method_19_code 2 "PatchVoicesModel" pv_TB D pv_cl (pv_ty q) 36 a A (pv_ZM)) (hmv : pv_mv A (pv_ZM)) (hRf : 0 ≤ R.frames) (hRl : 0 ≤ R.locals) {out : (Int32 × pv_S)} (hret : pv_Rz p l e R s m args below meth c prog_9_method_19_code D pv_cl 36 a (pv_FM q a) A Q out) {σ : pv_S} {x1 : Int32} {H : Heap} {locs : List Loc} {ls : Array Slot} (hl : lv_has ls 2 [(0, .ref (a 0)), (1, .int x1)]) (hP : pv_W D pv_cl 36 a (pv_FM q a) σ H) (hS : va_S A s.heap H locs) (hf : f_Md_back8_0 σ x1 = some out) : W p l e R s m args below meth c H locs 0 0 Q (F0 m 0 ls []) := by
  unfold f_Md_back8_0 at hf
  have hx := C.1
  have hb := C.2.1
  refine lv_aload_n hx hb d_Md_back8_0 rfl (lv_at hl 0 rfl) ?_
  refine lv_iload_n hx hb d_Md_back8_1 rfl (lv_at hl 1 rfl) ?_
  refine lv_bipush (v := (44 : Int32)) hx hb d_Md_back8_2 (by decide) ?_
  refine lv_icmp_ne (tgt := 12) hx hb d_Md_back8_4 (by decide) (fun h => ?_) (fun h => ?_)
  · have hf := pv_f hf h
    refine lv_iload_n hx hb d_Md_back8_12 rfl (lv_at hl 1 rfl) ?_
    refine lv_bipush (v := (41 : Int32)) hx hb d_Md_back8_13 (by decide) ?_
    refine lv_icmp_ne (tgt := 23) hx hb d_Md_back8_15 (by decide) (fun h => ?_) (fun h => ?_)
    · have hf := pv_f hf h
      refine lv_bipush (v := (8 : Int32)) hx hb d_Md_back8_23 (by decide) ?_
      exact s_Md_back8_25 C hmv hRf hRl hret (lv_sub hl [0, 1] rfl) hP hS hf
    · have hf := pv_t hf h
      refine lv_bipush (v := (12 : Int32)) hx hb d_Md_back8_18 (by decide) ?_
      refine lv_goto (tgt := 25) hx hb d_Md_back8_20 (by decide) ?_
      exact s_Md_back8_25 C hmv hRf hRl hret (lv_sub hl [0, 1] rfl) hP hS hf
  · have hf := pv_t hf h
    refine lv_bipush (v := (11 : Int32)) hx hb d_Md_back8_7 (by decide) ?_
    refine lv_goto (tgt := 25) hx hb d_Md_back8_9 (by decide) ?_
    exact s_Md_back8_25 C hmv hRf hRl hret (lv_sub hl [0, 1] rfl) hP hS hf
def f_Md_back8 (σ : pv_S) (x1 : Int32) : Option (Int32 × pv_S) := f_Md_back8_0 σ x1
def rm_Md_back8 : Room := { frames := 0, cells := 0, slots := 0, locals := 0 }
theorem c_Md_back8 {l : Launch} {D : va_G} {q : Nat → ClassId} {a : Nat → Nat} {A : Nat → Prop} (hD : pv_D 36 a A) (hmv : pv_mv A (pv_ZM)) {σ : pv_S} {x1 : Int32} {out : (Int32 × pv_S)} (hf : f_Md_back8 σ x1 = some out) : pv_Mi l y_Md_back8 (Cond.code y_Md_back8 prog_9_method_19_code 2 (some .boolean) :: pv_TB) rm_Md_back8 D pv_cl (pv_ty q) 36 a (pv_FM q a) A (pv_ZM) [.ref (a 0), .int x1] σ out :=
  pv_ofZ (by decide) (Nat.le_of_ble_eq_true rfl) hD (fun p e s m args below meth c Q ls C hret hl hP => s_Md_back8_0 C hmv (Nat.le_refl _) (Nat.le_refl _) hret hl hP va_S.rf hf)
theorem d_Md_back12_0 : decode prog_9_method_20_code 0 = .ok (.iload_n 1, 1) := by decide +kernel
theorem d_Md_back12_1 : decode prog_9_method_20_code 1 = .ok (.bipush 59, 2) := by decide +kernel
theorem d_Md_back12_3 : decode prog_9_method_20_code 3 = .ok (.if_icmp .ne 18, 3) := by decide +kernel
theorem d_Md_back12_6 : decode prog_9_method_20_code 6 = .ok (.aload_n 0, 1) := by decide +kernel
theorem d_Md_back12_7 : decode prog_9_method_20_code 7 = .ok (.iconst 0, 1) := by decide +kernel
theorem d_Md_back12_8 : decode prog_9_method_20_code 8 = .ok (.putfield 135, 3) := by decide +kernel
theorem d_Md_back12_11 : decode prog_9_method_20_code 11 = .ok (.aload_n 0, 1) := by decide +kernel
theorem d_Md_back12_12 : decode prog_9_method_20_code 12 = .ok (.dup, 1) := by decide +kernel
theorem d_Md_back12_13 : decode prog_9_method_20_code 13 = .ok (.getfield 144, 3) := by decide +kernel
theorem d_Md_back12_16 : decode prog_9_method_20_code 16 = .ok (.iconst 1, 1) := by decide +kernel
theorem d_Md_back12_17 : decode prog_9_method_20_code 17 = .ok (.iadd, 1) := by decide +kernel
theorem d_Md_back12_18 : decode prog_9_method_20_code 18 = .ok (.putfield 144, 3) := by decide +kernel
theorem d_Md_back12_21 : decode prog_9_method_20_code 21 = .ok (.iload_n 1, 1) := by decide +kernel
theorem d_Md_back12_22 : decode prog_9_method_20_code 22 = .ok (.bipush 59, 2) := by decide +kernel
theorem d_Md_back12_24 : decode prog_9_method_20_code 24 = .ok (.if_icmp .eq 9, 3) := by decide +kernel
theorem d_Md_back12_27 : decode prog_9_method_20_code 27 = .ok (.iload_n 1, 1) := by decide +kernel
theorem d_Md_back12_28 : decode prog_9_method_20_code 28 = .ok (.bipush 32, 2) := by decide +kernel
theorem d_Md_back12_30 : decode prog_9_method_20_code 30 = .ok (.if_icmp .ne 7, 3) := by decide +kernel
theorem d_Md_back12_33 : decode prog_9_method_20_code 33 = .ok (.iconst 1, 1) := by decide +kernel
theorem d_Md_back12_34 : decode prog_9_method_20_code 34 = .ok (.goto 4, 3) := by decide +kernel
theorem d_Md_back12_37 : decode prog_9_method_20_code 37 = .ok (.iconst 0, 1) := by decide +kernel
theorem d_Md_back12_38 : decode prog_9_method_20_code 38 = .ok (.ireturn, 1) := by decide +kernel
def f_Md_back12_21 (σ : pv_S) (x1 : Int32) : Option (Int32 × pv_S) :=
  (if x1 = (59 : Int32) then
  some ((1 : Int32), σ)
  else
  (if x1 = (32 : Int32) then
  some ((1 : Int32), σ)
  else
  some ((0 : Int32), σ)))
set_option maxHeartbeats 4000000 in
set_option maxRecDepth 100000 in
theorem s_Md_back12_21 {p : Program} {l : Launch} {e : Env} {R : Room} {s : State} {m : MethodId} {args : Array Value} {below : List Frame} {meth : Method} {c : Code} {Q : State → Prop} {D : va_G} {q : Nat → ClassId} {a : Nat → Nat} {A : Nat → Prop} (C : pv_C p s m args c prog_9_method_20_code 2 "PatchVoicesModel" pv_TB D pv_cl (pv_ty q) 36 a A (pv_ZM)) (hmv : pv_mv A (pv_ZM)) (hRf : 0 ≤ R.frames) (hRl : 0 ≤ R.locals) {out : (Int32 × pv_S)} (hret : pv_Rz p l e R s m args below meth c prog_9_method_20_code D pv_cl 36 a (pv_FM q a) A Q out) {σ : pv_S} {x1 : Int32} {H : Heap} {locs : List Loc} {ls : Array Slot} (hl : lv_has ls 2 [(1, .int x1)]) (hP : pv_W D pv_cl 36 a (pv_FM q a) σ H) (hS : va_S A s.heap H locs) (hf : f_Md_back12_21 σ x1 = some out) : W p l e R s m args below meth c H locs 0 0 Q (F0 m 21 ls []) := by
  unfold f_Md_back12_21 at hf
  have hx := C.1
  have hb := C.2.1
  refine lv_iload_n hx hb d_Md_back12_21 rfl (lv_at hl 0 rfl) ?_
  refine lv_bipush (v := (59 : Int32)) hx hb d_Md_back12_22 (by decide) ?_
  refine lv_icmp_eq (tgt := 33) hx hb d_Md_back12_24 (by decide) (fun h => ?_) (fun h => ?_)
  · have hf := pv_t hf h
    refine lv_iconst (v := (1 : Int32)) hx hb d_Md_back12_33 (by decide) ?_
    refine lv_goto (tgt := 38) hx hb d_Md_back12_34 (by decide) ?_
    obtain rfl := Option.some.inj hf
    exact hret _ _ _ _ d_Md_back12_38 rfl hP hS
  · have hf := pv_f hf h
    refine lv_iload_n hx hb d_Md_back12_27 rfl (lv_at hl 0 rfl) ?_
    refine lv_bipush (v := (32 : Int32)) hx hb d_Md_back12_28 (by decide) ?_
    refine lv_icmp_ne (tgt := 37) hx hb d_Md_back12_30 (by decide) (fun h => ?_) (fun h => ?_)
    · have hf := pv_f hf h
      refine lv_iconst (v := (0 : Int32)) hx hb d_Md_back12_37 (by decide) ?_
      obtain rfl := Option.some.inj hf
      exact hret _ _ _ _ d_Md_back12_38 rfl hP hS
    · have hf := pv_t hf h
      refine lv_iconst (v := (1 : Int32)) hx hb d_Md_back12_33 (by decide) ?_
      refine lv_goto (tgt := 38) hx hb d_Md_back12_34 (by decide) ?_
      obtain rfl := Option.some.inj hf
      exact hret _ _ _ _ d_Md_back12_38 rfl hP hS
def f_Md_back12_0 (σ : pv_S) (x1 : Int32) : Option (Int32 × pv_S) :=
  (if x1 = (59 : Int32) then
  f_Md_back12_21 (pv_uI (pv_uI σ 0 11 (0 : Int32)) 0 5 (((pv_uI σ 0 11 (0 : Int32)).1 0 5) + (1 : Int32))) x1
  else
  f_Md_back12_21 σ x1)
set_option maxHeartbeats 4000000 in
set_option maxRecDepth 100000 in
theorem s_Md_back12_0 {p : Program} {l : Launch} {e : Env} {R : Room} {s : State} {m : MethodId} {args : Array Value} {below : List Frame} {meth : Method} {c : Code} {Q : State → Prop} {D : va_G} {q : Nat → ClassId} {a : Nat → Nat} {A : Nat → Prop} (C : pv_C p s m args c prog_9_method_20_code 2 "PatchVoicesModel" pv_TB D pv_cl (pv_ty q) 36 a A (pv_ZM)) (hmv : pv_mv A (pv_ZM)) (hRf : 0 ≤ R.frames) (hRl : 0 ≤ R.locals) {out : (Int32 × pv_S)} (hret : pv_Rz p l e R s m args below meth c prog_9_method_20_code D pv_cl 36 a (pv_FM q a) A Q out) {σ : pv_S} {x1 : Int32} {H : Heap} {locs : List Loc} {ls : Array Slot} (hl : lv_has ls 2 [(0, .ref (a 0)), (1, .int x1)]) (hP : pv_W D pv_cl 36 a (pv_FM q a) σ H) (hS : va_S A s.heap H locs) (hf : f_Md_back12_0 σ x1 = some out) : W p l e R s m args below meth c H locs 0 0 Q (F0 m 0 ls []) := by
  unfold f_Md_back12_0 at hf
  have hx := C.1
  have hb := C.2.1
  refine lv_iload_n hx hb d_Md_back12_0 rfl (lv_at hl 1 rfl) ?_
  refine lv_bipush (v := (59 : Int32)) hx hb d_Md_back12_1 (by decide) ?_
  refine lv_icmp_ne (tgt := 21) hx hb d_Md_back12_3 (by decide) (fun h => ?_) (fun h => ?_)
  · have hf := pv_f hf h
    exact s_Md_back12_21 C hmv hRf hRl hret (lv_sub hl [1] rfl) hP hS hf
  · have hf := pv_t hf h
    refine lv_aload_n hx hb d_Md_back12_6 rfl (lv_at hl 0 rfl) ?_
    refine lv_iconst (v := (0 : Int32)) hx hb d_Md_back12_7 (by decide) ?_
    refine pv_putI C hP hS (x := (0 : Int32)) (by decide) (fm_0 _ _ _ _) fw_Md_135 rfl rfl (Nat.le_of_ble_eq_true rfl) (fms_0_11 _ _ _ _ _) d_Md_back12_8 (fun H locs hP hS => ?_)
    refine lv_aload_n hx hb d_Md_back12_11 rfl (lv_at hl 0 rfl) ?_
    refine lv_dup hx hb d_Md_back12_12 rfl ?_
    refine pv_get C hP (v := .int ((pv_uI σ 0 11 (0 : Int32)).1 0 5)) (j := 5) (by decide) (fm_0 _ _ _ _) fl_Md_144 rfl d_Md_back12_13 ?_
    refine lv_iconst (v := (1 : Int32)) hx hb d_Md_back12_16 (by decide) ?_
    refine lv_iadd hx hb d_Md_back12_17 ?_
    refine pv_putI C hP hS (x := (((pv_uI σ 0 11 (0 : Int32)).1 0 5) + (1 : Int32))) (by decide) (fm_0 _ _ _ _) fw_Md_144 rfl rfl (Nat.le_of_ble_eq_true rfl) (fms_0_5 _ _ _ _ _) d_Md_back12_18 (fun H locs hP hS => ?_)
    exact s_Md_back12_21 C hmv hRf hRl hret (lv_sub hl [1] rfl) hP hS hf
def f_Md_back12 (σ : pv_S) (x1 : Int32) : Option (Int32 × pv_S) := f_Md_back12_0 σ x1
def rm_Md_back12 : Room := { frames := 0, cells := 0, slots := 0, locals := 0 }
theorem c_Md_back12 {l : Launch} {D : va_G} {q : Nat → ClassId} {a : Nat → Nat} {A : Nat → Prop} (hD : pv_D 36 a A) (hmv : pv_mv A (pv_ZM)) {σ : pv_S} {x1 : Int32} {out : (Int32 × pv_S)} (hf : f_Md_back12 σ x1 = some out) : pv_Mi l y_Md_back12 (Cond.code y_Md_back12 prog_9_method_20_code 2 (some .boolean) :: pv_TB) rm_Md_back12 D pv_cl (pv_ty q) 36 a (pv_FM q a) A (pv_ZM) [.ref (a 0), .int x1] σ out :=
  pv_ofZ (by decide) (Nat.le_of_ble_eq_true rfl) hD (fun p e s m args below meth c Q ls C hret hl hP => s_Md_back12_0 C hmv (Nat.le_refl _) (Nat.le_refl _) hret hl hP va_S.rf hf)
theorem d_Md_back_0 : decode prog_9_method_18_code 0 = .ok (.aload_n 0, 1) := by decide +kernel
theorem d_Md_back_1 : decode prog_9_method_18_code 1 = .ok (.getfield 135, 3) := by decide +kernel
theorem d_Md_back_4 : decode prog_9_method_18_code 4 = .ok (.tableswitch 242 (6) (11) #[40, 78, 107, 113, 128, 222], 40) := by decide +kernel
theorem d_Md_back_44 : decode prog_9_method_18_code 44 = .ok (.iload_n 1, 1) := by decide +kernel
theorem d_Md_back_45 : decode prog_9_method_18_code 45 = .ok (.bipush 41, 2) := by decide +kernel
theorem d_Md_back_47 : decode prog_9_method_18_code 47 = .ok (.if_icmp .ne 9, 3) := by decide +kernel
theorem d_Md_back_50 : decode prog_9_method_18_code 50 = .ok (.aload_n 0, 1) := by decide +kernel
theorem d_Md_back_51 : decode prog_9_method_18_code 51 = .ok (.bipush 12, 2) := by decide +kernel
theorem d_Md_back_53 : decode prog_9_method_18_code 53 = .ok (.putfield 135, 3) := by decide +kernel
theorem d_Md_back_56 : decode prog_9_method_18_code 56 = .ok (.iload_n 1, 1) := by decide +kernel
theorem d_Md_back_57 : decode prog_9_method_18_code 57 = .ok (.bipush 32, 2) := by decide +kernel
theorem d_Md_back_59 : decode prog_9_method_18_code 59 = .ok (.if_icmp .eq 17, 3) := by decide +kernel
theorem d_Md_back_62 : decode prog_9_method_18_code 62 = .ok (.iload_n 1, 1) := by decide +kernel
theorem d_Md_back_63 : decode prog_9_method_18_code 63 = .ok (.bipush 41, 2) := by decide +kernel
theorem d_Md_back_65 : decode prog_9_method_18_code 65 = .ok (.if_icmp .eq 11, 3) := by decide +kernel
theorem d_Md_back_68 : decode prog_9_method_18_code 68 = .ok (.aload_n 0, 1) := by decide +kernel
theorem d_Md_back_69 : decode prog_9_method_18_code 69 = .ok (.iload_n 1, 1) := by decide +kernel
theorem d_Md_back_70 : decode prog_9_method_18_code 70 = .ok (.invokevirtual 182, 3) := by decide +kernel
theorem d_Md_back_73 : decode prog_9_method_18_code 73 = .ok (.ifCond .eq 7, 3) := by decide +kernel
theorem d_Md_back_76 : decode prog_9_method_18_code 76 = .ok (.iconst 1, 1) := by decide +kernel
theorem d_Md_back_77 : decode prog_9_method_18_code 77 = .ok (.goto 4, 3) := by decide +kernel
theorem d_Md_back_80 : decode prog_9_method_18_code 80 = .ok (.iconst 0, 1) := by decide +kernel
theorem d_Md_back_81 : decode prog_9_method_18_code 81 = .ok (.ireturn, 1) := by decide +kernel
theorem d_Md_back_82 : decode prog_9_method_18_code 82 = .ok (.iload_n 1, 1) := by decide +kernel
theorem d_Md_back_83 : decode prog_9_method_18_code 83 = .ok (.invokestatic 151, 3) := by decide +kernel
theorem d_Md_back_86 : decode prog_9_method_18_code 86 = .ok (.ifCond .eq 10, 3) := by decide +kernel
theorem d_Md_back_89 : decode prog_9_method_18_code 89 = .ok (.aload_n 0, 1) := by decide +kernel
theorem d_Md_back_90 : decode prog_9_method_18_code 90 = .ok (.iload_n 1, 1) := by decide +kernel
theorem d_Md_back_91 : decode prog_9_method_18_code 91 = .ok (.iconst 4, 1) := by decide +kernel
theorem d_Md_back_92 : decode prog_9_method_18_code 92 = .ok (.invokevirtual 155, 3) := by decide +kernel
theorem d_Md_back_95 : decode prog_9_method_18_code 95 = .ok (.ireturn, 1) := by decide +kernel
theorem d_Md_back_96 : decode prog_9_method_18_code 96 = .ok (.aload_n 0, 1) := by decide +kernel
theorem d_Md_back_97 : decode prog_9_method_18_code 97 = .ok (.aload_n 0, 1) := by decide +kernel
theorem d_Md_back_98 : decode prog_9_method_18_code 98 = .ok (.getfield 141, 3) := by decide +kernel
theorem d_Md_back_101 : decode prog_9_method_18_code 101 = .ok (.iconst 0, 1) := by decide +kernel
theorem d_Md_back_102 : decode prog_9_method_18_code 102 = .ok (.invokevirtual 185, 3) := by decide +kernel
theorem d_Md_back_105 : decode prog_9_method_18_code 105 = .ok (.aload_n 0, 1) := by decide +kernel
theorem d_Md_back_106 : decode prog_9_method_18_code 106 = .ok (.iload_n 1, 1) := by decide +kernel
theorem d_Md_back_107 : decode prog_9_method_18_code 107 = .ok (.invokevirtual 188, 3) := by decide +kernel
theorem d_Md_back_110 : decode prog_9_method_18_code 110 = .ok (.ireturn, 1) := by decide +kernel
theorem d_Md_back_111 : decode prog_9_method_18_code 111 = .ok (.aload_n 0, 1) := by decide +kernel
theorem d_Md_back_112 : decode prog_9_method_18_code 112 = .ok (.iload_n 1, 1) := by decide +kernel
theorem d_Md_back_113 : decode prog_9_method_18_code 113 = .ok (.invokevirtual 188, 3) := by decide +kernel
theorem d_Md_back_116 : decode prog_9_method_18_code 116 = .ok (.ireturn, 1) := by decide +kernel
theorem d_Md_back_117 : decode prog_9_method_18_code 117 = .ok (.aload_n 0, 1) := by decide +kernel
theorem d_Md_back_118 : decode prog_9_method_18_code 118 = .ok (.bipush 10, 2) := by decide +kernel
theorem d_Md_back_120 : decode prog_9_method_18_code 120 = .ok (.iload_n 1, 1) := by decide +kernel
theorem d_Md_back_121 : decode prog_9_method_18_code 121 = .ok (.bipush 48, 2) := by decide +kernel
theorem d_Md_back_123 : decode prog_9_method_18_code 123 = .ok (.isub, 1) := by decide +kernel
theorem d_Md_back_124 : decode prog_9_method_18_code 124 = .ok (.invokevirtual 147, 3) := by decide +kernel
theorem d_Md_back_127 : decode prog_9_method_18_code 127 = .ok (.iload_n 1, 1) := by decide +kernel
theorem d_Md_back_128 : decode prog_9_method_18_code 128 = .ok (.invokestatic 179, 3) := by decide +kernel
theorem d_Md_back_131 : decode prog_9_method_18_code 131 = .ok (.ireturn, 1) := by decide +kernel
theorem d_Md_back_132 : decode prog_9_method_18_code 132 = .ok (.iload_n 1, 1) := by decide +kernel
theorem d_Md_back_133 : decode prog_9_method_18_code 133 = .ok (.invokestatic 179, 3) := by decide +kernel
theorem d_Md_back_136 : decode prog_9_method_18_code 136 = .ok (.ifCond .eq 60, 3) := by decide +kernel
theorem d_Md_back_139 : decode prog_9_method_18_code 139 = .ok (.aload_n 0, 1) := by decide +kernel
theorem d_Md_back_140 : decode prog_9_method_18_code 140 = .ok (.aload_n 0, 1) := by decide +kernel
theorem d_Md_back_141 : decode prog_9_method_18_code 141 = .ok (.getfield 138, 3) := by decide +kernel
theorem d_Md_back_144 : decode prog_9_method_18_code 144 = .ok (.bipush 9, 2) := by decide +kernel
theorem d_Md_back_146 : decode prog_9_method_18_code 146 = .ok (.if_icmp .ge 18, 3) := by decide +kernel
theorem d_Md_back_149 : decode prog_9_method_18_code 149 = .ok (.bipush 10, 2) := by decide +kernel
theorem d_Md_back_151 : decode prog_9_method_18_code 151 = .ok (.aload_n 0, 1) := by decide +kernel
theorem d_Md_back_152 : decode prog_9_method_18_code 152 = .ok (.getfield 141, 3) := by decide +kernel
theorem d_Md_back_155 : decode prog_9_method_18_code 155 = .ok (.imul, 1) := by decide +kernel
theorem d_Md_back_156 : decode prog_9_method_18_code 156 = .ok (.iload_n 1, 1) := by decide +kernel
theorem d_Md_back_157 : decode prog_9_method_18_code 157 = .ok (.iadd, 1) := by decide +kernel
theorem d_Md_back_158 : decode prog_9_method_18_code 158 = .ok (.bipush 48, 2) := by decide +kernel
theorem d_Md_back_160 : decode prog_9_method_18_code 160 = .ok (.isub, 1) := by decide +kernel
theorem d_Md_back_161 : decode prog_9_method_18_code 161 = .ok (.goto 7, 3) := by decide +kernel
theorem d_Md_back_164 : decode prog_9_method_18_code 164 = .ok (.aload_n 0, 1) := by decide +kernel
theorem d_Md_back_165 : decode prog_9_method_18_code 165 = .ok (.getfield 141, 3) := by decide +kernel
theorem d_Md_back_168 : decode prog_9_method_18_code 168 = .ok (.putfield 141, 3) := by decide +kernel
theorem d_Md_back_171 : decode prog_9_method_18_code 171 = .ok (.aload_n 0, 1) := by decide +kernel
theorem d_Md_back_172 : decode prog_9_method_18_code 172 = .ok (.dup, 1) := by decide +kernel
theorem d_Md_back_173 : decode prog_9_method_18_code 173 = .ok (.getfield 138, 3) := by decide +kernel
theorem d_Md_back_176 : decode prog_9_method_18_code 176 = .ok (.iconst 1, 1) := by decide +kernel
theorem d_Md_back_177 : decode prog_9_method_18_code 177 = .ok (.iadd, 1) := by decide +kernel
theorem d_Md_back_178 : decode prog_9_method_18_code 178 = .ok (.putfield 138, 3) := by decide +kernel
theorem d_Md_back_181 : decode prog_9_method_18_code 181 = .ok (.aload_n 0, 1) := by decide +kernel
theorem d_Md_back_182 : decode prog_9_method_18_code 182 = .ok (.getfield 138, 3) := by decide +kernel
theorem d_Md_back_185 : decode prog_9_method_18_code 185 = .ok (.bipush 9, 2) := by decide +kernel
theorem d_Md_back_187 : decode prog_9_method_18_code 187 = .ok (.if_icmp .gt 7, 3) := by decide +kernel
theorem d_Md_back_190 : decode prog_9_method_18_code 190 = .ok (.iconst 1, 1) := by decide +kernel
theorem d_Md_back_191 : decode prog_9_method_18_code 191 = .ok (.goto 4, 3) := by decide +kernel
theorem d_Md_back_194 : decode prog_9_method_18_code 194 = .ok (.iconst 0, 1) := by decide +kernel
theorem d_Md_back_195 : decode prog_9_method_18_code 195 = .ok (.ireturn, 1) := by decide +kernel
theorem d_Md_back_196 : decode prog_9_method_18_code 196 = .ok (.aload_n 0, 1) := by decide +kernel
theorem d_Md_back_197 : decode prog_9_method_18_code 197 = .ok (.iconst 0, 1) := by decide +kernel
theorem d_Md_back_198 : decode prog_9_method_18_code 198 = .ok (.aload_n 0, 1) := by decide +kernel
theorem d_Md_back_199 : decode prog_9_method_18_code 199 = .ok (.getfield 175, 3) := by decide +kernel
theorem d_Md_back_202 : decode prog_9_method_18_code 202 = .ok (.ifCond .eq 11, 3) := by decide +kernel
theorem d_Md_back_205 : decode prog_9_method_18_code 205 = .ok (.aload_n 0, 1) := by decide +kernel
theorem d_Md_back_206 : decode prog_9_method_18_code 206 = .ok (.getfield 141, 3) := by decide +kernel
theorem d_Md_back_209 : decode prog_9_method_18_code 209 = .ok (.ineg, 1) := by decide +kernel
theorem d_Md_back_210 : decode prog_9_method_18_code 210 = .ok (.goto 7, 3) := by decide +kernel
theorem d_Md_back_213 : decode prog_9_method_18_code 213 = .ok (.aload_n 0, 1) := by decide +kernel
theorem d_Md_back_214 : decode prog_9_method_18_code 214 = .ok (.getfield 141, 3) := by decide +kernel
theorem d_Md_back_217 : decode prog_9_method_18_code 217 = .ok (.invokevirtual 185, 3) := by decide +kernel
theorem d_Md_back_220 : decode prog_9_method_18_code 220 = .ok (.aload_n 0, 1) := by decide +kernel
theorem d_Md_back_221 : decode prog_9_method_18_code 221 = .ok (.iload_n 1, 1) := by decide +kernel
theorem d_Md_back_222 : decode prog_9_method_18_code 222 = .ok (.invokevirtual 188, 3) := by decide +kernel
theorem d_Md_back_225 : decode prog_9_method_18_code 225 = .ok (.ireturn, 1) := by decide +kernel
theorem d_Md_back_226 : decode prog_9_method_18_code 226 = .ok (.iload_n 1, 1) := by decide +kernel
theorem d_Md_back_227 : decode prog_9_method_18_code 227 = .ok (.bipush 32, 2) := by decide +kernel
theorem d_Md_back_229 : decode prog_9_method_18_code 229 = .ok (.if_icmp .eq 11, 3) := by decide +kernel
theorem d_Md_back_232 : decode prog_9_method_18_code 232 = .ok (.aload_n 0, 1) := by decide +kernel
theorem d_Md_back_233 : decode prog_9_method_18_code 233 = .ok (.iload_n 1, 1) := by decide +kernel
theorem d_Md_back_234 : decode prog_9_method_18_code 234 = .ok (.invokevirtual 182, 3) := by decide +kernel
theorem d_Md_back_237 : decode prog_9_method_18_code 237 = .ok (.ifCond .eq 7, 3) := by decide +kernel
theorem d_Md_back_240 : decode prog_9_method_18_code 240 = .ok (.iconst 1, 1) := by decide +kernel
theorem d_Md_back_241 : decode prog_9_method_18_code 241 = .ok (.goto 4, 3) := by decide +kernel
theorem d_Md_back_244 : decode prog_9_method_18_code 244 = .ok (.iconst 0, 1) := by decide +kernel
theorem d_Md_back_245 : decode prog_9_method_18_code 245 = .ok (.ireturn, 1) := by decide +kernel
theorem d_Md_back_246 : decode prog_9_method_18_code 246 = .ok (.aload_n 0, 1) := by decide +kernel
theorem d_Md_back_247 : decode prog_9_method_18_code 247 = .ok (.iload_n 1, 1) := by decide +kernel
theorem d_Md_back_248 : decode prog_9_method_18_code 248 = .ok (.invokevirtual 191, 3) := by decide +kernel
theorem d_Md_back_251 : decode prog_9_method_18_code 251 = .ok (.ireturn, 1) := by decide +kernel
def f_Md_back_217 (σ : pv_S) (x1 : Int32) (s0 : Int32) (s1 : Int32) : Option (Int32 × pv_S) :=
  ((f_Md_input σ s1 s0).bind fun q11 =>
((f_Md_back8 q11 x1).bind fun q12 =>
(if pv_z q12.1 = true then
some (q12.1, q12.2)
  else none)))
set_option maxHeartbeats 4000000 in
set_option maxRecDepth 100000 in
theorem s_Md_back_217 {p : Program} {l : Launch} {e : Env} {R : Room} {s : State} {m : MethodId} {args : Array Value} {below : List Frame} {meth : Method} {c : Code} {Q : State → Prop} {D : va_G} {q : Nat → ClassId} {a : Nat → Nat} {A : Nat → Prop} (C : pv_C p s m args c prog_9_method_18_code 2 "PatchVoicesModel" pv_TB D pv_cl (pv_ty q) 36 a A (pv_ZM)) (hmv : pv_mv A (pv_ZM)) (hRf : 2 ≤ R.frames) (hRl : 43 ≤ R.locals) {out : (Int32 × pv_S)} (hret : pv_Rz p l e R s m args below meth c prog_9_method_18_code D pv_cl 36 a (pv_FM q a) A Q out) {σ : pv_S} {x1 : Int32} {s0 : Int32} {s1 : Int32} {H : Heap} {locs : List Loc} {ls : Array Slot} (hl : lv_has ls 2 [(0, .ref (a 0)), (1, .int x1)]) (hP : pv_W D pv_cl 36 a (pv_FM q a) σ H) (hS : va_S A s.heap H locs) (hf : f_Md_back_217 σ x1 s0 s1 = some out) : W p l e R s m args below meth c H locs 0 0 Q (F0 m 217 ls [.int s0, .int s1, .ref (a 0)]) := by
  unfold f_Md_back_217 at hf
  have hx := C.1
  have hb := C.2.1
  obtain ⟨q11, hc, hf⟩ := pv_b hf
  refine pv_callVv C hmv pv_good hP hS (As := [.int s1, .int s0]) (rest := []) (by decide) (fm_0 _ _ _ _) rfl (c_Md_input C.2.2.2.2.2.2.1 hmv hc) cv_Md_185 ⟨rfl, rfl, Nat.le_trans (Nat.le_of_ble_eq_true rfl) hRf, Nat.le_trans (Nat.le_of_ble_eq_true rfl) hRl⟩ rfl hl.1 rfl (Nat.le_of_ble_eq_true rfl) d_Md_back_217 ⟨Nat.zero_le _, Nat.zero_le _⟩ (fun H locs hP hS => ?_)
  refine lv_aload_n hx hb d_Md_back_220 rfl (lv_at hl 0 rfl) ?_
  refine lv_iload_n hx hb d_Md_back_221 rfl (lv_at hl 1 rfl) ?_
  obtain ⟨q12, hc, hf⟩ := pv_b hf
  refine pv_callVi C hmv pv_good hP hS (As := [.int x1]) (rest := []) (by decide) (fm_0 _ _ _ _) rfl (c_Md_back8 C.2.2.2.2.2.2.1 hmv hc) cv_Md_188 ⟨rfl, rfl, Nat.le_trans (Nat.le_of_ble_eq_true rfl) hRf, Nat.le_trans (Nat.le_of_ble_eq_true rfl) hRl⟩ rfl hl.1 rfl (Nat.le_of_ble_eq_true rfl) d_Md_back_222 ⟨Nat.zero_le _, Nat.zero_le _⟩ (fun H locs hP hS => ?_)
  obtain ⟨hg, hf⟩ := pv_g hf
  obtain rfl := Option.some.inj hf
  exact hret _ _ _ _ d_Md_back_225 hg hP hS
def f_Md_back_168 (σ : pv_S) (s0 : Int32) : Option (Int32 × pv_S) :=
  (if (9 : Int32) < ((pv_uI (pv_uI σ 0 13 s0) 0 12 (((pv_uI σ 0 13 s0).1 0 12) + (1 : Int32))).1 0 12) then
  some ((0 : Int32), (pv_uI (pv_uI σ 0 13 s0) 0 12 (((pv_uI σ 0 13 s0).1 0 12) + (1 : Int32))))
  else
  some ((1 : Int32), (pv_uI (pv_uI σ 0 13 s0) 0 12 (((pv_uI σ 0 13 s0).1 0 12) + (1 : Int32)))))
set_option maxHeartbeats 4000000 in
set_option maxRecDepth 100000 in
theorem s_Md_back_168 {p : Program} {l : Launch} {e : Env} {R : Room} {s : State} {m : MethodId} {args : Array Value} {below : List Frame} {meth : Method} {c : Code} {Q : State → Prop} {D : va_G} {q : Nat → ClassId} {a : Nat → Nat} {A : Nat → Prop} (C : pv_C p s m args c prog_9_method_18_code 2 "PatchVoicesModel" pv_TB D pv_cl (pv_ty q) 36 a A (pv_ZM)) (hmv : pv_mv A (pv_ZM)) (hRf : 2 ≤ R.frames) (hRl : 43 ≤ R.locals) {out : (Int32 × pv_S)} (hret : pv_Rz p l e R s m args below meth c prog_9_method_18_code D pv_cl 36 a (pv_FM q a) A Q out) {σ : pv_S} {s0 : Int32} {H : Heap} {locs : List Loc} {ls : Array Slot} (hl : lv_has ls 2 [(0, .ref (a 0))]) (hP : pv_W D pv_cl 36 a (pv_FM q a) σ H) (hS : va_S A s.heap H locs) (hf : f_Md_back_168 σ s0 = some out) : W p l e R s m args below meth c H locs 0 0 Q (F0 m 168 ls [.int s0, .ref (a 0)]) := by
  unfold f_Md_back_168 at hf
  have hx := C.1
  have hb := C.2.1
  refine pv_putI C hP hS (x := s0) (by decide) (fm_0 _ _ _ _) fw_Md_141 rfl rfl (Nat.le_of_ble_eq_true rfl) (fms_0_13 _ _ _ _ _) d_Md_back_168 (fun H locs hP hS => ?_)
  refine lv_aload_n hx hb d_Md_back_171 rfl (lv_at hl 0 rfl) ?_
  refine lv_dup hx hb d_Md_back_172 rfl ?_
  refine pv_get C hP (v := .int ((pv_uI σ 0 13 s0).1 0 12)) (j := 12) (by decide) (fm_0 _ _ _ _) fl_Md_138 rfl d_Md_back_173 ?_
  refine lv_iconst (v := (1 : Int32)) hx hb d_Md_back_176 (by decide) ?_
  refine lv_iadd hx hb d_Md_back_177 ?_
  refine pv_putI C hP hS (x := (((pv_uI σ 0 13 s0).1 0 12) + (1 : Int32))) (by decide) (fm_0 _ _ _ _) fw_Md_138 rfl rfl (Nat.le_of_ble_eq_true rfl) (fms_0_12 _ _ _ _ _) d_Md_back_178 (fun H locs hP hS => ?_)
  refine lv_aload_n hx hb d_Md_back_181 rfl (lv_at hl 0 rfl) ?_
  refine pv_get C hP (v := .int ((pv_uI (pv_uI σ 0 13 s0) 0 12 (((pv_uI σ 0 13 s0).1 0 12) + (1 : Int32))).1 0 12)) (j := 12) (by decide) (fm_0 _ _ _ _) fl_Md_138 rfl d_Md_back_182 ?_
  refine lv_bipush (v := (9 : Int32)) hx hb d_Md_back_185 (by decide) ?_
  refine lv_icmp_gt (tgt := 194) hx hb d_Md_back_187 (by decide) (fun h => ?_) (fun h => ?_)
  · have hf := pv_t hf h
    refine lv_iconst (v := (0 : Int32)) hx hb d_Md_back_194 (by decide) ?_
    obtain rfl := Option.some.inj hf
    exact hret _ _ _ _ d_Md_back_195 rfl hP hS
  · have hf := pv_f hf h
    refine lv_iconst (v := (1 : Int32)) hx hb d_Md_back_190 (by decide) ?_
    refine lv_goto (tgt := 195) hx hb d_Md_back_191 (by decide) ?_
    obtain rfl := Option.some.inj hf
    exact hret _ _ _ _ d_Md_back_195 rfl hP hS
def f_Md_back_56 (σ : pv_S) (x1 : Int32) : Option (Int32 × pv_S) :=
  (if x1 = (32 : Int32) then
  some ((1 : Int32), σ)
  else
  (if x1 = (41 : Int32) then
  some ((1 : Int32), σ)
  else
  ((f_Md_begins σ x1).bind fun q13 =>
(if q13.1 = 0 then
  some ((0 : Int32), q13.2)
  else
  some ((1 : Int32), q13.2)))))
set_option maxHeartbeats 4000000 in
set_option maxRecDepth 100000 in
theorem s_Md_back_56 {p : Program} {l : Launch} {e : Env} {R : Room} {s : State} {m : MethodId} {args : Array Value} {below : List Frame} {meth : Method} {c : Code} {Q : State → Prop} {D : va_G} {q : Nat → ClassId} {a : Nat → Nat} {A : Nat → Prop} (C : pv_C p s m args c prog_9_method_18_code 2 "PatchVoicesModel" pv_TB D pv_cl (pv_ty q) 36 a A (pv_ZM)) (hmv : pv_mv A (pv_ZM)) (hRf : 2 ≤ R.frames) (hRl : 43 ≤ R.locals) {out : (Int32 × pv_S)} (hret : pv_Rz p l e R s m args below meth c prog_9_method_18_code D pv_cl 36 a (pv_FM q a) A Q out) {σ : pv_S} {x1 : Int32} {H : Heap} {locs : List Loc} {ls : Array Slot} (hl : lv_has ls 2 [(0, .ref (a 0)), (1, .int x1)]) (hP : pv_W D pv_cl 36 a (pv_FM q a) σ H) (hS : va_S A s.heap H locs) (hf : f_Md_back_56 σ x1 = some out) : W p l e R s m args below meth c H locs 0 0 Q (F0 m 56 ls []) := by
  unfold f_Md_back_56 at hf
  have hx := C.1
  have hb := C.2.1
  refine lv_iload_n hx hb d_Md_back_56 rfl (lv_at hl 1 rfl) ?_
  refine lv_bipush (v := (32 : Int32)) hx hb d_Md_back_57 (by decide) ?_
  refine lv_icmp_eq (tgt := 76) hx hb d_Md_back_59 (by decide) (fun h => ?_) (fun h => ?_)
  · have hf := pv_t hf h
    refine lv_iconst (v := (1 : Int32)) hx hb d_Md_back_76 (by decide) ?_
    refine lv_goto (tgt := 81) hx hb d_Md_back_77 (by decide) ?_
    obtain rfl := Option.some.inj hf
    exact hret _ _ _ _ d_Md_back_81 rfl hP hS
  · have hf := pv_f hf h
    refine lv_iload_n hx hb d_Md_back_62 rfl (lv_at hl 1 rfl) ?_
    refine lv_bipush (v := (41 : Int32)) hx hb d_Md_back_63 (by decide) ?_
    refine lv_icmp_eq (tgt := 76) hx hb d_Md_back_65 (by decide) (fun h => ?_) (fun h => ?_)
    · have hf := pv_t hf h
      refine lv_iconst (v := (1 : Int32)) hx hb d_Md_back_76 (by decide) ?_
      refine lv_goto (tgt := 81) hx hb d_Md_back_77 (by decide) ?_
      obtain rfl := Option.some.inj hf
      exact hret _ _ _ _ d_Md_back_81 rfl hP hS
    · have hf := pv_f hf h
      refine lv_aload_n hx hb d_Md_back_68 rfl (lv_at hl 0 rfl) ?_
      refine lv_iload_n hx hb d_Md_back_69 rfl (lv_at hl 1 rfl) ?_
      obtain ⟨q13, hc, hf⟩ := pv_b hf
      refine pv_callVi C hmv pv_good hP hS (As := [.int x1]) (rest := []) (by decide) (fm_0 _ _ _ _) rfl (c_Md_begins C.2.2.2.2.2.2.1 hmv hc) cv_Md_182 ⟨rfl, rfl, Nat.le_trans (Nat.le_of_ble_eq_true rfl) hRf, Nat.le_trans (Nat.le_of_ble_eq_true rfl) hRl⟩ rfl hl.1 rfl (Nat.le_of_ble_eq_true rfl) d_Md_back_70 ⟨Nat.zero_le _, Nat.zero_le _⟩ (fun H locs hP hS => ?_)
      refine lv_if_eq (tgt := 80) hx hb d_Md_back_73 (by decide) (fun h => ?_) (fun h => ?_)
      · have hf := pv_t hf h
        refine lv_iconst (v := (0 : Int32)) hx hb d_Md_back_80 (by decide) ?_
        obtain rfl := Option.some.inj hf
        exact hret _ _ _ _ d_Md_back_81 rfl hP hS
      · have hf := pv_f hf h
        refine lv_iconst (v := (1 : Int32)) hx hb d_Md_back_76 (by decide) ?_
        refine lv_goto (tgt := 81) hx hb d_Md_back_77 (by decide) ?_
        obtain rfl := Option.some.inj hf
        exact hret _ _ _ _ d_Md_back_81 rfl hP hS
def f_Md_back_0 (σ : pv_S) (x1 : Int32) : Option (Int32 × pv_S) :=
  (if (σ.1 0 11) = (6 : Int32) then
  (if x1 = (41 : Int32) then
  f_Md_back_56 (pv_uI σ 0 11 (12 : Int32)) x1
  else
  f_Md_back_56 σ x1)
  else
(if (σ.1 0 11) = (7 : Int32) then
  ((f_Md_isLetter σ x1).bind fun q1 =>
(if q1.1 = 0 then
  ((f_Md_input q1.2 (q1.2.1 0 13) (0 : Int32)).bind fun q2 =>
((f_Md_back8 q2 x1).bind fun q3 =>
(if pv_z q3.1 = true then
some (q3.1, q3.2)
  else none)))
  else
  ((f_Md_more q1.2 x1 (4 : Int32)).bind fun q4 =>
(if pv_z q4.1 = true then
some (q4.1, q4.2)
  else none))))
  else
(if (σ.1 0 11) = (8 : Int32) then
  ((f_Md_back8 σ x1).bind fun q5 =>
(if pv_z q5.1 = true then
some (q5.1, q5.2)
  else none))
  else
(if (σ.1 0 11) = (9 : Int32) then
  ((f_Md_first σ (10 : Int32) (x1 - (48 : Int32))).bind fun q6 =>
((f_Md_isDigit q6 x1).bind fun q7 =>
(if pv_z q7.1 = true then
some (q7.1, q7.2)
  else none)))
  else
(if (σ.1 0 11) = (10 : Int32) then
  ((f_Md_isDigit σ x1).bind fun q8 =>
(if q8.1 = 0 then
  (if (q8.2.1 0 14) = 0 then
  f_Md_back_217 q8.2 x1 (q8.2.1 0 13) (0 : Int32)
  else
  f_Md_back_217 q8.2 x1 (-(q8.2.1 0 13)) (0 : Int32))
  else
  (if (9 : Int32) ≤ (q8.2.1 0 12) then
  f_Md_back_168 q8.2 (q8.2.1 0 13)
  else
  f_Md_back_168 q8.2 ((((10 : Int32) * (q8.2.1 0 13)) + x1) - (48 : Int32)))))
  else
(if (σ.1 0 11) = (11 : Int32) then
  (if x1 = (32 : Int32) then
  some ((1 : Int32), σ)
  else
  ((f_Md_begins σ x1).bind fun q9 =>
(if q9.1 = 0 then
  some ((0 : Int32), q9.2)
  else
  some ((1 : Int32), q9.2))))
  else
  ((f_Md_back12 σ x1).bind fun q10 =>
(if pv_z q10.1 = true then
some (q10.1, q10.2)
  else none))))))))
set_option maxHeartbeats 4000000 in
set_option maxRecDepth 100000 in
theorem s_Md_back_0 {p : Program} {l : Launch} {e : Env} {R : Room} {s : State} {m : MethodId} {args : Array Value} {below : List Frame} {meth : Method} {c : Code} {Q : State → Prop} {D : va_G} {q : Nat → ClassId} {a : Nat → Nat} {A : Nat → Prop} (C : pv_C p s m args c prog_9_method_18_code 2 "PatchVoicesModel" pv_TB D pv_cl (pv_ty q) 36 a A (pv_ZM)) (hmv : pv_mv A (pv_ZM)) (hRf : 2 ≤ R.frames) (hRl : 43 ≤ R.locals) {out : (Int32 × pv_S)} (hret : pv_Rz p l e R s m args below meth c prog_9_method_18_code D pv_cl 36 a (pv_FM q a) A Q out) {σ : pv_S} {x1 : Int32} {H : Heap} {locs : List Loc} {ls : Array Slot} (hl : lv_has ls 2 [(0, .ref (a 0)), (1, .int x1)]) (hP : pv_W D pv_cl 36 a (pv_FM q a) σ H) (hS : va_S A s.heap H locs) (hf : f_Md_back_0 σ x1 = some out) : W p l e R s m args below meth c H locs 0 0 Q (F0 m 0 ls []) := by
  unfold f_Md_back_0 at hf
  have hx := C.1
  have hb := C.2.1
  refine lv_aload_n hx hb d_Md_back_0 rfl (lv_at hl 0 rfl) ?_
  refine pv_get C hP (v := .int (σ.1 0 11)) (j := 11) (by decide) (fm_0 _ _ _ _) fl_Md_135 rfl d_Md_back_1 ?_
  by_cases h6 : (σ.1 0 11) = (6 : Int32)
  · have hf := pv_t hf h6
    refine lv_tableIn (tgt := 44) hx hb d_Md_back_4 (by rw [h6]; decide) (by rw [h6]; decide) (by first | (rw [h6]; done) | (rw [h6]; rfl)) (by decide) ?_
    refine lv_iload_n hx hb d_Md_back_44 rfl (lv_at hl 1 rfl) ?_
    refine lv_bipush (v := (41 : Int32)) hx hb d_Md_back_45 (by decide) ?_
    refine lv_icmp_ne (tgt := 56) hx hb d_Md_back_47 (by decide) (fun h => ?_) (fun h => ?_)
    · have hf := pv_f hf h
      exact s_Md_back_56 C hmv hRf hRl hret (lv_sub hl [0, 1] rfl) hP hS hf
    · have hf := pv_t hf h
      refine lv_aload_n hx hb d_Md_back_50 rfl (lv_at hl 0 rfl) ?_
      refine lv_bipush (v := (12 : Int32)) hx hb d_Md_back_51 (by decide) ?_
      refine pv_putI C hP hS (x := (12 : Int32)) (by decide) (fm_0 _ _ _ _) fw_Md_135 rfl rfl (Nat.le_of_ble_eq_true rfl) (fms_0_11 _ _ _ _ _) d_Md_back_53 (fun H locs hP hS => ?_)
      exact s_Md_back_56 C hmv hRf hRl hret (lv_sub hl [0, 1] rfl) hP hS hf
  · have hf := pv_f hf h6
    by_cases h7 : (σ.1 0 11) = (7 : Int32)
    · have hf := pv_t hf h7
      refine lv_tableIn (tgt := 82) hx hb d_Md_back_4 (by rw [h7]; decide) (by rw [h7]; decide) (by first | (rw [h7]; done) | (rw [h7]; rfl)) (by decide) ?_
      refine lv_iload_n hx hb d_Md_back_82 rfl (lv_at hl 1 rfl) ?_
      obtain ⟨q1, hc, hf⟩ := pv_b hf
      refine pv_callSi C hmv pv_good hP hS (As := [.int x1]) (rest := []) (c_Md_isLetter C.2.2.2.2.2.2.1 hmv hc) cs_Md_151 ⟨rfl, rfl, Nat.le_trans (Nat.le_of_ble_eq_true rfl) hRf, Nat.le_trans (Nat.le_of_ble_eq_true rfl) hRl⟩ rfl hl.1 rfl (Nat.le_of_ble_eq_true rfl) d_Md_back_83 ⟨Nat.zero_le _, Nat.zero_le _⟩ (fun H locs hP hS => ?_)
      refine lv_if_eq (tgt := 96) hx hb d_Md_back_86 (by decide) (fun h => ?_) (fun h => ?_)
      · have hf := pv_t hf h
        refine lv_aload_n hx hb d_Md_back_96 rfl (lv_at hl 0 rfl) ?_
        refine lv_aload_n hx hb d_Md_back_97 rfl (lv_at hl 0 rfl) ?_
        refine pv_get C hP (v := .int (q1.2.1 0 13)) (j := 13) (by decide) (fm_0 _ _ _ _) fl_Md_141 rfl d_Md_back_98 ?_
        refine lv_iconst (v := (0 : Int32)) hx hb d_Md_back_101 (by decide) ?_
        obtain ⟨q2, hc, hf⟩ := pv_b hf
        refine pv_callVv C hmv pv_good hP hS (As := [.int (q1.2.1 0 13), .int (0 : Int32)]) (rest := []) (by decide) (fm_0 _ _ _ _) rfl (c_Md_input C.2.2.2.2.2.2.1 hmv hc) cv_Md_185 ⟨rfl, rfl, Nat.le_trans (Nat.le_of_ble_eq_true rfl) hRf, Nat.le_trans (Nat.le_of_ble_eq_true rfl) hRl⟩ rfl hl.1 rfl (Nat.le_of_ble_eq_true rfl) d_Md_back_102 ⟨Nat.zero_le _, Nat.zero_le _⟩ (fun H locs hP hS => ?_)
        refine lv_aload_n hx hb d_Md_back_105 rfl (lv_at hl 0 rfl) ?_
        refine lv_iload_n hx hb d_Md_back_106 rfl (lv_at hl 1 rfl) ?_
        obtain ⟨q3, hc, hf⟩ := pv_b hf
        refine pv_callVi C hmv pv_good hP hS (As := [.int x1]) (rest := []) (by decide) (fm_0 _ _ _ _) rfl (c_Md_back8 C.2.2.2.2.2.2.1 hmv hc) cv_Md_188 ⟨rfl, rfl, Nat.le_trans (Nat.le_of_ble_eq_true rfl) hRf, Nat.le_trans (Nat.le_of_ble_eq_true rfl) hRl⟩ rfl hl.1 rfl (Nat.le_of_ble_eq_true rfl) d_Md_back_107 ⟨Nat.zero_le _, Nat.zero_le _⟩ (fun H locs hP hS => ?_)
        obtain ⟨hg, hf⟩ := pv_g hf
        obtain rfl := Option.some.inj hf
        exact hret _ _ _ _ d_Md_back_110 hg hP hS
      · have hf := pv_f hf h
        refine lv_aload_n hx hb d_Md_back_89 rfl (lv_at hl 0 rfl) ?_
        refine lv_iload_n hx hb d_Md_back_90 rfl (lv_at hl 1 rfl) ?_
        refine lv_iconst (v := (4 : Int32)) hx hb d_Md_back_91 (by decide) ?_
        obtain ⟨q4, hc, hf⟩ := pv_b hf
        refine pv_callVi C hmv pv_good hP hS (As := [.int x1, .int (4 : Int32)]) (rest := []) (by decide) (fm_0 _ _ _ _) rfl (c_Md_more C.2.2.2.2.2.2.1 hmv hc) cv_Md_155 ⟨rfl, rfl, Nat.le_trans (Nat.le_of_ble_eq_true rfl) hRf, Nat.le_trans (Nat.le_of_ble_eq_true rfl) hRl⟩ rfl hl.1 rfl (Nat.le_of_ble_eq_true rfl) d_Md_back_92 ⟨Nat.zero_le _, Nat.zero_le _⟩ (fun H locs hP hS => ?_)
        obtain ⟨hg, hf⟩ := pv_g hf
        obtain rfl := Option.some.inj hf
        exact hret _ _ _ _ d_Md_back_95 hg hP hS
    · have hf := pv_f hf h7
      by_cases h8 : (σ.1 0 11) = (8 : Int32)
      · have hf := pv_t hf h8
        refine lv_tableIn (tgt := 111) hx hb d_Md_back_4 (by rw [h8]; decide) (by rw [h8]; decide) (by first | (rw [h8]; done) | (rw [h8]; rfl)) (by decide) ?_
        refine lv_aload_n hx hb d_Md_back_111 rfl (lv_at hl 0 rfl) ?_
        refine lv_iload_n hx hb d_Md_back_112 rfl (lv_at hl 1 rfl) ?_
        obtain ⟨q5, hc, hf⟩ := pv_b hf
        refine pv_callVi C hmv pv_good hP hS (As := [.int x1]) (rest := []) (by decide) (fm_0 _ _ _ _) rfl (c_Md_back8 C.2.2.2.2.2.2.1 hmv hc) cv_Md_188 ⟨rfl, rfl, Nat.le_trans (Nat.le_of_ble_eq_true rfl) hRf, Nat.le_trans (Nat.le_of_ble_eq_true rfl) hRl⟩ rfl hl.1 rfl (Nat.le_of_ble_eq_true rfl) d_Md_back_113 ⟨Nat.zero_le _, Nat.zero_le _⟩ (fun H locs hP hS => ?_)
        obtain ⟨hg, hf⟩ := pv_g hf
        obtain rfl := Option.some.inj hf
        exact hret _ _ _ _ d_Md_back_116 hg hP hS
      · have hf := pv_f hf h8
        by_cases h9 : (σ.1 0 11) = (9 : Int32)
        · have hf := pv_t hf h9
          refine lv_tableIn (tgt := 117) hx hb d_Md_back_4 (by rw [h9]; decide) (by rw [h9]; decide) (by first | (rw [h9]; done) | (rw [h9]; rfl)) (by decide) ?_
          refine lv_aload_n hx hb d_Md_back_117 rfl (lv_at hl 0 rfl) ?_
          refine lv_bipush (v := (10 : Int32)) hx hb d_Md_back_118 (by decide) ?_
          refine lv_iload_n hx hb d_Md_back_120 rfl (lv_at hl 1 rfl) ?_
          refine lv_bipush (v := (48 : Int32)) hx hb d_Md_back_121 (by decide) ?_
          refine lv_isub hx hb d_Md_back_123 ?_
          obtain ⟨q6, hc, hf⟩ := pv_b hf
          refine pv_callVv C hmv pv_good hP hS (As := [.int (10 : Int32), .int (x1 - (48 : Int32))]) (rest := []) (by decide) (fm_0 _ _ _ _) rfl (c_Md_first C.2.2.2.2.2.2.1 hmv hc) cv_Md_147 ⟨rfl, rfl, Nat.le_trans (Nat.le_of_ble_eq_true rfl) hRf, Nat.le_trans (Nat.le_of_ble_eq_true rfl) hRl⟩ rfl hl.1 rfl (Nat.le_of_ble_eq_true rfl) d_Md_back_124 ⟨Nat.zero_le _, Nat.zero_le _⟩ (fun H locs hP hS => ?_)
          refine lv_iload_n hx hb d_Md_back_127 rfl (lv_at hl 1 rfl) ?_
          obtain ⟨q7, hc, hf⟩ := pv_b hf
          refine pv_callSi C hmv pv_good hP hS (As := [.int x1]) (rest := []) (c_Md_isDigit C.2.2.2.2.2.2.1 hmv hc) cs_Md_179 ⟨rfl, rfl, Nat.le_trans (Nat.le_of_ble_eq_true rfl) hRf, Nat.le_trans (Nat.le_of_ble_eq_true rfl) hRl⟩ rfl hl.1 rfl (Nat.le_of_ble_eq_true rfl) d_Md_back_128 ⟨Nat.zero_le _, Nat.zero_le _⟩ (fun H locs hP hS => ?_)
          obtain ⟨hg, hf⟩ := pv_g hf
          obtain rfl := Option.some.inj hf
          exact hret _ _ _ _ d_Md_back_131 hg hP hS
        · have hf := pv_f hf h9
          by_cases h10 : (σ.1 0 11) = (10 : Int32)
          · have hf := pv_t hf h10
            refine lv_tableIn (tgt := 132) hx hb d_Md_back_4 (by rw [h10]; decide) (by rw [h10]; decide) (by first | (rw [h10]; done) | (rw [h10]; rfl)) (by decide) ?_
            refine lv_iload_n hx hb d_Md_back_132 rfl (lv_at hl 1 rfl) ?_
            obtain ⟨q8, hc, hf⟩ := pv_b hf
            refine pv_callSi C hmv pv_good hP hS (As := [.int x1]) (rest := []) (c_Md_isDigit C.2.2.2.2.2.2.1 hmv hc) cs_Md_179 ⟨rfl, rfl, Nat.le_trans (Nat.le_of_ble_eq_true rfl) hRf, Nat.le_trans (Nat.le_of_ble_eq_true rfl) hRl⟩ rfl hl.1 rfl (Nat.le_of_ble_eq_true rfl) d_Md_back_133 ⟨Nat.zero_le _, Nat.zero_le _⟩ (fun H locs hP hS => ?_)
            refine lv_if_eq (tgt := 196) hx hb d_Md_back_136 (by decide) (fun h => ?_) (fun h => ?_)
            · have hf := pv_t hf h
              refine lv_aload_n hx hb d_Md_back_196 rfl (lv_at hl 0 rfl) ?_
              refine lv_iconst (v := (0 : Int32)) hx hb d_Md_back_197 (by decide) ?_
              refine lv_aload_n hx hb d_Md_back_198 rfl (lv_at hl 0 rfl) ?_
              refine pv_get C hP (v := .int (q8.2.1 0 14)) (j := 14) (by decide) (fm_0 _ _ _ _) fl_Md_175 rfl d_Md_back_199 ?_
              refine lv_if_eq (tgt := 213) hx hb d_Md_back_202 (by decide) (fun h => ?_) (fun h => ?_)
              · have hf := pv_t hf h
                refine lv_aload_n hx hb d_Md_back_213 rfl (lv_at hl 0 rfl) ?_
                refine pv_get C hP (v := .int (q8.2.1 0 13)) (j := 13) (by decide) (fm_0 _ _ _ _) fl_Md_141 rfl d_Md_back_214 ?_
                exact s_Md_back_217 C hmv hRf hRl hret (lv_sub hl [0, 1] rfl) hP hS hf
              · have hf := pv_f hf h
                refine lv_aload_n hx hb d_Md_back_205 rfl (lv_at hl 0 rfl) ?_
                refine pv_get C hP (v := .int (q8.2.1 0 13)) (j := 13) (by decide) (fm_0 _ _ _ _) fl_Md_141 rfl d_Md_back_206 ?_
                refine lv_ineg hx hb d_Md_back_209 ?_
                refine lv_goto (tgt := 217) hx hb d_Md_back_210 (by decide) ?_
                exact s_Md_back_217 C hmv hRf hRl hret (lv_sub hl [0, 1] rfl) hP hS hf
            · have hf := pv_f hf h
              refine lv_aload_n hx hb d_Md_back_139 rfl (lv_at hl 0 rfl) ?_
              refine lv_aload_n hx hb d_Md_back_140 rfl (lv_at hl 0 rfl) ?_
              refine pv_get C hP (v := .int (q8.2.1 0 12)) (j := 12) (by decide) (fm_0 _ _ _ _) fl_Md_138 rfl d_Md_back_141 ?_
              refine lv_bipush (v := (9 : Int32)) hx hb d_Md_back_144 (by decide) ?_
              refine lv_icmp_ge (tgt := 164) hx hb d_Md_back_146 (by decide) (fun h => ?_) (fun h => ?_)
              · have hf := pv_t hf h
                refine lv_aload_n hx hb d_Md_back_164 rfl (lv_at hl 0 rfl) ?_
                refine pv_get C hP (v := .int (q8.2.1 0 13)) (j := 13) (by decide) (fm_0 _ _ _ _) fl_Md_141 rfl d_Md_back_165 ?_
                exact s_Md_back_168 C hmv hRf hRl hret (lv_sub hl [0] rfl) hP hS hf
              · have hf := pv_f hf h
                refine lv_bipush (v := (10 : Int32)) hx hb d_Md_back_149 (by decide) ?_
                refine lv_aload_n hx hb d_Md_back_151 rfl (lv_at hl 0 rfl) ?_
                refine pv_get C hP (v := .int (q8.2.1 0 13)) (j := 13) (by decide) (fm_0 _ _ _ _) fl_Md_141 rfl d_Md_back_152 ?_
                refine lv_imul hx hb d_Md_back_155 ?_
                refine lv_iload_n hx hb d_Md_back_156 rfl (lv_at hl 1 rfl) ?_
                refine lv_iadd hx hb d_Md_back_157 ?_
                refine lv_bipush (v := (48 : Int32)) hx hb d_Md_back_158 (by decide) ?_
                refine lv_isub hx hb d_Md_back_160 ?_
                refine lv_goto (tgt := 168) hx hb d_Md_back_161 (by decide) ?_
                exact s_Md_back_168 C hmv hRf hRl hret (lv_sub hl [0] rfl) hP hS hf
          · have hf := pv_f hf h10
            by_cases h11 : (σ.1 0 11) = (11 : Int32)
            · have hf := pv_t hf h11
              refine lv_tableIn (tgt := 226) hx hb d_Md_back_4 (by rw [h11]; decide) (by rw [h11]; decide) (by first | (rw [h11]; done) | (rw [h11]; rfl)) (by decide) ?_
              refine lv_iload_n hx hb d_Md_back_226 rfl (lv_at hl 1 rfl) ?_
              refine lv_bipush (v := (32 : Int32)) hx hb d_Md_back_227 (by decide) ?_
              refine lv_icmp_eq (tgt := 240) hx hb d_Md_back_229 (by decide) (fun h => ?_) (fun h => ?_)
              · have hf := pv_t hf h
                refine lv_iconst (v := (1 : Int32)) hx hb d_Md_back_240 (by decide) ?_
                refine lv_goto (tgt := 245) hx hb d_Md_back_241 (by decide) ?_
                obtain rfl := Option.some.inj hf
                exact hret _ _ _ _ d_Md_back_245 rfl hP hS
              · have hf := pv_f hf h
                refine lv_aload_n hx hb d_Md_back_232 rfl (lv_at hl 0 rfl) ?_
                refine lv_iload_n hx hb d_Md_back_233 rfl (lv_at hl 1 rfl) ?_
                obtain ⟨q9, hc, hf⟩ := pv_b hf
                refine pv_callVi C hmv pv_good hP hS (As := [.int x1]) (rest := []) (by decide) (fm_0 _ _ _ _) rfl (c_Md_begins C.2.2.2.2.2.2.1 hmv hc) cv_Md_182 ⟨rfl, rfl, Nat.le_trans (Nat.le_of_ble_eq_true rfl) hRf, Nat.le_trans (Nat.le_of_ble_eq_true rfl) hRl⟩ rfl hl.1 rfl (Nat.le_of_ble_eq_true rfl) d_Md_back_234 ⟨Nat.zero_le _, Nat.zero_le _⟩ (fun H locs hP hS => ?_)
                refine lv_if_eq (tgt := 244) hx hb d_Md_back_237 (by decide) (fun h => ?_) (fun h => ?_)
                · have hf := pv_t hf h
                  refine lv_iconst (v := (0 : Int32)) hx hb d_Md_back_244 (by decide) ?_
                  obtain rfl := Option.some.inj hf
                  exact hret _ _ _ _ d_Md_back_245 rfl hP hS
                · have hf := pv_f hf h
                  refine lv_iconst (v := (1 : Int32)) hx hb d_Md_back_240 (by decide) ?_
                  refine lv_goto (tgt := 245) hx hb d_Md_back_241 (by decide) ?_
                  obtain rfl := Option.some.inj hf
                  exact hret _ _ _ _ d_Md_back_245 rfl hP hS
            · have hf := pv_f hf h11
              refine lv_tableOut (tgt := 246) hx hb d_Md_back_4 (by have z0 := lv_neT h6 (a := 6) (by decide); have z1 := lv_neT h7 (a := 7) (by decide); have z2 := lv_neT h8 (a := 8) (by decide); have z3 := lv_neT h9 (a := 9) (by decide); have z4 := lv_neT h10 (a := 10) (by decide); have z5 := lv_neT h11 (a := 11) (by decide); omega) (by decide) ?_
              refine lv_aload_n hx hb d_Md_back_246 rfl (lv_at hl 0 rfl) ?_
              refine lv_iload_n hx hb d_Md_back_247 rfl (lv_at hl 1 rfl) ?_
              obtain ⟨q10, hc, hf⟩ := pv_b hf
              refine pv_callVi C hmv pv_good hP hS (As := [.int x1]) (rest := []) (by decide) (fm_0 _ _ _ _) rfl (c_Md_back12 C.2.2.2.2.2.2.1 hmv hc) cv_Md_191 ⟨rfl, rfl, Nat.le_trans (Nat.le_of_ble_eq_true rfl) hRf, Nat.le_trans (Nat.le_of_ble_eq_true rfl) hRl⟩ rfl hl.1 rfl (Nat.le_of_ble_eq_true rfl) d_Md_back_248 ⟨Nat.zero_le _, Nat.zero_le _⟩ (fun H locs hP hS => ?_)
              obtain ⟨hg, hf⟩ := pv_g hf
              obtain rfl := Option.some.inj hf
              exact hret _ _ _ _ d_Md_back_251 hg hP hS
def f_Md_back (σ : pv_S) (x1 : Int32) : Option (Int32 × pv_S) := f_Md_back_0 σ x1
def rm_Md_back : Room := { frames := 2, cells := 0, slots := 0, locals := 43 }
theorem c_Md_back {l : Launch} {D : va_G} {q : Nat → ClassId} {a : Nat → Nat} {A : Nat → Prop} (hD : pv_D 36 a A) (hmv : pv_mv A (pv_ZM)) {σ : pv_S} {x1 : Int32} {out : (Int32 × pv_S)} (hf : f_Md_back σ x1 = some out) : pv_Mi l y_Md_back (Cond.code y_Md_back prog_9_method_18_code 2 (some .boolean) :: pv_TB) rm_Md_back D pv_cl (pv_ty q) 36 a (pv_FM q a) A (pv_ZM) [.ref (a 0), .int x1] σ out :=
  pv_ofZ (by decide) (Nat.le_of_ble_eq_true rfl) hD (fun p e s m args below meth c Q ls C hret hl hP => s_Md_back_0 C hmv (Nat.le_refl _) (Nat.le_refl _) hret hl hP va_S.rf hf)
theorem d_Md_readAll_0 : decode prog_9_method_21_code 0 = .ok (.aload_n 0, 1) := by decide +kernel
theorem d_Md_readAll_1 : decode prog_9_method_21_code 1 = .ok (.iconst 0, 1) := by decide +kernel
theorem d_Md_readAll_2 : decode prog_9_method_21_code 2 = .ok (.putfield 135, 3) := by decide +kernel
theorem d_Md_readAll_5 : decode prog_9_method_21_code 5 = .ok (.aload_n 0, 1) := by decide +kernel
theorem d_Md_readAll_6 : decode prog_9_method_21_code 6 = .ok (.iconst 0, 1) := by decide +kernel
theorem d_Md_readAll_7 : decode prog_9_method_21_code 7 = .ok (.putfield 144, 3) := by decide +kernel
theorem d_Md_readAll_10 : decode prog_9_method_21_code 10 = .ok (.iconst 0, 1) := by decide +kernel
theorem d_Md_readAll_11 : decode prog_9_method_21_code 11 = .ok (.istore_n 1, 1) := by decide +kernel
theorem d_Md_readAll_12 : decode prog_9_method_21_code 12 = .ok (.iload_n 1, 1) := by decide +kernel
theorem d_Md_readAll_13 : decode prog_9_method_21_code 13 = .ok (.aload_n 0, 1) := by decide +kernel
theorem d_Md_readAll_14 : decode prog_9_method_21_code 14 = .ok (.getfield 130, 3) := by decide +kernel
theorem d_Md_readAll_17 : decode prog_9_method_21_code 17 = .ok (.if_icmp .ge 48, 3) := by decide +kernel
theorem d_Md_readAll_20 : decode prog_9_method_21_code 20 = .ok (.aload_n 0, 1) := by decide +kernel
theorem d_Md_readAll_21 : decode prog_9_method_21_code 21 = .ok (.getfield 135, 3) := by decide +kernel
theorem d_Md_readAll_24 : decode prog_9_method_21_code 24 = .ok (.bipush 6, 2) := by decide +kernel
theorem d_Md_readAll_26 : decode prog_9_method_21_code 26 = .ok (.if_icmp .ge 16, 3) := by decide +kernel
theorem d_Md_readAll_29 : decode prog_9_method_21_code 29 = .ok (.aload_n 0, 1) := by decide +kernel
theorem d_Md_readAll_30 : decode prog_9_method_21_code 30 = .ok (.aload_n 0, 1) := by decide +kernel
theorem d_Md_readAll_31 : decode prog_9_method_21_code 31 = .ok (.getfield 7, 3) := by decide +kernel
theorem d_Md_readAll_34 : decode prog_9_method_21_code 34 = .ok (.iload_n 1, 1) := by decide +kernel
theorem d_Md_readAll_35 : decode prog_9_method_21_code 35 = .ok (.iaload, 1) := by decide +kernel
theorem d_Md_readAll_36 : decode prog_9_method_21_code 36 = .ok (.invokevirtual 194, 3) := by decide +kernel
theorem d_Md_readAll_39 : decode prog_9_method_21_code 39 = .ok (.goto 13, 3) := by decide +kernel
theorem d_Md_readAll_42 : decode prog_9_method_21_code 42 = .ok (.aload_n 0, 1) := by decide +kernel
theorem d_Md_readAll_43 : decode prog_9_method_21_code 43 = .ok (.aload_n 0, 1) := by decide +kernel
theorem d_Md_readAll_44 : decode prog_9_method_21_code 44 = .ok (.getfield 7, 3) := by decide +kernel
theorem d_Md_readAll_47 : decode prog_9_method_21_code 47 = .ok (.iload_n 1, 1) := by decide +kernel
theorem d_Md_readAll_48 : decode prog_9_method_21_code 48 = .ok (.iaload, 1) := by decide +kernel
theorem d_Md_readAll_49 : decode prog_9_method_21_code 49 = .ok (.invokevirtual 197, 3) := by decide +kernel
theorem d_Md_readAll_52 : decode prog_9_method_21_code 52 = .ok (.istore_n 2, 1) := by decide +kernel
theorem d_Md_readAll_53 : decode prog_9_method_21_code 53 = .ok (.iload_n 2, 1) := by decide +kernel
theorem d_Md_readAll_54 : decode prog_9_method_21_code 54 = .ok (.ifCond .ne 5, 3) := by decide +kernel
theorem d_Md_readAll_57 : decode prog_9_method_21_code 57 = .ok (.iload_n 1, 1) := by decide +kernel
theorem d_Md_readAll_58 : decode prog_9_method_21_code 58 = .ok (.ireturn, 1) := by decide +kernel
theorem d_Md_readAll_59 : decode prog_9_method_21_code 59 = .ok (.iinc 1 1, 3) := by decide +kernel
theorem d_Md_readAll_62 : decode prog_9_method_21_code 62 = .ok (.goto (-50), 3) := by decide +kernel
theorem d_Md_readAll_65 : decode prog_9_method_21_code 65 = .ok (.aload_n 0, 1) := by decide +kernel
theorem d_Md_readAll_66 : decode prog_9_method_21_code 66 = .ok (.getfield 135, 3) := by decide +kernel
theorem d_Md_readAll_69 : decode prog_9_method_21_code 69 = .ok (.ifCond .ne 14, 3) := by decide +kernel
theorem d_Md_readAll_72 : decode prog_9_method_21_code 72 = .ok (.aload_n 0, 1) := by decide +kernel
theorem d_Md_readAll_73 : decode prog_9_method_21_code 73 = .ok (.getfield 144, 3) := by decide +kernel
theorem d_Md_readAll_76 : decode prog_9_method_21_code 76 = .ok (.ifCond .le 7, 3) := by decide +kernel
theorem d_Md_readAll_79 : decode prog_9_method_21_code 79 = .ok (.iconst (-1), 1) := by decide +kernel
theorem d_Md_readAll_80 : decode prog_9_method_21_code 80 = .ok (.goto 7, 3) := by decide +kernel
theorem d_Md_readAll_83 : decode prog_9_method_21_code 83 = .ok (.aload_n 0, 1) := by decide +kernel
theorem d_Md_readAll_84 : decode prog_9_method_21_code 84 = .ok (.getfield 130, 3) := by decide +kernel
theorem d_Md_readAll_87 : decode prog_9_method_21_code 87 = .ok (.ireturn, 1) := by decide +kernel
def f_Md_readAll_52 (k_12 : pv_S → Int32 → Option (Int32 × pv_S)) (σ : pv_S) (x1 : Int32) (s0 : Int32) : Option (Int32 × pv_S) :=
  (if s0 = 0 then
  some (x1, σ)
  else
  k_12 σ (x1 + (1 : Int32)))
set_option maxHeartbeats 4000000 in
set_option maxRecDepth 100000 in
theorem s_Md_readAll_52 {p : Program} {l : Launch} {e : Env} {R : Room} {s : State} {m : MethodId} {args : Array Value} {below : List Frame} {meth : Method} {c : Code} {Q : State → Prop} {D : va_G} {q : Nat → ClassId} {a : Nat → Nat} {A : Nat → Prop} (C : pv_C p s m args c prog_9_method_21_code 3 "PatchVoicesModel" pv_TB D pv_cl (pv_ty q) 36 a A (pv_ZM)) (hmv : pv_mv A (pv_ZM)) (hRf : 3 ≤ R.frames) (hRl : 64 ≤ R.locals) {out : (Int32 × pv_S)} (hret : pv_Ri p l e R s m args below meth c prog_9_method_21_code D pv_cl 36 a (pv_FM q a) A Q out) {k_12 : pv_S → Int32 → Option (Int32 × pv_S)} (hk_12 : ∀ (σ : pv_S) (x1 : Int32) (H : Heap) (locs : List Loc) (ls : Array Slot), k_12 σ x1 = some out → lv_has ls 3 [(0, .ref (a 0)), (1, .int x1)] → pv_W D pv_cl 36 a (pv_FM q a) σ H → va_S A s.heap H locs → W p l e R s m args below meth c H locs 0 0 Q (F0 m 12 ls [])) {σ : pv_S} {x1 : Int32} {s0 : Int32} {H : Heap} {locs : List Loc} {ls : Array Slot} (hl : lv_has ls 3 [(0, .ref (a 0)), (1, .int x1)]) (hP : pv_W D pv_cl 36 a (pv_FM q a) σ H) (hS : va_S A s.heap H locs) (hf : f_Md_readAll_52 k_12 σ x1 s0 = some out) : W p l e R s m args below meth c H locs 0 0 Q (F0 m 52 ls [.int s0]) := by
  unfold f_Md_readAll_52 at hf
  have hx := C.1
  have hb := C.2.1
  refine lv_istore_n (lv' := [(2, .int s0), (0, .ref (a 0)), (1, .int x1)]) hx hb d_Md_readAll_52 rfl hl (by decide) rfl (fun ls hl => ?_)
  refine lv_iload_n hx hb d_Md_readAll_53 rfl (lv_at hl 0 rfl) ?_
  refine lv_if_ne (tgt := 59) hx hb d_Md_readAll_54 (by decide) (fun h => ?_) (fun h => ?_)
  · have hf := pv_f hf h
    refine lv_iinc (k := 2) (v := (x1 + (1 : Int32))) (lv' := [(1, .int (x1 + (1 : Int32))), (2, .int s0), (0, .ref (a 0))]) hx hb d_Md_readAll_59 hl rfl (pv_inc (by decide)) (by decide) rfl (fun ls hl => ?_)
    refine lv_goto (tgt := 12) hx hb d_Md_readAll_62 (by decide) ?_
    exact hk_12 _ _ _ _ _ hf (lv_sub hl [2, 0] rfl) hP hS
  · have hf := pv_t hf h
    refine lv_iload_n hx hb d_Md_readAll_57 rfl (lv_at hl 2 rfl) ?_
    obtain rfl := Option.some.inj hf
    exact hret _ _ _ _ d_Md_readAll_58 hP hS
def f_Md_readAll_12b (k_12 : pv_S → Int32 → Option (Int32 × pv_S)) (σ : pv_S) (x1 : Int32) : Option (Int32 × pv_S) :=
  (if (σ.1 0 2) ≤ x1 then
  (if (σ.1 0 11) = 0 then
  (if (σ.1 0 5) ≤ 0 then
  some ((σ.1 0 2), σ)
  else
  some ((-1 : Int32), σ))
  else
  some ((σ.1 0 2), σ))
  else
  (if (6 : Int32) ≤ (σ.1 0 11) then
  (if pv_in x1 300 = true then
((f_Md_back σ (σ.1 1 (x1).toNatClampNeg)).bind fun q1 =>
f_Md_readAll_52 k_12 q1.2 x1 q1.1)
  else none)
  else
  (if pv_in x1 300 = true then
((f_Md_front σ (σ.1 1 (x1).toNatClampNeg)).bind fun q2 =>
f_Md_readAll_52 k_12 q2.2 x1 q2.1)
  else none)))
set_option maxHeartbeats 4000000 in
set_option maxRecDepth 100000 in
theorem s_Md_readAll_12b {p : Program} {l : Launch} {e : Env} {R : Room} {s : State} {m : MethodId} {args : Array Value} {below : List Frame} {meth : Method} {c : Code} {Q : State → Prop} {D : va_G} {q : Nat → ClassId} {a : Nat → Nat} {A : Nat → Prop} (C : pv_C p s m args c prog_9_method_21_code 3 "PatchVoicesModel" pv_TB D pv_cl (pv_ty q) 36 a A (pv_ZM)) (hmv : pv_mv A (pv_ZM)) (hRf : 3 ≤ R.frames) (hRl : 64 ≤ R.locals) {out : (Int32 × pv_S)} (hret : pv_Ri p l e R s m args below meth c prog_9_method_21_code D pv_cl 36 a (pv_FM q a) A Q out) {k_12 : pv_S → Int32 → Option (Int32 × pv_S)} (hk_12 : ∀ (σ : pv_S) (x1 : Int32) (H : Heap) (locs : List Loc) (ls : Array Slot), k_12 σ x1 = some out → lv_has ls 3 [(0, .ref (a 0)), (1, .int x1)] → pv_W D pv_cl 36 a (pv_FM q a) σ H → va_S A s.heap H locs → W p l e R s m args below meth c H locs 0 0 Q (F0 m 12 ls [])) {σ : pv_S} {x1 : Int32} {H : Heap} {locs : List Loc} {ls : Array Slot} (hl : lv_has ls 3 [(0, .ref (a 0)), (1, .int x1)]) (hP : pv_W D pv_cl 36 a (pv_FM q a) σ H) (hS : va_S A s.heap H locs) (hf : f_Md_readAll_12b k_12 σ x1 = some out) : W p l e R s m args below meth c H locs 0 0 Q (F0 m 12 ls []) := by
  unfold f_Md_readAll_12b at hf
  have hx := C.1
  have hb := C.2.1
  refine lv_iload_n hx hb d_Md_readAll_12 rfl (lv_at hl 1 rfl) ?_
  refine lv_aload_n hx hb d_Md_readAll_13 rfl (lv_at hl 0 rfl) ?_
  refine pv_get C hP (v := .int (σ.1 0 2)) (j := 2) (by decide) (fm_0 _ _ _ _) fl_Md_130 rfl d_Md_readAll_14 ?_
  refine lv_icmp_ge (tgt := 65) hx hb d_Md_readAll_17 (by decide) (fun h => ?_) (fun h => ?_)
  · have hf := pv_t hf h
    refine lv_aload_n hx hb d_Md_readAll_65 rfl (lv_at hl 0 rfl) ?_
    refine pv_get C hP (v := .int (σ.1 0 11)) (j := 11) (by decide) (fm_0 _ _ _ _) fl_Md_135 rfl d_Md_readAll_66 ?_
    refine lv_if_ne (tgt := 83) hx hb d_Md_readAll_69 (by decide) (fun h => ?_) (fun h => ?_)
    · have hf := pv_f hf h
      refine lv_aload_n hx hb d_Md_readAll_83 rfl (lv_at hl 0 rfl) ?_
      refine pv_get C hP (v := .int (σ.1 0 2)) (j := 2) (by decide) (fm_0 _ _ _ _) fl_Md_130 rfl d_Md_readAll_84 ?_
      obtain rfl := Option.some.inj hf
      exact hret _ _ _ _ d_Md_readAll_87 hP hS
    · have hf := pv_t hf h
      refine lv_aload_n hx hb d_Md_readAll_72 rfl (lv_at hl 0 rfl) ?_
      refine pv_get C hP (v := .int (σ.1 0 5)) (j := 5) (by decide) (fm_0 _ _ _ _) fl_Md_144 rfl d_Md_readAll_73 ?_
      refine lv_if_le (tgt := 83) hx hb d_Md_readAll_76 (by decide) (fun h => ?_) (fun h => ?_)
      · have hf := pv_t hf h
        refine lv_aload_n hx hb d_Md_readAll_83 rfl (lv_at hl 0 rfl) ?_
        refine pv_get C hP (v := .int (σ.1 0 2)) (j := 2) (by decide) (fm_0 _ _ _ _) fl_Md_130 rfl d_Md_readAll_84 ?_
        obtain rfl := Option.some.inj hf
        exact hret _ _ _ _ d_Md_readAll_87 hP hS
      · have hf := pv_f hf h
        refine lv_iconst (v := (-1 : Int32)) hx hb d_Md_readAll_79 (by decide) ?_
        refine lv_goto (tgt := 87) hx hb d_Md_readAll_80 (by decide) ?_
        obtain rfl := Option.some.inj hf
        exact hret _ _ _ _ d_Md_readAll_87 hP hS
  · have hf := pv_f hf h
    refine lv_aload_n hx hb d_Md_readAll_20 rfl (lv_at hl 0 rfl) ?_
    refine pv_get C hP (v := .int (σ.1 0 11)) (j := 11) (by decide) (fm_0 _ _ _ _) fl_Md_135 rfl d_Md_readAll_21 ?_
    refine lv_bipush (v := (6 : Int32)) hx hb d_Md_readAll_24 (by decide) ?_
    refine lv_icmp_ge (tgt := 42) hx hb d_Md_readAll_26 (by decide) (fun h => ?_) (fun h => ?_)
    · have hf := pv_t hf h
      refine lv_aload_n hx hb d_Md_readAll_42 rfl (lv_at hl 0 rfl) ?_
      refine lv_aload_n hx hb d_Md_readAll_43 rfl (lv_at hl 0 rfl) ?_
      refine pv_get C hP (v := .ref (a 1)) (j := 1) (by decide) (fm_0 _ _ _ _) fl_Md_7 rfl d_Md_readAll_44 ?_
      refine lv_iload_n hx hb d_Md_readAll_47 rfl (lv_at hl 1 rfl) ?_
      obtain ⟨hg, hf⟩ := pv_g hf
      refine pv_iald C hP (t0 := 0) (by decide) (fm_1 _ _ _ _) rfl hg d_Md_readAll_48 ?_
      obtain ⟨q1, hc, hf⟩ := pv_b hf
      refine pv_callVi C hmv pv_good hP hS (As := [.int (σ.1 1 (x1).toNatClampNeg)]) (rest := []) (by decide) (fm_0 _ _ _ _) rfl (c_Md_back C.2.2.2.2.2.2.1 hmv hc) cv_Md_197 ⟨rfl, rfl, Nat.le_trans (Nat.le_of_ble_eq_true rfl) hRf, Nat.le_trans (Nat.le_of_ble_eq_true rfl) hRl⟩ rfl hl.1 rfl (Nat.le_of_ble_eq_true rfl) d_Md_readAll_49 ⟨Nat.zero_le _, Nat.zero_le _⟩ (fun H locs hP hS => ?_)
      exact s_Md_readAll_52 C hmv hRf hRl hret hk_12 (lv_sub hl [0, 1] rfl) hP hS hf
    · have hf := pv_f hf h
      refine lv_aload_n hx hb d_Md_readAll_29 rfl (lv_at hl 0 rfl) ?_
      refine lv_aload_n hx hb d_Md_readAll_30 rfl (lv_at hl 0 rfl) ?_
      refine pv_get C hP (v := .ref (a 1)) (j := 1) (by decide) (fm_0 _ _ _ _) fl_Md_7 rfl d_Md_readAll_31 ?_
      refine lv_iload_n hx hb d_Md_readAll_34 rfl (lv_at hl 1 rfl) ?_
      obtain ⟨hg, hf⟩ := pv_g hf
      refine pv_iald C hP (t0 := 0) (by decide) (fm_1 _ _ _ _) rfl hg d_Md_readAll_35 ?_
      obtain ⟨q2, hc, hf⟩ := pv_b hf
      refine pv_callVi C hmv pv_good hP hS (As := [.int (σ.1 1 (x1).toNatClampNeg)]) (rest := []) (by decide) (fm_0 _ _ _ _) rfl (c_Md_front C.2.2.2.2.2.2.1 hmv hc) cv_Md_194 ⟨rfl, rfl, Nat.le_trans (Nat.le_of_ble_eq_true rfl) hRf, Nat.le_trans (Nat.le_of_ble_eq_true rfl) hRl⟩ rfl hl.1 rfl (Nat.le_of_ble_eq_true rfl) d_Md_readAll_36 ⟨Nat.zero_le _, Nat.zero_le _⟩ (fun H locs hP hS => ?_)
      refine lv_goto (tgt := 52) hx hb d_Md_readAll_39 (by decide) ?_
      exact s_Md_readAll_52 C hmv hRf hRl hret hk_12 (lv_sub hl [0, 1] rfl) hP hS hf
def f_Md_readAll_12 : Nat → pv_S → Int32 → Option (Int32 × pv_S)
  | 0 => fun _ _ => none
  | n + 1 => f_Md_readAll_12b (f_Md_readAll_12 n)
set_option maxHeartbeats 4000000 in
theorem s_Md_readAll_12 {p : Program} {l : Launch} {e : Env} {R : Room} {s : State} {m : MethodId} {args : Array Value} {below : List Frame} {meth : Method} {c : Code} {Q : State → Prop} {D : va_G} {q : Nat → ClassId} {a : Nat → Nat} {A : Nat → Prop} (C : pv_C p s m args c prog_9_method_21_code 3 "PatchVoicesModel" pv_TB D pv_cl (pv_ty q) 36 a A (pv_ZM)) (hmv : pv_mv A (pv_ZM)) (hRf : 3 ≤ R.frames) (hRl : 64 ≤ R.locals) {out : (Int32 × pv_S)} (hret : pv_Ri p l e R s m args below meth c prog_9_method_21_code D pv_cl 36 a (pv_FM q a) A Q out) (n : Nat) : ∀ {σ : pv_S} {x1 : Int32} {H : Heap} {locs : List Loc} {ls : Array Slot}, lv_has ls 3 [(0, .ref (a 0)), (1, .int x1)] → pv_W D pv_cl 36 a (pv_FM q a) σ H → va_S A s.heap H locs → f_Md_readAll_12 n σ x1 = some out → W p l e R s m args below meth c H locs 0 0 Q (F0 m 12 ls []) := by
  induction n with
  | zero => intro σ x1 H locs ls hl hP hS hf; cases hf
  | succ n ih => intro σ x1 H locs ls hl hP hS hf; exact s_Md_readAll_12b C hmv hRf hRl hret (fun σ x1 H locs ls hf hl hP hS => ih hl hP hS hf) hl hP hS hf
def f_Md_readAll_0 (σ : pv_S) : Option (Int32 × pv_S) :=
  f_Md_readAll_12 pv_fu (pv_uI (pv_uI σ 0 11 (0 : Int32)) 0 5 (0 : Int32)) (0 : Int32)
set_option maxHeartbeats 4000000 in
set_option maxRecDepth 100000 in
theorem s_Md_readAll_0 {p : Program} {l : Launch} {e : Env} {R : Room} {s : State} {m : MethodId} {args : Array Value} {below : List Frame} {meth : Method} {c : Code} {Q : State → Prop} {D : va_G} {q : Nat → ClassId} {a : Nat → Nat} {A : Nat → Prop} (C : pv_C p s m args c prog_9_method_21_code 3 "PatchVoicesModel" pv_TB D pv_cl (pv_ty q) 36 a A (pv_ZM)) (hmv : pv_mv A (pv_ZM)) (hRf : 3 ≤ R.frames) (hRl : 64 ≤ R.locals) {out : (Int32 × pv_S)} (hret : pv_Ri p l e R s m args below meth c prog_9_method_21_code D pv_cl 36 a (pv_FM q a) A Q out) {σ : pv_S} {H : Heap} {locs : List Loc} {ls : Array Slot} (hl : lv_has ls 3 [(0, .ref (a 0))]) (hP : pv_W D pv_cl 36 a (pv_FM q a) σ H) (hS : va_S A s.heap H locs) (hf : f_Md_readAll_0 σ = some out) : W p l e R s m args below meth c H locs 0 0 Q (F0 m 0 ls []) := by
  unfold f_Md_readAll_0 at hf
  have hx := C.1
  have hb := C.2.1
  refine lv_aload_n hx hb d_Md_readAll_0 rfl (lv_at hl 0 rfl) ?_
  refine lv_iconst (v := (0 : Int32)) hx hb d_Md_readAll_1 (by decide) ?_
  refine pv_putI C hP hS (x := (0 : Int32)) (by decide) (fm_0 _ _ _ _) fw_Md_135 rfl rfl (Nat.le_of_ble_eq_true rfl) (fms_0_11 _ _ _ _ _) d_Md_readAll_2 (fun H locs hP hS => ?_)
  refine lv_aload_n hx hb d_Md_readAll_5 rfl (lv_at hl 0 rfl) ?_
  refine lv_iconst (v := (0 : Int32)) hx hb d_Md_readAll_6 (by decide) ?_
  refine pv_putI C hP hS (x := (0 : Int32)) (by decide) (fm_0 _ _ _ _) fw_Md_144 rfl rfl (Nat.le_of_ble_eq_true rfl) (fms_0_5 _ _ _ _ _) d_Md_readAll_7 (fun H locs hP hS => ?_)
  refine lv_iconst (v := (0 : Int32)) hx hb d_Md_readAll_10 (by decide) ?_
  refine lv_istore_n (lv' := [(1, .int (0 : Int32)), (0, .ref (a 0))]) hx hb d_Md_readAll_11 rfl hl (by decide) rfl (fun ls hl => ?_)
  exact s_Md_readAll_12 C hmv hRf hRl hret pv_fu (lv_sub hl [1, 0] rfl) hP hS hf
def f_Md_readAll (σ : pv_S) : Option (Int32 × pv_S) := f_Md_readAll_0 σ
def rm_Md_readAll : Room := { frames := 3, cells := 0, slots := 0, locals := 64 }
theorem c_Md_readAll {l : Launch} {D : va_G} {q : Nat → ClassId} {a : Nat → Nat} {A : Nat → Prop} (hD : pv_D 36 a A) (hmv : pv_mv A (pv_ZM)) {σ : pv_S} {out : (Int32 × pv_S)} (hf : f_Md_readAll σ = some out) : pv_Mi l y_Md_readAll (Cond.code y_Md_readAll prog_9_method_21_code 3 (some .int) :: pv_TB) rm_Md_readAll D pv_cl (pv_ty q) 36 a (pv_FM q a) A (pv_ZM) [.ref (a 0)] σ out :=
  pv_ofI (by decide) (Nat.le_of_ble_eq_true rfl) hD (fun p e s m args below meth c Q ls C hret hl hP => s_Md_readAll_0 C hmv (Nat.le_refl _) (Nat.le_refl _) hret hl hP va_S.rf hf)
