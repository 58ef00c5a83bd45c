theorem d_Md_keep_0 : decode prog_9_method_42_code 0 = .ok (.iconst 0, 1) := by decide +kernel
theorem d_Md_keep_1 : decode prog_9_method_42_code 1 = .ok (.istore_n 1, 1) := by decide +kernel
theorem d_Md_keep_2 : decode prog_9_method_42_code 2 = .ok (.iload_n 1, 1) := by decide +kernel
theorem d_Md_keep_3 : decode prog_9_method_42_code 3 = .ok (.aload_n 0, 1) := by decide +kernel
theorem d_Md_keep_4 : decode prog_9_method_42_code 4 = .ok (.getfield 253, 3) := by decide +kernel
theorem d_Md_keep_7 : decode prog_9_method_42_code 7 = .ok (.if_icmp .ge 42, 3) := by decide +kernel
theorem d_Md_keep_10 : decode prog_9_method_42_code 10 = .ok (.aload_n 0, 1) := by decide +kernel
theorem d_Md_keep_11 : decode prog_9_method_42_code 11 = .ok (.getfield 62, 3) := by decide +kernel
theorem d_Md_keep_14 : decode prog_9_method_42_code 14 = .ok (.iload_n 1, 1) := by decide +kernel
theorem d_Md_keep_15 : decode prog_9_method_42_code 15 = .ok (.aload_n 0, 1) := by decide +kernel
theorem d_Md_keep_16 : decode prog_9_method_42_code 16 = .ok (.getfield 250, 3) := by decide +kernel
theorem d_Md_keep_19 : decode prog_9_method_42_code 19 = .ok (.ifCond .eq 18, 3) := by decide +kernel
theorem d_Md_keep_22 : decode prog_9_method_42_code 22 = .ok (.iload_n 1, 1) := by decide +kernel
theorem d_Md_keep_23 : decode prog_9_method_42_code 23 = .ok (.aload_n 0, 1) := by decide +kernel
theorem d_Md_keep_24 : decode prog_9_method_42_code 24 = .ok (.getfield 56, 3) := by decide +kernel
theorem d_Md_keep_27 : decode prog_9_method_42_code 27 = .ok (.aload_n 0, 1) := by decide +kernel
theorem d_Md_keep_28 : decode prog_9_method_42_code 28 = .ok (.getfield 253, 3) := by decide +kernel
theorem d_Md_keep_31 : decode prog_9_method_42_code 31 = .ok (.iconst 1, 1) := by decide +kernel
theorem d_Md_keep_32 : decode prog_9_method_42_code 32 = .ok (.isub, 1) := by decide +kernel
theorem d_Md_keep_33 : decode prog_9_method_42_code 33 = .ok (.iaload, 1) := by decide +kernel
theorem d_Md_keep_34 : decode prog_9_method_42_code 34 = .ok (.if_icmp .ne 7, 3) := by decide +kernel
theorem d_Md_keep_37 : decode prog_9_method_42_code 37 = .ok (.iconst 1, 1) := by decide +kernel
theorem d_Md_keep_38 : decode prog_9_method_42_code 38 = .ok (.goto 4, 3) := by decide +kernel
theorem d_Md_keep_41 : decode prog_9_method_42_code 41 = .ok (.iconst 0, 1) := by decide +kernel
theorem d_Md_keep_42 : decode prog_9_method_42_code 42 = .ok (.bastore, 1) := by decide +kernel
theorem d_Md_keep_43 : decode prog_9_method_42_code 43 = .ok (.iinc 1 1, 3) := by decide +kernel
theorem d_Md_keep_46 : decode prog_9_method_42_code 46 = .ok (.goto (-44), 3) := by decide +kernel
theorem d_Md_keep_49 : decode prog_9_method_42_code 49 = .ok (.iconst 0, 1) := by decide +kernel
theorem d_Md_keep_50 : decode prog_9_method_42_code 50 = .ok (.istore_n 1, 1) := by decide +kernel
theorem d_Md_keep_51 : decode prog_9_method_42_code 51 = .ok (.iload_n 1, 1) := by decide +kernel
theorem d_Md_keep_52 : decode prog_9_method_42_code 52 = .ok (.aload_n 0, 1) := by decide +kernel
theorem d_Md_keep_53 : decode prog_9_method_42_code 53 = .ok (.getfield 253, 3) := by decide +kernel
theorem d_Md_keep_56 : decode prog_9_method_42_code 56 = .ok (.if_icmp .ge 72, 3) := by decide +kernel
theorem d_Md_keep_59 : decode prog_9_method_42_code 59 = .ok (.iconst 0, 1) := by decide +kernel
theorem d_Md_keep_60 : decode prog_9_method_42_code 60 = .ok (.istore_n 2, 1) := by decide +kernel
theorem d_Md_keep_61 : decode prog_9_method_42_code 61 = .ok (.iload_n 2, 1) := by decide +kernel
theorem d_Md_keep_62 : decode prog_9_method_42_code 62 = .ok (.aload_n 0, 1) := by decide +kernel
theorem d_Md_keep_63 : decode prog_9_method_42_code 63 = .ok (.getfield 253, 3) := by decide +kernel
theorem d_Md_keep_66 : decode prog_9_method_42_code 66 = .ok (.if_icmp .ge 56, 3) := by decide +kernel
theorem d_Md_keep_69 : decode prog_9_method_42_code 69 = .ok (.iconst 4, 1) := by decide +kernel
theorem d_Md_keep_70 : decode prog_9_method_42_code 70 = .ok (.iload_n 2, 1) := by decide +kernel
theorem d_Md_keep_71 : decode prog_9_method_42_code 71 = .ok (.imul, 1) := by decide +kernel
theorem d_Md_keep_72 : decode prog_9_method_42_code 72 = .ok (.istore_n 3, 1) := by decide +kernel
theorem d_Md_keep_73 : decode prog_9_method_42_code 73 = .ok (.iload_n 3, 1) := by decide +kernel
theorem d_Md_keep_74 : decode prog_9_method_42_code 74 = .ok (.iconst 4, 1) := by decide +kernel
theorem d_Md_keep_75 : decode prog_9_method_42_code 75 = .ok (.iload_n 2, 1) := by decide +kernel
theorem d_Md_keep_76 : decode prog_9_method_42_code 76 = .ok (.imul, 1) := by decide +kernel
theorem d_Md_keep_77 : decode prog_9_method_42_code 77 = .ok (.iconst 4, 1) := by decide +kernel
theorem d_Md_keep_78 : decode prog_9_method_42_code 78 = .ok (.iadd, 1) := by decide +kernel
theorem d_Md_keep_79 : decode prog_9_method_42_code 79 = .ok (.if_icmp .ge 37, 3) := by decide +kernel
theorem d_Md_keep_82 : decode prog_9_method_42_code 82 = .ok (.aload_n 0, 1) := by decide +kernel
theorem d_Md_keep_83 : decode prog_9_method_42_code 83 = .ok (.getfield 62, 3) := by decide +kernel
theorem d_Md_keep_86 : decode prog_9_method_42_code 86 = .ok (.iload_n 2, 1) := by decide +kernel
theorem d_Md_keep_87 : decode prog_9_method_42_code 87 = .ok (.baload, 1) := by decide +kernel
theorem d_Md_keep_88 : decode prog_9_method_42_code 88 = .ok (.ifCond .eq 28, 3) := by decide +kernel
theorem d_Md_keep_91 : decode prog_9_method_42_code 91 = .ok (.aload_n 0, 1) := by decide +kernel
theorem d_Md_keep_92 : decode prog_9_method_42_code 92 = .ok (.iload_n 3, 1) := by decide +kernel
theorem d_Md_keep_93 : decode prog_9_method_42_code 93 = .ok (.invokevirtual 259, 3) := by decide +kernel
theorem d_Md_keep_96 : decode prog_9_method_42_code 96 = .ok (.ifCond .lt 14, 3) := by decide +kernel
theorem d_Md_keep_99 : decode prog_9_method_42_code 99 = .ok (.aload_n 0, 1) := by decide +kernel
theorem d_Md_keep_100 : decode prog_9_method_42_code 100 = .ok (.getfield 62, 3) := by decide +kernel
theorem d_Md_keep_103 : decode prog_9_method_42_code 103 = .ok (.aload_n 0, 1) := by decide +kernel
theorem d_Md_keep_104 : decode prog_9_method_42_code 104 = .ok (.iload_n 3, 1) := by decide +kernel
theorem d_Md_keep_105 : decode prog_9_method_42_code 105 = .ok (.invokevirtual 259, 3) := by decide +kernel
theorem d_Md_keep_108 : decode prog_9_method_42_code 108 = .ok (.iconst 1, 1) := by decide +kernel
theorem d_Md_keep_109 : decode prog_9_method_42_code 109 = .ok (.bastore, 1) := by decide +kernel
theorem d_Md_keep_110 : decode prog_9_method_42_code 110 = .ok (.iinc 3 1, 3) := by decide +kernel
theorem d_Md_keep_113 : decode prog_9_method_42_code 113 = .ok (.goto (-40), 3) := by decide +kernel
theorem d_Md_keep_116 : decode prog_9_method_42_code 116 = .ok (.iinc 2 1, 3) := by decide +kernel
theorem d_Md_keep_119 : decode prog_9_method_42_code 119 = .ok (.goto (-58), 3) := by decide +kernel
theorem d_Md_keep_122 : decode prog_9_method_42_code 122 = .ok (.iinc 1 1, 3) := by decide +kernel
theorem d_Md_keep_125 : decode prog_9_method_42_code 125 = .ok (.goto (-74), 3) := by decide +kernel
theorem d_Md_keep_128 : decode prog_9_method_42_code 128 = .ok (.return_, 1) := by decide +kernel
def f_Md_keep_116 (k_51 : pv_S → Int32 → Option pv_S) (k_61 : pv_S → Int32 → Int32 → Option pv_S) (σ : pv_S) (x1 : Int32) (x2 : Int32) : Option pv_S :=
  k_61 σ x1 (x2 + (1 : Int32))
set_option maxHeartbeats 4000000 in
set_option maxRecDepth 100000 in
theorem s_Md_keep_116 {p : Program} {l : Launch} {e : Env} {R : Room} {s : State} {m : MethodId} {args : Array Value} {below : List Frame} {meth : Method} {c : Code} {Q : State → Prop} {D : va_G} {q : Nat → ClassId} {a : Nat → Nat} {A : Nat → Prop} (C : pv_C p s m args c prog_9_method_42_code 4 "PatchVoicesModel" pv_TB D pv_cl (pv_ty q) 36 a A (pv_ZM)) (hmv : pv_mv A (pv_ZM)) (hRf : 1 ≤ R.frames) (hRl : 21 ≤ R.locals) {out : pv_S} (hret : pv_Rv p l e R s m args below meth c prog_9_method_42_code D pv_cl 36 a (pv_FM q a) A Q out) {k_51 : pv_S → Int32 → Option pv_S} (hk_51 : ∀ (σ : pv_S) (x1 : Int32) (H : Heap) (locs : List Loc) (ls : Array Slot), k_51 σ x1 = some out → lv_has ls 4 [(0, .ref (a 0)), (1, .int x1)] → pv_W D pv_cl 36 a (pv_FM q a) σ H → va_S A s.heap H locs → W p l e R s m args below meth c H locs 0 0 Q (F0 m 51 ls [])) {k_61 : pv_S → Int32 → Int32 → Option pv_S} (hk_61 : ∀ (σ : pv_S) (x1 : Int32) (x2 : Int32) (H : Heap) (locs : List Loc) (ls : Array Slot), k_61 σ x1 x2 = some out → lv_has ls 4 [(0, .ref (a 0)), (1, .int x1), (2, .int x2)] → pv_W D pv_cl 36 a (pv_FM q a) σ H → va_S A s.heap H locs → W p l e R s m args below meth c H locs 0 0 Q (F0 m 61 ls [])) {σ : pv_S} {x1 : Int32} {x2 : Int32} {H : Heap} {locs : List Loc} {ls : Array Slot} (hl : lv_has ls 4 [(0, .ref (a 0)), (1, .int x1), (2, .int x2)]) (hP : pv_W D pv_cl 36 a (pv_FM q a) σ H) (hS : va_S A s.heap H locs) (hf : f_Md_keep_116 k_51 k_61 σ x1 x2 = some out) : W p l e R s m args below meth c H locs 0 0 Q (F0 m 116 ls []) := by
  unfold f_Md_keep_116 at hf
  have hx := C.1
  have hb := C.2.1
  refine lv_iinc (k := 2) (v := (x2 + (1 : Int32))) (lv' := [(2, .int (x2 + (1 : Int32))), (0, .ref (a 0)), (1, .int x1)]) hx hb d_Md_keep_116 hl rfl (pv_inc (by decide)) (by decide) rfl (fun ls hl => ?_)
  refine lv_goto (tgt := 61) hx hb d_Md_keep_119 (by decide) ?_
  exact hk_61 _ _ _ _ _ _ hf (lv_sub hl [1, 2, 0] rfl) hP hS
def f_Md_keep_110 (k_51 : pv_S → Int32 → Option pv_S) (k_61 : pv_S → Int32 → Int32 → Option pv_S) (k_73 : pv_S → Int32 → Int32 → Int32 → Option pv_S) (σ : pv_S) (x1 : Int32) (x2 : Int32) (x3 : Int32) : Option pv_S :=
  k_73 σ x1 x2 (x3 + (1 : Int32))
set_option maxHeartbeats 4000000 in
set_option maxRecDepth 100000 in
theorem s_Md_keep_110 {p : Program} {l : Launch} {e : Env} {R : Room} {s : State} {m : MethodId} {args : Array Value} {below : List Frame} {meth : Method} {c : Code} {Q : State → Prop} {D : va_G} {q : Nat → ClassId} {a : Nat → Nat} {A : Nat → Prop} (C : pv_C p s m args c prog_9_method_42_code 4 "PatchVoicesModel" pv_TB D pv_cl (pv_ty q) 36 a A (pv_ZM)) (hmv : pv_mv A (pv_ZM)) (hRf : 1 ≤ R.frames) (hRl : 21 ≤ R.locals) {out : pv_S} (hret : pv_Rv p l e R s m args below meth c prog_9_method_42_code D pv_cl 36 a (pv_FM q a) A Q out) {k_51 : pv_S → Int32 → Option pv_S} (hk_51 : ∀ (σ : pv_S) (x1 : Int32) (H : Heap) (locs : List Loc) (ls : Array Slot), k_51 σ x1 = some out → lv_has ls 4 [(0, .ref (a 0)), (1, .int x1)] → pv_W D pv_cl 36 a (pv_FM q a) σ H → va_S A s.heap H locs → W p l e R s m args below meth c H locs 0 0 Q (F0 m 51 ls [])) {k_61 : pv_S → Int32 → Int32 → Option pv_S} (hk_61 : ∀ (σ : pv_S) (x1 : Int32) (x2 : Int32) (H : Heap) (locs : List Loc) (ls : Array Slot), k_61 σ x1 x2 = some out → lv_has ls 4 [(0, .ref (a 0)), (1, .int x1), (2, .int x2)] → pv_W D pv_cl 36 a (pv_FM q a) σ H → va_S A s.heap H locs → W p l e R s m args below meth c H locs 0 0 Q (F0 m 61 ls [])) {k_73 : pv_S → Int32 → Int32 → Int32 → Option pv_S} (hk_73 : ∀ (σ : pv_S) (x1 : Int32) (x2 : Int32) (x3 : Int32) (H : Heap) (locs : List Loc) (ls : Array Slot), k_73 σ x1 x2 x3 = some out → lv_has ls 4 [(0, .ref (a 0)), (1, .int x1), (2, .int x2), (3, .int x3)] → pv_W D pv_cl 36 a (pv_FM q a) σ H → va_S A s.heap H locs → W p l e R s m args below meth c H locs 0 0 Q (F0 m 73 ls [])) {σ : pv_S} {x1 : Int32} {x2 : Int32} {x3 : Int32} {H : Heap} {locs : List Loc} {ls : Array Slot} (hl : lv_has ls 4 [(0, .ref (a 0)), (1, .int x1), (2, .int x2), (3, .int x3)]) (hP : pv_W D pv_cl 36 a (pv_FM q a) σ H) (hS : va_S A s.heap H locs) (hf : f_Md_keep_110 k_51 k_61 k_73 σ x1 x2 x3 = some out) : W p l e R s m args below meth c H locs 0 0 Q (F0 m 110 ls []) := by
  unfold f_Md_keep_110 at hf
  have hx := C.1
  have hb := C.2.1
  refine lv_iinc (k := 3) (v := (x3 + (1 : Int32))) (lv' := [(3, .int (x3 + (1 : Int32))), (0, .ref (a 0)), (1, .int x1), (2, .int x2)]) hx hb d_Md_keep_110 hl rfl (pv_inc (by decide)) (by decide) rfl (fun ls hl => ?_)
  refine lv_goto (tgt := 73) hx hb d_Md_keep_113 (by decide) ?_
  exact hk_73 _ _ _ _ _ _ _ hf (lv_sub hl [1, 2, 3, 0] rfl) hP hS
def f_Md_keep_73b (k_51 : pv_S → Int32 → Option pv_S) (k_61 : pv_S → Int32 → Int32 → Option pv_S) (k_73 : pv_S → Int32 → Int32 → Int32 → Option pv_S) (σ : pv_S) (x1 : Int32) (x2 : Int32) (x3 : Int32) : Option pv_S :=
  (if (((4 : Int32) * x2) + (4 : Int32)) ≤ x3 then
  f_Md_keep_116 k_51 k_61 σ x1 x2
  else
  (if pv_in x2 24 = true then
(if (σ.1 17 (x2).toNatClampNeg) = 0 then
  f_Md_keep_116 k_51 k_61 σ x1 x2
  else
  ((f_Md_source σ x3).bind fun q1 =>
(if q1.1 < 0 then
  f_Md_keep_110 k_51 k_61 k_73 q1.2 x1 x2 x3
  else
  ((f_Md_source q1.2 x3).bind fun q2 =>
(if pv_in q2.1 24 = true then
f_Md_keep_110 k_51 k_61 k_73 (pv_uI q2.2 17 (q2.1).toNatClampNeg (vp_nar .boolean (1 : Int32))) x1 x2 x3
  else none)))))
  else none))
set_option maxHeartbeats 4000000 in
set_option maxRecDepth 100000 in
theorem s_Md_keep_73b {p : Program} {l : Launch} {e : Env} {R : Room} {s : State} {m : MethodId} {args : Array Value} {below : List Frame} {meth : Method} {c : Code} {Q : State → Prop} {D : va_G} {q : Nat → ClassId} {a : Nat → Nat} {A : Nat → Prop} (C : pv_C p s m args c prog_9_method_42_code 4 "PatchVoicesModel" pv_TB D pv_cl (pv_ty q) 36 a A (pv_ZM)) (hmv : pv_mv A (pv_ZM)) (hRf : 1 ≤ R.frames) (hRl : 21 ≤ R.locals) {out : pv_S} (hret : pv_Rv p l e R s m args below meth c prog_9_method_42_code D pv_cl 36 a (pv_FM q a) A Q out) {k_51 : pv_S → Int32 → Option pv_S} (hk_51 : ∀ (σ : pv_S) (x1 : Int32) (H : Heap) (locs : List Loc) (ls : Array Slot), k_51 σ x1 = some out → lv_has ls 4 [(0, .ref (a 0)), (1, .int x1)] → pv_W D pv_cl 36 a (pv_FM q a) σ H → va_S A s.heap H locs → W p l e R s m args below meth c H locs 0 0 Q (F0 m 51 ls [])) {k_61 : pv_S → Int32 → Int32 → Option pv_S} (hk_61 : ∀ (σ : pv_S) (x1 : Int32) (x2 : Int32) (H : Heap) (locs : List Loc) (ls : Array Slot), k_61 σ x1 x2 = some out → lv_has ls 4 [(0, .ref (a 0)), (1, .int x1), (2, .int x2)] → pv_W D pv_cl 36 a (pv_FM q a) σ H → va_S A s.heap H locs → W p l e R s m args below meth c H locs 0 0 Q (F0 m 61 ls [])) {k_73 : pv_S → Int32 → Int32 → Int32 → Option pv_S} (hk_73 : ∀ (σ : pv_S) (x1 : Int32) (x2 : Int32) (x3 : Int32) (H : Heap) (locs : List Loc) (ls : Array Slot), k_73 σ x1 x2 x3 = some out → lv_has ls 4 [(0, .ref (a 0)), (1, .int x1), (2, .int x2), (3, .int x3)] → pv_W D pv_cl 36 a (pv_FM q a) σ H → va_S A s.heap H locs → W p l e R s m args below meth c H locs 0 0 Q (F0 m 73 ls [])) {σ : pv_S} {x1 : Int32} {x2 : Int32} {x3 : Int32} {H : Heap} {locs : List Loc} {ls : Array Slot} (hl : lv_has ls 4 [(0, .ref (a 0)), (1, .int x1), (2, .int x2), (3, .int x3)]) (hP : pv_W D pv_cl 36 a (pv_FM q a) σ H) (hS : va_S A s.heap H locs) (hf : f_Md_keep_73b k_51 k_61 k_73 σ x1 x2 x3 = some out) : W p l e R s m args below meth c H locs 0 0 Q (F0 m 73 ls []) := by
  unfold f_Md_keep_73b at hf
  have hx := C.1
  have hb := C.2.1
  refine lv_iload_n hx hb d_Md_keep_73 rfl (lv_at hl 3 rfl) ?_
  refine lv_iconst (v := (4 : Int32)) hx hb d_Md_keep_74 (by decide) ?_
  refine lv_iload_n hx hb d_Md_keep_75 rfl (lv_at hl 2 rfl) ?_
  refine lv_imul hx hb d_Md_keep_76 ?_
  refine lv_iconst (v := (4 : Int32)) hx hb d_Md_keep_77 (by decide) ?_
  refine lv_iadd hx hb d_Md_keep_78 ?_
  refine lv_icmp_ge (tgt := 116) hx hb d_Md_keep_79 (by decide) (fun h => ?_) (fun h => ?_)
  · have hf := pv_t hf h
    exact s_Md_keep_116 C hmv hRf hRl hret hk_51 hk_61 (lv_sub hl [0, 1, 2] rfl) hP hS hf
  · have hf := pv_f hf h
    refine lv_aload_n hx hb d_Md_keep_82 rfl (lv_at hl 0 rfl) ?_
    refine pv_get C hP (v := .ref (a 17)) (j := 27) (by decide) (fm_0 _ _ _ _) fl_Md_62 rfl d_Md_keep_83 ?_
    refine lv_iload_n hx hb d_Md_keep_86 rfl (lv_at hl 2 rfl) ?_
    obtain ⟨hg, hf⟩ := pv_g hf
    refine pv_zald C hP (t0 := 2) (by decide) (fm_17 _ _ _ _) rfl hg d_Md_keep_87 ?_
    refine lv_if_eq (tgt := 116) hx hb d_Md_keep_88 (by decide) (fun h => ?_) (fun h => ?_)
    · have hf := pv_t hf h
      exact s_Md_keep_116 C hmv hRf hRl hret hk_51 hk_61 (lv_sub hl [0, 1, 2] rfl) hP hS hf
    · have hf := pv_f hf h
      refine lv_aload_n hx hb d_Md_keep_91 rfl (lv_at hl 0 rfl) ?_
      refine lv_iload_n hx hb d_Md_keep_92 rfl (lv_at hl 3 rfl) ?_
      obtain ⟨q1, hc, hf⟩ := pv_b hf
      refine pv_callVi C hmv pv_good hP hS (As := [.int x3]) (rest := []) (by decide) (fm_0 _ _ _ _) rfl (c_Md_source C.2.2.2.2.2.2.1 hmv hc) cv_Md_259 ⟨rfl, rfl, Nat.le_trans (Nat.le_of_ble_eq_true rfl) hRf, Nat.le_trans (Nat.le_of_ble_eq_true rfl) hRl⟩ rfl hl.1 rfl (Nat.le_of_ble_eq_true rfl) d_Md_keep_93 ⟨Nat.zero_le _, Nat.zero_le _⟩ (fun H locs hP hS => ?_)
      refine lv_if_lt (tgt := 110) hx hb d_Md_keep_96 (by decide) (fun h => ?_) (fun h => ?_)
      · have hf := pv_t hf h
        exact s_Md_keep_110 C hmv hRf hRl hret hk_51 hk_61 hk_73 (lv_sub hl [0, 1, 2, 3] rfl) hP hS hf
      · have hf := pv_f hf h
        refine lv_aload_n hx hb d_Md_keep_99 rfl (lv_at hl 0 rfl) ?_
        refine pv_get C hP (v := .ref (a 17)) (j := 27) (by decide) (fm_0 _ _ _ _) fl_Md_62 rfl d_Md_keep_100 ?_
        refine lv_aload_n hx hb d_Md_keep_103 rfl (lv_at hl 0 rfl) ?_
        refine lv_iload_n hx hb d_Md_keep_104 rfl (lv_at hl 3 rfl) ?_
        obtain ⟨q2, hc, hf⟩ := pv_b hf
        refine pv_callVi C hmv pv_good hP hS (As := [.int x3]) (rest := [.ref (a 17)]) (by decide) (fm_0 _ _ _ _) rfl (c_Md_source C.2.2.2.2.2.2.1 hmv hc) cv_Md_259 ⟨rfl, rfl, Nat.le_trans (Nat.le_of_ble_eq_true rfl) hRf, Nat.le_trans (Nat.le_of_ble_eq_true rfl) hRl⟩ rfl hl.1 rfl (Nat.le_of_ble_eq_true rfl) d_Md_keep_105 ⟨Nat.zero_le _, Nat.zero_le _⟩ (fun H locs hP hS => ?_)
        refine lv_iconst (v := (1 : Int32)) hx hb d_Md_keep_108 (by decide) ?_
        obtain ⟨hg, hf⟩ := pv_g hf
        refine pv_zast C hP hS (t0 := 2) (x := (1 : Int32)) (by decide) (fun f g => (fm_17 _ _ f g)) rfl hg d_Md_keep_109 (fun H locs hP hS => ?_)
        exact s_Md_keep_110 C hmv hRf hRl hret hk_51 hk_61 hk_73 (lv_sub hl [0, 1, 2, 3] rfl) hP hS hf
def f_Md_keep_73 (k_51 : pv_S → Int32 → Option pv_S) (k_61 : pv_S → Int32 → Int32 → Option pv_S) : Nat → pv_S → Int32 → Int32 → Int32 → Option pv_S
  | 0 => fun _ _ _ _ => none
  | n + 1 => f_Md_keep_73b k_51 k_61 (f_Md_keep_73 k_51 k_61 n)
set_option maxHeartbeats 4000000 in
theorem s_Md_keep_73 {p : Program} {l : Launch} {e : Env} {R : Room} {s : State} {m : MethodId} {args : Array Value} {below : List Frame} {meth : Method} {c : Code} {Q : State → Prop} {D : va_G} {q : Nat → ClassId} {a : Nat → Nat} {A : Nat → Prop} (C : pv_C p s m args c prog_9_method_42_code 4 "PatchVoicesModel" pv_TB D pv_cl (pv_ty q) 36 a A (pv_ZM)) (hmv : pv_mv A (pv_ZM)) (hRf : 1 ≤ R.frames) (hRl : 21 ≤ R.locals) {out : pv_S} (hret : pv_Rv p l e R s m args below meth c prog_9_method_42_code D pv_cl 36 a (pv_FM q a) A Q out) {k_51 : pv_S → Int32 → Option pv_S} (hk_51 : ∀ (σ : pv_S) (x1 : Int32) (H : Heap) (locs : List Loc) (ls : Array Slot), k_51 σ x1 = some out → lv_has ls 4 [(0, .ref (a 0)), (1, .int x1)] → pv_W D pv_cl 36 a (pv_FM q a) σ H → va_S A s.heap H locs → W p l e R s m args below meth c H locs 0 0 Q (F0 m 51 ls [])) {k_61 : pv_S → Int32 → Int32 → Option pv_S} (hk_61 : ∀ (σ : pv_S) (x1 : Int32) (x2 : Int32) (H : Heap) (locs : List Loc) (ls : Array Slot), k_61 σ x1 x2 = some out → lv_has ls 4 [(0, .ref (a 0)), (1, .int x1), (2, .int x2)] → pv_W D pv_cl 36 a (pv_FM q a) σ H → va_S A s.heap H locs → W p l e R s m args below meth c H locs 0 0 Q (F0 m 61 ls [])) (n : Nat) : ∀ {σ : pv_S} {x1 : Int32} {x2 : Int32} {x3 : Int32} {H : Heap} {locs : List Loc} {ls : Array Slot}, lv_has ls 4 [(0, .ref (a 0)), (1, .int x1), (2, .int x2), (3, .int x3)] → pv_W D pv_cl 36 a (pv_FM q a) σ H → va_S A s.heap H locs → f_Md_keep_73 k_51 k_61 n σ x1 x2 x3 = some out → W p l e R s m args below meth c H locs 0 0 Q (F0 m 73 ls []) := by
  induction n with
  | zero => intro σ x1 x2 x3 H locs ls hl hP hS hf; cases hf
  | succ n ih => intro σ x1 x2 x3 H locs ls hl hP hS hf; exact s_Md_keep_73b C hmv hRf hRl hret hk_51 hk_61 (fun σ x1 x2 x3 H locs ls hf hl hP hS => ih hl hP hS hf) hl hP hS hf
def f_Md_keep_61b (k_51 : pv_S → Int32 → Option pv_S) (k_61 : pv_S → Int32 → Int32 → Option pv_S) (σ : pv_S) (x1 : Int32) (x2 : Int32) : Option pv_S :=
  (if (σ.1 0 18) ≤ x2 then
  k_51 σ (x1 + (1 : Int32))
  else
  f_Md_keep_73 k_51 k_61 pv_fu σ x1 x2 ((4 : Int32) * x2))
set_option maxHeartbeats 4000000 in
set_option maxRecDepth 100000 in
theorem s_Md_keep_61b {p : Program} {l : Launch} {e : Env} {R : Room} {s : State} {m : MethodId} {args : Array Value} {below : List Frame} {meth : Method} {c : Code} {Q : State → Prop} {D : va_G} {q : Nat → ClassId} {a : Nat → Nat} {A : Nat → Prop} (C : pv_C p s m args c prog_9_method_42_code 4 "PatchVoicesModel" pv_TB D pv_cl (pv_ty q) 36 a A (pv_ZM)) (hmv : pv_mv A (pv_ZM)) (hRf : 1 ≤ R.frames) (hRl : 21 ≤ R.locals) {out : pv_S} (hret : pv_Rv p l e R s m args below meth c prog_9_method_42_code D pv_cl 36 a (pv_FM q a) A Q out) {k_51 : pv_S → Int32 → Option pv_S} (hk_51 : ∀ (σ : pv_S) (x1 : Int32) (H : Heap) (locs : List Loc) (ls : Array Slot), k_51 σ x1 = some out → lv_has ls 4 [(0, .ref (a 0)), (1, .int x1)] → pv_W D pv_cl 36 a (pv_FM q a) σ H → va_S A s.heap H locs → W p l e R s m args below meth c H locs 0 0 Q (F0 m 51 ls [])) {k_61 : pv_S → Int32 → Int32 → Option pv_S} (hk_61 : ∀ (σ : pv_S) (x1 : Int32) (x2 : Int32) (H : Heap) (locs : List Loc) (ls : Array Slot), k_61 σ x1 x2 = some out → lv_has ls 4 [(0, .ref (a 0)), (1, .int x1), (2, .int x2)] → pv_W D pv_cl 36 a (pv_FM q a) σ H → va_S A s.heap H locs → W p l e R s m args below meth c H locs 0 0 Q (F0 m 61 ls [])) {σ : pv_S} {x1 : Int32} {x2 : Int32} {H : Heap} {locs : List Loc} {ls : Array Slot} (hl : lv_has ls 4 [(0, .ref (a 0)), (1, .int x1), (2, .int x2)]) (hP : pv_W D pv_cl 36 a (pv_FM q a) σ H) (hS : va_S A s.heap H locs) (hf : f_Md_keep_61b k_51 k_61 σ x1 x2 = some out) : W p l e R s m args below meth c H locs 0 0 Q (F0 m 61 ls []) := by
  unfold f_Md_keep_61b at hf
  have hx := C.1
  have hb := C.2.1
  refine lv_iload_n hx hb d_Md_keep_61 rfl (lv_at hl 2 rfl) ?_
  refine lv_aload_n hx hb d_Md_keep_62 rfl (lv_at hl 0 rfl) ?_
  refine pv_get C hP (v := .int (σ.1 0 18)) (j := 18) (by decide) (fm_0 _ _ _ _) fl_Md_253 rfl d_Md_keep_63 ?_
  refine lv_icmp_ge (tgt := 122) hx hb d_Md_keep_66 (by decide) (fun h => ?_) (fun h => ?_)
  · have hf := pv_t hf h
    refine lv_iinc (k := 1) (v := (x1 + (1 : Int32))) (lv' := [(1, .int (x1 + (1 : Int32))), (0, .ref (a 0)), (2, .int x2)]) hx hb d_Md_keep_122 hl rfl (pv_inc (by decide)) (by decide) rfl (fun ls hl => ?_)
    refine lv_goto (tgt := 51) hx hb d_Md_keep_125 (by decide) ?_
    exact hk_51 _ _ _ _ _ hf (lv_sub hl [1, 0] rfl) hP hS
  · have hf := pv_f hf h
    refine lv_iconst (v := (4 : Int32)) hx hb d_Md_keep_69 (by decide) ?_
    refine lv_iload_n hx hb d_Md_keep_70 rfl (lv_at hl 2 rfl) ?_
    refine lv_imul hx hb d_Md_keep_71 ?_
    refine lv_istore_n (lv' := [(3, .int ((4 : Int32) * x2)), (0, .ref (a 0)), (1, .int x1), (2, .int x2)]) hx hb d_Md_keep_72 rfl hl (by decide) rfl (fun ls hl => ?_)
    exact s_Md_keep_73 C hmv hRf hRl hret hk_51 hk_61 pv_fu (lv_sub hl [1, 2, 3, 0] rfl) hP hS hf
def f_Md_keep_61 (k_51 : pv_S → Int32 → Option pv_S) : Nat → pv_S → Int32 → Int32 → Option pv_S
  | 0 => fun _ _ _ => none
  | n + 1 => f_Md_keep_61b k_51 (f_Md_keep_61 k_51 n)
set_option maxHeartbeats 4000000 in
theorem s_Md_keep_61 {p : Program} {l : Launch} {e : Env} {R : Room} {s : State} {m : MethodId} {args : Array Value} {below : List Frame} {meth : Method} {c : Code} {Q : State → Prop} {D : va_G} {q : Nat → ClassId} {a : Nat → Nat} {A : Nat → Prop} (C : pv_C p s m args c prog_9_method_42_code 4 "PatchVoicesModel" pv_TB D pv_cl (pv_ty q) 36 a A (pv_ZM)) (hmv : pv_mv A (pv_ZM)) (hRf : 1 ≤ R.frames) (hRl : 21 ≤ R.locals) {out : pv_S} (hret : pv_Rv p l e R s m args below meth c prog_9_method_42_code D pv_cl 36 a (pv_FM q a) A Q out) {k_51 : pv_S → Int32 → Option pv_S} (hk_51 : ∀ (σ : pv_S) (x1 : Int32) (H : Heap) (locs : List Loc) (ls : Array Slot), k_51 σ x1 = some out → lv_has ls 4 [(0, .ref (a 0)), (1, .int x1)] → pv_W D pv_cl 36 a (pv_FM q a) σ H → va_S A s.heap H locs → W p l e R s m args below meth c H locs 0 0 Q (F0 m 51 ls [])) (n : Nat) : ∀ {σ : pv_S} {x1 : Int32} {x2 : Int32} {H : Heap} {locs : List Loc} {ls : Array Slot}, lv_has ls 4 [(0, .ref (a 0)), (1, .int x1), (2, .int x2)] → pv_W D pv_cl 36 a (pv_FM q a) σ H → va_S A s.heap H locs → f_Md_keep_61 k_51 n σ x1 x2 = some out → W p l e R s m args below meth c H locs 0 0 Q (F0 m 61 ls []) := by
  induction n with
  | zero => intro σ x1 x2 H locs ls hl hP hS hf; cases hf
  | succ n ih => intro σ x1 x2 H locs ls hl hP hS hf; exact s_Md_keep_61b C hmv hRf hRl hret hk_51 (fun σ x1 x2 H locs ls hf hl hP hS => ih hl hP hS hf) hl hP hS hf
def f_Md_keep_51b (k_51 : pv_S → Int32 → Option pv_S) (σ : pv_S) (x1 : Int32) : Option pv_S :=
  (if (σ.1 0 18) ≤ x1 then
  some σ
  else
  f_Md_keep_61 k_51 pv_fu σ x1 (0 : Int32))
set_option maxHeartbeats 4000000 in
set_option maxRecDepth 100000 in
theorem s_Md_keep_51b {p : Program} {l : Launch} {e : Env} {R : Room} {s : State} {m : MethodId} {args : Array Value} {below : List Frame} {meth : Method} {c : Code} {Q : State → Prop} {D : va_G} {q : Nat → ClassId} {a : Nat → Nat} {A : Nat → Prop} (C : pv_C p s m args c prog_9_method_42_code 4 "PatchVoicesModel" pv_TB D pv_cl (pv_ty q) 36 a A (pv_ZM)) (hmv : pv_mv A (pv_ZM)) (hRf : 1 ≤ R.frames) (hRl : 21 ≤ R.locals) {out : pv_S} (hret : pv_Rv p l e R s m args below meth c prog_9_method_42_code D pv_cl 36 a (pv_FM q a) A Q out) {k_51 : pv_S → Int32 → Option pv_S} (hk_51 : ∀ (σ : pv_S) (x1 : Int32) (H : Heap) (locs : List Loc) (ls : Array Slot), k_51 σ x1 = some out → lv_has ls 4 [(0, .ref (a 0)), (1, .int x1)] → pv_W D pv_cl 36 a (pv_FM q a) σ H → va_S A s.heap H locs → W p l e R s m args below meth c H locs 0 0 Q (F0 m 51 ls [])) {σ : pv_S} {x1 : Int32} {H : Heap} {locs : List Loc} {ls : Array Slot} (hl : lv_has ls 4 [(0, .ref (a 0)), (1, .int x1)]) (hP : pv_W D pv_cl 36 a (pv_FM q a) σ H) (hS : va_S A s.heap H locs) (hf : f_Md_keep_51b k_51 σ x1 = some out) : W p l e R s m args below meth c H locs 0 0 Q (F0 m 51 ls []) := by
  unfold f_Md_keep_51b at hf
  have hx := C.1
  have hb := C.2.1
  refine lv_iload_n hx hb d_Md_keep_51 rfl (lv_at hl 1 rfl) ?_
  refine lv_aload_n hx hb d_Md_keep_52 rfl (lv_at hl 0 rfl) ?_
  refine pv_get C hP (v := .int (σ.1 0 18)) (j := 18) (by decide) (fm_0 _ _ _ _) fl_Md_253 rfl d_Md_keep_53 ?_
  refine lv_icmp_ge (tgt := 128) hx hb d_Md_keep_56 (by decide) (fun h => ?_) (fun h => ?_)
  · have hf := pv_t hf h
    obtain rfl := Option.some.inj hf
    exact hret _ _ _ _ d_Md_keep_128 hP hS
  · have hf := pv_f hf h
    refine lv_iconst (v := (0 : Int32)) hx hb d_Md_keep_59 (by decide) ?_
    refine lv_istore_n (lv' := [(2, .int (0 : Int32)), (0, .ref (a 0)), (1, .int x1)]) hx hb d_Md_keep_60 rfl hl (by decide) rfl (fun ls hl => ?_)
    exact s_Md_keep_61 C hmv hRf hRl hret hk_51 pv_fu (lv_sub hl [1, 2, 0] rfl) hP hS hf
def f_Md_keep_51 : Nat → pv_S → Int32 → Option pv_S
  | 0 => fun _ _ => none
  | n + 1 => f_Md_keep_51b (f_Md_keep_51 n)
set_option maxHeartbeats 4000000 in
theorem s_Md_keep_51 {p : Program} {l : Launch} {e : Env} {R : Room} {s : State} {m : MethodId} {args : Array Value} {below : List Frame} {meth : Method} {c : Code} {Q : State → Prop} {D : va_G} {q : Nat → ClassId} {a : Nat → Nat} {A : Nat → Prop} (C : pv_C p s m args c prog_9_method_42_code 4 "PatchVoicesModel" pv_TB D pv_cl (pv_ty q) 36 a A (pv_ZM)) (hmv : pv_mv A (pv_ZM)) (hRf : 1 ≤ R.frames) (hRl : 21 ≤ R.locals) {out : pv_S} (hret : pv_Rv p l e R s m args below meth c prog_9_method_42_code D pv_cl 36 a (pv_FM q a) A Q out) (n : Nat) : ∀ {σ : pv_S} {x1 : Int32} {H : Heap} {locs : List Loc} {ls : Array Slot}, lv_has ls 4 [(0, .ref (a 0)), (1, .int x1)] → pv_W D pv_cl 36 a (pv_FM q a) σ H → va_S A s.heap H locs → f_Md_keep_51 n σ x1 = some out → W p l e R s m args below meth c H locs 0 0 Q (F0 m 51 ls []) := by
  induction n with
  | zero => intro σ x1 H locs ls hl hP hS hf; cases hf
  | succ n ih => intro σ x1 H locs ls hl hP hS hf; exact s_Md_keep_51b C hmv hRf hRl hret (fun σ x1 H locs ls hf hl hP hS => ih hl hP hS hf) hl hP hS hf
def f_Md_keep_42 (k_2 : pv_S → Int32 → Option pv_S) (σ : pv_S) (x1 : Int32) (s0 : Int32) (s1 : Int32) : Option pv_S :=
  (if pv_in s1 24 = true then
k_2 (pv_uI σ 17 (s1).toNatClampNeg (vp_nar .boolean s0)) (x1 + (1 : Int32))
  else none)
set_option maxHeartbeats 4000000 in
set_option maxRecDepth 100000 in
theorem s_Md_keep_42 {p : Program} {l : Launch} {e : Env} {R : Room} {s : State} {m : MethodId} {args : Array Value} {below : List Frame} {meth : Method} {c : Code} {Q : State → Prop} {D : va_G} {q : Nat → ClassId} {a : Nat → Nat} {A : Nat → Prop} (C : pv_C p s m args c prog_9_method_42_code 4 "PatchVoicesModel" pv_TB D pv_cl (pv_ty q) 36 a A (pv_ZM)) (hmv : pv_mv A (pv_ZM)) (hRf : 1 ≤ R.frames) (hRl : 21 ≤ R.locals) {out : pv_S} (hret : pv_Rv p l e R s m args below meth c prog_9_method_42_code D pv_cl 36 a (pv_FM q a) A Q out) {k_2 : pv_S → Int32 → Option pv_S} (hk_2 : ∀ (σ : pv_S) (x1 : Int32) (H : Heap) (locs : List Loc) (ls : Array Slot), k_2 σ x1 = some out → lv_has ls 4 [(0, .ref (a 0)), (1, .int x1)] → pv_W D pv_cl 36 a (pv_FM q a) σ H → va_S A s.heap H locs → W p l e R s m args below meth c H locs 0 0 Q (F0 m 2 ls [])) {σ : pv_S} {x1 : Int32} {s0 : Int32} {s1 : Int32} {H : Heap} {locs : List Loc} {ls : Array Slot} (hl : lv_has ls 4 [(0, .ref (a 0)), (1, .int x1)]) (hP : pv_W D pv_cl 36 a (pv_FM q a) σ H) (hS : va_S A s.heap H locs) (hf : f_Md_keep_42 k_2 σ x1 s0 s1 = some out) : W p l e R s m args below meth c H locs 0 0 Q (F0 m 42 ls [.int s0, .int s1, .ref (a 17)]) := by
  unfold f_Md_keep_42 at hf
  have hx := C.1
  have hb := C.2.1
  obtain ⟨hg, hf⟩ := pv_g hf
  refine pv_zast C hP hS (t0 := 2) (x := s0) (by decide) (fun f g => (fm_17 _ _ f g)) rfl hg d_Md_keep_42 (fun H locs hP hS => ?_)
  refine lv_iinc (k := 1) (v := (x1 + (1 : Int32))) (lv' := [(1, .int (x1 + (1 : Int32))), (0, .ref (a 0))]) hx hb d_Md_keep_43 hl rfl (pv_inc (by decide)) (by decide) rfl (fun ls hl => ?_)
  refine lv_goto (tgt := 2) hx hb d_Md_keep_46 (by decide) ?_
  exact hk_2 _ _ _ _ _ hf (lv_sub hl [1, 0] rfl) hP hS
def f_Md_keep_37 (k_2 : pv_S → Int32 → Option pv_S) (σ : pv_S) (x1 : Int32) (s0 : Int32) : Option pv_S :=
  f_Md_keep_42 k_2 σ x1 (1 : Int32) s0
set_option maxHeartbeats 4000000 in
set_option maxRecDepth 100000 in
theorem s_Md_keep_37 {p : Program} {l : Launch} {e : Env} {R : Room} {s : State} {m : MethodId} {args : Array Value} {below : List Frame} {meth : Method} {c : Code} {Q : State → Prop} {D : va_G} {q : Nat → ClassId} {a : Nat → Nat} {A : Nat → Prop} (C : pv_C p s m args c prog_9_method_42_code 4 "PatchVoicesModel" pv_TB D pv_cl (pv_ty q) 36 a A (pv_ZM)) (hmv : pv_mv A (pv_ZM)) (hRf : 1 ≤ R.frames) (hRl : 21 ≤ R.locals) {out : pv_S} (hret : pv_Rv p l e R s m args below meth c prog_9_method_42_code D pv_cl 36 a (pv_FM q a) A Q out) {k_2 : pv_S → Int32 → Option pv_S} (hk_2 : ∀ (σ : pv_S) (x1 : Int32) (H : Heap) (locs : List Loc) (ls : Array Slot), k_2 σ x1 = some out → lv_has ls 4 [(0, .ref (a 0)), (1, .int x1)] → pv_W D pv_cl 36 a (pv_FM q a) σ H → va_S A s.heap H locs → W p l e R s m args below meth c H locs 0 0 Q (F0 m 2 ls [])) {σ : pv_S} {x1 : Int32} {s0 : Int32} {H : Heap} {locs : List Loc} {ls : Array Slot} (hl : lv_has ls 4 [(0, .ref (a 0)), (1, .int x1)]) (hP : pv_W D pv_cl 36 a (pv_FM q a) σ H) (hS : va_S A s.heap H locs) (hf : f_Md_keep_37 k_2 σ x1 s0 = some out) : W p l e R s m args below meth c H locs 0 0 Q (F0 m 37 ls [.int s0, .ref (a 17)]) := by
  unfold f_Md_keep_37 at hf
  have hx := C.1
  have hb := C.2.1
  refine lv_iconst (v := (1 : Int32)) hx hb d_Md_keep_37 (by decide) ?_
  refine lv_goto (tgt := 42) hx hb d_Md_keep_38 (by decide) ?_
  exact s_Md_keep_42 C hmv hRf hRl hret hk_2 (lv_sub hl [0, 1] rfl) hP hS hf
def f_Md_keep_2b (k_2 : pv_S → Int32 → Option pv_S) (σ : pv_S) (x1 : Int32) : Option pv_S :=
  (if (σ.1 0 18) ≤ x1 then
  f_Md_keep_51 pv_fu σ (0 : Int32)
  else
  (if (σ.1 0 17) = 0 then
  f_Md_keep_37 k_2 σ x1 x1
  else
  (if pv_in ((σ.1 0 18) - (1 : Int32)) 24 = true then
(if x1 = (σ.1 15 (((σ.1 0 18) - (1 : Int32))).toNatClampNeg) then
  f_Md_keep_37 k_2 σ x1 x1
  else
  f_Md_keep_42 k_2 σ x1 (0 : Int32) x1)
  else none)))
set_option maxHeartbeats 4000000 in
set_option maxRecDepth 100000 in
theorem s_Md_keep_2b {p : Program} {l : Launch} {e : Env} {R : Room} {s : State} {m : MethodId} {args : Array Value} {below : List Frame} {meth : Method} {c : Code} {Q : State → Prop} {D : va_G} {q : Nat → ClassId} {a : Nat → Nat} {A : Nat → Prop} (C : pv_C p s m args c prog_9_method_42_code 4 "PatchVoicesModel" pv_TB D pv_cl (pv_ty q) 36 a A (pv_ZM)) (hmv : pv_mv A (pv_ZM)) (hRf : 1 ≤ R.frames) (hRl : 21 ≤ R.locals) {out : pv_S} (hret : pv_Rv p l e R s m args below meth c prog_9_method_42_code D pv_cl 36 a (pv_FM q a) A Q out) {k_2 : pv_S → Int32 → Option pv_S} (hk_2 : ∀ (σ : pv_S) (x1 : Int32) (H : Heap) (locs : List Loc) (ls : Array Slot), k_2 σ x1 = some out → lv_has ls 4 [(0, .ref (a 0)), (1, .int x1)] → pv_W D pv_cl 36 a (pv_FM q a) σ H → va_S A s.heap H locs → W p l e R s m args below meth c H locs 0 0 Q (F0 m 2 ls [])) {σ : pv_S} {x1 : Int32} {H : Heap} {locs : List Loc} {ls : Array Slot} (hl : lv_has ls 4 [(0, .ref (a 0)), (1, .int x1)]) (hP : pv_W D pv_cl 36 a (pv_FM q a) σ H) (hS : va_S A s.heap H locs) (hf : f_Md_keep_2b k_2 σ x1 = some out) : W p l e R s m args below meth c H locs 0 0 Q (F0 m 2 ls []) := by
  unfold f_Md_keep_2b at hf
  have hx := C.1
  have hb := C.2.1
  refine lv_iload_n hx hb d_Md_keep_2 rfl (lv_at hl 1 rfl) ?_
  refine lv_aload_n hx hb d_Md_keep_3 rfl (lv_at hl 0 rfl) ?_
  refine pv_get C hP (v := .int (σ.1 0 18)) (j := 18) (by decide) (fm_0 _ _ _ _) fl_Md_253 rfl d_Md_keep_4 ?_
  refine lv_icmp_ge (tgt := 49) hx hb d_Md_keep_7 (by decide) (fun h => ?_) (fun h => ?_)
  · have hf := pv_t hf h
    refine lv_iconst (v := (0 : Int32)) hx hb d_Md_keep_49 (by decide) ?_
    refine lv_istore_n (lv' := [(1, .int (0 : Int32)), (0, .ref (a 0))]) hx hb d_Md_keep_50 rfl hl (by decide) rfl (fun ls hl => ?_)
    exact s_Md_keep_51 C hmv hRf hRl hret pv_fu (lv_sub hl [1, 0] rfl) hP hS hf
  · have hf := pv_f hf h
    refine lv_aload_n hx hb d_Md_keep_10 rfl (lv_at hl 0 rfl) ?_
    refine pv_get C hP (v := .ref (a 17)) (j := 27) (by decide) (fm_0 _ _ _ _) fl_Md_62 rfl d_Md_keep_11 ?_
    refine lv_iload_n hx hb d_Md_keep_14 rfl (lv_at hl 1 rfl) ?_
    refine lv_aload_n hx hb d_Md_keep_15 rfl (lv_at hl 0 rfl) ?_
    refine pv_get C hP (v := .int (σ.1 0 17)) (j := 17) (by decide) (fm_0 _ _ _ _) fl_Md_250 rfl d_Md_keep_16 ?_
    refine lv_if_eq (tgt := 37) hx hb d_Md_keep_19 (by decide) (fun h => ?_) (fun h => ?_)
    · have hf := pv_t hf h
      exact s_Md_keep_37 C hmv hRf hRl hret hk_2 (lv_sub hl [0, 1] rfl) hP hS hf
    · have hf := pv_f hf h
      refine lv_iload_n hx hb d_Md_keep_22 rfl (lv_at hl 1 rfl) ?_
      refine lv_aload_n hx hb d_Md_keep_23 rfl (lv_at hl 0 rfl) ?_
      refine pv_get C hP (v := .ref (a 15)) (j := 25) (by decide) (fm_0 _ _ _ _) fl_Md_56 rfl d_Md_keep_24 ?_
      refine lv_aload_n hx hb d_Md_keep_27 rfl (lv_at hl 0 rfl) ?_
      refine pv_get C hP (v := .int (σ.1 0 18)) (j := 18) (by decide) (fm_0 _ _ _ _) fl_Md_253 rfl d_Md_keep_28 ?_
      refine lv_iconst (v := (1 : Int32)) hx hb d_Md_keep_31 (by decide) ?_
      refine lv_isub hx hb d_Md_keep_32 ?_
      obtain ⟨hg, hf⟩ := pv_g hf
      refine pv_iald C hP (t0 := 0) (by decide) (fm_15 _ _ _ _) rfl hg d_Md_keep_33 ?_
      refine lv_icmp_ne (tgt := 41) hx hb d_Md_keep_34 (by decide) (fun h => ?_) (fun h => ?_)
      · have hf := pv_f hf h
        refine lv_iconst (v := (0 : Int32)) hx hb d_Md_keep_41 (by decide) ?_
        exact s_Md_keep_42 C hmv hRf hRl hret hk_2 (lv_sub hl [0, 1] rfl) hP hS hf
      · have hf := pv_t hf h
        exact s_Md_keep_37 C hmv hRf hRl hret hk_2 (lv_sub hl [0, 1] rfl) hP hS hf
def f_Md_keep_2 : Nat → pv_S → Int32 → Option pv_S
  | 0 => fun _ _ => none
  | n + 1 => f_Md_keep_2b (f_Md_keep_2 n)
set_option maxHeartbeats 4000000 in
theorem s_Md_keep_2 {p : Program} {l : Launch} {e : Env} {R : Room} {s : State} {m : MethodId} {args : Array Value} {below : List Frame} {meth : Method} {c : Code} {Q : State → Prop} {D : va_G} {q : Nat → ClassId} {a : Nat → Nat} {A : Nat → Prop} (C : pv_C p s m args c prog_9_method_42_code 4 "PatchVoicesModel" pv_TB D pv_cl (pv_ty q) 36 a A (pv_ZM)) (hmv : pv_mv A (pv_ZM)) (hRf : 1 ≤ R.frames) (hRl : 21 ≤ R.locals) {out : pv_S} (hret : pv_Rv p l e R s m args below meth c prog_9_method_42_code D pv_cl 36 a (pv_FM q a) A Q out) (n : Nat) : ∀ {σ : pv_S} {x1 : Int32} {H : Heap} {locs : List Loc} {ls : Array Slot}, lv_has ls 4 [(0, .ref (a 0)), (1, .int x1)] → pv_W D pv_cl 36 a (pv_FM q a) σ H → va_S A s.heap H locs → f_Md_keep_2 n σ x1 = some out → W p l e R s m args below meth c H locs 0 0 Q (F0 m 2 ls []) := by
  induction n with
  | zero => intro σ x1 H locs ls hl hP hS hf; cases hf
  | succ n ih => intro σ x1 H locs ls hl hP hS hf; exact s_Md_keep_2b C hmv hRf hRl hret (fun σ x1 H locs ls hf hl hP hS => ih hl hP hS hf) hl hP hS hf
def f_Md_keep_0 (σ : pv_S) : Option pv_S :=
  f_Md_keep_2 pv_fu σ (0 : Int32)
set_option maxHeartbeats 4000000 in
set_option maxRecDepth 100000 in
theorem s_Md_keep_0 {p : Program} {l : Launch} {e : Env} {R : Room} {s : State} {m : MethodId} {args : Array Value} {below : List Frame} {meth : Method} {c : Code} {Q : State → Prop} {D : va_G} {q : Nat → ClassId} {a : Nat → Nat} {A : Nat → Prop} (C : pv_C p s m args c prog_9_method_42_code 4 "PatchVoicesModel" pv_TB D pv_cl (pv_ty q) 36 a A (pv_ZM)) (hmv : pv_mv A (pv_ZM)) (hRf : 1 ≤ R.frames) (hRl : 21 ≤ R.locals) {out : pv_S} (hret : pv_Rv p l e R s m args below meth c prog_9_method_42_code D pv_cl 36 a (pv_FM q a) A Q out) {σ : pv_S} {H : Heap} {locs : List Loc} {ls : Array Slot} (hl : lv_has ls 4 [(0, .ref (a 0))]) (hP : pv_W D pv_cl 36 a (pv_FM q a) σ H) (hS : va_S A s.heap H locs) (hf : f_Md_keep_0 σ = some out) : W p l e R s m args below meth c H locs 0 0 Q (F0 m 0 ls []) := by
  unfold f_Md_keep_0 at hf
  have hx := C.1
  have hb := C.2.1
  refine lv_iconst (v := (0 : Int32)) hx hb d_Md_keep_0 (by decide) ?_
  refine lv_istore_n (lv' := [(1, .int (0 : Int32)), (0, .ref (a 0))]) hx hb d_Md_keep_1 rfl hl (by decide) rfl (fun ls hl => ?_)
  exact s_Md_keep_2 C hmv hRf hRl hret pv_fu (lv_sub hl [1, 0] rfl) hP hS hf
def f_Md_keep (σ : pv_S) : Option pv_S := f_Md_keep_0 σ
def rm_Md_keep : Room := { frames := 1, cells := 0, slots := 0, locals := 21 }
theorem c_Md_keep {l : Launch} {D : va_G} {q : Nat → ClassId} {a : Nat → Nat} {A : Nat → Prop} (hD : pv_D 36 a A) (hmv : pv_mv A (pv_ZM)) {σ : pv_S} {out : pv_S} (hf : f_Md_keep σ = some out) : pv_Mv l y_Md_keep (Cond.code y_Md_keep prog_9_method_42_code 4 none :: pv_TB) rm_Md_keep D pv_cl (pv_ty q) 36 a (pv_FM q a) A (pv_ZM) [.ref (a 0)] σ out :=
  pv_ofV (by decide) (Nat.le_of_ble_eq_true rfl) hD (fun p e s m args below meth c Q ls C hret hl hP => s_Md_keep_0 C hmv (Nat.le_refl _) (Nat.le_refl _) hret hl hP va_S.rf hf)
theorem d_Md_reads_0 : decode prog_9_method_43_code 0 = .ok (.iconst 4, 1) := by decide +kernel
theorem d_Md_reads_1 : decode prog_9_method_43_code 1 = .ok (.aload_n 0, 1) := by decide +kernel
theorem d_Md_reads_2 : decode prog_9_method_43_code 2 = .ok (.getfield 66, 3) := by decide +kernel
theorem d_Md_reads_5 : decode prog_9_method_43_code 5 = .ok (.iload_n 1, 1) := by decide +kernel
theorem d_Md_reads_6 : decode prog_9_method_43_code 6 = .ok (.iaload, 1) := by decide +kernel
theorem d_Md_reads_7 : decode prog_9_method_43_code 7 = .ok (.imul, 1) := by decide +kernel
theorem d_Md_reads_8 : decode prog_9_method_43_code 8 = .ok (.istore_n 3, 1) := by decide +kernel
theorem d_Md_reads_9 : decode prog_9_method_43_code 9 = .ok (.aload_n 0, 1) := by decide +kernel
theorem d_Md_reads_10 : decode prog_9_method_43_code 10 = .ok (.getfield 69, 3) := by decide +kernel
theorem d_Md_reads_13 : decode prog_9_method_43_code 13 = .ok (.iload_n 1, 1) := by decide +kernel
theorem d_Md_reads_14 : decode prog_9_method_43_code 14 = .ok (.baload, 1) := by decide +kernel
theorem d_Md_reads_15 : decode prog_9_method_43_code 15 = .ok (.ifCond .eq 18, 3) := by decide +kernel
theorem d_Md_reads_18 : decode prog_9_method_43_code 18 = .ok (.aload_n 0, 1) := by decide +kernel
theorem d_Md_reads_19 : decode prog_9_method_43_code 19 = .ok (.iload_n 3, 1) := by decide +kernel
theorem d_Md_reads_20 : decode prog_9_method_43_code 20 = .ok (.invokevirtual 259, 3) := by decide +kernel
theorem d_Md_reads_23 : decode prog_9_method_43_code 23 = .ok (.iload_n 2, 1) := by decide +kernel
theorem d_Md_reads_24 : decode prog_9_method_43_code 24 = .ok (.if_icmp .ne 7, 3) := by decide +kernel
theorem d_Md_reads_27 : decode prog_9_method_43_code 27 = .ok (.iconst 1, 1) := by decide +kernel
theorem d_Md_reads_28 : decode prog_9_method_43_code 28 = .ok (.goto 4, 3) := by decide +kernel
theorem d_Md_reads_31 : decode prog_9_method_43_code 31 = .ok (.iconst 0, 1) := by decide +kernel
theorem d_Md_reads_32 : decode prog_9_method_43_code 32 = .ok (.ireturn, 1) := by decide +kernel
theorem d_Md_reads_33 : decode prog_9_method_43_code 33 = .ok (.iconst 0, 1) := by decide +kernel
theorem d_Md_reads_34 : decode prog_9_method_43_code 34 = .ok (.istore 4, 2) := by decide +kernel
theorem d_Md_reads_36 : decode prog_9_method_43_code 36 = .ok (.iload_n 3, 1) := by decide +kernel
theorem d_Md_reads_37 : decode prog_9_method_43_code 37 = .ok (.istore 5, 2) := by decide +kernel
theorem d_Md_reads_39 : decode prog_9_method_43_code 39 = .ok (.iload 5, 2) := by decide +kernel
theorem d_Md_reads_41 : decode prog_9_method_43_code 41 = .ok (.iload_n 3, 1) := by decide +kernel
theorem d_Md_reads_42 : decode prog_9_method_43_code 42 = .ok (.iconst 4, 1) := by decide +kernel
theorem d_Md_reads_43 : decode prog_9_method_43_code 43 = .ok (.iadd, 1) := by decide +kernel
theorem d_Md_reads_44 : decode prog_9_method_43_code 44 = .ok (.if_icmp .ge 47, 3) := by decide +kernel
theorem d_Md_reads_47 : decode prog_9_method_43_code 47 = .ok (.aload_n 0, 1) := by decide +kernel
theorem d_Md_reads_48 : decode prog_9_method_43_code 48 = .ok (.getfield 38, 3) := by decide +kernel
theorem d_Md_reads_51 : decode prog_9_method_43_code 51 = .ok (.aload_n 0, 1) := by decide +kernel
theorem d_Md_reads_52 : decode prog_9_method_43_code 52 = .ok (.getfield 66, 3) := by decide +kernel
theorem d_Md_reads_55 : decode prog_9_method_43_code 55 = .ok (.iload_n 1, 1) := by decide +kernel
theorem d_Md_reads_56 : decode prog_9_method_43_code 56 = .ok (.iaload, 1) := by decide +kernel
theorem d_Md_reads_57 : decode prog_9_method_43_code 57 = .ok (.iaload, 1) := by decide +kernel
theorem d_Md_reads_58 : decode prog_9_method_43_code 58 = .ok (.bipush 18, 2) := by decide +kernel
theorem d_Md_reads_60 : decode prog_9_method_43_code 60 = .ok (.if_icmp .eq 31, 3) := by decide +kernel
theorem d_Md_reads_63 : decode prog_9_method_43_code 63 = .ok (.iload 4, 2) := by decide +kernel
theorem d_Md_reads_65 : decode prog_9_method_43_code 65 = .ok (.ifCond .ne 13, 3) := by decide +kernel
theorem d_Md_reads_68 : decode prog_9_method_43_code 68 = .ok (.aload_n 0, 1) := by decide +kernel
theorem d_Md_reads_69 : decode prog_9_method_43_code 69 = .ok (.iload 5, 2) := by decide +kernel
theorem d_Md_reads_71 : decode prog_9_method_43_code 71 = .ok (.invokevirtual 259, 3) := by decide +kernel
theorem d_Md_reads_74 : decode prog_9_method_43_code 74 = .ok (.iload_n 2, 1) := by decide +kernel
theorem d_Md_reads_75 : decode prog_9_method_43_code 75 = .ok (.if_icmp .ne 7, 3) := by decide +kernel
theorem d_Md_reads_78 : decode prog_9_method_43_code 78 = .ok (.iconst 1, 1) := by decide +kernel
theorem d_Md_reads_79 : decode prog_9_method_43_code 79 = .ok (.goto 4, 3) := by decide +kernel
theorem d_Md_reads_82 : decode prog_9_method_43_code 82 = .ok (.iconst 0, 1) := by decide +kernel
theorem d_Md_reads_83 : decode prog_9_method_43_code 83 = .ok (.istore 4, 2) := by decide +kernel
theorem d_Md_reads_85 : decode prog_9_method_43_code 85 = .ok (.iinc 5 1, 3) := by decide +kernel
theorem d_Md_reads_88 : decode prog_9_method_43_code 88 = .ok (.goto (-49), 3) := by decide +kernel
theorem d_Md_reads_91 : decode prog_9_method_43_code 91 = .ok (.iload 4, 2) := by decide +kernel
theorem d_Md_reads_93 : decode prog_9_method_43_code 93 = .ok (.ireturn, 1) := by decide +kernel
def f_Md_reads_83 (k_39 : pv_S → Int32 → Int32 → Int32 → Int32 → Int32 → Option (Int32 × pv_S)) (σ : pv_S) (x1 : Int32) (x2 : Int32) (x3 : Int32) (x5 : Int32) (s0 : Int32) : Option (Int32 × pv_S) :=
  k_39 σ x1 x2 x3 s0 (x5 + (1 : Int32))
set_option maxHeartbeats 4000000 in
set_option maxRecDepth 100000 in
theorem s_Md_reads_83 {p : Program} {l : Launch} {e : Env} {R : Room} {s : State} {m : MethodId} {args : Array Value} {below : List Frame} {meth : Method} {c : Code} {Q : State → Prop} {D : va_G} {q : Nat → ClassId} {a : Nat → Nat} {A : Nat → Prop} (C : pv_C p s m args c prog_9_method_43_code 6 "PatchVoicesModel" pv_TB D pv_cl (pv_ty q) 36 a A (pv_ZM)) (hmv : pv_mv A (pv_ZM)) (hRf : 1 ≤ R.frames) (hRl : 21 ≤ R.locals) {out : (Int32 × pv_S)} (hret : pv_Rz p l e R s m args below meth c prog_9_method_43_code D pv_cl 36 a (pv_FM q a) A Q out) {k_39 : pv_S → Int32 → Int32 → Int32 → Int32 → Int32 → Option (Int32 × pv_S)} (hk_39 : ∀ (σ : pv_S) (x1 : Int32) (x2 : Int32) (x3 : Int32) (x4 : Int32) (x5 : Int32) (H : Heap) (locs : List Loc) (ls : Array Slot), k_39 σ x1 x2 x3 x4 x5 = some out → lv_has ls 6 [(0, .ref (a 0)), (1, .int x1), (2, .int x2), (3, .int x3), (4, .int x4), (5, .int x5)] → pv_W D pv_cl 36 a (pv_FM q a) σ H → va_S A s.heap H locs → W p l e R s m args below meth c H locs 0 0 Q (F0 m 39 ls [])) {σ : pv_S} {x1 : Int32} {x2 : Int32} {x3 : Int32} {x5 : Int32} {s0 : Int32} {H : Heap} {locs : List Loc} {ls : Array Slot} (hl : lv_has ls 6 [(0, .ref (a 0)), (1, .int x1), (2, .int x2), (3, .int x3), (5, .int x5)]) (hP : pv_W D pv_cl 36 a (pv_FM q a) σ H) (hS : va_S A s.heap H locs) (hf : f_Md_reads_83 k_39 σ x1 x2 x3 x5 s0 = some out) : W p l e R s m args below meth c H locs 0 0 Q (F0 m 83 ls [.int s0]) := by
  unfold f_Md_reads_83 at hf
  have hx := C.1
  have hb := C.2.1
  refine lv_istore (lv' := [(4, .int s0), (0, .ref (a 0)), (1, .int x1), (2, .int x2), (3, .int x3), (5, .int x5)]) hx hb d_Md_reads_83 hl (by decide) rfl (fun ls hl => ?_)
  refine lv_iinc (k := 5) (v := (x5 + (1 : Int32))) (lv' := [(5, .int (x5 + (1 : Int32))), (4, .int s0), (0, .ref (a 0)), (1, .int x1), (2, .int x2), (3, .int x3)]) hx hb d_Md_reads_85 hl rfl (pv_inc (by decide)) (by decide) rfl (fun ls hl => ?_)
  refine lv_goto (tgt := 39) hx hb d_Md_reads_88 (by decide) ?_
  exact hk_39 _ _ _ _ _ _ _ _ _ hf (lv_sub hl [2, 3, 4, 5, 1, 0] rfl) hP hS
def f_Md_reads_78 (k_39 : pv_S → Int32 → Int32 → Int32 → Int32 → Int32 → Option (Int32 × pv_S)) (σ : pv_S) (x1 : Int32) (x2 : Int32) (x3 : Int32) (x5 : Int32) : Option (Int32 × pv_S) :=
  f_Md_reads_83 k_39 σ x1 x2 x3 x5 (1 : Int32)
set_option maxHeartbeats 4000000 in
set_option maxRecDepth 100000 in
theorem s_Md_reads_78 {p : Program} {l : Launch} {e : Env} {R : Room} {s : State} {m : MethodId} {args : Array Value} {below : List Frame} {meth : Method} {c : Code} {Q : State → Prop} {D : va_G} {q : Nat → ClassId} {a : Nat → Nat} {A : Nat → Prop} (C : pv_C p s m args c prog_9_method_43_code 6 "PatchVoicesModel" pv_TB D pv_cl (pv_ty q) 36 a A (pv_ZM)) (hmv : pv_mv A (pv_ZM)) (hRf : 1 ≤ R.frames) (hRl : 21 ≤ R.locals) {out : (Int32 × pv_S)} (hret : pv_Rz p l e R s m args below meth c prog_9_method_43_code D pv_cl 36 a (pv_FM q a) A Q out) {k_39 : pv_S → Int32 → Int32 → Int32 → Int32 → Int32 → Option (Int32 × pv_S)} (hk_39 : ∀ (σ : pv_S) (x1 : Int32) (x2 : Int32) (x3 : Int32) (x4 : Int32) (x5 : Int32) (H : Heap) (locs : List Loc) (ls : Array Slot), k_39 σ x1 x2 x3 x4 x5 = some out → lv_has ls 6 [(0, .ref (a 0)), (1, .int x1), (2, .int x2), (3, .int x3), (4, .int x4), (5, .int x5)] → pv_W D pv_cl 36 a (pv_FM q a) σ H → va_S A s.heap H locs → W p l e R s m args below meth c H locs 0 0 Q (F0 m 39 ls [])) {σ : pv_S} {x1 : Int32} {x2 : Int32} {x3 : Int32} {x5 : Int32} {H : Heap} {locs : List Loc} {ls : Array Slot} (hl : lv_has ls 6 [(0, .ref (a 0)), (1, .int x1), (2, .int x2), (3, .int x3), (5, .int x5)]) (hP : pv_W D pv_cl 36 a (pv_FM q a) σ H) (hS : va_S A s.heap H locs) (hf : f_Md_reads_78 k_39 σ x1 x2 x3 x5 = some out) : W p l e R s m args below meth c H locs 0 0 Q (F0 m 78 ls []) := by
  unfold f_Md_reads_78 at hf
  have hx := C.1
  have hb := C.2.1
  refine lv_iconst (v := (1 : Int32)) hx hb d_Md_reads_78 (by decide) ?_
  refine lv_goto (tgt := 83) hx hb d_Md_reads_79 (by decide) ?_
  exact s_Md_reads_83 C hmv hRf hRl hret hk_39 (lv_sub hl [0, 1, 2, 3, 4] rfl) hP hS hf
def f_Md_reads_39b (k_39 : pv_S → Int32 → Int32 → Int32 → Int32 → Int32 → Option (Int32 × pv_S)) (σ : pv_S) (x1 : Int32) (x2 : Int32) (x3 : Int32) (x4 : Int32) (x5 : Int32) : Option (Int32 × pv_S) :=
  (if (x3 + (4 : Int32)) ≤ x5 then
  (if pv_z x4 = true then
some (x4, σ)
  else none)
  else
  (if pv_in x1 48 = true then
(if pv_in (σ.1 18 (x1).toNatClampNeg) 24 = true then
(if (σ.1 9 ((σ.1 18 (x1).toNatClampNeg)).toNatClampNeg) = (18 : Int32) then
  (if pv_z x4 = true then
some (x4, σ)
  else none)
  else
  (if x4 = 0 then
  ((f_Md_source σ x5).bind fun q2 =>
(if q2.1 = x2 then
  f_Md_reads_78 k_39 q2.2 x1 x2 x3 x5
  else
  f_Md_reads_83 k_39 q2.2 x1 x2 x3 x5 (0 : Int32)))
  else
  f_Md_reads_78 k_39 σ x1 x2 x3 x5))
  else none)
  else none))
set_option maxHeartbeats 4000000 in
set_option maxRecDepth 100000 in
theorem s_Md_reads_39b {p : Program} {l : Launch} {e : Env} {R : Room} {s : State} {m : MethodId} {args : Array Value} {below : List Frame} {meth : Method} {c : Code} {Q : State → Prop} {D : va_G} {q : Nat → ClassId} {a : Nat → Nat} {A : Nat → Prop} (C : pv_C p s m args c prog_9_method_43_code 6 "PatchVoicesModel" pv_TB D pv_cl (pv_ty q) 36 a A (pv_ZM)) (hmv : pv_mv A (pv_ZM)) (hRf : 1 ≤ R.frames) (hRl : 21 ≤ R.locals) {out : (Int32 × pv_S)} (hret : pv_Rz p l e R s m args below meth c prog_9_method_43_code D pv_cl 36 a (pv_FM q a) A Q out) {k_39 : pv_S → Int32 → Int32 → Int32 → Int32 → Int32 → Option (Int32 × pv_S)} (hk_39 : ∀ (σ : pv_S) (x1 : Int32) (x2 : Int32) (x3 : Int32) (x4 : Int32) (x5 : Int32) (H : Heap) (locs : List Loc) (ls : Array Slot), k_39 σ x1 x2 x3 x4 x5 = some out → lv_has ls 6 [(0, .ref (a 0)), (1, .int x1), (2, .int x2), (3, .int x3), (4, .int x4), (5, .int x5)] → pv_W D pv_cl 36 a (pv_FM q a) σ H → va_S A s.heap H locs → W p l e R s m args below meth c H locs 0 0 Q (F0 m 39 ls [])) {σ : pv_S} {x1 : Int32} {x2 : Int32} {x3 : Int32} {x4 : Int32} {x5 : Int32} {H : Heap} {locs : List Loc} {ls : Array Slot} (hl : lv_has ls 6 [(0, .ref (a 0)), (1, .int x1), (2, .int x2), (3, .int x3), (4, .int x4), (5, .int x5)]) (hP : pv_W D pv_cl 36 a (pv_FM q a) σ H) (hS : va_S A s.heap H locs) (hf : f_Md_reads_39b k_39 σ x1 x2 x3 x4 x5 = some out) : W p l e R s m args below meth c H locs 0 0 Q (F0 m 39 ls []) := by
  unfold f_Md_reads_39b at hf
  have hx := C.1
  have hb := C.2.1
  refine lv_iload hx hb d_Md_reads_39 (lv_at hl 5 rfl) ?_
  refine lv_iload_n hx hb d_Md_reads_41 rfl (lv_at hl 3 rfl) ?_
  refine lv_iconst (v := (4 : Int32)) hx hb d_Md_reads_42 (by decide) ?_
  refine lv_iadd hx hb d_Md_reads_43 ?_
  refine lv_icmp_ge (tgt := 91) hx hb d_Md_reads_44 (by decide) (fun h => ?_) (fun h => ?_)
  · have hf := pv_t hf h
    refine lv_iload hx hb d_Md_reads_91 (lv_at hl 4 rfl) ?_
    obtain ⟨hg, hf⟩ := pv_g hf
    obtain rfl := Option.some.inj hf
    exact hret _ _ _ _ d_Md_reads_93 hg hP hS
  · have hf := pv_f hf h
    refine lv_aload_n hx hb d_Md_reads_47 rfl (lv_at hl 0 rfl) ?_
    refine pv_get C hP (v := .ref (a 9)) (j := 19) (by decide) (fm_0 _ _ _ _) fl_Md_38 rfl d_Md_reads_48 ?_
    refine lv_aload_n hx hb d_Md_reads_51 rfl (lv_at hl 0 rfl) ?_
    refine pv_get C hP (v := .ref (a 18)) (j := 29) (by decide) (fm_0 _ _ _ _) fl_Md_66 rfl d_Md_reads_52 ?_
    refine lv_iload_n hx hb d_Md_reads_55 rfl (lv_at hl 1 rfl) ?_
    obtain ⟨hg, hf⟩ := pv_g hf
    refine pv_iald C hP (t0 := 0) (by decide) (fm_18 _ _ _ _) rfl hg d_Md_reads_56 ?_
    obtain ⟨hg, hf⟩ := pv_g hf
    refine pv_iald C hP (t0 := 0) (by decide) (fm_9 _ _ _ _) rfl hg d_Md_reads_57 ?_
    refine lv_bipush (v := (18 : Int32)) hx hb d_Md_reads_58 (by decide) ?_
    refine lv_icmp_eq (tgt := 91) hx hb d_Md_reads_60 (by decide) (fun h => ?_) (fun h => ?_)
    · have hf := pv_t hf h
      refine lv_iload hx hb d_Md_reads_91 (lv_at hl 4 rfl) ?_
      obtain ⟨hg, hf⟩ := pv_g hf
      obtain rfl := Option.some.inj hf
      exact hret _ _ _ _ d_Md_reads_93 hg hP hS
    · have hf := pv_f hf h
      refine lv_iload hx hb d_Md_reads_63 (lv_at hl 4 rfl) ?_
      refine lv_if_ne (tgt := 78) hx hb d_Md_reads_65 (by decide) (fun h => ?_) (fun h => ?_)
      · have hf := pv_f hf h
        exact s_Md_reads_78 C hmv hRf hRl hret hk_39 (lv_sub hl [0, 1, 2, 3, 5] rfl) hP hS hf
      · have hf := pv_t hf h
        refine lv_aload_n hx hb d_Md_reads_68 rfl (lv_at hl 0 rfl) ?_
        refine lv_iload hx hb d_Md_reads_69 (lv_at hl 5 rfl) ?_
        obtain ⟨q2, hc, hf⟩ := pv_b hf
        refine pv_callVi C hmv pv_good hP hS (As := [.int x5]) (rest := []) (by decide) (fm_0 _ _ _ _) rfl (c_Md_source C.2.2.2.2.2.2.1 hmv hc) cv_Md_259 ⟨rfl, rfl, Nat.le_trans (Nat.le_of_ble_eq_true rfl) hRf, Nat.le_trans (Nat.le_of_ble_eq_true rfl) hRl⟩ rfl hl.1 rfl (Nat.le_of_ble_eq_true rfl) d_Md_reads_71 ⟨Nat.zero_le _, Nat.zero_le _⟩ (fun H locs hP hS => ?_)
        refine lv_iload_n hx hb d_Md_reads_74 rfl (lv_at hl 2 rfl) ?_
        refine lv_icmp_ne (tgt := 82) hx hb d_Md_reads_75 (by decide) (fun h => ?_) (fun h => ?_)
        · have hf := pv_f hf h
          refine lv_iconst (v := (0 : Int32)) hx hb d_Md_reads_82 (by decide) ?_
          exact s_Md_reads_83 C hmv hRf hRl hret hk_39 (lv_sub hl [0, 1, 2, 3, 5] rfl) hP hS hf
        · have hf := pv_t hf h
          exact s_Md_reads_78 C hmv hRf hRl hret hk_39 (lv_sub hl [0, 1, 2, 3, 5] rfl) hP hS hf
def f_Md_reads_39 : Nat → pv_S → Int32 → Int32 → Int32 → Int32 → Int32 → Option (Int32 × pv_S)
  | 0 => fun _ _ _ _ _ _ => none
  | n + 1 => f_Md_reads_39b (f_Md_reads_39 n)
set_option maxHeartbeats 4000000 in
theorem s_Md_reads_39 {p : Program} {l : Launch} {e : Env} {R : Room} {s : State} {m : MethodId} {args : Array Value} {below : List Frame} {meth : Method} {c : Code} {Q : State → Prop} {D : va_G} {q : Nat → ClassId} {a : Nat → Nat} {A : Nat → Prop} (C : pv_C p s m args c prog_9_method_43_code 6 "PatchVoicesModel" pv_TB D pv_cl (pv_ty q) 36 a A (pv_ZM)) (hmv : pv_mv A (pv_ZM)) (hRf : 1 ≤ R.frames) (hRl : 21 ≤ R.locals) {out : (Int32 × pv_S)} (hret : pv_Rz p l e R s m args below meth c prog_9_method_43_code D pv_cl 36 a (pv_FM q a) A Q out) (n : Nat) : ∀ {σ : pv_S} {x1 : Int32} {x2 : Int32} {x3 : Int32} {x4 : Int32} {x5 : Int32} {H : Heap} {locs : List Loc} {ls : Array Slot}, lv_has ls 6 [(0, .ref (a 0)), (1, .int x1), (2, .int x2), (3, .int x3), (4, .int x4), (5, .int x5)] → pv_W D pv_cl 36 a (pv_FM q a) σ H → va_S A s.heap H locs → f_Md_reads_39 n σ x1 x2 x3 x4 x5 = some out → W p l e R s m args below meth c H locs 0 0 Q (F0 m 39 ls []) := by
  induction n with
  | zero => intro σ x1 x2 x3 x4 x5 H locs ls hl hP hS hf; cases hf
  | succ n ih => intro σ x1 x2 x3 x4 x5 H locs ls hl hP hS hf; exact s_Md_reads_39b C hmv hRf hRl hret (fun σ x1 x2 x3 x4 x5 H locs ls hf hl hP hS => ih hl hP hS hf) hl hP hS hf
def f_Md_reads_0 (σ : pv_S) (x1 : Int32) (x2 : Int32) : Option (Int32 × pv_S) :=
  (if pv_in x1 48 = true then
(if pv_in x1 48 = true then
(if (σ.1 19 (x1).toNatClampNeg) = 0 then
  f_Md_reads_39 pv_fu σ x1 x2 ((4 : Int32) * (σ.1 18 (x1).toNatClampNeg)) (0 : Int32) ((4 : Int32) * (σ.1 18 (x1).toNatClampNeg))
  else
  ((f_Md_source σ ((4 : Int32) * (σ.1 18 (x1).toNatClampNeg))).bind fun q1 =>
(if q1.1 = x2 then
  some ((1 : Int32), q1.2)
  else
  some ((0 : Int32), q1.2))))
  else none)
  else none)
set_option maxHeartbeats 4000000 in
set_option maxRecDepth 100000 in
theorem s_Md_reads_0 {p : Program} {l : Launch} {e : Env} {R : Room} {s : State} {m : MethodId} {args : Array Value} {below : List Frame} {meth : Method} {c : Code} {Q : State → Prop} {D : va_G} {q : Nat → ClassId} {a : Nat → Nat} {A : Nat → Prop} (C : pv_C p s m args c prog_9_method_43_code 6 "PatchVoicesModel" pv_TB D pv_cl (pv_ty q) 36 a A (pv_ZM)) (hmv : pv_mv A (pv_ZM)) (hRf : 1 ≤ R.frames) (hRl : 21 ≤ R.locals) {out : (Int32 × pv_S)} (hret : pv_Rz p l e R s m args below meth c prog_9_method_43_code D pv_cl 36 a (pv_FM q a) A Q out) {σ : pv_S} {x1 : Int32} {x2 : Int32} {H : Heap} {locs : List Loc} {ls : Array Slot} (hl : lv_has ls 6 [(0, .ref (a 0)), (1, .int x1), (2, .int x2)]) (hP : pv_W D pv_cl 36 a (pv_FM q a) σ H) (hS : va_S A s.heap H locs) (hf : f_Md_reads_0 σ x1 x2 = some out) : W p l e R s m args below meth c H locs 0 0 Q (F0 m 0 ls []) := by
  unfold f_Md_reads_0 at hf
  have hx := C.1
  have hb := C.2.1
  refine lv_iconst (v := (4 : Int32)) hx hb d_Md_reads_0 (by decide) ?_
  refine lv_aload_n hx hb d_Md_reads_1 rfl (lv_at hl 0 rfl) ?_
  refine pv_get C hP (v := .ref (a 18)) (j := 29) (by decide) (fm_0 _ _ _ _) fl_Md_66 rfl d_Md_reads_2 ?_
  refine lv_iload_n hx hb d_Md_reads_5 rfl (lv_at hl 1 rfl) ?_
  obtain ⟨hg, hf⟩ := pv_g hf
  refine pv_iald C hP (t0 := 0) (by decide) (fm_18 _ _ _ _) rfl hg d_Md_reads_6 ?_
  refine lv_imul hx hb d_Md_reads_7 ?_
  refine lv_istore_n (lv' := [(3, .int ((4 : Int32) * (σ.1 18 (x1).toNatClampNeg))), (0, .ref (a 0)), (1, .int x1), (2, .int x2)]) hx hb d_Md_reads_8 rfl hl (by decide) rfl (fun ls hl => ?_)
  refine lv_aload_n hx hb d_Md_reads_9 rfl (lv_at hl 1 rfl) ?_
  refine pv_get C hP (v := .ref (a 19)) (j := 30) (by decide) (fm_0 _ _ _ _) fl_Md_69 rfl d_Md_reads_10 ?_
  refine lv_iload_n hx hb d_Md_reads_13 rfl (lv_at hl 2 rfl) ?_
  obtain ⟨hg, hf⟩ := pv_g hf
  refine pv_zald C hP (t0 := 2) (by decide) (fm_19 _ _ _ _) rfl hg d_Md_reads_14 ?_
  refine lv_if_eq (tgt := 33) hx hb d_Md_reads_15 (by decide) (fun h => ?_) (fun h => ?_)
  · have hf := pv_t hf h
    refine lv_iconst (v := (0 : Int32)) hx hb d_Md_reads_33 (by decide) ?_
    refine lv_istore (lv' := [(4, .int (0 : Int32)), (3, .int ((4 : Int32) * (σ.1 18 (x1).toNatClampNeg))), (0, .ref (a 0)), (1, .int x1), (2, .int x2)]) hx hb d_Md_reads_34 hl (by decide) rfl (fun ls hl => ?_)
    refine lv_iload_n hx hb d_Md_reads_36 rfl (lv_at hl 1 rfl) ?_
    refine lv_istore (lv' := [(5, .int ((4 : Int32) * (σ.1 18 (x1).toNatClampNeg))), (4, .int (0 : Int32)), (3, .int ((4 : Int32) * (σ.1 18 (x1).toNatClampNeg))), (0, .ref (a 0)), (1, .int x1), (2, .int x2)]) hx hb d_Md_reads_37 hl (by decide) rfl (fun ls hl => ?_)
    exact s_Md_reads_39 C hmv hRf hRl hret pv_fu (lv_sub hl [3, 4, 5, 2, 1, 0] rfl) hP hS hf
  · have hf := pv_f hf h
    refine lv_aload_n hx hb d_Md_reads_18 rfl (lv_at hl 1 rfl) ?_
    refine lv_iload_n hx hb d_Md_reads_19 rfl (lv_at hl 0 rfl) ?_
    obtain ⟨q1, hc, hf⟩ := pv_b hf
    refine pv_callVi C hmv pv_good hP hS (As := [.int ((4 : Int32) * (σ.1 18 (x1).toNatClampNeg))]) (rest := []) (by decide) (fm_0 _ _ _ _) rfl (c_Md_source C.2.2.2.2.2.2.1 hmv hc) cv_Md_259 ⟨rfl, rfl, Nat.le_trans (Nat.le_of_ble_eq_true rfl) hRf, Nat.le_trans (Nat.le_of_ble_eq_true rfl) hRl⟩ rfl hl.1 rfl (Nat.le_of_ble_eq_true rfl) d_Md_reads_20 ⟨Nat.zero_le _, Nat.zero_le _⟩ (fun H locs hP hS => ?_)
    refine lv_iload_n hx hb d_Md_reads_23 rfl (lv_at hl 3 rfl) ?_
    refine lv_icmp_ne (tgt := 31) hx hb d_Md_reads_24 (by decide) (fun h => ?_) (fun h => ?_)
    · have hf := pv_f hf h
      refine lv_iconst (v := (0 : Int32)) hx hb d_Md_reads_31 (by decide) ?_
      obtain rfl := Option.some.inj hf
      exact hret _ _ _ _ d_Md_reads_32 rfl hP hS
    · have hf := pv_t hf h
      refine lv_iconst (v := (1 : Int32)) hx hb d_Md_reads_27 (by decide) ?_
      refine lv_goto (tgt := 32) hx hb d_Md_reads_28 (by decide) ?_
      obtain rfl := Option.some.inj hf
      exact hret _ _ _ _ d_Md_reads_32 rfl hP hS
def f_Md_reads (σ : pv_S) (x1 : Int32) (x2 : Int32) : Option (Int32 × pv_S) := f_Md_reads_0 σ x1 x2
def rm_Md_reads : Room := { frames := 1, cells := 0, slots := 0, locals := 21 }
theorem c_Md_reads {l : Launch} {D : va_G} {q : Nat → ClassId} {a : Nat → Nat} {A : Nat → Prop} (hD : pv_D 36 a A) (hmv : pv_mv A (pv_ZM)) {σ : pv_S} {x1 : Int32} {x2 : Int32} {out : (Int32 × pv_S)} (hf : f_Md_reads σ x1 x2 = some out) : pv_Mi l y_Md_reads (Cond.code y_Md_reads prog_9_method_43_code 6 (some .boolean) :: pv_TB) rm_Md_reads D pv_cl (pv_ty q) 36 a (pv_FM q a) A (pv_ZM) [.ref (a 0), .int x1, .int x2] σ out :=
  pv_ofZ (by decide) (Nat.le_of_ble_eq_true rfl) hD (fun p e s m args below meth c Q ls C hret hl hP => s_Md_reads_0 C hmv (Nat.le_refl _) (Nat.le_refl _) hret hl hP va_S.rf hf)
theorem d_Md_isFull_0 : decode prog_9_method_44_code 0 = .ok (.iconst 0, 1) := by decide +kernel
theorem d_Md_isFull_1 : decode prog_9_method_44_code 1 = .ok (.istore_n 3, 1) := by decide +kernel
theorem d_Md_isFull_2 : decode prog_9_method_44_code 2 = .ok (.iconst 0, 1) := by decide +kernel
theorem d_Md_isFull_3 : decode prog_9_method_44_code 3 = .ok (.istore 4, 2) := by decide +kernel
theorem d_Md_isFull_5 : decode prog_9_method_44_code 5 = .ok (.iload 4, 2) := by decide +kernel
theorem d_Md_isFull_7 : decode prog_9_method_44_code 7 = .ok (.iload_n 1, 1) := by decide +kernel
theorem d_Md_isFull_8 : decode prog_9_method_44_code 8 = .ok (.if_icmp .ge 133, 3) := by decide +kernel
theorem d_Md_isFull_11 : decode prog_9_method_44_code 11 = .ok (.aload_n 0, 1) := by decide +kernel
theorem d_Md_isFull_12 : decode prog_9_method_44_code 12 = .ok (.getfield 69, 3) := by decide +kernel
theorem d_Md_isFull_15 : decode prog_9_method_44_code 15 = .ok (.iload 4, 2) := by decide +kernel
theorem d_Md_isFull_17 : decode prog_9_method_44_code 17 = .ok (.baload, 1) := by decide +kernel
theorem d_Md_isFull_18 : decode prog_9_method_44_code 18 = .ok (.ifCond .ne 18, 3) := by decide +kernel
theorem d_Md_isFull_21 : decode prog_9_method_44_code 21 = .ok (.aload_n 0, 1) := by decide +kernel
theorem d_Md_isFull_22 : decode prog_9_method_44_code 22 = .ok (.getfield 72, 3) := by decide +kernel
theorem d_Md_isFull_25 : decode prog_9_method_44_code 25 = .ok (.iload 4, 2) := by decide +kernel
theorem d_Md_isFull_27 : decode prog_9_method_44_code 27 = .ok (.iaload, 1) := by decide +kernel
theorem d_Md_isFull_28 : decode prog_9_method_44_code 28 = .ok (.iload_n 2, 1) := by decide +kernel
theorem d_Md_isFull_29 : decode prog_9_method_44_code 29 = .ok (.if_icmp .ne 7, 3) := by decide +kernel
theorem d_Md_isFull_32 : decode prog_9_method_44_code 32 = .ok (.iconst 1, 1) := by decide +kernel
theorem d_Md_isFull_33 : decode prog_9_method_44_code 33 = .ok (.goto 4, 3) := by decide +kernel
theorem d_Md_isFull_36 : decode prog_9_method_44_code 36 = .ok (.iconst 0, 1) := by decide +kernel
theorem d_Md_isFull_37 : decode prog_9_method_44_code 37 = .ok (.istore 5, 2) := by decide +kernel
theorem d_Md_isFull_39 : decode prog_9_method_44_code 39 = .ok (.aload_n 0, 1) := by decide +kernel
theorem d_Md_isFull_40 : decode prog_9_method_44_code 40 = .ok (.getfield 66, 3) := by decide +kernel
theorem d_Md_isFull_43 : decode prog_9_method_44_code 43 = .ok (.iload 4, 2) := by decide +kernel
theorem d_Md_isFull_45 : decode prog_9_method_44_code 45 = .ok (.iaload, 1) := by decide +kernel
theorem d_Md_isFull_46 : decode prog_9_method_44_code 46 = .ok (.aload_n 0, 1) := by decide +kernel
theorem d_Md_isFull_47 : decode prog_9_method_44_code 47 = .ok (.getfield 56, 3) := by decide +kernel
theorem d_Md_isFull_50 : decode prog_9_method_44_code 50 = .ok (.aload_n 0, 1) := by decide +kernel
theorem d_Md_isFull_51 : decode prog_9_method_44_code 51 = .ok (.getfield 253, 3) := by decide +kernel
theorem d_Md_isFull_54 : decode prog_9_method_44_code 54 = .ok (.iconst 1, 1) := by decide +kernel
theorem d_Md_isFull_55 : decode prog_9_method_44_code 55 = .ok (.isub, 1) := by decide +kernel
theorem d_Md_isFull_56 : decode prog_9_method_44_code 56 = .ok (.iaload, 1) := by decide +kernel
theorem d_Md_isFull_57 : decode prog_9_method_44_code 57 = .ok (.if_icmp .ne 7, 3) := by decide +kernel
theorem d_Md_isFull_60 : decode prog_9_method_44_code 60 = .ok (.iconst 1, 1) := by decide +kernel
theorem d_Md_isFull_61 : decode prog_9_method_44_code 61 = .ok (.goto 4, 3) := by decide +kernel
theorem d_Md_isFull_64 : decode prog_9_method_44_code 64 = .ok (.iconst 0, 1) := by decide +kernel
theorem d_Md_isFull_65 : decode prog_9_method_44_code 65 = .ok (.istore 6, 2) := by decide +kernel
theorem d_Md_isFull_67 : decode prog_9_method_44_code 67 = .ok (.iload_n 1, 1) := by decide +kernel
theorem d_Md_isFull_68 : decode prog_9_method_44_code 68 = .ok (.iconst 1, 1) := by decide +kernel
theorem d_Md_isFull_69 : decode prog_9_method_44_code 69 = .ok (.iadd, 1) := by decide +kernel
theorem d_Md_isFull_70 : decode prog_9_method_44_code 70 = .ok (.istore 7, 2) := by decide +kernel
theorem d_Md_isFull_72 : decode prog_9_method_44_code 72 = .ok (.iload 7, 2) := by decide +kernel
theorem d_Md_isFull_74 : decode prog_9_method_44_code 74 = .ok (.aload_n 0, 1) := by decide +kernel
theorem d_Md_isFull_75 : decode prog_9_method_44_code 75 = .ok (.getfield 279, 3) := by decide +kernel
theorem d_Md_isFull_78 : decode prog_9_method_44_code 78 = .ok (.if_icmp .ge 37, 3) := by decide +kernel
theorem d_Md_isFull_81 : decode prog_9_method_44_code 81 = .ok (.iload 6, 2) := by decide +kernel
theorem d_Md_isFull_83 : decode prog_9_method_44_code 83 = .ok (.ifCond .ne 19, 3) := by decide +kernel
theorem d_Md_isFull_86 : decode prog_9_method_44_code 86 = .ok (.aload_n 0, 1) := by decide +kernel
theorem d_Md_isFull_87 : decode prog_9_method_44_code 87 = .ok (.iload 7, 2) := by decide +kernel
theorem d_Md_isFull_89 : decode prog_9_method_44_code 89 = .ok (.aload_n 0, 1) := by decide +kernel
theorem d_Md_isFull_90 : decode prog_9_method_44_code 90 = .ok (.getfield 66, 3) := by decide +kernel
theorem d_Md_isFull_93 : decode prog_9_method_44_code 93 = .ok (.iload 4, 2) := by decide +kernel
theorem d_Md_isFull_95 : decode prog_9_method_44_code 95 = .ok (.iaload, 1) := by decide +kernel
theorem d_Md_isFull_96 : decode prog_9_method_44_code 96 = .ok (.invokevirtual 282, 3) := by decide +kernel
theorem d_Md_isFull_99 : decode prog_9_method_44_code 99 = .ok (.ifCond .eq 7, 3) := by decide +kernel
theorem d_Md_isFull_102 : decode prog_9_method_44_code 102 = .ok (.iconst 1, 1) := by decide +kernel
theorem d_Md_isFull_103 : decode prog_9_method_44_code 103 = .ok (.goto 4, 3) := by decide +kernel
theorem d_Md_isFull_106 : decode prog_9_method_44_code 106 = .ok (.iconst 0, 1) := by decide +kernel
theorem d_Md_isFull_107 : decode prog_9_method_44_code 107 = .ok (.istore 6, 2) := by decide +kernel
theorem d_Md_isFull_109 : decode prog_9_method_44_code 109 = .ok (.iinc 7 1, 3) := by decide +kernel
theorem d_Md_isFull_112 : decode prog_9_method_44_code 112 = .ok (.goto (-40), 3) := by decide +kernel
theorem d_Md_isFull_115 : decode prog_9_method_44_code 115 = .ok (.iload_n 3, 1) := by decide +kernel
theorem d_Md_isFull_116 : decode prog_9_method_44_code 116 = .ok (.ifCond .ne 13, 3) := by decide +kernel
theorem d_Md_isFull_119 : decode prog_9_method_44_code 119 = .ok (.iload 5, 2) := by decide +kernel
theorem d_Md_isFull_121 : decode prog_9_method_44_code 121 = .ok (.ifCond .eq 12, 3) := by decide +kernel
theorem d_Md_isFull_124 : decode prog_9_method_44_code 124 = .ok (.iload 6, 2) := by decide +kernel
theorem d_Md_isFull_126 : decode prog_9_method_44_code 126 = .ok (.ifCond .eq 7, 3) := by decide +kernel
theorem d_Md_isFull_129 : decode prog_9_method_44_code 129 = .ok (.iconst 1, 1) := by decide +kernel
theorem d_Md_isFull_130 : decode prog_9_method_44_code 130 = .ok (.goto 4, 3) := by decide +kernel
theorem d_Md_isFull_133 : decode prog_9_method_44_code 133 = .ok (.iconst 0, 1) := by decide +kernel
theorem d_Md_isFull_134 : decode prog_9_method_44_code 134 = .ok (.istore_n 3, 1) := by decide +kernel
theorem d_Md_isFull_135 : decode prog_9_method_44_code 135 = .ok (.iinc 4 1, 3) := by decide +kernel
theorem d_Md_isFull_138 : decode prog_9_method_44_code 138 = .ok (.goto (-133), 3) := by decide +kernel
theorem d_Md_isFull_141 : decode prog_9_method_44_code 141 = .ok (.iload_n 3, 1) := by decide +kernel
theorem d_Md_isFull_142 : decode prog_9_method_44_code 142 = .ok (.ireturn, 1) := by decide +kernel
def f_Md_isFull_134 (k_5 : pv_S → Int32 → Int32 → Int32 → Int32 → Option (Int32 × pv_S)) (σ : pv_S) (x1 : Int32) (x2 : Int32) (x4 : Int32) (s0 : Int32) : Option (Int32 × pv_S) :=
  k_5 σ x1 x2 s0 (x4 + (1 : Int32))
set_option maxHeartbeats 4000000 in
set_option maxRecDepth 100000 in
theorem s_Md_isFull_134 {p : Program} {l : Launch} {e : Env} {R : Room} {s : State} {m : MethodId} {args : Array Value} {below : List Frame} {meth : Method} {c : Code} {Q : State → Prop} {D : va_G} {q : Nat → ClassId} {a : Nat → Nat} {A : Nat → Prop} (C : pv_C p s m args c prog_9_method_44_code 8 "PatchVoicesModel" pv_TB D pv_cl (pv_ty q) 36 a A (pv_ZM)) (hmv : pv_mv A (pv_ZM)) (hRf : 2 ≤ R.frames) (hRl : 46 ≤ R.locals) {out : (Int32 × pv_S)} (hret : pv_Rz p l e R s m args below meth c prog_9_method_44_code D pv_cl 36 a (pv_FM q a) A Q out) {k_5 : pv_S → Int32 → Int32 → Int32 → Int32 → Option (Int32 × pv_S)} (hk_5 : ∀ (σ : pv_S) (x1 : Int32) (x2 : Int32) (x3 : Int32) (x4 : Int32) (H : Heap) (locs : List Loc) (ls : Array Slot), k_5 σ x1 x2 x3 x4 = some out → lv_has ls 8 [(0, .ref (a 0)), (1, .int x1), (2, .int x2), (3, .int x3), (4, .int x4)] → pv_W D pv_cl 36 a (pv_FM q a) σ H → va_S A s.heap H locs → W p l e R s m args below meth c H locs 0 0 Q (F0 m 5 ls [])) {σ : pv_S} {x1 : Int32} {x2 : Int32} {x4 : Int32} {s0 : Int32} {H : Heap} {locs : List Loc} {ls : Array Slot} (hl : lv_has ls 8 [(0, .ref (a 0)), (1, .int x1), (2, .int x2), (4, .int x4)]) (hP : pv_W D pv_cl 36 a (pv_FM q a) σ H) (hS : va_S A s.heap H locs) (hf : f_Md_isFull_134 k_5 σ x1 x2 x4 s0 = some out) : W p l e R s m args below meth c H locs 0 0 Q (F0 m 134 ls [.int s0]) := by
  unfold f_Md_isFull_134 at hf
  have hx := C.1
  have hb := C.2.1
  refine lv_istore_n (lv' := [(3, .int s0), (0, .ref (a 0)), (1, .int x1), (2, .int x2), (4, .int x4)]) hx hb d_Md_isFull_134 rfl hl (by decide) rfl (fun ls hl => ?_)
  refine lv_iinc (k := 4) (v := (x4 + (1 : Int32))) (lv' := [(4, .int (x4 + (1 : Int32))), (3, .int s0), (0, .ref (a 0)), (1, .int x1), (2, .int x2)]) hx hb d_Md_isFull_135 hl rfl (pv_inc (by decide)) (by decide) rfl (fun ls hl => ?_)
  refine lv_goto (tgt := 5) hx hb d_Md_isFull_138 (by decide) ?_
  exact hk_5 _ _ _ _ _ _ _ _ hf (lv_sub hl [2, 3, 4, 1, 0] rfl) hP hS
def f_Md_isFull_133 (k_5 : pv_S → Int32 → Int32 → Int32 → Int32 → Option (Int32 × pv_S)) (σ : pv_S) (x1 : Int32) (x2 : Int32) (x4 : Int32) : Option (Int32 × pv_S) :=
  f_Md_isFull_134 k_5 σ x1 x2 x4 (0 : Int32)
set_option maxHeartbeats 4000000 in
set_option maxRecDepth 100000 in
theorem s_Md_isFull_133 {p : Program} {l : Launch} {e : Env} {R : Room} {s : State} {m : MethodId} {args : Array Value} {below : List Frame} {meth : Method} {c : Code} {Q : State → Prop} {D : va_G} {q : Nat → ClassId} {a : Nat → Nat} {A : Nat → Prop} (C : pv_C p s m args c prog_9_method_44_code 8 "PatchVoicesModel" pv_TB D pv_cl (pv_ty q) 36 a A (pv_ZM)) (hmv : pv_mv A (pv_ZM)) (hRf : 2 ≤ R.frames) (hRl : 46 ≤ R.locals) {out : (Int32 × pv_S)} (hret : pv_Rz p l e R s m args below meth c prog_9_method_44_code D pv_cl 36 a (pv_FM q a) A Q out) {k_5 : pv_S → Int32 → Int32 → Int32 → Int32 → Option (Int32 × pv_S)} (hk_5 : ∀ (σ : pv_S) (x1 : Int32) (x2 : Int32) (x3 : Int32) (x4 : Int32) (H : Heap) (locs : List Loc) (ls : Array Slot), k_5 σ x1 x2 x3 x4 = some out → lv_has ls 8 [(0, .ref (a 0)), (1, .int x1), (2, .int x2), (3, .int x3), (4, .int x4)] → pv_W D pv_cl 36 a (pv_FM q a) σ H → va_S A s.heap H locs → W p l e R s m args below meth c H locs 0 0 Q (F0 m 5 ls [])) {σ : pv_S} {x1 : Int32} {x2 : Int32} {x4 : Int32} {H : Heap} {locs : List Loc} {ls : Array Slot} (hl : lv_has ls 8 [(0, .ref (a 0)), (1, .int x1), (2, .int x2), (4, .int x4)]) (hP : pv_W D pv_cl 36 a (pv_FM q a) σ H) (hS : va_S A s.heap H locs) (hf : f_Md_isFull_133 k_5 σ x1 x2 x4 = some out) : W p l e R s m args below meth c H locs 0 0 Q (F0 m 133 ls []) := by
  unfold f_Md_isFull_133 at hf
  have hx := C.1
  have hb := C.2.1
  refine lv_iconst (v := (0 : Int32)) hx hb d_Md_isFull_133 (by decide) ?_
  exact s_Md_isFull_134 C hmv hRf hRl hret hk_5 (lv_sub hl [0, 1, 2, 3] rfl) hP hS hf
def f_Md_isFull_129 (k_5 : pv_S → Int32 → Int32 → Int32 → Int32 → Option (Int32 × pv_S)) (σ : pv_S) (x1 : Int32) (x2 : Int32) (x4 : Int32) : Option (Int32 × pv_S) :=
  f_Md_isFull_134 k_5 σ x1 x2 x4 (1 : Int32)
set_option maxHeartbeats 4000000 in
set_option maxRecDepth 100000 in
theorem s_Md_isFull_129 {p : Program} {l : Launch} {e : Env} {R : Room} {s : State} {m : MethodId} {args : Array Value} {below : List Frame} {meth : Method} {c : Code} {Q : State → Prop} {D : va_G} {q : Nat → ClassId} {a : Nat → Nat} {A : Nat → Prop} (C : pv_C p s m args c prog_9_method_44_code 8 "PatchVoicesModel" pv_TB D pv_cl (pv_ty q) 36 a A (pv_ZM)) (hmv : pv_mv A (pv_ZM)) (hRf : 2 ≤ R.frames) (hRl : 46 ≤ R.locals) {out : (Int32 × pv_S)} (hret : pv_Rz p l e R s m args below meth c prog_9_method_44_code D pv_cl 36 a (pv_FM q a) A Q out) {k_5 : pv_S → Int32 → Int32 → Int32 → Int32 → Option (Int32 × pv_S)} (hk_5 : ∀ (σ : pv_S) (x1 : Int32) (x2 : Int32) (x3 : Int32) (x4 : Int32) (H : Heap) (locs : List Loc) (ls : Array Slot), k_5 σ x1 x2 x3 x4 = some out → lv_has ls 8 [(0, .ref (a 0)), (1, .int x1), (2, .int x2), (3, .int x3), (4, .int x4)] → pv_W D pv_cl 36 a (pv_FM q a) σ H → va_S A s.heap H locs → W p l e R s m args below meth c H locs 0 0 Q (F0 m 5 ls [])) {σ : pv_S} {x1 : Int32} {x2 : Int32} {x4 : Int32} {H : Heap} {locs : List Loc} {ls : Array Slot} (hl : lv_has ls 8 [(0, .ref (a 0)), (1, .int x1), (2, .int x2), (4, .int x4)]) (hP : pv_W D pv_cl 36 a (pv_FM q a) σ H) (hS : va_S A s.heap H locs) (hf : f_Md_isFull_129 k_5 σ x1 x2 x4 = some out) : W p l e R s m args below meth c H locs 0 0 Q (F0 m 129 ls []) := by
  unfold f_Md_isFull_129 at hf
  have hx := C.1
  have hb := C.2.1
  refine lv_iconst (v := (1 : Int32)) hx hb d_Md_isFull_129 (by decide) ?_
  refine lv_goto (tgt := 134) hx hb d_Md_isFull_130 (by decide) ?_
  exact s_Md_isFull_134 C hmv hRf hRl hret hk_5 (lv_sub hl [0, 1, 2, 3] rfl) hP hS hf
def f_Md_isFull_107 (k_5 : pv_S → Int32 → Int32 → Int32 → Int32 → Option (Int32 × pv_S)) (k_72 : pv_S → Int32 → Int32 → Int32 → Int32 → Int32 → Int32 → Int32 → Option (Int32 × pv_S)) (σ : pv_S) (x1 : Int32) (x2 : Int32) (x3 : Int32) (x4 : Int32) (x5 : Int32) (x7 : Int32) (s0 : Int32) : Option (Int32 × pv_S) :=
  k_72 σ x1 x2 x3 x4 x5 s0 (x7 + (1 : Int32))
set_option maxHeartbeats 4000000 in
set_option maxRecDepth 100000 in
theorem s_Md_isFull_107 {p : Program} {l : Launch} {e : Env} {R : Room} {s : State} {m : MethodId} {args : Array Value} {below : List Frame} {meth : Method} {c : Code} {Q : State → Prop} {D : va_G} {q : Nat → ClassId} {a : Nat → Nat} {A : Nat → Prop} (C : pv_C p s m args c prog_9_method_44_code 8 "PatchVoicesModel" pv_TB D pv_cl (pv_ty q) 36 a A (pv_ZM)) (hmv : pv_mv A (pv_ZM)) (hRf : 2 ≤ R.frames) (hRl : 46 ≤ R.locals) {out : (Int32 × pv_S)} (hret : pv_Rz p l e R s m args below meth c prog_9_method_44_code D pv_cl 36 a (pv_FM q a) A Q out) {k_5 : pv_S → Int32 → Int32 → Int32 → Int32 → Option (Int32 × pv_S)} (hk_5 : ∀ (σ : pv_S) (x1 : Int32) (x2 : Int32) (x3 : Int32) (x4 : Int32) (H : Heap) (locs : List Loc) (ls : Array Slot), k_5 σ x1 x2 x3 x4 = some out → lv_has ls 8 [(0, .ref (a 0)), (1, .int x1), (2, .int x2), (3, .int x3), (4, .int x4)] → pv_W D pv_cl 36 a (pv_FM q a) σ H → va_S A s.heap H locs → W p l e R s m args below meth c H locs 0 0 Q (F0 m 5 ls [])) {k_72 : pv_S → Int32 → Int32 → Int32 → Int32 → Int32 → Int32 → Int32 → Option (Int32 × pv_S)} (hk_72 : ∀ (σ : pv_S) (x1 : Int32) (x2 : Int32) (x3 : Int32) (x4 : Int32) (x5 : Int32) (x6 : Int32) (x7 : Int32) (H : Heap) (locs : List Loc) (ls : Array Slot), k_72 σ x1 x2 x3 x4 x5 x6 x7 = some out → lv_has ls 8 [(0, .ref (a 0)), (1, .int x1), (2, .int x2), (3, .int x3), (4, .int x4), (5, .int x5), (6, .int x6), (7, .int x7)] → pv_W D pv_cl 36 a (pv_FM q a) σ H → va_S A s.heap H locs → W p l e R s m args below meth c H locs 0 0 Q (F0 m 72 ls [])) {σ : pv_S} {x1 : Int32} {x2 : Int32} {x3 : Int32} {x4 : Int32} {x5 : Int32} {x7 : Int32} {s0 : Int32} {H : Heap} {locs : List Loc} {ls : Array Slot} (hl : lv_has ls 8 [(0, .ref (a 0)), (1, .int x1), (2, .int x2), (3, .int x3), (4, .int x4), (5, .int x5), (7, .int x7)]) (hP : pv_W D pv_cl 36 a (pv_FM q a) σ H) (hS : va_S A s.heap H locs) (hf : f_Md_isFull_107 k_5 k_72 σ x1 x2 x3 x4 x5 x7 s0 = some out) : W p l e R s m args below meth c H locs 0 0 Q (F0 m 107 ls [.int s0]) := by
  unfold f_Md_isFull_107 at hf
  have hx := C.1
  have hb := C.2.1
  refine lv_istore (lv' := [(6, .int s0), (0, .ref (a 0)), (1, .int x1), (2, .int x2), (3, .int x3), (4, .int x4), (5, .int x5), (7, .int x7)]) hx hb d_Md_isFull_107 hl (by decide) rfl (fun ls hl => ?_)
  refine lv_iinc (k := 7) (v := (x7 + (1 : Int32))) (lv' := [(7, .int (x7 + (1 : Int32))), (6, .int s0), (0, .ref (a 0)), (1, .int x1), (2, .int x2), (3, .int x3), (4, .int x4), (5, .int x5)]) hx hb d_Md_isFull_109 hl rfl (pv_inc (by decide)) (by decide) rfl (fun ls hl => ?_)
  refine lv_goto (tgt := 72) hx hb d_Md_isFull_112 (by decide) ?_
  exact hk_72 _ _ _ _ _ _ _ _ _ _ _ hf (lv_sub hl [2, 3, 4, 5, 6, 7, 1, 0] rfl) hP hS
def f_Md_isFull_102 (k_5 : pv_S → Int32 → Int32 → Int32 → Int32 → Option (Int32 × pv_S)) (k_72 : pv_S → Int32 → Int32 → Int32 → Int32 → Int32 → Int32 → Int32 → Option (Int32 × pv_S)) (σ : pv_S) (x1 : Int32) (x2 : Int32) (x3 : Int32) (x4 : Int32) (x5 : Int32) (x7 : Int32) : Option (Int32 × pv_S) :=
  f_Md_isFull_107 k_5 k_72 σ x1 x2 x3 x4 x5 x7 (1 : Int32)
set_option maxHeartbeats 4000000 in
set_option maxRecDepth 100000 in
theorem s_Md_isFull_102 {p : Program} {l : Launch} {e : Env} {R : Room} {s : State} {m : MethodId} {args : Array Value} {below : List Frame} {meth : Method} {c : Code} {Q : State → Prop} {D : va_G} {q : Nat → ClassId} {a : Nat → Nat} {A : Nat → Prop} (C : pv_C p s m args c prog_9_method_44_code 8 "PatchVoicesModel" pv_TB D pv_cl (pv_ty q) 36 a A (pv_ZM)) (hmv : pv_mv A (pv_ZM)) (hRf : 2 ≤ R.frames) (hRl : 46 ≤ R.locals) {out : (Int32 × pv_S)} (hret : pv_Rz p l e R s m args below meth c prog_9_method_44_code D pv_cl 36 a (pv_FM q a) A Q out) {k_5 : pv_S → Int32 → Int32 → Int32 → Int32 → Option (Int32 × pv_S)} (hk_5 : ∀ (σ : pv_S) (x1 : Int32) (x2 : Int32) (x3 : Int32) (x4 : Int32) (H : Heap) (locs : List Loc) (ls : Array Slot), k_5 σ x1 x2 x3 x4 = some out → lv_has ls 8 [(0, .ref (a 0)), (1, .int x1), (2, .int x2), (3, .int x3), (4, .int x4)] → pv_W D pv_cl 36 a (pv_FM q a) σ H → va_S A s.heap H locs → W p l e R s m args below meth c H locs 0 0 Q (F0 m 5 ls [])) {k_72 : pv_S → Int32 → Int32 → Int32 → Int32 → Int32 → Int32 → Int32 → Option (Int32 × pv_S)} (hk_72 : ∀ (σ : pv_S) (x1 : Int32) (x2 : Int32) (x3 : Int32) (x4 : Int32) (x5 : Int32) (x6 : Int32) (x7 : Int32) (H : Heap) (locs : List Loc) (ls : Array Slot), k_72 σ x1 x2 x3 x4 x5 x6 x7 = some out → lv_has ls 8 [(0, .ref (a 0)), (1, .int x1), (2, .int x2), (3, .int x3), (4, .int x4), (5, .int x5), (6, .int x6), (7, .int x7)] → pv_W D pv_cl 36 a (pv_FM q a) σ H → va_S A s.heap H locs → W p l e R s m args below meth c H locs 0 0 Q (F0 m 72 ls [])) {σ : pv_S} {x1 : Int32} {x2 : Int32} {x3 : Int32} {x4 : Int32} {x5 : Int32} {x7 : Int32} {H : Heap} {locs : List Loc} {ls : Array Slot} (hl : lv_has ls 8 [(0, .ref (a 0)), (1, .int x1), (2, .int x2), (3, .int x3), (4, .int x4), (5, .int x5), (7, .int x7)]) (hP : pv_W D pv_cl 36 a (pv_FM q a) σ H) (hS : va_S A s.heap H locs) (hf : f_Md_isFull_102 k_5 k_72 σ x1 x2 x3 x4 x5 x7 = some out) : W p l e R s m args below meth c H locs 0 0 Q (F0 m 102 ls []) := by
  unfold f_Md_isFull_102 at hf
  have hx := C.1
  have hb := C.2.1
  refine lv_iconst (v := (1 : Int32)) hx hb d_Md_isFull_102 (by decide) ?_
  refine lv_goto (tgt := 107) hx hb d_Md_isFull_103 (by decide) ?_
  exact s_Md_isFull_107 C hmv hRf hRl hret hk_5 hk_72 (lv_sub hl [0, 1, 2, 3, 4, 5, 6] rfl) hP hS hf
def f_Md_isFull_72b (k_5 : pv_S → Int32 → Int32 → Int32 → Int32 → Option (Int32 × pv_S)) (k_72 : pv_S → Int32 → Int32 → Int32 → Int32 → Int32 → Int32 → Int32 → Option (Int32 × pv_S)) (σ : pv_S) (x1 : Int32) (x2 : Int32) (x3 : Int32) (x4 : Int32) (x5 : Int32) (x6 : Int32) (x7 : Int32) : Option (Int32 × pv_S) :=
  (if (σ.1 0 28) ≤ x7 then
  (if x3 = 0 then
  (if x5 = 0 then
  f_Md_isFull_133 k_5 σ x1 x2 x4
  else
  (if x6 = 0 then
  f_Md_isFull_133 k_5 σ x1 x2 x4
  else
  f_Md_isFull_129 k_5 σ x1 x2 x4))
  else
  f_Md_isFull_129 k_5 σ x1 x2 x4)
  else
  (if x6 = 0 then
  (if pv_in x4 48 = true then
((f_Md_reads σ x7 (σ.1 18 (x4).toNatClampNeg)).bind fun q1 =>
(if q1.1 = 0 then
  f_Md_isFull_107 k_5 k_72 q1.2 x1 x2 x3 x4 x5 x7 (0 : Int32)
  else
  f_Md_isFull_102 k_5 k_72 q1.2 x1 x2 x3 x4 x5 x7))
  else none)
  else
  f_Md_isFull_102 k_5 k_72 σ x1 x2 x3 x4 x5 x7))
set_option maxHeartbeats 4000000 in
set_option maxRecDepth 100000 in
theorem s_Md_isFull_72b {p : Program} {l : Launch} {e : Env} {R : Room} {s : State} {m : MethodId} {args : Array Value} {below : List Frame} {meth : Method} {c : Code} {Q : State → Prop} {D : va_G} {q : Nat → ClassId} {a : Nat → Nat} {A : Nat → Prop} (C : pv_C p s m args c prog_9_method_44_code 8 "PatchVoicesModel" pv_TB D pv_cl (pv_ty q) 36 a A (pv_ZM)) (hmv : pv_mv A (pv_ZM)) (hRf : 2 ≤ R.frames) (hRl : 46 ≤ R.locals) {out : (Int32 × pv_S)} (hret : pv_Rz p l e R s m args below meth c prog_9_method_44_code D pv_cl 36 a (pv_FM q a) A Q out) {k_5 : pv_S → Int32 → Int32 → Int32 → Int32 → Option (Int32 × pv_S)} (hk_5 : ∀ (σ : pv_S) (x1 : Int32) (x2 : Int32) (x3 : Int32) (x4 : Int32) (H : Heap) (locs : List Loc) (ls : Array Slot), k_5 σ x1 x2 x3 x4 = some out → lv_has ls 8 [(0, .ref (a 0)), (1, .int x1), (2, .int x2), (3, .int x3), (4, .int x4)] → pv_W D pv_cl 36 a (pv_FM q a) σ H → va_S A s.heap H locs → W p l e R s m args below meth c H locs 0 0 Q (F0 m 5 ls [])) {k_72 : pv_S → Int32 → Int32 → Int32 → Int32 → Int32 → Int32 → Int32 → Option (Int32 × pv_S)} (hk_72 : ∀ (σ : pv_S) (x1 : Int32) (x2 : Int32) (x3 : Int32) (x4 : Int32) (x5 : Int32) (x6 : Int32) (x7 : Int32) (H : Heap) (locs : List Loc) (ls : Array Slot), k_72 σ x1 x2 x3 x4 x5 x6 x7 = some out → lv_has ls 8 [(0, .ref (a 0)), (1, .int x1), (2, .int x2), (3, .int x3), (4, .int x4), (5, .int x5), (6, .int x6), (7, .int x7)] → pv_W D pv_cl 36 a (pv_FM q a) σ H → va_S A s.heap H locs → W p l e R s m args below meth c H locs 0 0 Q (F0 m 72 ls [])) {σ : pv_S} {x1 : Int32} {x2 : Int32} {x3 : Int32} {x4 : Int32} {x5 : Int32} {x6 : Int32} {x7 : Int32} {H : Heap} {locs : List Loc} {ls : Array Slot} (hl : lv_has ls 8 [(0, .ref (a 0)), (1, .int x1), (2, .int x2), (3, .int x3), (4, .int x4), (5, .int x5), (6, .int x6), (7, .int x7)]) (hP : pv_W D pv_cl 36 a (pv_FM q a) σ H) (hS : va_S A s.heap H locs) (hf : f_Md_isFull_72b k_5 k_72 σ x1 x2 x3 x4 x5 x6 x7 = some out) : W p l e R s m args below meth c H locs 0 0 Q (F0 m 72 ls []) := by
  unfold f_Md_isFull_72b at hf
  have hx := C.1
  have hb := C.2.1
  refine lv_iload hx hb d_Md_isFull_72 (lv_at hl 7 rfl) ?_
  refine lv_aload_n hx hb d_Md_isFull_74 rfl (lv_at hl 0 rfl) ?_
  refine pv_get C hP (v := .int (σ.1 0 28)) (j := 28) (by decide) (fm_0 _ _ _ _) fl_Md_279 rfl d_Md_isFull_75 ?_
  refine lv_icmp_ge (tgt := 115) hx hb d_Md_isFull_78 (by decide) (fun h => ?_) (fun h => ?_)
  · have hf := pv_t hf h
    refine lv_iload_n hx hb d_Md_isFull_115 rfl (lv_at hl 3 rfl) ?_
    refine lv_if_ne (tgt := 129) hx hb d_Md_isFull_116 (by decide) (fun h => ?_) (fun h => ?_)
    · have hf := pv_f hf h
      exact s_Md_isFull_129 C hmv hRf hRl hret hk_5 (lv_sub hl [0, 1, 2, 4] rfl) hP hS hf
    · have hf := pv_t hf h
      refine lv_iload hx hb d_Md_isFull_119 (lv_at hl 5 rfl) ?_
      refine lv_if_eq (tgt := 133) hx hb d_Md_isFull_121 (by decide) (fun h => ?_) (fun h => ?_)
      · have hf := pv_t hf h
        exact s_Md_isFull_133 C hmv hRf hRl hret hk_5 (lv_sub hl [0, 1, 2, 4] rfl) hP hS hf
      · have hf := pv_f hf h
        refine lv_iload hx hb d_Md_isFull_124 (lv_at hl 6 rfl) ?_
        refine lv_if_eq (tgt := 133) hx hb d_Md_isFull_126 (by decide) (fun h => ?_) (fun h => ?_)
        · have hf := pv_t hf h
          exact s_Md_isFull_133 C hmv hRf hRl hret hk_5 (lv_sub hl [0, 1, 2, 4] rfl) hP hS hf
        · have hf := pv_f hf h
          exact s_Md_isFull_129 C hmv hRf hRl hret hk_5 (lv_sub hl [0, 1, 2, 4] rfl) hP hS hf
  · have hf := pv_f hf h
    refine lv_iload hx hb d_Md_isFull_81 (lv_at hl 6 rfl) ?_
    refine lv_if_ne (tgt := 102) hx hb d_Md_isFull_83 (by decide) (fun h => ?_) (fun h => ?_)
    · have hf := pv_f hf h
      exact s_Md_isFull_102 C hmv hRf hRl hret hk_5 hk_72 (lv_sub hl [0, 1, 2, 3, 4, 5, 7] rfl) hP hS hf
    · have hf := pv_t hf h
      refine lv_aload_n hx hb d_Md_isFull_86 rfl (lv_at hl 0 rfl) ?_
      refine lv_iload hx hb d_Md_isFull_87 (lv_at hl 7 rfl) ?_
      refine lv_aload_n hx hb d_Md_isFull_89 rfl (lv_at hl 0 rfl) ?_
      refine pv_get C hP (v := .ref (a 18)) (j := 29) (by decide) (fm_0 _ _ _ _) fl_Md_66 rfl d_Md_isFull_90 ?_
      refine lv_iload hx hb d_Md_isFull_93 (lv_at hl 4 rfl) ?_
      obtain ⟨hg, hf⟩ := pv_g hf
      refine pv_iald C hP (t0 := 0) (by decide) (fm_18 _ _ _ _) rfl hg d_Md_isFull_95 ?_
      obtain ⟨q1, hc, hf⟩ := pv_b hf
      refine pv_callVi C hmv pv_good hP hS (As := [.int x7, .int (σ.1 18 (x4).toNatClampNeg)]) (rest := []) (by decide) (fm_0 _ _ _ _) rfl (c_Md_reads C.2.2.2.2.2.2.1 hmv hc) cv_Md_282 ⟨rfl, rfl, Nat.le_trans (Nat.le_of_ble_eq_true rfl) hRf, Nat.le_trans (Nat.le_of_ble_eq_true rfl) hRl⟩ rfl hl.1 rfl (Nat.le_of_ble_eq_true rfl) d_Md_isFull_96 ⟨Nat.zero_le _, Nat.zero_le _⟩ (fun H locs hP hS => ?_)
      refine lv_if_eq (tgt := 106) hx hb d_Md_isFull_99 (by decide) (fun h => ?_) (fun h => ?_)
      · have hf := pv_t hf h
        refine lv_iconst (v := (0 : Int32)) hx hb d_Md_isFull_106 (by decide) ?_
        exact s_Md_isFull_107 C hmv hRf hRl hret hk_5 hk_72 (lv_sub hl [0, 1, 2, 3, 4, 5, 7] rfl) hP hS hf
      · have hf := pv_f hf h
        exact s_Md_isFull_102 C hmv hRf hRl hret hk_5 hk_72 (lv_sub hl [0, 1, 2, 3, 4, 5, 7] rfl) hP hS hf
def f_Md_isFull_72 (k_5 : pv_S → Int32 → Int32 → Int32 → Int32 → Option (Int32 × pv_S)) : Nat → pv_S → Int32 → Int32 → Int32 → Int32 → Int32 → Int32 → Int32 → Option (Int32 × pv_S)
  | 0 => fun _ _ _ _ _ _ _ _ => none
  | n + 1 => f_Md_isFull_72b k_5 (f_Md_isFull_72 k_5 n)
set_option maxHeartbeats 4000000 in
theorem s_Md_isFull_72 {p : Program} {l : Launch} {e : Env} {R : Room} {s : State} {m : MethodId} {args : Array Value} {below : List Frame} {meth : Method} {c : Code} {Q : State → Prop} {D : va_G} {q : Nat → ClassId} {a : Nat → Nat} {A : Nat → Prop} (C : pv_C p s m args c prog_9_method_44_code 8 "PatchVoicesModel" pv_TB D pv_cl (pv_ty q) 36 a A (pv_ZM)) (hmv : pv_mv A (pv_ZM)) (hRf : 2 ≤ R.frames) (hRl : 46 ≤ R.locals) {out : (Int32 × pv_S)} (hret : pv_Rz p l e R s m args below meth c prog_9_method_44_code D pv_cl 36 a (pv_FM q a) A Q out) {k_5 : pv_S → Int32 → Int32 → Int32 → Int32 → Option (Int32 × pv_S)} (hk_5 : ∀ (σ : pv_S) (x1 : Int32) (x2 : Int32) (x3 : Int32) (x4 : Int32) (H : Heap) (locs : List Loc) (ls : Array Slot), k_5 σ x1 x2 x3 x4 = some out → lv_has ls 8 [(0, .ref (a 0)), (1, .int x1), (2, .int x2), (3, .int x3), (4, .int x4)] → pv_W D pv_cl 36 a (pv_FM q a) σ H → va_S A s.heap H locs → W p l e R s m args below meth c H locs 0 0 Q (F0 m 5 ls [])) (n : Nat) : ∀ {σ : pv_S} {x1 : Int32} {x2 : Int32} {x3 : Int32} {x4 : Int32} {x5 : Int32} {x6 : Int32} {x7 : Int32} {H : Heap} {locs : List Loc} {ls : Array Slot}, lv_has ls 8 [(0, .ref (a 0)), (1, .int x1), (2, .int x2), (3, .int x3), (4, .int x4), (5, .int x5), (6, .int x6), (7, .int x7)] → pv_W D pv_cl 36 a (pv_FM q a) σ H → va_S A s.heap H locs → f_Md_isFull_72 k_5 n σ x1 x2 x3 x4 x5 x6 x7 = some out → W p l e R s m args below meth c H locs 0 0 Q (F0 m 72 ls []) := by
  induction n with
  | zero => intro σ x1 x2 x3 x4 x5 x6 x7 H locs ls hl hP hS hf; cases hf
  | succ n ih => intro σ x1 x2 x3 x4 x5 x6 x7 H locs ls hl hP hS hf; exact s_Md_isFull_72b C hmv hRf hRl hret hk_5 (fun σ x1 x2 x3 x4 x5 x6 x7 H locs ls hf hl hP hS => ih hl hP hS hf) hl hP hS hf
def f_Md_isFull_65 (k_5 : pv_S → Int32 → Int32 → Int32 → Int32 → Option (Int32 × pv_S)) (σ : pv_S) (x1 : Int32) (x2 : Int32) (x3 : Int32) (x4 : Int32) (x5 : Int32) (s0 : Int32) : Option (Int32 × pv_S) :=
  f_Md_isFull_72 k_5 pv_fu σ x1 x2 x3 x4 x5 s0 (x1 + (1 : Int32))
set_option maxHeartbeats 4000000 in
set_option maxRecDepth 100000 in
theorem s_Md_isFull_65 {p : Program} {l : Launch} {e : Env} {R : Room} {s : State} {m : MethodId} {args : Array Value} {below : List Frame} {meth : Method} {c : Code} {Q : State → Prop} {D : va_G} {q : Nat → ClassId} {a : Nat → Nat} {A : Nat → Prop} (C : pv_C p s m args c prog_9_method_44_code 8 "PatchVoicesModel" pv_TB D pv_cl (pv_ty q) 36 a A (pv_ZM)) (hmv : pv_mv A (pv_ZM)) (hRf : 2 ≤ R.frames) (hRl : 46 ≤ R.locals) {out : (Int32 × pv_S)} (hret : pv_Rz p l e R s m args below meth c prog_9_method_44_code D pv_cl 36 a (pv_FM q a) A Q out) {k_5 : pv_S → Int32 → Int32 → Int32 → Int32 → Option (Int32 × pv_S)} (hk_5 : ∀ (σ : pv_S) (x1 : Int32) (x2 : Int32) (x3 : Int32) (x4 : Int32) (H : Heap) (locs : List Loc) (ls : Array Slot), k_5 σ x1 x2 x3 x4 = some out → lv_has ls 8 [(0, .ref (a 0)), (1, .int x1), (2, .int x2), (3, .int x3), (4, .int x4)] → pv_W D pv_cl 36 a (pv_FM q a) σ H → va_S A s.heap H locs → W p l e R s m args below meth c H locs 0 0 Q (F0 m 5 ls [])) {σ : pv_S} {x1 : Int32} {x2 : Int32} {x3 : Int32} {x4 : Int32} {x5 : Int32} {s0 : Int32} {H : Heap} {locs : List Loc} {ls : Array Slot} (hl : lv_has ls 8 [(0, .ref (a 0)), (1, .int x1), (2, .int x2), (3, .int x3), (4, .int x4), (5, .int x5)]) (hP : pv_W D pv_cl 36 a (pv_FM q a) σ H) (hS : va_S A s.heap H locs) (hf : f_Md_isFull_65 k_5 σ x1 x2 x3 x4 x5 s0 = some out) : W p l e R s m args below meth c H locs 0 0 Q (F0 m 65 ls [.int s0]) := by
  unfold f_Md_isFull_65 at hf
  have hx := C.1
  have hb := C.2.1
  refine lv_istore (lv' := [(6, .int s0), (0, .ref (a 0)), (1, .int x1), (2, .int x2), (3, .int x3), (4, .int x4), (5, .int x5)]) hx hb d_Md_isFull_65 hl (by decide) rfl (fun ls hl => ?_)
  refine lv_iload_n hx hb d_Md_isFull_67 rfl (lv_at hl 2 rfl) ?_
  refine lv_iconst (v := (1 : Int32)) hx hb d_Md_isFull_68 (by decide) ?_
  refine lv_iadd hx hb d_Md_isFull_69 ?_
  refine lv_istore (lv' := [(7, .int (x1 + (1 : Int32))), (6, .int s0), (0, .ref (a 0)), (1, .int x1), (2, .int x2), (3, .int x3), (4, .int x4), (5, .int x5)]) hx hb d_Md_isFull_70 hl (by decide) rfl (fun ls hl => ?_)
  exact s_Md_isFull_72 C hmv hRf hRl hret hk_5 pv_fu (lv_sub hl [2, 3, 4, 5, 6, 7, 1, 0] rfl) hP hS hf
def f_Md_isFull_37 (k_5 : pv_S → Int32 → Int32 → Int32 → Int32 → Option (Int32 × pv_S)) (σ : pv_S) (x1 : Int32) (x2 : Int32) (x3 : Int32) (x4 : Int32) (s0 : Int32) : Option (Int32 × pv_S) :=
  (if pv_in x4 48 = true then
(if pv_in ((σ.1 0 18) - (1 : Int32)) 24 = true then
(if (σ.1 18 (x4).toNatClampNeg) = (σ.1 15 (((σ.1 0 18) - (1 : Int32))).toNatClampNeg) then
  f_Md_isFull_65 k_5 σ x1 x2 x3 x4 s0 (1 : Int32)
  else
  f_Md_isFull_65 k_5 σ x1 x2 x3 x4 s0 (0 : Int32))
  else none)
  else none)
set_option maxHeartbeats 4000000 in
set_option maxRecDepth 100000 in
theorem s_Md_isFull_37 {p : Program} {l : Launch} {e : Env} {R : Room} {s : State} {m : MethodId} {args : Array Value} {below : List Frame} {meth : Method} {c : Code} {Q : State → Prop} {D : va_G} {q : Nat → ClassId} {a : Nat → Nat} {A : Nat → Prop} (C : pv_C p s m args c prog_9_method_44_code 8 "PatchVoicesModel" pv_TB D pv_cl (pv_ty q) 36 a A (pv_ZM)) (hmv : pv_mv A (pv_ZM)) (hRf : 2 ≤ R.frames) (hRl : 46 ≤ R.locals) {out : (Int32 × pv_S)} (hret : pv_Rz p l e R s m args below meth c prog_9_method_44_code D pv_cl 36 a (pv_FM q a) A Q out) {k_5 : pv_S → Int32 → Int32 → Int32 → Int32 → Option (Int32 × pv_S)} (hk_5 : ∀ (σ : pv_S) (x1 : Int32) (x2 : Int32) (x3 : Int32) (x4 : Int32) (H : Heap) (locs : List Loc) (ls : Array Slot), k_5 σ x1 x2 x3 x4 = some out → lv_has ls 8 [(0, .ref (a 0)), (1, .int x1), (2, .int x2), (3, .int x3), (4, .int x4)] → pv_W D pv_cl 36 a (pv_FM q a) σ H → va_S A s.heap H locs → W p l e R s m args below meth c H locs 0 0 Q (F0 m 5 ls [])) {σ : pv_S} {x1 : Int32} {x2 : Int32} {x3 : Int32} {x4 : Int32} {s0 : Int32} {H : Heap} {locs : List Loc} {ls : Array Slot} (hl : lv_has ls 8 [(0, .ref (a 0)), (1, .int x1), (2, .int x2), (3, .int x3), (4, .int x4)]) (hP : pv_W D pv_cl 36 a (pv_FM q a) σ H) (hS : va_S A s.heap H locs) (hf : f_Md_isFull_37 k_5 σ x1 x2 x3 x4 s0 = some out) : W p l e R s m args below meth c H locs 0 0 Q (F0 m 37 ls [.int s0]) := by
  unfold f_Md_isFull_37 at hf
  have hx := C.1
  have hb := C.2.1
  refine lv_istore (lv' := [(5, .int s0), (0, .ref (a 0)), (1, .int x1), (2, .int x2), (3, .int x3), (4, .int x4)]) hx hb d_Md_isFull_37 hl (by decide) rfl (fun ls hl => ?_)
  refine lv_aload_n hx hb d_Md_isFull_39 rfl (lv_at hl 1 rfl) ?_
  refine pv_get C hP (v := .ref (a 18)) (j := 29) (by decide) (fm_0 _ _ _ _) fl_Md_66 rfl d_Md_isFull_40 ?_
  refine lv_iload hx hb d_Md_isFull_43 (lv_at hl 5 rfl) ?_
  obtain ⟨hg, hf⟩ := pv_g hf
  refine pv_iald C hP (t0 := 0) (by decide) (fm_18 _ _ _ _) rfl hg d_Md_isFull_45 ?_
  refine lv_aload_n hx hb d_Md_isFull_46 rfl (lv_at hl 1 rfl) ?_
  refine pv_get C hP (v := .ref (a 15)) (j := 25) (by decide) (fm_0 _ _ _ _) fl_Md_56 rfl d_Md_isFull_47 ?_
  refine lv_aload_n hx hb d_Md_isFull_50 rfl (lv_at hl 1 rfl) ?_
  refine pv_get C hP (v := .int (σ.1 0 18)) (j := 18) (by decide) (fm_0 _ _ _ _) fl_Md_253 rfl d_Md_isFull_51 ?_
  refine lv_iconst (v := (1 : Int32)) hx hb d_Md_isFull_54 (by decide) ?_
  refine lv_isub hx hb d_Md_isFull_55 ?_
  obtain ⟨hg, hf⟩ := pv_g hf
  refine pv_iald C hP (t0 := 0) (by decide) (fm_15 _ _ _ _) rfl hg d_Md_isFull_56 ?_
  refine lv_icmp_ne (tgt := 64) hx hb d_Md_isFull_57 (by decide) (fun h => ?_) (fun h => ?_)
  · have hf := pv_f hf h
    refine lv_iconst (v := (0 : Int32)) hx hb d_Md_isFull_64 (by decide) ?_
    exact s_Md_isFull_65 C hmv hRf hRl hret hk_5 (lv_sub hl [1, 2, 3, 4, 5, 0] rfl) hP hS hf
  · have hf := pv_t hf h
    refine lv_iconst (v := (1 : Int32)) hx hb d_Md_isFull_60 (by decide) ?_
    refine lv_goto (tgt := 65) hx hb d_Md_isFull_61 (by decide) ?_
    exact s_Md_isFull_65 C hmv hRf hRl hret hk_5 (lv_sub hl [1, 2, 3, 4, 5, 0] rfl) hP hS hf
def f_Md_isFull_36 (k_5 : pv_S → Int32 → Int32 → Int32 → Int32 → Option (Int32 × pv_S)) (σ : pv_S) (x1 : Int32) (x2 : Int32) (x3 : Int32) (x4 : Int32) : Option (Int32 × pv_S) :=
  f_Md_isFull_37 k_5 σ x1 x2 x3 x4 (0 : Int32)
set_option maxHeartbeats 4000000 in
set_option maxRecDepth 100000 in
theorem s_Md_isFull_36 {p : Program} {l : Launch} {e : Env} {R : Room} {s : State} {m : MethodId} {args : Array Value} {below : List Frame} {meth : Method} {c : Code} {Q : State → Prop} {D : va_G} {q : Nat → ClassId} {a : Nat → Nat} {A : Nat → Prop} (C : pv_C p s m args c prog_9_method_44_code 8 "PatchVoicesModel" pv_TB D pv_cl (pv_ty q) 36 a A (pv_ZM)) (hmv : pv_mv A (pv_ZM)) (hRf : 2 ≤ R.frames) (hRl : 46 ≤ R.locals) {out : (Int32 × pv_S)} (hret : pv_Rz p l e R s m args below meth c prog_9_method_44_code D pv_cl 36 a (pv_FM q a) A Q out) {k_5 : pv_S → Int32 → Int32 → Int32 → Int32 → Option (Int32 × pv_S)} (hk_5 : ∀ (σ : pv_S) (x1 : Int32) (x2 : Int32) (x3 : Int32) (x4 : Int32) (H : Heap) (locs : List Loc) (ls : Array Slot), k_5 σ x1 x2 x3 x4 = some out → lv_has ls 8 [(0, .ref (a 0)), (1, .int x1), (2, .int x2), (3, .int x3), (4, .int x4)] → pv_W D pv_cl 36 a (pv_FM q a) σ H → va_S A s.heap H locs → W p l e R s m args below meth c H locs 0 0 Q (F0 m 5 ls [])) {σ : pv_S} {x1 : Int32} {x2 : Int32} {x3 : Int32} {x4 : Int32} {H : Heap} {locs : List Loc} {ls : Array Slot} (hl : lv_has ls 8 [(0, .ref (a 0)), (1, .int x1), (2, .int x2), (3, .int x3), (4, .int x4)]) (hP : pv_W D pv_cl 36 a (pv_FM q a) σ H) (hS : va_S A s.heap H locs) (hf : f_Md_isFull_36 k_5 σ x1 x2 x3 x4 = some out) : W p l e R s m args below meth c H locs 0 0 Q (F0 m 36 ls []) := by
  unfold f_Md_isFull_36 at hf
  have hx := C.1
  have hb := C.2.1
  refine lv_iconst (v := (0 : Int32)) hx hb d_Md_isFull_36 (by decide) ?_
  exact s_Md_isFull_37 C hmv hRf hRl hret hk_5 (lv_sub hl [0, 1, 2, 3, 4] rfl) hP hS hf
def f_Md_isFull_5b (k_5 : pv_S → Int32 → Int32 → Int32 → Int32 → Option (Int32 × pv_S)) (σ : pv_S) (x1 : Int32) (x2 : Int32) (x3 : Int32) (x4 : Int32) : Option (Int32 × pv_S) :=
  (if x1 ≤ x4 then
  (if pv_z x3 = true then
some (x3, σ)
  else none)
  else
  (if pv_in x4 48 = true then
(if (σ.1 19 (x4).toNatClampNeg) = 0 then
  (if pv_in x4 48 = true then
(if (σ.1 20 (x4).toNatClampNeg) = x2 then
  f_Md_isFull_37 k_5 σ x1 x2 x3 x4 (1 : Int32)
  else
  f_Md_isFull_36 k_5 σ x1 x2 x3 x4)
  else none)
  else
  f_Md_isFull_36 k_5 σ x1 x2 x3 x4)
  else none))
set_option maxHeartbeats 4000000 in
set_option maxRecDepth 100000 in
theorem s_Md_isFull_5b {p : Program} {l : Launch} {e : Env} {R : Room} {s : State} {m : MethodId} {args : Array Value} {below : List Frame} {meth : Method} {c : Code} {Q : State → Prop} {D : va_G} {q : Nat → ClassId} {a : Nat → Nat} {A : Nat → Prop} (C : pv_C p s m args c prog_9_method_44_code 8 "PatchVoicesModel" pv_TB D pv_cl (pv_ty q) 36 a A (pv_ZM)) (hmv : pv_mv A (pv_ZM)) (hRf : 2 ≤ R.frames) (hRl : 46 ≤ R.locals) {out : (Int32 × pv_S)} (hret : pv_Rz p l e R s m args below meth c prog_9_method_44_code D pv_cl 36 a (pv_FM q a) A Q out) {k_5 : pv_S → Int32 → Int32 → Int32 → Int32 → Option (Int32 × pv_S)} (hk_5 : ∀ (σ : pv_S) (x1 : Int32) (x2 : Int32) (x3 : Int32) (x4 : Int32) (H : Heap) (locs : List Loc) (ls : Array Slot), k_5 σ x1 x2 x3 x4 = some out → lv_has ls 8 [(0, .ref (a 0)), (1, .int x1), (2, .int x2), (3, .int x3), (4, .int x4)] → pv_W D pv_cl 36 a (pv_FM q a) σ H → va_S A s.heap H locs → W p l e R s m args below meth c H locs 0 0 Q (F0 m 5 ls [])) {σ : pv_S} {x1 : Int32} {x2 : Int32} {x3 : Int32} {x4 : Int32} {H : Heap} {locs : List Loc} {ls : Array Slot} (hl : lv_has ls 8 [(0, .ref (a 0)), (1, .int x1), (2, .int x2), (3, .int x3), (4, .int x4)]) (hP : pv_W D pv_cl 36 a (pv_FM q a) σ H) (hS : va_S A s.heap H locs) (hf : f_Md_isFull_5b k_5 σ x1 x2 x3 x4 = some out) : W p l e R s m args below meth c H locs 0 0 Q (F0 m 5 ls []) := by
  unfold f_Md_isFull_5b at hf
  have hx := C.1
  have hb := C.2.1
  refine lv_iload hx hb d_Md_isFull_5 (lv_at hl 4 rfl) ?_
  refine lv_iload_n hx hb d_Md_isFull_7 rfl (lv_at hl 1 rfl) ?_
  refine lv_icmp_ge (tgt := 141) hx hb d_Md_isFull_8 (by decide) (fun h => ?_) (fun h => ?_)
  · have hf := pv_t hf h
    refine lv_iload_n hx hb d_Md_isFull_141 rfl (lv_at hl 3 rfl) ?_
    obtain ⟨hg, hf⟩ := pv_g hf
    obtain rfl := Option.some.inj hf
    exact hret _ _ _ _ d_Md_isFull_142 hg hP hS
  · have hf := pv_f hf h
    refine lv_aload_n hx hb d_Md_isFull_11 rfl (lv_at hl 0 rfl) ?_
    refine pv_get C hP (v := .ref (a 19)) (j := 30) (by decide) (fm_0 _ _ _ _) fl_Md_69 rfl d_Md_isFull_12 ?_
    refine lv_iload hx hb d_Md_isFull_15 (lv_at hl 4 rfl) ?_
    obtain ⟨hg, hf⟩ := pv_g hf
    refine pv_zald C hP (t0 := 2) (by decide) (fm_19 _ _ _ _) rfl hg d_Md_isFull_17 ?_
    refine lv_if_ne (tgt := 36) hx hb d_Md_isFull_18 (by decide) (fun h => ?_) (fun h => ?_)
    · have hf := pv_f hf h
      exact s_Md_isFull_36 C hmv hRf hRl hret hk_5 (lv_sub hl [0, 1, 2, 3, 4] rfl) hP hS hf
    · have hf := pv_t hf h
      refine lv_aload_n hx hb d_Md_isFull_21 rfl (lv_at hl 0 rfl) ?_
      refine pv_get C hP (v := .ref (a 20)) (j := 31) (by decide) (fm_0 _ _ _ _) fl_Md_72 rfl d_Md_isFull_22 ?_
      refine lv_iload hx hb d_Md_isFull_25 (lv_at hl 4 rfl) ?_
      obtain ⟨hg, hf⟩ := pv_g hf
      refine pv_iald C hP (t0 := 0) (by decide) (fm_20 _ _ _ _) rfl hg d_Md_isFull_27 ?_
      refine lv_iload_n hx hb d_Md_isFull_28 rfl (lv_at hl 2 rfl) ?_
      refine lv_icmp_ne (tgt := 36) hx hb d_Md_isFull_29 (by decide) (fun h => ?_) (fun h => ?_)
      · have hf := pv_f hf h
        exact s_Md_isFull_36 C hmv hRf hRl hret hk_5 (lv_sub hl [0, 1, 2, 3, 4] rfl) hP hS hf
      · have hf := pv_t hf h
        refine lv_iconst (v := (1 : Int32)) hx hb d_Md_isFull_32 (by decide) ?_
        refine lv_goto (tgt := 37) hx hb d_Md_isFull_33 (by decide) ?_
        exact s_Md_isFull_37 C hmv hRf hRl hret hk_5 (lv_sub hl [0, 1, 2, 3, 4] rfl) hP hS hf
def f_Md_isFull_5 : Nat → pv_S → Int32 → Int32 → Int32 → Int32 → Option (Int32 × pv_S)
  | 0 => fun _ _ _ _ _ => none
  | n + 1 => f_Md_isFull_5b (f_Md_isFull_5 n)
set_option maxHeartbeats 4000000 in
theorem s_Md_isFull_5 {p : Program} {l : Launch} {e : Env} {R : Room} {s : State} {m : MethodId} {args : Array Value} {below : List Frame} {meth : Method} {c : Code} {Q : State → Prop} {D : va_G} {q : Nat → ClassId} {a : Nat → Nat} {A : Nat → Prop} (C : pv_C p s m args c prog_9_method_44_code 8 "PatchVoicesModel" pv_TB D pv_cl (pv_ty q) 36 a A (pv_ZM)) (hmv : pv_mv A (pv_ZM)) (hRf : 2 ≤ R.frames) (hRl : 46 ≤ R.locals) {out : (Int32 × pv_S)} (hret : pv_Rz p l e R s m args below meth c prog_9_method_44_code D pv_cl 36 a (pv_FM q a) A Q out) (n : Nat) : ∀ {σ : pv_S} {x1 : Int32} {x2 : Int32} {x3 : Int32} {x4 : Int32} {H : Heap} {locs : List Loc} {ls : Array Slot}, lv_has ls 8 [(0, .ref (a 0)), (1, .int x1), (2, .int x2), (3, .int x3), (4, .int x4)] → pv_W D pv_cl 36 a (pv_FM q a) σ H → va_S A s.heap H locs → f_Md_isFull_5 n σ x1 x2 x3 x4 = some out → W p l e R s m args below meth c H locs 0 0 Q (F0 m 5 ls []) := by
  induction n with
  | zero => intro σ x1 x2 x3 x4 H locs ls hl hP hS hf; cases hf
  | succ n ih => intro σ x1 x2 x3 x4 H locs ls hl hP hS hf; exact s_Md_isFull_5b C hmv hRf hRl hret (fun σ x1 x2 x3 x4 H locs ls hf hl hP hS => ih hl hP hS hf) hl hP hS hf
def f_Md_isFull_0 (σ : pv_S) (x1 : Int32) (x2 : Int32) : Option (Int32 × pv_S) :=
  f_Md_isFull_5 pv_fu σ x1 x2 (0 : Int32) (0 : Int32)
set_option maxHeartbeats 4000000 in
set_option maxRecDepth 100000 in
theorem s_Md_isFull_0 {p : Program} {l : Launch} {e : Env} {R : Room} {s : State} {m : MethodId} {args : Array Value} {below : List Frame} {meth : Method} {c : Code} {Q : State → Prop} {D : va_G} {q : Nat → ClassId} {a : Nat → Nat} {A : Nat → Prop} (C : pv_C p s m args c prog_9_method_44_code 8 "PatchVoicesModel" pv_TB D pv_cl (pv_ty q) 36 a A (pv_ZM)) (hmv : pv_mv A (pv_ZM)) (hRf : 2 ≤ R.frames) (hRl : 46 ≤ R.locals) {out : (Int32 × pv_S)} (hret : pv_Rz p l e R s m args below meth c prog_9_method_44_code D pv_cl 36 a (pv_FM q a) A Q out) {σ : pv_S} {x1 : Int32} {x2 : Int32} {H : Heap} {locs : List Loc} {ls : Array Slot} (hl : lv_has ls 8 [(0, .ref (a 0)), (1, .int x1), (2, .int x2)]) (hP : pv_W D pv_cl 36 a (pv_FM q a) σ H) (hS : va_S A s.heap H locs) (hf : f_Md_isFull_0 σ x1 x2 = some out) : W p l e R s m args below meth c H locs 0 0 Q (F0 m 0 ls []) := by
  unfold f_Md_isFull_0 at hf
  have hx := C.1
  have hb := C.2.1
  refine lv_iconst (v := (0 : Int32)) hx hb d_Md_isFull_0 (by decide) ?_
  refine lv_istore_n (lv' := [(3, .int (0 : Int32)), (0, .ref (a 0)), (1, .int x1), (2, .int x2)]) hx hb d_Md_isFull_1 rfl hl (by decide) rfl (fun ls hl => ?_)
  refine lv_iconst (v := (0 : Int32)) hx hb d_Md_isFull_2 (by decide) ?_
  refine lv_istore (lv' := [(4, .int (0 : Int32)), (3, .int (0 : Int32)), (0, .ref (a 0)), (1, .int x1), (2, .int x2)]) hx hb d_Md_isFull_3 hl (by decide) rfl (fun ls hl => ?_)
  exact s_Md_isFull_5 C hmv hRf hRl hret pv_fu (lv_sub hl [2, 3, 4, 1, 0] rfl) hP hS hf
def f_Md_isFull (σ : pv_S) (x1 : Int32) (x2 : Int32) : Option (Int32 × pv_S) := f_Md_isFull_0 σ x1 x2
def rm_Md_isFull : Room := { frames := 2, cells := 0, slots := 0, locals := 46 }
theorem c_Md_isFull {l : Launch} {D : va_G} {q : Nat → ClassId} {a : Nat → Nat} {A : Nat → Prop} (hD : pv_D 36 a A) (hmv : pv_mv A (pv_ZM)) {σ : pv_S} {x1 : Int32} {x2 : Int32} {out : (Int32 × pv_S)} (hf : f_Md_isFull σ x1 x2 = some out) : pv_Mi l y_Md_isFull (Cond.code y_Md_isFull prog_9_method_44_code 8 (some .boolean) :: pv_TB) rm_Md_isFull D pv_cl (pv_ty q) 36 a (pv_FM q a) A (pv_ZM) [.ref (a 0), .int x1, .int x2] σ out :=
  pv_ofZ (by decide) (Nat.le_of_ble_eq_true rfl) hD (fun p e s m args below meth c Q ls C hret hl hP => s_Md_isFull_0 C hmv (Nat.le_refl _) (Nat.le_refl _) hret hl hP va_S.rf hf)
theorem d_Md_layOut_0 : decode prog_9_method_45_code 0 = .ok (.aload_n 0, 1) := by decide +kernel
theorem d_Md_layOut_1 : decode prog_9_method_45_code 1 = .ok (.iconst 0, 1) := by decide +kernel
theorem d_Md_layOut_2 : decode prog_9_method_45_code 2 = .ok (.putfield 279, 3) := by decide +kernel
theorem d_Md_layOut_5 : decode prog_9_method_45_code 5 = .ok (.iconst 0, 1) := by decide +kernel
theorem d_Md_layOut_6 : decode prog_9_method_45_code 6 = .ok (.istore_n 1, 1) := by decide +kernel
theorem d_Md_layOut_7 : decode prog_9_method_45_code 7 = .ok (.iload_n 1, 1) := by decide +kernel
theorem d_Md_layOut_8 : decode prog_9_method_45_code 8 = .ok (.iconst 2, 1) := by decide +kernel
theorem d_Md_layOut_9 : decode prog_9_method_45_code 9 = .ok (.aload_n 0, 1) := by decide +kernel
theorem d_Md_layOut_10 : decode prog_9_method_45_code 10 = .ok (.getfield 253, 3) := by decide +kernel
theorem d_Md_layOut_13 : decode prog_9_method_45_code 13 = .ok (.imul, 1) := by decide +kernel
theorem d_Md_layOut_14 : decode prog_9_method_45_code 14 = .ok (.if_icmp .ge 91, 3) := by decide +kernel
theorem d_Md_layOut_17 : decode prog_9_method_45_code 17 = .ok (.aload_n 0, 1) := by decide +kernel
theorem d_Md_layOut_18 : decode prog_9_method_45_code 18 = .ok (.getfield 50, 3) := by decide +kernel
theorem d_Md_layOut_21 : decode prog_9_method_45_code 21 = .ok (.iload_n 1, 1) := by decide +kernel
theorem d_Md_layOut_22 : decode prog_9_method_45_code 22 = .ok (.aload_n 0, 1) := by decide +kernel
theorem d_Md_layOut_23 : decode prog_9_method_45_code 23 = .ok (.getfield 253, 3) := by decide +kernel
theorem d_Md_layOut_26 : decode prog_9_method_45_code 26 = .ok (.irem, 1) := by decide +kernel
theorem d_Md_layOut_27 : decode prog_9_method_45_code 27 = .ok (.iaload, 1) := by decide +kernel
theorem d_Md_layOut_28 : decode prog_9_method_45_code 28 = .ok (.istore_n 2, 1) := by decide +kernel
theorem d_Md_layOut_29 : decode prog_9_method_45_code 29 = .ok (.aload_n 0, 1) := by decide +kernel
theorem d_Md_layOut_30 : decode prog_9_method_45_code 30 = .ok (.getfield 62, 3) := by decide +kernel
theorem d_Md_layOut_33 : decode prog_9_method_45_code 33 = .ok (.iload_n 2, 1) := by decide +kernel
theorem d_Md_layOut_34 : decode prog_9_method_45_code 34 = .ok (.baload, 1) := by decide +kernel
theorem d_Md_layOut_35 : decode prog_9_method_45_code 35 = .ok (.ifCond .eq 64, 3) := by decide +kernel
theorem d_Md_layOut_38 : decode prog_9_method_45_code 38 = .ok (.iload_n 1, 1) := by decide +kernel
theorem d_Md_layOut_39 : decode prog_9_method_45_code 39 = .ok (.aload_n 0, 1) := by decide +kernel
theorem d_Md_layOut_40 : decode prog_9_method_45_code 40 = .ok (.getfield 253, 3) := by decide +kernel
theorem d_Md_layOut_43 : decode prog_9_method_45_code 43 = .ok (.if_icmp .lt 14, 3) := by decide +kernel
theorem d_Md_layOut_46 : decode prog_9_method_45_code 46 = .ok (.aload_n 0, 1) := by decide +kernel
theorem d_Md_layOut_47 : decode prog_9_method_45_code 47 = .ok (.getfield 38, 3) := by decide +kernel
theorem d_Md_layOut_50 : decode prog_9_method_45_code 50 = .ok (.iload_n 2, 1) := by decide +kernel
theorem d_Md_layOut_51 : decode prog_9_method_45_code 51 = .ok (.iaload, 1) := by decide +kernel
theorem d_Md_layOut_52 : decode prog_9_method_45_code 52 = .ok (.bipush 18, 2) := by decide +kernel
theorem d_Md_layOut_54 : decode prog_9_method_45_code 54 = .ok (.if_icmp .ne 45, 3) := by decide +kernel
theorem d_Md_layOut_57 : decode prog_9_method_45_code 57 = .ok (.aload_n 0, 1) := by decide +kernel
theorem d_Md_layOut_58 : decode prog_9_method_45_code 58 = .ok (.getfield 66, 3) := by decide +kernel
theorem d_Md_layOut_61 : decode prog_9_method_45_code 61 = .ok (.aload_n 0, 1) := by decide +kernel
theorem d_Md_layOut_62 : decode prog_9_method_45_code 62 = .ok (.getfield 279, 3) := by decide +kernel
theorem d_Md_layOut_65 : decode prog_9_method_45_code 65 = .ok (.iload_n 2, 1) := by decide +kernel
theorem d_Md_layOut_66 : decode prog_9_method_45_code 66 = .ok (.iastore, 1) := by decide +kernel
theorem d_Md_layOut_67 : decode prog_9_method_45_code 67 = .ok (.aload_n 0, 1) := by decide +kernel
theorem d_Md_layOut_68 : decode prog_9_method_45_code 68 = .ok (.getfield 69, 3) := by decide +kernel
theorem d_Md_layOut_71 : decode prog_9_method_45_code 71 = .ok (.aload_n 0, 1) := by decide +kernel
theorem d_Md_layOut_72 : decode prog_9_method_45_code 72 = .ok (.getfield 279, 3) := by decide +kernel
theorem d_Md_layOut_75 : decode prog_9_method_45_code 75 = .ok (.iload_n 1, 1) := by decide +kernel
theorem d_Md_layOut_76 : decode prog_9_method_45_code 76 = .ok (.aload_n 0, 1) := by decide +kernel
theorem d_Md_layOut_77 : decode prog_9_method_45_code 77 = .ok (.getfield 253, 3) := by decide +kernel
theorem d_Md_layOut_80 : decode prog_9_method_45_code 80 = .ok (.if_icmp .lt 7, 3) := by decide +kernel
theorem d_Md_layOut_83 : decode prog_9_method_45_code 83 = .ok (.iconst 1, 1) := by decide +kernel
theorem d_Md_layOut_84 : decode prog_9_method_45_code 84 = .ok (.goto 4, 3) := by decide +kernel
theorem d_Md_layOut_87 : decode prog_9_method_45_code 87 = .ok (.iconst 0, 1) := by decide +kernel
theorem d_Md_layOut_88 : decode prog_9_method_45_code 88 = .ok (.bastore, 1) := by decide +kernel
theorem d_Md_layOut_89 : decode prog_9_method_45_code 89 = .ok (.aload_n 0, 1) := by decide +kernel
theorem d_Md_layOut_90 : decode prog_9_method_45_code 90 = .ok (.dup, 1) := by decide +kernel
theorem d_Md_layOut_91 : decode prog_9_method_45_code 91 = .ok (.getfield 279, 3) := by decide +kernel
theorem d_Md_layOut_94 : decode prog_9_method_45_code 94 = .ok (.iconst 1, 1) := by decide +kernel
theorem d_Md_layOut_95 : decode prog_9_method_45_code 95 = .ok (.iadd, 1) := by decide +kernel
theorem d_Md_layOut_96 : decode prog_9_method_45_code 96 = .ok (.putfield 279, 3) := by decide +kernel
theorem d_Md_layOut_99 : decode prog_9_method_45_code 99 = .ok (.iinc 1 1, 3) := by decide +kernel
theorem d_Md_layOut_102 : decode prog_9_method_45_code 102 = .ok (.goto (-95), 3) := by decide +kernel
theorem d_Md_layOut_105 : decode prog_9_method_45_code 105 = .ok (.iconst 0, 1) := by decide +kernel
theorem d_Md_layOut_106 : decode prog_9_method_45_code 106 = .ok (.istore_n 1, 1) := by decide +kernel
theorem d_Md_layOut_107 : decode prog_9_method_45_code 107 = .ok (.iload_n 1, 1) := by decide +kernel
theorem d_Md_layOut_108 : decode prog_9_method_45_code 108 = .ok (.aload_n 0, 1) := by decide +kernel
theorem d_Md_layOut_109 : decode prog_9_method_45_code 109 = .ok (.getfield 279, 3) := by decide +kernel
theorem d_Md_layOut_112 : decode prog_9_method_45_code 112 = .ok (.if_icmp .ge 55, 3) := by decide +kernel
theorem d_Md_layOut_115 : decode prog_9_method_45_code 115 = .ok (.iconst 0, 1) := by decide +kernel
theorem d_Md_layOut_116 : decode prog_9_method_45_code 116 = .ok (.istore_n 2, 1) := by decide +kernel
theorem d_Md_layOut_117 : decode prog_9_method_45_code 117 = .ok (.aload_n 0, 1) := by decide +kernel
theorem d_Md_layOut_118 : decode prog_9_method_45_code 118 = .ok (.getfield 69, 3) := by decide +kernel
theorem d_Md_layOut_121 : decode prog_9_method_45_code 121 = .ok (.iload_n 1, 1) := by decide +kernel
theorem d_Md_layOut_122 : decode prog_9_method_45_code 122 = .ok (.baload, 1) := by decide +kernel
theorem d_Md_layOut_123 : decode prog_9_method_45_code 123 = .ok (.ifCond .ne 18, 3) := by decide +kernel
theorem d_Md_layOut_126 : decode prog_9_method_45_code 126 = .ok (.aload_n 0, 1) := by decide +kernel
theorem d_Md_layOut_127 : decode prog_9_method_45_code 127 = .ok (.iload_n 1, 1) := by decide +kernel
theorem d_Md_layOut_128 : decode prog_9_method_45_code 128 = .ok (.iload_n 2, 1) := by decide +kernel
theorem d_Md_layOut_129 : decode prog_9_method_45_code 129 = .ok (.invokevirtual 285, 3) := by decide +kernel
theorem d_Md_layOut_132 : decode prog_9_method_45_code 132 = .ok (.ifCond .eq 9, 3) := by decide +kernel
theorem d_Md_layOut_135 : decode prog_9_method_45_code 135 = .ok (.iinc 2 1, 3) := by decide +kernel
theorem d_Md_layOut_138 : decode prog_9_method_45_code 138 = .ok (.goto (-21), 3) := by decide +kernel
theorem d_Md_layOut_141 : decode prog_9_method_45_code 141 = .ok (.aload_n 0, 1) := by decide +kernel
theorem d_Md_layOut_142 : decode prog_9_method_45_code 142 = .ok (.getfield 72, 3) := by decide +kernel
theorem d_Md_layOut_145 : decode prog_9_method_45_code 145 = .ok (.iload_n 1, 1) := by decide +kernel
theorem d_Md_layOut_146 : decode prog_9_method_45_code 146 = .ok (.aload_n 0, 1) := by decide +kernel
theorem d_Md_layOut_147 : decode prog_9_method_45_code 147 = .ok (.getfield 69, 3) := by decide +kernel
theorem d_Md_layOut_150 : decode prog_9_method_45_code 150 = .ok (.iload_n 1, 1) := by decide +kernel
theorem d_Md_layOut_151 : decode prog_9_method_45_code 151 = .ok (.baload, 1) := by decide +kernel
theorem d_Md_layOut_152 : decode prog_9_method_45_code 152 = .ok (.ifCond .eq 7, 3) := by decide +kernel
theorem d_Md_layOut_155 : decode prog_9_method_45_code 155 = .ok (.iconst (-1), 1) := by decide +kernel
theorem d_Md_layOut_156 : decode prog_9_method_45_code 156 = .ok (.goto 4, 3) := by decide +kernel
theorem d_Md_layOut_159 : decode prog_9_method_45_code 159 = .ok (.iload_n 2, 1) := by decide +kernel
theorem d_Md_layOut_160 : decode prog_9_method_45_code 160 = .ok (.iastore, 1) := by decide +kernel
theorem d_Md_layOut_161 : decode prog_9_method_45_code 161 = .ok (.iinc 1 1, 3) := by decide +kernel
theorem d_Md_layOut_164 : decode prog_9_method_45_code 164 = .ok (.goto (-57), 3) := by decide +kernel
theorem d_Md_layOut_167 : decode prog_9_method_45_code 167 = .ok (.return_, 1) := by decide +kernel
def f_Md_layOut_160 (k_107 : pv_S → Int32 → Option pv_S) (σ : pv_S) (x1 : Int32) (s0 : Int32) (s1 : Int32) : Option pv_S :=
  (if pv_in s1 48 = true then
k_107 (pv_uI σ 20 (s1).toNatClampNeg s0) (x1 + (1 : Int32))
  else none)
set_option maxHeartbeats 4000000 in
set_option maxRecDepth 100000 in
theorem s_Md_layOut_160 {p : Program} {l : Launch} {e : Env} {R : Room} {s : State} {m : MethodId} {args : Array Value} {below : List Frame} {meth : Method} {c : Code} {Q : State → Prop} {D : va_G} {q : Nat → ClassId} {a : Nat → Nat} {A : Nat → Prop} (C : pv_C p s m args c prog_9_method_45_code 3 "PatchVoicesModel" pv_TB D pv_cl (pv_ty q) 36 a A (pv_ZM)) (hmv : pv_mv A (pv_ZM)) (hRf : 3 ≤ R.frames) (hRl : 73 ≤ R.locals) {out : pv_S} (hret : pv_Rv p l e R s m args below meth c prog_9_method_45_code D pv_cl 36 a (pv_FM q a) A Q out) {k_107 : pv_S → Int32 → Option pv_S} (hk_107 : ∀ (σ : pv_S) (x1 : Int32) (H : Heap) (locs : List Loc) (ls : Array Slot), k_107 σ x1 = some out → lv_has ls 3 [(0, .ref (a 0)), (1, .int x1)] → pv_W D pv_cl 36 a (pv_FM q a) σ H → va_S A s.heap H locs → W p l e R s m args below meth c H locs 0 0 Q (F0 m 107 ls [])) {σ : pv_S} {x1 : Int32} {s0 : Int32} {s1 : Int32} {H : Heap} {locs : List Loc} {ls : Array Slot} (hl : lv_has ls 3 [(0, .ref (a 0)), (1, .int x1)]) (hP : pv_W D pv_cl 36 a (pv_FM q a) σ H) (hS : va_S A s.heap H locs) (hf : f_Md_layOut_160 k_107 σ x1 s0 s1 = some out) : W p l e R s m args below meth c H locs 0 0 Q (F0 m 160 ls [.int s0, .int s1, .ref (a 20)]) := by
  unfold f_Md_layOut_160 at hf
  have hx := C.1
  have hb := C.2.1
  obtain ⟨hg, hf⟩ := pv_g hf
  refine pv_iast C hP hS (t0 := 0) (x := s0) (by decide) (fun f g => (fm_20 _ _ f g)) rfl hg d_Md_layOut_160 (fun H locs hP hS => ?_)
  refine lv_iinc (k := 1) (v := (x1 + (1 : Int32))) (lv' := [(1, .int (x1 + (1 : Int32))), (0, .ref (a 0))]) hx hb d_Md_layOut_161 hl rfl (pv_inc (by decide)) (by decide) rfl (fun ls hl => ?_)
  refine lv_goto (tgt := 107) hx hb d_Md_layOut_164 (by decide) ?_
  exact hk_107 _ _ _ _ _ hf (lv_sub hl [1, 0] rfl) hP hS
def f_Md_layOut_141 (k_107 : pv_S → Int32 → Option pv_S) (σ : pv_S) (x1 : Int32) (x2 : Int32) : Option pv_S :=
  (if pv_in x1 48 = true then
(if (σ.1 19 (x1).toNatClampNeg) = 0 then
  f_Md_layOut_160 k_107 σ x1 x2 x1
  else
  f_Md_layOut_160 k_107 σ x1 (-1 : Int32) x1)
  else none)
set_option maxHeartbeats 4000000 in
set_option maxRecDepth 100000 in
theorem s_Md_layOut_141 {p : Program} {l : Launch} {e : Env} {R : Room} {s : State} {m : MethodId} {args : Array Value} {below : List Frame} {meth : Method} {c : Code} {Q : State → Prop} {D : va_G} {q : Nat → ClassId} {a : Nat → Nat} {A : Nat → Prop} (C : pv_C p s m args c prog_9_method_45_code 3 "PatchVoicesModel" pv_TB D pv_cl (pv_ty q) 36 a A (pv_ZM)) (hmv : pv_mv A (pv_ZM)) (hRf : 3 ≤ R.frames) (hRl : 73 ≤ R.locals) {out : pv_S} (hret : pv_Rv p l e R s m args below meth c prog_9_method_45_code D pv_cl 36 a (pv_FM q a) A Q out) {k_107 : pv_S → Int32 → Option pv_S} (hk_107 : ∀ (σ : pv_S) (x1 : Int32) (H : Heap) (locs : List Loc) (ls : Array Slot), k_107 σ x1 = some out → lv_has ls 3 [(0, .ref (a 0)), (1, .int x1)] → pv_W D pv_cl 36 a (pv_FM q a) σ H → va_S A s.heap H locs → W p l e R s m args below meth c H locs 0 0 Q (F0 m 107 ls [])) {σ : pv_S} {x1 : Int32} {x2 : Int32} {H : Heap} {locs : List Loc} {ls : Array Slot} (hl : lv_has ls 3 [(0, .ref (a 0)), (1, .int x1), (2, .int x2)]) (hP : pv_W D pv_cl 36 a (pv_FM q a) σ H) (hS : va_S A s.heap H locs) (hf : f_Md_layOut_141 k_107 σ x1 x2 = some out) : W p l e R s m args below meth c H locs 0 0 Q (F0 m 141 ls []) := by
  unfold f_Md_layOut_141 at hf
  have hx := C.1
  have hb := C.2.1
  refine lv_aload_n hx hb d_Md_layOut_141 rfl (lv_at hl 0 rfl) ?_
  refine pv_get C hP (v := .ref (a 20)) (j := 31) (by decide) (fm_0 _ _ _ _) fl_Md_72 rfl d_Md_layOut_142 ?_
  refine lv_iload_n hx hb d_Md_layOut_145 rfl (lv_at hl 1 rfl) ?_
  refine lv_aload_n hx hb d_Md_layOut_146 rfl (lv_at hl 0 rfl) ?_
  refine pv_get C hP (v := .ref (a 19)) (j := 30) (by decide) (fm_0 _ _ _ _) fl_Md_69 rfl d_Md_layOut_147 ?_
  refine lv_iload_n hx hb d_Md_layOut_150 rfl (lv_at hl 1 rfl) ?_
  obtain ⟨hg, hf⟩ := pv_g hf
  refine pv_zald C hP (t0 := 2) (by decide) (fm_19 _ _ _ _) rfl hg d_Md_layOut_151 ?_
  refine lv_if_eq (tgt := 159) hx hb d_Md_layOut_152 (by decide) (fun h => ?_) (fun h => ?_)
  · have hf := pv_t hf h
    refine lv_iload_n hx hb d_Md_layOut_159 rfl (lv_at hl 2 rfl) ?_
    exact s_Md_layOut_160 C hmv hRf hRl hret hk_107 (lv_sub hl [0, 1] rfl) hP hS hf
  · have hf := pv_f hf h
    refine lv_iconst (v := (-1 : Int32)) hx hb d_Md_layOut_155 (by decide) ?_
    refine lv_goto (tgt := 160) hx hb d_Md_layOut_156 (by decide) ?_
    exact s_Md_layOut_160 C hmv hRf hRl hret hk_107 (lv_sub hl [0, 1] rfl) hP hS hf
def f_Md_layOut_117b (k_107 : pv_S → Int32 → Option pv_S) (k_117 : pv_S → Int32 → Int32 → Option pv_S) (σ : pv_S) (x1 : Int32) (x2 : Int32) : Option pv_S :=
  (if pv_in x1 48 = true then
(if (σ.1 19 (x1).toNatClampNeg) = 0 then
  ((f_Md_isFull σ x1 x2).bind fun q1 =>
(if q1.1 = 0 then
  f_Md_layOut_141 k_107 q1.2 x1 x2
  else
  k_117 q1.2 x1 (x2 + (1 : Int32))))
  else
  f_Md_layOut_141 k_107 σ x1 x2)
  else none)
set_option maxHeartbeats 4000000 in
set_option maxRecDepth 100000 in
theorem s_Md_layOut_117b {p : Program} {l : Launch} {e : Env} {R : Room} {s : State} {m : MethodId} {args : Array Value} {below : List Frame} {meth : Method} {c : Code} {Q : State → Prop} {D : va_G} {q : Nat → ClassId} {a : Nat → Nat} {A : Nat → Prop} (C : pv_C p s m args c prog_9_method_45_code 3 "PatchVoicesModel" pv_TB D pv_cl (pv_ty q) 36 a A (pv_ZM)) (hmv : pv_mv A (pv_ZM)) (hRf : 3 ≤ R.frames) (hRl : 73 ≤ R.locals) {out : pv_S} (hret : pv_Rv p l e R s m args below meth c prog_9_method_45_code D pv_cl 36 a (pv_FM q a) A Q out) {k_107 : pv_S → Int32 → Option pv_S} (hk_107 : ∀ (σ : pv_S) (x1 : Int32) (H : Heap) (locs : List Loc) (ls : Array Slot), k_107 σ x1 = some out → lv_has ls 3 [(0, .ref (a 0)), (1, .int x1)] → pv_W D pv_cl 36 a (pv_FM q a) σ H → va_S A s.heap H locs → W p l e R s m args below meth c H locs 0 0 Q (F0 m 107 ls [])) {k_117 : pv_S → Int32 → Int32 → Option pv_S} (hk_117 : ∀ (σ : pv_S) (x1 : Int32) (x2 : Int32) (H : Heap) (locs : List Loc) (ls : Array Slot), k_117 σ x1 x2 = some out → lv_has ls 3 [(0, .ref (a 0)), (1, .int x1), (2, .int x2)] → pv_W D pv_cl 36 a (pv_FM q a) σ H → va_S A s.heap H locs → W p l e R s m args below meth c H locs 0 0 Q (F0 m 117 ls [])) {σ : pv_S} {x1 : Int32} {x2 : Int32} {H : Heap} {locs : List Loc} {ls : Array Slot} (hl : lv_has ls 3 [(0, .ref (a 0)), (1, .int x1), (2, .int x2)]) (hP : pv_W D pv_cl 36 a (pv_FM q a) σ H) (hS : va_S A s.heap H locs) (hf : f_Md_layOut_117b k_107 k_117 σ x1 x2 = some out) : W p l e R s m args below meth c H locs 0 0 Q (F0 m 117 ls []) := by
  unfold f_Md_layOut_117b at hf
  have hx := C.1
  have hb := C.2.1
  refine lv_aload_n hx hb d_Md_layOut_117 rfl (lv_at hl 0 rfl) ?_
  refine pv_get C hP (v := .ref (a 19)) (j := 30) (by decide) (fm_0 _ _ _ _) fl_Md_69 rfl d_Md_layOut_118 ?_
  refine lv_iload_n hx hb d_Md_layOut_121 rfl (lv_at hl 1 rfl) ?_
  obtain ⟨hg, hf⟩ := pv_g hf
  refine pv_zald C hP (t0 := 2) (by decide) (fm_19 _ _ _ _) rfl hg d_Md_layOut_122 ?_
  refine lv_if_ne (tgt := 141) hx hb d_Md_layOut_123 (by decide) (fun h => ?_) (fun h => ?_)
  · have hf := pv_f hf h
    exact s_Md_layOut_141 C hmv hRf hRl hret hk_107 (lv_sub hl [0, 1, 2] rfl) hP hS hf
  · have hf := pv_t hf h
    refine lv_aload_n hx hb d_Md_layOut_126 rfl (lv_at hl 0 rfl) ?_
    refine lv_iload_n hx hb d_Md_layOut_127 rfl (lv_at hl 1 rfl) ?_
    refine lv_iload_n hx hb d_Md_layOut_128 rfl (lv_at hl 2 rfl) ?_
    obtain ⟨q1, hc, hf⟩ := pv_b hf
    refine pv_callVi C hmv pv_good hP hS (As := [.int x1, .int x2]) (rest := []) (by decide) (fm_0 _ _ _ _) rfl (c_Md_isFull C.2.2.2.2.2.2.1 hmv hc) cv_Md_285 ⟨rfl, rfl, Nat.le_trans (Nat.le_of_ble_eq_true rfl) hRf, Nat.le_trans (Nat.le_of_ble_eq_true rfl) hRl⟩ rfl hl.1 rfl (Nat.le_of_ble_eq_true rfl) d_Md_layOut_129 ⟨Nat.zero_le _, Nat.zero_le _⟩ (fun H locs hP hS => ?_)
    refine lv_if_eq (tgt := 141) hx hb d_Md_layOut_132 (by decide) (fun h => ?_) (fun h => ?_)
    · have hf := pv_t hf h
      exact s_Md_layOut_141 C hmv hRf hRl hret hk_107 (lv_sub hl [0, 1, 2] rfl) hP hS hf
    · have hf := pv_f hf h
      refine lv_iinc (k := 2) (v := (x2 + (1 : Int32))) (lv' := [(2, .int (x2 + (1 : Int32))), (0, .ref (a 0)), (1, .int x1)]) hx hb d_Md_layOut_135 hl rfl (pv_inc (by decide)) (by decide) rfl (fun ls hl => ?_)
      refine lv_goto (tgt := 117) hx hb d_Md_layOut_138 (by decide) ?_
      exact hk_117 _ _ _ _ _ _ hf (lv_sub hl [1, 2, 0] rfl) hP hS
def f_Md_layOut_117 (k_107 : pv_S → Int32 → Option pv_S) : Nat → pv_S → Int32 → Int32 → Option pv_S
  | 0 => fun _ _ _ => none
  | n + 1 => f_Md_layOut_117b k_107 (f_Md_layOut_117 k_107 n)
set_option maxHeartbeats 4000000 in
theorem s_Md_layOut_117 {p : Program} {l : Launch} {e : Env} {R : Room} {s : State} {m : MethodId} {args : Array Value} {below : List Frame} {meth : Method} {c : Code} {Q : State → Prop} {D : va_G} {q : Nat → ClassId} {a : Nat → Nat} {A : Nat → Prop} (C : pv_C p s m args c prog_9_method_45_code 3 "PatchVoicesModel" pv_TB D pv_cl (pv_ty q) 36 a A (pv_ZM)) (hmv : pv_mv A (pv_ZM)) (hRf : 3 ≤ R.frames) (hRl : 73 ≤ R.locals) {out : pv_S} (hret : pv_Rv p l e R s m args below meth c prog_9_method_45_code D pv_cl 36 a (pv_FM q a) A Q out) {k_107 : pv_S → Int32 → Option pv_S} (hk_107 : ∀ (σ : pv_S) (x1 : Int32) (H : Heap) (locs : List Loc) (ls : Array Slot), k_107 σ x1 = some out → lv_has ls 3 [(0, .ref (a 0)), (1, .int x1)] → pv_W D pv_cl 36 a (pv_FM q a) σ H → va_S A s.heap H locs → W p l e R s m args below meth c H locs 0 0 Q (F0 m 107 ls [])) (n : Nat) : ∀ {σ : pv_S} {x1 : Int32} {x2 : Int32} {H : Heap} {locs : List Loc} {ls : Array Slot}, lv_has ls 3 [(0, .ref (a 0)), (1, .int x1), (2, .int x2)] → pv_W D pv_cl 36 a (pv_FM q a) σ H → va_S A s.heap H locs → f_Md_layOut_117 k_107 n σ x1 x2 = some out → W p l e R s m args below meth c H locs 0 0 Q (F0 m 117 ls []) := by
  induction n with
  | zero => intro σ x1 x2 H locs ls hl hP hS hf; cases hf
  | succ n ih => intro σ x1 x2 H locs ls hl hP hS hf; exact s_Md_layOut_117b C hmv hRf hRl hret hk_107 (fun σ x1 x2 H locs ls hf hl hP hS => ih hl hP hS hf) hl hP hS hf
def f_Md_layOut_107b (k_107 : pv_S → Int32 → Option pv_S) (σ : pv_S) (x1 : Int32) : Option pv_S :=
  (if (σ.1 0 28) ≤ x1 then
  some σ
  else
  f_Md_layOut_117 k_107 pv_fu σ x1 (0 : Int32))
set_option maxHeartbeats 4000000 in
set_option maxRecDepth 100000 in
theorem s_Md_layOut_107b {p : Program} {l : Launch} {e : Env} {R : Room} {s : State} {m : MethodId} {args : Array Value} {below : List Frame} {meth : Method} {c : Code} {Q : State → Prop} {D : va_G} {q : Nat → ClassId} {a : Nat → Nat} {A : Nat → Prop} (C : pv_C p s m args c prog_9_method_45_code 3 "PatchVoicesModel" pv_TB D pv_cl (pv_ty q) 36 a A (pv_ZM)) (hmv : pv_mv A (pv_ZM)) (hRf : 3 ≤ R.frames) (hRl : 73 ≤ R.locals) {out : pv_S} (hret : pv_Rv p l e R s m args below meth c prog_9_method_45_code D pv_cl 36 a (pv_FM q a) A Q out) {k_107 : pv_S → Int32 → Option pv_S} (hk_107 : ∀ (σ : pv_S) (x1 : Int32) (H : Heap) (locs : List Loc) (ls : Array Slot), k_107 σ x1 = some out → lv_has ls 3 [(0, .ref (a 0)), (1, .int x1)] → pv_W D pv_cl 36 a (pv_FM q a) σ H → va_S A s.heap H locs → W p l e R s m args below meth c H locs 0 0 Q (F0 m 107 ls [])) {σ : pv_S} {x1 : Int32} {H : Heap} {locs : List Loc} {ls : Array Slot} (hl : lv_has ls 3 [(0, .ref (a 0)), (1, .int x1)]) (hP : pv_W D pv_cl 36 a (pv_FM q a) σ H) (hS : va_S A s.heap H locs) (hf : f_Md_layOut_107b k_107 σ x1 = some out) : W p l e R s m args below meth c H locs 0 0 Q (F0 m 107 ls []) := by
  unfold f_Md_layOut_107b at hf
  have hx := C.1
  have hb := C.2.1
  refine lv_iload_n hx hb d_Md_layOut_107 rfl (lv_at hl 1 rfl) ?_
  refine lv_aload_n hx hb d_Md_layOut_108 rfl (lv_at hl 0 rfl) ?_
  refine pv_get C hP (v := .int (σ.1 0 28)) (j := 28) (by decide) (fm_0 _ _ _ _) fl_Md_279 rfl d_Md_layOut_109 ?_
  refine lv_icmp_ge (tgt := 167) hx hb d_Md_layOut_112 (by decide) (fun h => ?_) (fun h => ?_)
  · have hf := pv_t hf h
    obtain rfl := Option.some.inj hf
    exact hret _ _ _ _ d_Md_layOut_167 hP hS
  · have hf := pv_f hf h
    refine lv_iconst (v := (0 : Int32)) hx hb d_Md_layOut_115 (by decide) ?_
    refine lv_istore_n (lv' := [(2, .int (0 : Int32)), (0, .ref (a 0)), (1, .int x1)]) hx hb d_Md_layOut_116 rfl hl (by decide) rfl (fun ls hl => ?_)
    exact s_Md_layOut_117 C hmv hRf hRl hret hk_107 pv_fu (lv_sub hl [1, 2, 0] rfl) hP hS hf
def f_Md_layOut_107 : Nat → pv_S → Int32 → Option pv_S
  | 0 => fun _ _ => none
  | n + 1 => f_Md_layOut_107b (f_Md_layOut_107 n)
set_option maxHeartbeats 4000000 in
theorem s_Md_layOut_107 {p : Program} {l : Launch} {e : Env} {R : Room} {s : State} {m : MethodId} {args : Array Value} {below : List Frame} {meth : Method} {c : Code} {Q : State → Prop} {D : va_G} {q : Nat → ClassId} {a : Nat → Nat} {A : Nat → Prop} (C : pv_C p s m args c prog_9_method_45_code 3 "PatchVoicesModel" pv_TB D pv_cl (pv_ty q) 36 a A (pv_ZM)) (hmv : pv_mv A (pv_ZM)) (hRf : 3 ≤ R.frames) (hRl : 73 ≤ R.locals) {out : pv_S} (hret : pv_Rv p l e R s m args below meth c prog_9_method_45_code D pv_cl 36 a (pv_FM q a) A Q out) (n : Nat) : ∀ {σ : pv_S} {x1 : Int32} {H : Heap} {locs : List Loc} {ls : Array Slot}, lv_has ls 3 [(0, .ref (a 0)), (1, .int x1)] → pv_W D pv_cl 36 a (pv_FM q a) σ H → va_S A s.heap H locs → f_Md_layOut_107 n σ x1 = some out → W p l e R s m args below meth c H locs 0 0 Q (F0 m 107 ls []) := by
  induction n with
  | zero => intro σ x1 H locs ls hl hP hS hf; cases hf
  | succ n ih => intro σ x1 H locs ls hl hP hS hf; exact s_Md_layOut_107b C hmv hRf hRl hret (fun σ x1 H locs ls hf hl hP hS => ih hl hP hS hf) hl hP hS hf
def f_Md_layOut_99 (k_7 : pv_S → Int32 → Option pv_S) (σ : pv_S) (x1 : Int32) : Option pv_S :=
  k_7 σ (x1 + (1 : Int32))
set_option maxHeartbeats 4000000 in
set_option maxRecDepth 100000 in
theorem s_Md_layOut_99 {p : Program} {l : Launch} {e : Env} {R : Room} {s : State} {m : MethodId} {args : Array Value} {below : List Frame} {meth : Method} {c : Code} {Q : State → Prop} {D : va_G} {q : Nat → ClassId} {a : Nat → Nat} {A : Nat → Prop} (C : pv_C p s m args c prog_9_method_45_code 3 "PatchVoicesModel" pv_TB D pv_cl (pv_ty q) 36 a A (pv_ZM)) (hmv : pv_mv A (pv_ZM)) (hRf : 3 ≤ R.frames) (hRl : 73 ≤ R.locals) {out : pv_S} (hret : pv_Rv p l e R s m args below meth c prog_9_method_45_code D pv_cl 36 a (pv_FM q a) A Q out) {k_7 : pv_S → Int32 → Option pv_S} (hk_7 : ∀ (σ : pv_S) (x1 : Int32) (H : Heap) (locs : List Loc) (ls : Array Slot), k_7 σ x1 = some out → lv_has ls 3 [(0, .ref (a 0)), (1, .int x1)] → pv_W D pv_cl 36 a (pv_FM q a) σ H → va_S A s.heap H locs → W p l e R s m args below meth c H locs 0 0 Q (F0 m 7 ls [])) {σ : pv_S} {x1 : Int32} {H : Heap} {locs : List Loc} {ls : Array Slot} (hl : lv_has ls 3 [(0, .ref (a 0)), (1, .int x1)]) (hP : pv_W D pv_cl 36 a (pv_FM q a) σ H) (hS : va_S A s.heap H locs) (hf : f_Md_layOut_99 k_7 σ x1 = some out) : W p l e R s m args below meth c H locs 0 0 Q (F0 m 99 ls []) := by
  unfold f_Md_layOut_99 at hf
  have hx := C.1
  have hb := C.2.1
  refine lv_iinc (k := 1) (v := (x1 + (1 : Int32))) (lv' := [(1, .int (x1 + (1 : Int32))), (0, .ref (a 0))]) hx hb d_Md_layOut_99 hl rfl (pv_inc (by decide)) (by decide) rfl (fun ls hl => ?_)
  refine lv_goto (tgt := 7) hx hb d_Md_layOut_102 (by decide) ?_
  exact hk_7 _ _ _ _ _ hf (lv_sub hl [1, 0] rfl) hP hS
def f_Md_layOut_88 (k_7 : pv_S → Int32 → Option pv_S) (σ : pv_S) (x1 : Int32) (s0 : Int32) (s1 : Int32) : Option pv_S :=
  (if pv_in s1 48 = true then
f_Md_layOut_99 k_7 (pv_uI (pv_uI σ 19 (s1).toNatClampNeg (vp_nar .boolean s0)) 0 28 (((pv_uI σ 19 (s1).toNatClampNeg (vp_nar .boolean s0)).1 0 28) + (1 : Int32))) x1
  else none)
set_option maxHeartbeats 4000000 in
set_option maxRecDepth 100000 in
theorem s_Md_layOut_88 {p : Program} {l : Launch} {e : Env} {R : Room} {s : State} {m : MethodId} {args : Array Value} {below : List Frame} {meth : Method} {c : Code} {Q : State → Prop} {D : va_G} {q : Nat → ClassId} {a : Nat → Nat} {A : Nat → Prop} (C : pv_C p s m args c prog_9_method_45_code 3 "PatchVoicesModel" pv_TB D pv_cl (pv_ty q) 36 a A (pv_ZM)) (hmv : pv_mv A (pv_ZM)) (hRf : 3 ≤ R.frames) (hRl : 73 ≤ R.locals) {out : pv_S} (hret : pv_Rv p l e R s m args below meth c prog_9_method_45_code D pv_cl 36 a (pv_FM q a) A Q out) {k_7 : pv_S → Int32 → Option pv_S} (hk_7 : ∀ (σ : pv_S) (x1 : Int32) (H : Heap) (locs : List Loc) (ls : Array Slot), k_7 σ x1 = some out → lv_has ls 3 [(0, .ref (a 0)), (1, .int x1)] → pv_W D pv_cl 36 a (pv_FM q a) σ H → va_S A s.heap H locs → W p l e R s m args below meth c H locs 0 0 Q (F0 m 7 ls [])) {σ : pv_S} {x1 : Int32} {s0 : Int32} {s1 : Int32} {H : Heap} {locs : List Loc} {ls : Array Slot} (hl : lv_has ls 3 [(0, .ref (a 0)), (1, .int x1)]) (hP : pv_W D pv_cl 36 a (pv_FM q a) σ H) (hS : va_S A s.heap H locs) (hf : f_Md_layOut_88 k_7 σ x1 s0 s1 = some out) : W p l e R s m args below meth c H locs 0 0 Q (F0 m 88 ls [.int s0, .int s1, .ref (a 19)]) := by
  unfold f_Md_layOut_88 at hf
  have hx := C.1
  have hb := C.2.1
  obtain ⟨hg, hf⟩ := pv_g hf
  refine pv_zast C hP hS (t0 := 2) (x := s0) (by decide) (fun f g => (fm_19 _ _ f g)) rfl hg d_Md_layOut_88 (fun H locs hP hS => ?_)
  refine lv_aload_n hx hb d_Md_layOut_89 rfl (lv_at hl 0 rfl) ?_
  refine lv_dup hx hb d_Md_layOut_90 rfl ?_
  refine pv_get C hP (v := .int ((pv_uI σ 19 (s1).toNatClampNeg (vp_nar .boolean s0)).1 0 28)) (j := 28) (by decide) (fm_0 _ _ _ _) fl_Md_279 rfl d_Md_layOut_91 ?_
  refine lv_iconst (v := (1 : Int32)) hx hb d_Md_layOut_94 (by decide) ?_
  refine lv_iadd hx hb d_Md_layOut_95 ?_
  refine pv_putI C hP hS (x := (((pv_uI σ 19 (s1).toNatClampNeg (vp_nar .boolean s0)).1 0 28) + (1 : Int32))) (by decide) (fm_0 _ _ _ _) fw_Md_279 rfl rfl (Nat.le_of_ble_eq_true rfl) (fms_0_28 _ _ _ _ _) d_Md_layOut_96 (fun H locs hP hS => ?_)
  exact s_Md_layOut_99 C hmv hRf hRl hret hk_7 (lv_sub hl [0, 1] rfl) hP hS hf
def f_Md_layOut_57 (k_7 : pv_S → Int32 → Option pv_S) (σ : pv_S) (x1 : Int32) (x2 : Int32) : Option pv_S :=
  (if pv_in (σ.1 0 28) 48 = true then
(if x1 < ((pv_uI σ 18 ((σ.1 0 28)).toNatClampNeg x2).1 0 18) then
  f_Md_layOut_88 k_7 (pv_uI σ 18 ((σ.1 0 28)).toNatClampNeg x2) x1 (0 : Int32) ((pv_uI σ 18 ((σ.1 0 28)).toNatClampNeg x2).1 0 28)
  else
  f_Md_layOut_88 k_7 (pv_uI σ 18 ((σ.1 0 28)).toNatClampNeg x2) x1 (1 : Int32) ((pv_uI σ 18 ((σ.1 0 28)).toNatClampNeg x2).1 0 28))
  else none)
set_option maxHeartbeats 4000000 in
set_option maxRecDepth 100000 in
theorem s_Md_layOut_57 {p : Program} {l : Launch} {e : Env} {R : Room} {s : State} {m : MethodId} {args : Array Value} {below : List Frame} {meth : Method} {c : Code} {Q : State → Prop} {D : va_G} {q : Nat → ClassId} {a : Nat → Nat} {A : Nat → Prop} (C : pv_C p s m args c prog_9_method_45_code 3 "PatchVoicesModel" pv_TB D pv_cl (pv_ty q) 36 a A (pv_ZM)) (hmv : pv_mv A (pv_ZM)) (hRf : 3 ≤ R.frames) (hRl : 73 ≤ R.locals) {out : pv_S} (hret : pv_Rv p l e R s m args below meth c prog_9_method_45_code D pv_cl 36 a (pv_FM q a) A Q out) {k_7 : pv_S → Int32 → Option pv_S} (hk_7 : ∀ (σ : pv_S) (x1 : Int32) (H : Heap) (locs : List Loc) (ls : Array Slot), k_7 σ x1 = some out → lv_has ls 3 [(0, .ref (a 0)), (1, .int x1)] → pv_W D pv_cl 36 a (pv_FM q a) σ H → va_S A s.heap H locs → W p l e R s m args below meth c H locs 0 0 Q (F0 m 7 ls [])) {σ : pv_S} {x1 : Int32} {x2 : Int32} {H : Heap} {locs : List Loc} {ls : Array Slot} (hl : lv_has ls 3 [(0, .ref (a 0)), (1, .int x1), (2, .int x2)]) (hP : pv_W D pv_cl 36 a (pv_FM q a) σ H) (hS : va_S A s.heap H locs) (hf : f_Md_layOut_57 k_7 σ x1 x2 = some out) : W p l e R s m args below meth c H locs 0 0 Q (F0 m 57 ls []) := by
  unfold f_Md_layOut_57 at hf
  have hx := C.1
  have hb := C.2.1
  refine lv_aload_n hx hb d_Md_layOut_57 rfl (lv_at hl 0 rfl) ?_
  refine pv_get C hP (v := .ref (a 18)) (j := 29) (by decide) (fm_0 _ _ _ _) fl_Md_66 rfl d_Md_layOut_58 ?_
  refine lv_aload_n hx hb d_Md_layOut_61 rfl (lv_at hl 0 rfl) ?_
  refine pv_get C hP (v := .int (σ.1 0 28)) (j := 28) (by decide) (fm_0 _ _ _ _) fl_Md_279 rfl d_Md_layOut_62 ?_
  refine lv_iload_n hx hb d_Md_layOut_65 rfl (lv_at hl 2 rfl) ?_
  obtain ⟨hg, hf⟩ := pv_g hf
  refine pv_iast C hP hS (t0 := 0) (x := x2) (by decide) (fun f g => (fm_18 _ _ f g)) rfl hg d_Md_layOut_66 (fun H locs hP hS => ?_)
  refine lv_aload_n hx hb d_Md_layOut_67 rfl (lv_at hl 0 rfl) ?_
  refine pv_get C hP (v := .ref (a 19)) (j := 30) (by decide) (fm_0 _ _ _ _) fl_Md_69 rfl d_Md_layOut_68 ?_
  refine lv_aload_n hx hb d_Md_layOut_71 rfl (lv_at hl 0 rfl) ?_
  refine pv_get C hP (v := .int ((pv_uI σ 18 ((σ.1 0 28)).toNatClampNeg x2).1 0 28)) (j := 28) (by decide) (fm_0 _ _ _ _) fl_Md_279 rfl d_Md_layOut_72 ?_
  refine lv_iload_n hx hb d_Md_layOut_75 rfl (lv_at hl 1 rfl) ?_
  refine lv_aload_n hx hb d_Md_layOut_76 rfl (lv_at hl 0 rfl) ?_
  refine pv_get C hP (v := .int ((pv_uI σ 18 ((σ.1 0 28)).toNatClampNeg x2).1 0 18)) (j := 18) (by decide) (fm_0 _ _ _ _) fl_Md_253 rfl d_Md_layOut_77 ?_
  refine lv_icmp_lt (tgt := 87) hx hb d_Md_layOut_80 (by decide) (fun h => ?_) (fun h => ?_)
  · have hf := pv_t hf h
    refine lv_iconst (v := (0 : Int32)) hx hb d_Md_layOut_87 (by decide) ?_
    exact s_Md_layOut_88 C hmv hRf hRl hret hk_7 (lv_sub hl [0, 1] rfl) hP hS hf
  · have hf := pv_f hf h
    refine lv_iconst (v := (1 : Int32)) hx hb d_Md_layOut_83 (by decide) ?_
    refine lv_goto (tgt := 88) hx hb d_Md_layOut_84 (by decide) ?_
    exact s_Md_layOut_88 C hmv hRf hRl hret hk_7 (lv_sub hl [0, 1] rfl) hP hS hf
def f_Md_layOut_7b (k_7 : pv_S → Int32 → Option pv_S) (σ : pv_S) (x1 : Int32) : Option pv_S :=
  (if ((2 : Int32) * (σ.1 0 18)) ≤ x1 then
  f_Md_layOut_107 pv_fu σ (0 : Int32)
  else
  (if ¬ (σ.1 0 18) = 0 then
(if pv_in (x1 - x1 / (σ.1 0 18) * (σ.1 0 18)) 24 = true then
(if pv_in (σ.1 13 ((x1 - x1 / (σ.1 0 18) * (σ.1 0 18))).toNatClampNeg) 24 = true then
(if (σ.1 17 ((σ.1 13 ((x1 - x1 / (σ.1 0 18) * (σ.1 0 18))).toNatClampNeg)).toNatClampNeg) = 0 then
  f_Md_layOut_99 k_7 σ x1
  else
  (if x1 < (σ.1 0 18) then
  f_Md_layOut_57 k_7 σ x1 (σ.1 13 ((x1 - x1 / (σ.1 0 18) * (σ.1 0 18))).toNatClampNeg)
  else
  (if pv_in (σ.1 13 ((x1 - x1 / (σ.1 0 18) * (σ.1 0 18))).toNatClampNeg) 24 = true then
(if (σ.1 9 ((σ.1 13 ((x1 - x1 / (σ.1 0 18) * (σ.1 0 18))).toNatClampNeg)).toNatClampNeg) = (18 : Int32) then
  f_Md_layOut_57 k_7 σ x1 (σ.1 13 ((x1 - x1 / (σ.1 0 18) * (σ.1 0 18))).toNatClampNeg)
  else
  f_Md_layOut_99 k_7 σ x1)
  else none)))
  else none)
  else none)
  else none))
set_option maxHeartbeats 4000000 in
set_option maxRecDepth 100000 in
theorem s_Md_layOut_7b {p : Program} {l : Launch} {e : Env} {R : Room} {s : State} {m : MethodId} {args : Array Value} {below : List Frame} {meth : Method} {c : Code} {Q : State → Prop} {D : va_G} {q : Nat → ClassId} {a : Nat → Nat} {A : Nat → Prop} (C : pv_C p s m args c prog_9_method_45_code 3 "PatchVoicesModel" pv_TB D pv_cl (pv_ty q) 36 a A (pv_ZM)) (hmv : pv_mv A (pv_ZM)) (hRf : 3 ≤ R.frames) (hRl : 73 ≤ R.locals) {out : pv_S} (hret : pv_Rv p l e R s m args below meth c prog_9_method_45_code D pv_cl 36 a (pv_FM q a) A Q out) {k_7 : pv_S → Int32 → Option pv_S} (hk_7 : ∀ (σ : pv_S) (x1 : Int32) (H : Heap) (locs : List Loc) (ls : Array Slot), k_7 σ x1 = some out → lv_has ls 3 [(0, .ref (a 0)), (1, .int x1)] → pv_W D pv_cl 36 a (pv_FM q a) σ H → va_S A s.heap H locs → W p l e R s m args below meth c H locs 0 0 Q (F0 m 7 ls [])) {σ : pv_S} {x1 : Int32} {H : Heap} {locs : List Loc} {ls : Array Slot} (hl : lv_has ls 3 [(0, .ref (a 0)), (1, .int x1)]) (hP : pv_W D pv_cl 36 a (pv_FM q a) σ H) (hS : va_S A s.heap H locs) (hf : f_Md_layOut_7b k_7 σ x1 = some out) : W p l e R s m args below meth c H locs 0 0 Q (F0 m 7 ls []) := by
  unfold f_Md_layOut_7b at hf
  have hx := C.1
  have hb := C.2.1
  refine lv_iload_n hx hb d_Md_layOut_7 rfl (lv_at hl 1 rfl) ?_
  refine lv_iconst (v := (2 : Int32)) hx hb d_Md_layOut_8 (by decide) ?_
  refine lv_aload_n hx hb d_Md_layOut_9 rfl (lv_at hl 0 rfl) ?_
  refine pv_get C hP (v := .int (σ.1 0 18)) (j := 18) (by decide) (fm_0 _ _ _ _) fl_Md_253 rfl d_Md_layOut_10 ?_
  refine lv_imul hx hb d_Md_layOut_13 ?_
  refine lv_icmp_ge (tgt := 105) hx hb d_Md_layOut_14 (by decide) (fun h => ?_) (fun h => ?_)
  · have hf := pv_t hf h
    refine lv_iconst (v := (0 : Int32)) hx hb d_Md_layOut_105 (by decide) ?_
    refine lv_istore_n (lv' := [(1, .int (0 : Int32)), (0, .ref (a 0))]) hx hb d_Md_layOut_106 rfl hl (by decide) rfl (fun ls hl => ?_)
    exact s_Md_layOut_107 C hmv hRf hRl hret pv_fu (lv_sub hl [1, 0] rfl) hP hS hf
  · have hf := pv_f hf h
    refine lv_aload_n hx hb d_Md_layOut_17 rfl (lv_at hl 0 rfl) ?_
    refine pv_get C hP (v := .ref (a 13)) (j := 23) (by decide) (fm_0 _ _ _ _) fl_Md_50 rfl d_Md_layOut_18 ?_
    refine lv_iload_n hx hb d_Md_layOut_21 rfl (lv_at hl 1 rfl) ?_
    refine lv_aload_n hx hb d_Md_layOut_22 rfl (lv_at hl 0 rfl) ?_
    refine pv_get C hP (v := .int (σ.1 0 18)) (j := 18) (by decide) (fm_0 _ _ _ _) fl_Md_253 rfl d_Md_layOut_23 ?_
    obtain ⟨hg, hf⟩ := pv_g hf
    refine lv_irem hx hb d_Md_layOut_26 hg ?_
    obtain ⟨hg, hf⟩ := pv_g hf
    refine pv_iald C hP (t0 := 0) (by decide) (fm_13 _ _ _ _) rfl hg d_Md_layOut_27 ?_
    refine lv_istore_n (lv' := [(2, .int (σ.1 13 ((x1 - x1 / (σ.1 0 18) * (σ.1 0 18))).toNatClampNeg)), (0, .ref (a 0)), (1, .int x1)]) hx hb d_Md_layOut_28 rfl hl (by decide) rfl (fun ls hl => ?_)
    refine lv_aload_n hx hb d_Md_layOut_29 rfl (lv_at hl 1 rfl) ?_
    refine pv_get C hP (v := .ref (a 17)) (j := 27) (by decide) (fm_0 _ _ _ _) fl_Md_62 rfl d_Md_layOut_30 ?_
    refine lv_iload_n hx hb d_Md_layOut_33 rfl (lv_at hl 0 rfl) ?_
    obtain ⟨hg, hf⟩ := pv_g hf
    refine pv_zald C hP (t0 := 2) (by decide) (fm_17 _ _ _ _) rfl hg d_Md_layOut_34 ?_
    refine lv_if_eq (tgt := 99) hx hb d_Md_layOut_35 (by decide) (fun h => ?_) (fun h => ?_)
    · have hf := pv_t hf h
      exact s_Md_layOut_99 C hmv hRf hRl hret hk_7 (lv_sub hl [1, 2] rfl) hP hS hf
    · have hf := pv_f hf h
      refine lv_iload_n hx hb d_Md_layOut_38 rfl (lv_at hl 2 rfl) ?_
      refine lv_aload_n hx hb d_Md_layOut_39 rfl (lv_at hl 1 rfl) ?_
      refine pv_get C hP (v := .int (σ.1 0 18)) (j := 18) (by decide) (fm_0 _ _ _ _) fl_Md_253 rfl d_Md_layOut_40 ?_
      refine lv_icmp_lt (tgt := 57) hx hb d_Md_layOut_43 (by decide) (fun h => ?_) (fun h => ?_)
      · have hf := pv_t hf h
        exact s_Md_layOut_57 C hmv hRf hRl hret hk_7 (lv_sub hl [1, 2, 0] rfl) hP hS hf
      · have hf := pv_f hf h
        refine lv_aload_n hx hb d_Md_layOut_46 rfl (lv_at hl 1 rfl) ?_
        refine pv_get C hP (v := .ref (a 9)) (j := 19) (by decide) (fm_0 _ _ _ _) fl_Md_38 rfl d_Md_layOut_47 ?_
        refine lv_iload_n hx hb d_Md_layOut_50 rfl (lv_at hl 0 rfl) ?_
        obtain ⟨hg, hf⟩ := pv_g hf
        refine pv_iald C hP (t0 := 0) (by decide) (fm_9 _ _ _ _) rfl hg d_Md_layOut_51 ?_
        refine lv_bipush (v := (18 : Int32)) hx hb d_Md_layOut_52 (by decide) ?_
        refine lv_icmp_ne (tgt := 99) hx hb d_Md_layOut_54 (by decide) (fun h => ?_) (fun h => ?_)
        · have hf := pv_f hf h
          exact s_Md_layOut_99 C hmv hRf hRl hret hk_7 (lv_sub hl [1, 2] rfl) hP hS hf
        · have hf := pv_t hf h
          exact s_Md_layOut_57 C hmv hRf hRl hret hk_7 (lv_sub hl [1, 2, 0] rfl) hP hS hf
def f_Md_layOut_7 : Nat → pv_S → Int32 → Option pv_S
  | 0 => fun _ _ => none
  | n + 1 => f_Md_layOut_7b (f_Md_layOut_7 n)
set_option maxHeartbeats 4000000 in
theorem s_Md_layOut_7 {p : Program} {l : Launch} {e : Env} {R : Room} {s : State} {m : MethodId} {args : Array Value} {below : List Frame} {meth : Method} {c : Code} {Q : State → Prop} {D : va_G} {q : Nat → ClassId} {a : Nat → Nat} {A : Nat → Prop} (C : pv_C p s m args c prog_9_method_45_code 3 "PatchVoicesModel" pv_TB D pv_cl (pv_ty q) 36 a A (pv_ZM)) (hmv : pv_mv A (pv_ZM)) (hRf : 3 ≤ R.frames) (hRl : 73 ≤ R.locals) {out : pv_S} (hret : pv_Rv p l e R s m args below meth c prog_9_method_45_code D pv_cl 36 a (pv_FM q a) A Q out) (n : Nat) : ∀ {σ : pv_S} {x1 : Int32} {H : Heap} {locs : List Loc} {ls : Array Slot}, lv_has ls 3 [(0, .ref (a 0)), (1, .int x1)] → pv_W D pv_cl 36 a (pv_FM q a) σ H → va_S A s.heap H locs → f_Md_layOut_7 n σ x1 = some out → W p l e R s m args below meth c H locs 0 0 Q (F0 m 7 ls []) := by
  induction n with
  | zero => intro σ x1 H locs ls hl hP hS hf; cases hf
  | succ n ih => intro σ x1 H locs ls hl hP hS hf; exact s_Md_layOut_7b C hmv hRf hRl hret (fun σ x1 H locs ls hf hl hP hS => ih hl hP hS hf) hl hP hS hf
def f_Md_layOut_0 (σ : pv_S) : Option pv_S :=
  f_Md_layOut_7 pv_fu (pv_uI σ 0 28 (0 : Int32)) (0 : Int32)
set_option maxHeartbeats 4000000 in
set_option maxRecDepth 100000 in
theorem s_Md_layOut_0 {p : Program} {l : Launch} {e : Env} {R : Room} {s : State} {m : MethodId} {args : Array Value} {below : List Frame} {meth : Method} {c : Code} {Q : State → Prop} {D : va_G} {q : Nat → ClassId} {a : Nat → Nat} {A : Nat → Prop} (C : pv_C p s m args c prog_9_method_45_code 3 "PatchVoicesModel" pv_TB D pv_cl (pv_ty q) 36 a A (pv_ZM)) (hmv : pv_mv A (pv_ZM)) (hRf : 3 ≤ R.frames) (hRl : 73 ≤ R.locals) {out : pv_S} (hret : pv_Rv p l e R s m args below meth c prog_9_method_45_code D pv_cl 36 a (pv_FM q a) A Q out) {σ : pv_S} {H : Heap} {locs : List Loc} {ls : Array Slot} (hl : lv_has ls 3 [(0, .ref (a 0))]) (hP : pv_W D pv_cl 36 a (pv_FM q a) σ H) (hS : va_S A s.heap H locs) (hf : f_Md_layOut_0 σ = some out) : W p l e R s m args below meth c H locs 0 0 Q (F0 m 0 ls []) := by
  unfold f_Md_layOut_0 at hf
  have hx := C.1
  have hb := C.2.1
  refine lv_aload_n hx hb d_Md_layOut_0 rfl (lv_at hl 0 rfl) ?_
  refine lv_iconst (v := (0 : Int32)) hx hb d_Md_layOut_1 (by decide) ?_
  refine pv_putI C hP hS (x := (0 : Int32)) (by decide) (fm_0 _ _ _ _) fw_Md_279 rfl rfl (Nat.le_of_ble_eq_true rfl) (fms_0_28 _ _ _ _ _) d_Md_layOut_2 (fun H locs hP hS => ?_)
  refine lv_iconst (v := (0 : Int32)) hx hb d_Md_layOut_5 (by decide) ?_
  refine lv_istore_n (lv' := [(1, .int (0 : Int32)), (0, .ref (a 0))]) hx hb d_Md_layOut_6 rfl hl (by decide) rfl (fun ls hl => ?_)
  exact s_Md_layOut_7 C hmv hRf hRl hret pv_fu (lv_sub hl [1, 0] rfl) hP hS hf
def f_Md_layOut (σ : pv_S) : Option pv_S := f_Md_layOut_0 σ
def rm_Md_layOut : Room := { frames := 3, cells := 0, slots := 0, locals := 73 }
theorem c_Md_layOut {l : Launch} {D : va_G} {q : Nat → ClassId} {a : Nat → Nat} {A : Nat → Prop} (hD : pv_D 36 a A) (hmv : pv_mv A (pv_ZM)) {σ : pv_S} {out : pv_S} (hf : f_Md_layOut σ = some out) : pv_Mv l y_Md_layOut (Cond.code y_Md_layOut prog_9_method_45_code 3 none :: pv_TB) rm_Md_layOut D pv_cl (pv_ty q) 36 a (pv_FM q a) A (pv_ZM) [.ref (a 0)] σ out :=
  pv_ofV (by decide) (Nat.le_of_ble_eq_true rfl) hD (fun p e s m args below meth c Q ls C hret hl hP => s_Md_layOut_0 C hmv (Nat.le_refl _) (Nat.le_refl _) hret hl hP va_S.rf hf)
theorem d_Md_silence_0 : decode prog_9_method_60_code 0 = .ok (.iconst 0, 1) := by decide +kernel
theorem d_Md_silence_1 : decode prog_9_method_60_code 1 = .ok (.istore_n 1, 1) := by decide +kernel
theorem d_Md_silence_2 : decode prog_9_method_60_code 2 = .ok (.iload_n 1, 1) := by decide +kernel
theorem d_Md_silence_3 : decode prog_9_method_60_code 3 = .ok (.iconst 4, 1) := by decide +kernel
theorem d_Md_silence_4 : decode prog_9_method_60_code 4 = .ok (.if_icmp .ge 23, 3) := by decide +kernel
theorem d_Md_silence_7 : decode prog_9_method_60_code 7 = .ok (.aload_n 0, 1) := by decide +kernel
theorem d_Md_silence_8 : decode prog_9_method_60_code 8 = .ok (.getfield 81, 3) := by decide +kernel
theorem d_Md_silence_11 : decode prog_9_method_60_code 11 = .ok (.iload_n 1, 1) := by decide +kernel
theorem d_Md_silence_12 : decode prog_9_method_60_code 12 = .ok (.iconst 0, 1) := by decide +kernel
theorem d_Md_silence_13 : decode prog_9_method_60_code 13 = .ok (.bastore, 1) := by decide +kernel
theorem d_Md_silence_14 : decode prog_9_method_60_code 14 = .ok (.aload_n 0, 1) := by decide +kernel
theorem d_Md_silence_15 : decode prog_9_method_60_code 15 = .ok (.getfield 90, 3) := by decide +kernel
theorem d_Md_silence_18 : decode prog_9_method_60_code 18 = .ok (.iload_n 1, 1) := by decide +kernel
theorem d_Md_silence_19 : decode prog_9_method_60_code 19 = .ok (.iconst 0, 1) := by decide +kernel
theorem d_Md_silence_20 : decode prog_9_method_60_code 20 = .ok (.bastore, 1) := by decide +kernel
theorem d_Md_silence_21 : decode prog_9_method_60_code 21 = .ok (.iinc 1 1, 3) := by decide +kernel
theorem d_Md_silence_24 : decode prog_9_method_60_code 24 = .ok (.goto (-22), 3) := by decide +kernel
theorem d_Md_silence_27 : decode prog_9_method_60_code 27 = .ok (.aload_n 0, 1) := by decide +kernel
theorem d_Md_silence_28 : decode prog_9_method_60_code 28 = .ok (.iconst 0, 1) := by decide +kernel
theorem d_Md_silence_29 : decode prog_9_method_60_code 29 = .ok (.putfield 332, 3) := by decide +kernel
theorem d_Md_silence_32 : decode prog_9_method_60_code 32 = .ok (.aload_n 0, 1) := by decide +kernel
theorem d_Md_silence_33 : decode prog_9_method_60_code 33 = .ok (.iconst 0, 1) := by decide +kernel
theorem d_Md_silence_34 : decode prog_9_method_60_code 34 = .ok (.putfield 335, 3) := by decide +kernel
theorem d_Md_silence_37 : decode prog_9_method_60_code 37 = .ok (.aload_n 0, 1) := by decide +kernel
theorem d_Md_silence_38 : decode prog_9_method_60_code 38 = .ok (.iconst 0, 1) := by decide +kernel
theorem d_Md_silence_39 : decode prog_9_method_60_code 39 = .ok (.putfield 338, 3) := by decide +kernel
theorem d_Md_silence_42 : decode prog_9_method_60_code 42 = .ok (.return_, 1) := by decide +kernel
def f_Md_silence_2b (k_2 : pv_S → Int32 → Option pv_S) (σ : pv_S) (x1 : Int32) : Option pv_S :=
  (if (4 : Int32) ≤ x1 then
  some (pv_uI (pv_uI (pv_uI σ 0 48 (0 : Int32)) 0 47 (0 : Int32)) 0 50 (0 : Int32))
  else
  (if pv_in x1 4 = true then
(if pv_in x1 4 = true then
k_2 (pv_uI (pv_uI σ 22 (x1).toNatClampNeg (vp_nar .boolean (0 : Int32))) 25 (x1).toNatClampNeg (vp_nar .boolean (0 : Int32))) (x1 + (1 : Int32))
  else none)
  else none))
set_option maxHeartbeats 4000000 in
set_option maxRecDepth 100000 in
theorem s_Md_silence_2b {p : Program} {l : Launch} {e : Env} {R : Room} {s : State} {m : MethodId} {args : Array Value} {below : List Frame} {meth : Method} {c : Code} {Q : State → Prop} {D : va_G} {q : Nat → ClassId} {a : Nat → Nat} {A : Nat → Prop} (C : pv_C p s m args c prog_9_method_60_code 2 "PatchVoicesModel" pv_TB D pv_cl (pv_ty q) 36 a A (pv_ZM)) (hmv : pv_mv A (pv_ZM)) (hRf : 0 ≤ R.frames) (hRl : 0 ≤ R.locals) {out : pv_S} (hret : pv_Rv p l e R s m args below meth c prog_9_method_60_code D pv_cl 36 a (pv_FM q a) A Q out) {k_2 : pv_S → Int32 → Option pv_S} (hk_2 : ∀ (σ : pv_S) (x1 : Int32) (H : Heap) (locs : List Loc) (ls : Array Slot), k_2 σ x1 = some out → lv_has ls 2 [(0, .ref (a 0)), (1, .int x1)] → pv_W D pv_cl 36 a (pv_FM q a) σ H → va_S A s.heap H locs → W p l e R s m args below meth c H locs 0 0 Q (F0 m 2 ls [])) {σ : pv_S} {x1 : Int32} {H : Heap} {locs : List Loc} {ls : Array Slot} (hl : lv_has ls 2 [(0, .ref (a 0)), (1, .int x1)]) (hP : pv_W D pv_cl 36 a (pv_FM q a) σ H) (hS : va_S A s.heap H locs) (hf : f_Md_silence_2b k_2 σ x1 = some out) : W p l e R s m args below meth c H locs 0 0 Q (F0 m 2 ls []) := by
  unfold f_Md_silence_2b at hf
  have hx := C.1
  have hb := C.2.1
  refine lv_iload_n hx hb d_Md_silence_2 rfl (lv_at hl 1 rfl) ?_
  refine lv_iconst (v := (4 : Int32)) hx hb d_Md_silence_3 (by decide) ?_
  refine lv_icmp_ge (tgt := 27) hx hb d_Md_silence_4 (by decide) (fun h => ?_) (fun h => ?_)
  · have hf := pv_t hf h
    refine lv_aload_n hx hb d_Md_silence_27 rfl (lv_at hl 0 rfl) ?_
    refine lv_iconst (v := (0 : Int32)) hx hb d_Md_silence_28 (by decide) ?_
    refine pv_putI C hP hS (x := (0 : Int32)) (by decide) (fm_0 _ _ _ _) fw_Md_332 rfl rfl (Nat.le_of_ble_eq_true rfl) (fms_0_48 _ _ _ _ _) d_Md_silence_29 (fun H locs hP hS => ?_)
    refine lv_aload_n hx hb d_Md_silence_32 rfl (lv_at hl 0 rfl) ?_
    refine lv_iconst (v := (0 : Int32)) hx hb d_Md_silence_33 (by decide) ?_
    refine pv_putI C hP hS (x := (0 : Int32)) (by decide) (fm_0 _ _ _ _) fw_Md_335 rfl rfl (Nat.le_of_ble_eq_true rfl) (fms_0_47 _ _ _ _ _) d_Md_silence_34 (fun H locs hP hS => ?_)
    refine lv_aload_n hx hb d_Md_silence_37 rfl (lv_at hl 0 rfl) ?_
    refine lv_iconst (v := (0 : Int32)) hx hb d_Md_silence_38 (by decide) ?_
    refine pv_putI C hP hS (x := (0 : Int32)) (by decide) (fm_0 _ _ _ _) fw_Md_338 rfl rfl (Nat.le_of_ble_eq_true rfl) (fms_0_50 _ _ _ _ _) d_Md_silence_39 (fun H locs hP hS => ?_)
    obtain rfl := Option.some.inj hf
    exact hret _ _ _ _ d_Md_silence_42 hP hS
  · have hf := pv_f hf h
    refine lv_aload_n hx hb d_Md_silence_7 rfl (lv_at hl 0 rfl) ?_
    refine pv_get C hP (v := .ref (a 22)) (j := 34) (by decide) (fm_0 _ _ _ _) fl_Md_81 rfl d_Md_silence_8 ?_
    refine lv_iload_n hx hb d_Md_silence_11 rfl (lv_at hl 1 rfl) ?_
    refine lv_iconst (v := (0 : Int32)) hx hb d_Md_silence_12 (by decide) ?_
    obtain ⟨hg, hf⟩ := pv_g hf
    refine pv_zast C hP hS (t0 := 2) (x := (0 : Int32)) (by decide) (fun f g => (fm_22 _ _ f g)) rfl hg d_Md_silence_13 (fun H locs hP hS => ?_)
    refine lv_aload_n hx hb d_Md_silence_14 rfl (lv_at hl 0 rfl) ?_
    refine pv_get C hP (v := .ref (a 25)) (j := 37) (by decide) (fm_0 _ _ _ _) fl_Md_90 rfl d_Md_silence_15 ?_
    refine lv_iload_n hx hb d_Md_silence_18 rfl (lv_at hl 1 rfl) ?_
    refine lv_iconst (v := (0 : Int32)) hx hb d_Md_silence_19 (by decide) ?_
    obtain ⟨hg, hf⟩ := pv_g hf
    refine pv_zast C hP hS (t0 := 2) (x := (0 : Int32)) (by decide) (fun f g => (fm_25 _ _ f g)) rfl hg d_Md_silence_20 (fun H locs hP hS => ?_)
    refine lv_iinc (k := 1) (v := (x1 + (1 : Int32))) (lv' := [(1, .int (x1 + (1 : Int32))), (0, .ref (a 0))]) hx hb d_Md_silence_21 hl rfl (pv_inc (by decide)) (by decide) rfl (fun ls hl => ?_)
    refine lv_goto (tgt := 2) hx hb d_Md_silence_24 (by decide) ?_
    exact hk_2 _ _ _ _ _ hf (lv_sub hl [1, 0] rfl) hP hS
def f_Md_silence_2 : Nat → pv_S → Int32 → Option pv_S
  | 0 => fun _ _ => none
  | n + 1 => f_Md_silence_2b (f_Md_silence_2 n)
set_option maxHeartbeats 4000000 in
theorem s_Md_silence_2 {p : Program} {l : Launch} {e : Env} {R : Room} {s : State} {m : MethodId} {args : Array Value} {below : List Frame} {meth : Method} {c : Code} {Q : State → Prop} {D : va_G} {q : Nat → ClassId} {a : Nat → Nat} {A : Nat → Prop} (C : pv_C p s m args c prog_9_method_60_code 2 "PatchVoicesModel" pv_TB D pv_cl (pv_ty q) 36 a A (pv_ZM)) (hmv : pv_mv A (pv_ZM)) (hRf : 0 ≤ R.frames) (hRl : 0 ≤ R.locals) {out : pv_S} (hret : pv_Rv p l e R s m args below meth c prog_9_method_60_code D pv_cl 36 a (pv_FM q a) A Q out) (n : Nat) : ∀ {σ : pv_S} {x1 : Int32} {H : Heap} {locs : List Loc} {ls : Array Slot}, lv_has ls 2 [(0, .ref (a 0)), (1, .int x1)] → pv_W D pv_cl 36 a (pv_FM q a) σ H → va_S A s.heap H locs → f_Md_silence_2 n σ x1 = some out → W p l e R s m args below meth c H locs 0 0 Q (F0 m 2 ls []) := by
  induction n with
  | zero => intro σ x1 H locs ls hl hP hS hf; cases hf
  | succ n ih => intro σ x1 H locs ls hl hP hS hf; exact s_Md_silence_2b C hmv hRf hRl hret (fun σ x1 H locs ls hf hl hP hS => ih hl hP hS hf) hl hP hS hf
def f_Md_silence_0 (σ : pv_S) : Option pv_S :=
  f_Md_silence_2 pv_fu σ (0 : Int32)
set_option maxHeartbeats 4000000 in
set_option maxRecDepth 100000 in
theorem s_Md_silence_0 {p : Program} {l : Launch} {e : Env} {R : Room} {s : State} {m : MethodId} {args : Array Value} {below : List Frame} {meth : Method} {c : Code} {Q : State → Prop} {D : va_G} {q : Nat → ClassId} {a : Nat → Nat} {A : Nat → Prop} (C : pv_C p s m args c prog_9_method_60_code 2 "PatchVoicesModel" pv_TB D pv_cl (pv_ty q) 36 a A (pv_ZM)) (hmv : pv_mv A (pv_ZM)) (hRf : 0 ≤ R.frames) (hRl : 0 ≤ R.locals) {out : pv_S} (hret : pv_Rv p l e R s m args below meth c prog_9_method_60_code D pv_cl 36 a (pv_FM q a) A Q out) {σ : pv_S} {H : Heap} {locs : List Loc} {ls : Array Slot} (hl : lv_has ls 2 [(0, .ref (a 0))]) (hP : pv_W D pv_cl 36 a (pv_FM q a) σ H) (hS : va_S A s.heap H locs) (hf : f_Md_silence_0 σ = some out) : W p l e R s m args below meth c H locs 0 0 Q (F0 m 0 ls []) := by
  unfold f_Md_silence_0 at hf
  have hx := C.1
  have hb := C.2.1
  refine lv_iconst (v := (0 : Int32)) hx hb d_Md_silence_0 (by decide) ?_
  refine lv_istore_n (lv' := [(1, .int (0 : Int32)), (0, .ref (a 0))]) hx hb d_Md_silence_1 rfl hl (by decide) rfl (fun ls hl => ?_)
  exact s_Md_silence_2 C hmv hRf hRl hret pv_fu (lv_sub hl [1, 0] rfl) hP hS hf
def f_Md_silence (σ : pv_S) : Option pv_S := f_Md_silence_0 σ
def rm_Md_silence : Room := { frames := 0, cells := 0, slots := 0, locals := 0 }
theorem c_Md_silence {l : Launch} {D : va_G} {q : Nat → ClassId} {a : Nat → Nat} {A : Nat → Prop} (hD : pv_D 36 a A) (hmv : pv_mv A (pv_ZM)) {σ : pv_S} {out : pv_S} (hf : f_Md_silence σ = some out) : pv_Mv l y_Md_silence (Cond.code y_Md_silence prog_9_method_60_code 2 none :: pv_TB) rm_Md_silence D pv_cl (pv_ty q) 36 a (pv_FM q a) A (pv_ZM) [.ref (a 0)] σ out :=
  pv_ofV (by decide) (Nat.le_of_ble_eq_true rfl) hD (fun p e s m args below meth c Q ls C hret hl hP => s_Md_silence_0 C hmv (Nat.le_refl _) (Nat.le_refl _) hret hl hP va_S.rf hf)
theorem d_Md_compile_0 : decode prog_9_method_30_code 0 = .ok (.aload_n 0, 1) := by decide +kernel
theorem d_Md_compile_1 : decode prog_9_method_30_code 1 = .ok (.iconst 0, 1) := by decide +kernel
theorem d_Md_compile_2 : decode prog_9_method_30_code 2 = .ok (.putfield 127, 3) := by decide +kernel
theorem d_Md_compile_5 : decode prog_9_method_30_code 5 = .ok (.aload_n 0, 1) := by decide +kernel
theorem d_Md_compile_6 : decode prog_9_method_30_code 6 = .ok (.iconst (-1), 1) := by decide +kernel
theorem d_Md_compile_7 : decode prog_9_method_30_code 7 = .ok (.putfield 34, 3) := by decide +kernel
theorem d_Md_compile_10 : decode prog_9_method_30_code 10 = .ok (.aload_n 0, 1) := by decide +kernel
theorem d_Md_compile_11 : decode prog_9_method_30_code 11 = .ok (.invokevirtual 222, 3) := by decide +kernel
theorem d_Md_compile_14 : decode prog_9_method_30_code 14 = .ok (.istore_n 1, 1) := by decide +kernel
theorem d_Md_compile_15 : decode prog_9_method_30_code 15 = .ok (.iload_n 1, 1) := by decide +kernel
theorem d_Md_compile_16 : decode prog_9_method_30_code 16 = .ok (.ifCond .lt 7, 3) := by decide +kernel
theorem d_Md_compile_19 : decode prog_9_method_30_code 19 = .ok (.iconst (-1), 1) := by decide +kernel
theorem d_Md_compile_20 : decode prog_9_method_30_code 20 = .ok (.iload_n 1, 1) := by decide +kernel
theorem d_Md_compile_21 : decode prog_9_method_30_code 21 = .ok (.isub, 1) := by decide +kernel
theorem d_Md_compile_22 : decode prog_9_method_30_code 22 = .ok (.ireturn, 1) := by decide +kernel
theorem d_Md_compile_23 : decode prog_9_method_30_code 23 = .ok (.aload_n 0, 1) := by decide +kernel
theorem d_Md_compile_24 : decode prog_9_method_30_code 24 = .ok (.invokevirtual 226, 3) := by decide +kernel
theorem d_Md_compile_27 : decode prog_9_method_30_code 27 = .ok (.istore_n 2, 1) := by decide +kernel
theorem d_Md_compile_28 : decode prog_9_method_30_code 28 = .ok (.iload_n 2, 1) := by decide +kernel
theorem d_Md_compile_29 : decode prog_9_method_30_code 29 = .ok (.ifCond .le 5, 3) := by decide +kernel
theorem d_Md_compile_32 : decode prog_9_method_30_code 32 = .ok (.iload_n 2, 1) := by decide +kernel
theorem d_Md_compile_33 : decode prog_9_method_30_code 33 = .ok (.ireturn, 1) := by decide +kernel
theorem d_Md_compile_34 : decode prog_9_method_30_code 34 = .ok (.aload_n 0, 1) := by decide +kernel
theorem d_Md_compile_35 : decode prog_9_method_30_code 35 = .ok (.invokevirtual 229, 3) := by decide +kernel
theorem d_Md_compile_38 : decode prog_9_method_30_code 38 = .ok (.aload_n 0, 1) := by decide +kernel
theorem d_Md_compile_39 : decode prog_9_method_30_code 39 = .ok (.invokevirtual 232, 3) := by decide +kernel
theorem d_Md_compile_42 : decode prog_9_method_30_code 42 = .ok (.aload_n 0, 1) := by decide +kernel
theorem d_Md_compile_43 : decode prog_9_method_30_code 43 = .ok (.invokevirtual 235, 3) := by decide +kernel
theorem d_Md_compile_46 : decode prog_9_method_30_code 46 = .ok (.aload_n 0, 1) := by decide +kernel
theorem d_Md_compile_47 : decode prog_9_method_30_code 47 = .ok (.invokevirtual 238, 3) := by decide +kernel
theorem d_Md_compile_50 : decode prog_9_method_30_code 50 = .ok (.aload_n 0, 1) := by decide +kernel
theorem d_Md_compile_51 : decode prog_9_method_30_code 51 = .ok (.invokevirtual 241, 3) := by decide +kernel
theorem d_Md_compile_54 : decode prog_9_method_30_code 54 = .ok (.aload_n 0, 1) := by decide +kernel
theorem d_Md_compile_55 : decode prog_9_method_30_code 55 = .ok (.iconst 1, 1) := by decide +kernel
theorem d_Md_compile_56 : decode prog_9_method_30_code 56 = .ok (.putfield 244, 3) := by decide +kernel
theorem d_Md_compile_59 : decode prog_9_method_30_code 59 = .ok (.aload_n 0, 1) := by decide +kernel
theorem d_Md_compile_60 : decode prog_9_method_30_code 60 = .ok (.invokevirtual 247, 3) := by decide +kernel
theorem d_Md_compile_63 : decode prog_9_method_30_code 63 = .ok (.iconst 0, 1) := by decide +kernel
theorem d_Md_compile_64 : decode prog_9_method_30_code 64 = .ok (.ireturn, 1) := by decide +kernel
def f_Md_compile_0 (σ : pv_S) : Option (Int32 × pv_S) :=
  ((f_Md_readAll (pv_uI (pv_uI σ 0 0 (0 : Int32)) 0 15 (-1 : Int32))).bind fun q1 =>
(if q1.1 < 0 then
  ((f_Md_faultOf q1.2).bind fun q2 =>
(if q2.1 ≤ 0 then
  ((f_Md_take q2.2).bind fun q3 =>
((f_Md_arrange q3).bind fun q4 =>
((f_Md_settle q4).bind fun q5 =>
((f_Md_keep q5).bind fun q6 =>
((f_Md_layOut q6).bind fun q7 =>
((f_Md_silence (pv_uI q7 0 16 (1 : Int32))).bind fun q8 =>
some ((0 : Int32), q8)))))))
  else
  some (q2.1, q2.2)))
  else
  some (((-1 : Int32) - q1.1), q1.2)))
set_option maxHeartbeats 4000000 in
set_option maxRecDepth 100000 in
theorem s_Md_compile_0 {p : Program} {l : Launch} {e : Env} {R : Room} {s : State} {m : MethodId} {args : Array Value} {below : List Frame} {meth : Method} {c : Code} {Q : State → Prop} {D : va_G} {q : Nat → ClassId} {a : Nat → Nat} {A : Nat → Prop} (C : pv_C p s m args c prog_9_method_30_code 3 "PatchVoicesModel" pv_TB D pv_cl (pv_ty q) 36 a A (pv_ZM)) (hmv : pv_mv A (pv_ZM)) (hRf : 5 ≤ R.frames) (hRl : 115 ≤ R.locals) {out : (Int32 × pv_S)} (hret : pv_Ri p l e R s m args below meth c prog_9_method_30_code D pv_cl 36 a (pv_FM q a) A Q out) {σ : pv_S} {H : Heap} {locs : List Loc} {ls : Array Slot} (hl : lv_has ls 3 [(0, .ref (a 0))]) (hP : pv_W D pv_cl 36 a (pv_FM q a) σ H) (hS : va_S A s.heap H locs) (hf : f_Md_compile_0 σ = some out) : W p l e R s m args below meth c H locs 0 0 Q (F0 m 0 ls []) := by
  unfold f_Md_compile_0 at hf
  have hx := C.1
  have hb := C.2.1
  refine lv_aload_n hx hb d_Md_compile_0 rfl (lv_at hl 0 rfl) ?_
  refine lv_iconst (v := (0 : Int32)) hx hb d_Md_compile_1 (by decide) ?_
  refine pv_putI C hP hS (x := (0 : Int32)) (by decide) (fm_0 _ _ _ _) fw_Md_127 rfl rfl (Nat.le_of_ble_eq_true rfl) (fms_0_0 _ _ _ _ _) d_Md_compile_2 (fun H locs hP hS => ?_)
  refine lv_aload_n hx hb d_Md_compile_5 rfl (lv_at hl 0 rfl) ?_
  refine lv_iconst (v := (-1 : Int32)) hx hb d_Md_compile_6 (by decide) ?_
  refine pv_putI C hP hS (x := (-1 : Int32)) (by decide) (fm_0 _ _ _ _) fw_Md_34 rfl rfl (Nat.le_of_ble_eq_true rfl) (fms_0_15 _ _ _ _ _) d_Md_compile_7 (fun H locs hP hS => ?_)
  refine lv_aload_n hx hb d_Md_compile_10 rfl (lv_at hl 0 rfl) ?_
  obtain ⟨q1, hc, hf⟩ := pv_b hf
  refine pv_callVi C hmv pv_good hP hS (As := []) (rest := []) (by decide) (fm_0 _ _ _ _) rfl (c_Md_readAll C.2.2.2.2.2.2.1 hmv hc) cv_Md_222 ⟨rfl, rfl, Nat.le_trans (Nat.le_of_ble_eq_true rfl) hRf, Nat.le_trans (Nat.le_of_ble_eq_true rfl) hRl⟩ rfl hl.1 rfl (Nat.le_of_ble_eq_true rfl) d_Md_compile_11 ⟨Nat.zero_le _, Nat.zero_le _⟩ (fun H locs hP hS => ?_)
  refine lv_istore_n (lv' := [(1, .int q1.1), (0, .ref (a 0))]) hx hb d_Md_compile_14 rfl hl (by decide) rfl (fun ls hl => ?_)
  refine lv_iload_n hx hb d_Md_compile_15 rfl (lv_at hl 0 rfl) ?_
  refine lv_if_lt (tgt := 23) hx hb d_Md_compile_16 (by decide) (fun h => ?_) (fun h => ?_)
  · have hf := pv_t hf h
    refine lv_aload_n hx hb d_Md_compile_23 rfl (lv_at hl 1 rfl) ?_
    obtain ⟨q2, hc, hf⟩ := pv_b hf
    refine pv_callVi C hmv pv_good hP hS (As := []) (rest := []) (by decide) (fm_0 _ _ _ _) rfl (c_Md_faultOf C.2.2.2.2.2.2.1 hmv hc) cv_Md_226 ⟨rfl, rfl, Nat.le_trans (Nat.le_of_ble_eq_true rfl) hRf, Nat.le_trans (Nat.le_of_ble_eq_true rfl) hRl⟩ rfl hl.1 rfl (Nat.le_of_ble_eq_true rfl) d_Md_compile_24 ⟨Nat.zero_le _, Nat.zero_le _⟩ (fun H locs hP hS => ?_)
    refine lv_istore_n (lv' := [(2, .int q2.1), (1, .int q1.1), (0, .ref (a 0))]) hx hb d_Md_compile_27 rfl hl (by decide) rfl (fun ls hl => ?_)
    refine lv_iload_n hx hb d_Md_compile_28 rfl (lv_at hl 0 rfl) ?_
    refine lv_if_le (tgt := 34) hx hb d_Md_compile_29 (by decide) (fun h => ?_) (fun h => ?_)
    · have hf := pv_t hf h
      refine lv_aload_n hx hb d_Md_compile_34 rfl (lv_at hl 2 rfl) ?_
      obtain ⟨q3, hc, hf⟩ := pv_b hf
      refine pv_callVv C hmv pv_good hP hS (As := []) (rest := []) (by decide) (fm_0 _ _ _ _) rfl (c_Md_take C.2.2.2.2.2.2.1 hmv hc) cv_Md_229 ⟨rfl, rfl, Nat.le_trans (Nat.le_of_ble_eq_true rfl) hRf, Nat.le_trans (Nat.le_of_ble_eq_true rfl) hRl⟩ rfl hl.1 rfl (Nat.le_of_ble_eq_true rfl) d_Md_compile_35 ⟨Nat.zero_le _, Nat.zero_le _⟩ (fun H locs hP hS => ?_)
      refine lv_aload_n hx hb d_Md_compile_38 rfl (lv_at hl 2 rfl) ?_
      obtain ⟨q4, hc, hf⟩ := pv_b hf
      refine pv_callVv C hmv pv_good hP hS (As := []) (rest := []) (by decide) (fm_0 _ _ _ _) rfl (c_Md_arrange C.2.2.2.2.2.2.1 hmv hc) cv_Md_232 ⟨rfl, rfl, Nat.le_trans (Nat.le_of_ble_eq_true rfl) hRf, Nat.le_trans (Nat.le_of_ble_eq_true rfl) hRl⟩ rfl hl.1 rfl (Nat.le_of_ble_eq_true rfl) d_Md_compile_39 ⟨Nat.zero_le _, Nat.zero_le _⟩ (fun H locs hP hS => ?_)
      refine lv_aload_n hx hb d_Md_compile_42 rfl (lv_at hl 2 rfl) ?_
      obtain ⟨q5, hc, hf⟩ := pv_b hf
      refine pv_callVv C hmv pv_good hP hS (As := []) (rest := []) (by decide) (fm_0 _ _ _ _) rfl (c_Md_settle C.2.2.2.2.2.2.1 hmv hc) cv_Md_235 ⟨rfl, rfl, Nat.le_trans (Nat.le_of_ble_eq_true rfl) hRf, Nat.le_trans (Nat.le_of_ble_eq_true rfl) hRl⟩ rfl hl.1 rfl (Nat.le_of_ble_eq_true rfl) d_Md_compile_43 ⟨Nat.zero_le _, Nat.zero_le _⟩ (fun H locs hP hS => ?_)
      refine lv_aload_n hx hb d_Md_compile_46 rfl (lv_at hl 2 rfl) ?_
      obtain ⟨q6, hc, hf⟩ := pv_b hf
      refine pv_callVv C hmv pv_good hP hS (As := []) (rest := []) (by decide) (fm_0 _ _ _ _) rfl (c_Md_keep C.2.2.2.2.2.2.1 hmv hc) cv_Md_238 ⟨rfl, rfl, Nat.le_trans (Nat.le_of_ble_eq_true rfl) hRf, Nat.le_trans (Nat.le_of_ble_eq_true rfl) hRl⟩ rfl hl.1 rfl (Nat.le_of_ble_eq_true rfl) d_Md_compile_47 ⟨Nat.zero_le _, Nat.zero_le _⟩ (fun H locs hP hS => ?_)
      refine lv_aload_n hx hb d_Md_compile_50 rfl (lv_at hl 2 rfl) ?_
      obtain ⟨q7, hc, hf⟩ := pv_b hf
      refine pv_callVv C hmv pv_good hP hS (As := []) (rest := []) (by decide) (fm_0 _ _ _ _) rfl (c_Md_layOut C.2.2.2.2.2.2.1 hmv hc) cv_Md_241 ⟨rfl, rfl, Nat.le_trans (Nat.le_of_ble_eq_true rfl) hRf, Nat.le_trans (Nat.le_of_ble_eq_true rfl) hRl⟩ rfl hl.1 rfl (Nat.le_of_ble_eq_true rfl) d_Md_compile_51 ⟨Nat.zero_le _, Nat.zero_le _⟩ (fun H locs hP hS => ?_)
      refine lv_aload_n hx hb d_Md_compile_54 rfl (lv_at hl 2 rfl) ?_
      refine lv_iconst (v := (1 : Int32)) hx hb d_Md_compile_55 (by decide) ?_
      refine pv_putI C hP hS (x := (1 : Int32)) (by decide) (fm_0 _ _ _ _) fw_Md_244 rfl rfl (Nat.le_of_ble_eq_true rfl) (fms_0_16 _ _ _ _ _) d_Md_compile_56 (fun H locs hP hS => ?_)
      refine lv_aload_n hx hb d_Md_compile_59 rfl (lv_at hl 2 rfl) ?_
      obtain ⟨q8, hc, hf⟩ := pv_b hf
      refine pv_callVv C hmv pv_good hP hS (As := []) (rest := []) (by decide) (fm_0 _ _ _ _) rfl (c_Md_silence C.2.2.2.2.2.2.1 hmv hc) cv_Md_247 ⟨rfl, rfl, Nat.le_trans (Nat.le_of_ble_eq_true rfl) hRf, Nat.le_trans (Nat.le_of_ble_eq_true rfl) hRl⟩ rfl hl.1 rfl (Nat.le_of_ble_eq_true rfl) d_Md_compile_60 ⟨Nat.zero_le _, Nat.zero_le _⟩ (fun H locs hP hS => ?_)
      refine lv_iconst (v := (0 : Int32)) hx hb d_Md_compile_63 (by decide) ?_
      obtain rfl := Option.some.inj hf
      exact hret _ _ _ _ d_Md_compile_64 hP hS
    · have hf := pv_f hf h
      refine lv_iload_n hx hb d_Md_compile_32 rfl (lv_at hl 0 rfl) ?_
      obtain rfl := Option.some.inj hf
      exact hret _ _ _ _ d_Md_compile_33 hP hS
  · have hf := pv_f hf h
    refine lv_iconst (v := (-1 : Int32)) hx hb d_Md_compile_19 (by decide) ?_
    refine lv_iload_n hx hb d_Md_compile_20 rfl (lv_at hl 0 rfl) ?_
    refine lv_isub hx hb d_Md_compile_21 ?_
    obtain rfl := Option.some.inj hf
    exact hret _ _ _ _ d_Md_compile_22 hP hS
def f_Md_compile (σ : pv_S) : Option (Int32 × pv_S) := f_Md_compile_0 σ
def rm_Md_compile : Room := { frames := 5, cells := 0, slots := 0, locals := 115 }
theorem c_Md_compile {l : Launch} {D : va_G} {q : Nat → ClassId} {a : Nat → Nat} {A : Nat → Prop} (hD : pv_D 36 a A) (hmv : pv_mv A (pv_ZM)) {σ : pv_S} {out : (Int32 × pv_S)} (hf : f_Md_compile σ = some out) : pv_Mi l y_Md_compile (Cond.code y_Md_compile prog_9_method_30_code 3 (some .int) :: pv_TB) rm_Md_compile D pv_cl (pv_ty q) 36 a (pv_FM q a) A (pv_ZM) [.ref (a 0)] σ out :=
  pv_ofI (by decide) (Nat.le_of_ble_eq_true rfl) hD (fun p e s m args below meth c Q ls C hret hl hP => s_Md_compile_0 C hmv (Nat.le_refl _) (Nat.le_refl _) hret hl hP va_S.rf hf)
theorem d_Md_named_0 : decode prog_9_method_31_code 0 = .ok (.aload_n 0, 1) := by decide +kernel
theorem d_Md_named_1 : decode prog_9_method_31_code 1 = .ok (.iconst 0, 1) := by decide +kernel
theorem d_Md_named_2 : decode prog_9_method_31_code 2 = .ok (.putfield 127, 3) := by decide +kernel
theorem d_Md_named_5 : decode prog_9_method_31_code 5 = .ok (.aload_n 0, 1) := by decide +kernel
theorem d_Md_named_6 : decode prog_9_method_31_code 6 = .ok (.getfield 34, 3) := by decide +kernel
theorem d_Md_named_9 : decode prog_9_method_31_code 9 = .ok (.ireturn, 1) := by decide +kernel
def f_Md_named_0 (σ : pv_S) : Option (Int32 × pv_S) :=
  some (((pv_uI σ 0 0 (0 : Int32)).1 0 15), (pv_uI σ 0 0 (0 : Int32)))
set_option maxHeartbeats 4000000 in
set_option maxRecDepth 100000 in
theorem s_Md_named_0 {p : Program} {l : Launch} {e : Env} {R : Room} {s : State} {m : MethodId} {args : Array Value} {below : List Frame} {meth : Method} {c : Code} {Q : State → Prop} {D : va_G} {q : Nat → ClassId} {a : Nat → Nat} {A : Nat → Prop} (C : pv_C p s m args c prog_9_method_31_code 1 "PatchVoicesModel" pv_TB D pv_cl (pv_ty q) 36 a A (pv_ZM)) (hmv : pv_mv A (pv_ZM)) (hRf : 0 ≤ R.frames) (hRl : 0 ≤ R.locals) {out : (Int32 × pv_S)} (hret : pv_Ri p l e R s m args below meth c prog_9_method_31_code D pv_cl 36 a (pv_FM q a) A Q out) {σ : pv_S} {H : Heap} {locs : List Loc} {ls : Array Slot} (hl : lv_has ls 1 [(0, .ref (a 0))]) (hP : pv_W D pv_cl 36 a (pv_FM q a) σ H) (hS : va_S A s.heap H locs) (hf : f_Md_named_0 σ = some out) : W p l e R s m args below meth c H locs 0 0 Q (F0 m 0 ls []) := by
  unfold f_Md_named_0 at hf
  have hx := C.1
  have hb := C.2.1
  refine lv_aload_n hx hb d_Md_named_0 rfl (lv_at hl 0 rfl) ?_
  refine lv_iconst (v := (0 : Int32)) hx hb d_Md_named_1 (by decide) ?_
  refine pv_putI C hP hS (x := (0 : Int32)) (by decide) (fm_0 _ _ _ _) fw_Md_127 rfl rfl (Nat.le_of_ble_eq_true rfl) (fms_0_0 _ _ _ _ _) d_Md_named_2 (fun H locs hP hS => ?_)
  refine lv_aload_n hx hb d_Md_named_5 rfl (lv_at hl 0 rfl) ?_
  refine pv_get C hP (v := .int ((pv_uI σ 0 0 (0 : Int32)).1 0 15)) (j := 15) (by decide) (fm_0 _ _ _ _) fl_Md_34 rfl d_Md_named_6 ?_
  obtain rfl := Option.some.inj hf
  exact hret _ _ _ _ d_Md_named_9 hP hS
def f_Md_named (σ : pv_S) : Option (Int32 × pv_S) := f_Md_named_0 σ
def rm_Md_named : Room := { frames := 0, cells := 0, slots := 0, locals := 0 }
theorem c_Md_named {l : Launch} {D : va_G} {q : Nat → ClassId} {a : Nat → Nat} {A : Nat → Prop} (hD : pv_D 36 a A) (hmv : pv_mv A (pv_ZM)) {σ : pv_S} {out : (Int32 × pv_S)} (hf : f_Md_named σ = some out) : pv_Mi l y_Md_named (Cond.code y_Md_named prog_9_method_31_code 1 (some .int) :: pv_TB) rm_Md_named D pv_cl (pv_ty q) 36 a (pv_FM q a) A (pv_ZM) [.ref (a 0)] σ out :=
  pv_ofI (by decide) (Nat.le_of_ble_eq_true rfl) hD (fun p e s m args below meth c Q ls C hret hl hP => s_Md_named_0 C hmv (Nat.le_refl _) (Nat.le_refl _) hret hl hP va_S.rf hf)
theorem d_Md_optimise_0 : decode prog_9_method_32_code 0 = .ok (.aload_n 0, 1) := by decide +kernel
theorem d_Md_optimise_1 : decode prog_9_method_32_code 1 = .ok (.iconst 0, 1) := by decide +kernel
theorem d_Md_optimise_2 : decode prog_9_method_32_code 2 = .ok (.putfield 127, 3) := by decide +kernel
theorem d_Md_optimise_5 : decode prog_9_method_32_code 5 = .ok (.aload_n 0, 1) := by decide +kernel
theorem d_Md_optimise_6 : decode prog_9_method_32_code 6 = .ok (.iload_n 1, 1) := by decide +kernel
theorem d_Md_optimise_7 : decode prog_9_method_32_code 7 = .ok (.putfield 250, 3) := by decide +kernel
theorem d_Md_optimise_10 : decode prog_9_method_32_code 10 = .ok (.return_, 1) := by decide +kernel
def f_Md_optimise_0 (σ : pv_S) (x1 : Int32) : Option pv_S :=
  (if pv_z x1 = true then
some (pv_uI (pv_uI σ 0 0 (0 : Int32)) 0 17 x1)
  else none)
set_option maxHeartbeats 4000000 in
set_option maxRecDepth 100000 in
theorem s_Md_optimise_0 {p : Program} {l : Launch} {e : Env} {R : Room} {s : State} {m : MethodId} {args : Array Value} {below : List Frame} {meth : Method} {c : Code} {Q : State → Prop} {D : va_G} {q : Nat → ClassId} {a : Nat → Nat} {A : Nat → Prop} (C : pv_C p s m args c prog_9_method_32_code 2 "PatchVoicesModel" pv_TB D pv_cl (pv_ty q) 36 a A (pv_ZM)) (hmv : pv_mv A (pv_ZM)) (hRf : 0 ≤ R.frames) (hRl : 0 ≤ R.locals) {out : pv_S} (hret : pv_Rv p l e R s m args below meth c prog_9_method_32_code D pv_cl 36 a (pv_FM q a) A Q out) {σ : pv_S} {x1 : Int32} {H : Heap} {locs : List Loc} {ls : Array Slot} (hl : lv_has ls 2 [(0, .ref (a 0)), (1, .int x1)]) (hP : pv_W D pv_cl 36 a (pv_FM q a) σ H) (hS : va_S A s.heap H locs) (hf : f_Md_optimise_0 σ x1 = some out) : W p l e R s m args below meth c H locs 0 0 Q (F0 m 0 ls []) := by
  unfold f_Md_optimise_0 at hf
  have hx := C.1
  have hb := C.2.1
  refine lv_aload_n hx hb d_Md_optimise_0 rfl (lv_at hl 0 rfl) ?_
  refine lv_iconst (v := (0 : Int32)) hx hb d_Md_optimise_1 (by decide) ?_
  refine pv_putI C hP hS (x := (0 : Int32)) (by decide) (fm_0 _ _ _ _) fw_Md_127 rfl rfl (Nat.le_of_ble_eq_true rfl) (fms_0_0 _ _ _ _ _) d_Md_optimise_2 (fun H locs hP hS => ?_)
  refine lv_aload_n hx hb d_Md_optimise_5 rfl (lv_at hl 0 rfl) ?_
  refine lv_iload_n hx hb d_Md_optimise_6 rfl (lv_at hl 1 rfl) ?_
  obtain ⟨hg, hf⟩ := pv_g hf
  refine pv_putI C hP hS (x := x1) (by decide) (fm_0 _ _ _ _) fw_Md_250 (pv_z_nar hg) (pv_z_fit hg) (Nat.le_of_ble_eq_true rfl) (fms_0_17 _ _ _ _ _) d_Md_optimise_7 (fun H locs hP hS => ?_)
  obtain rfl := Option.some.inj hf
  exact hret _ _ _ _ d_Md_optimise_10 hP hS
def f_Md_optimise (σ : pv_S) (x1 : Int32) : Option pv_S := f_Md_optimise_0 σ x1
def rm_Md_optimise : Room := { frames := 0, cells := 0, slots := 0, locals := 0 }
theorem c_Md_optimise {l : Launch} {D : va_G} {q : Nat → ClassId} {a : Nat → Nat} {A : Nat → Prop} (hD : pv_D 36 a A) (hmv : pv_mv A (pv_ZM)) {σ : pv_S} {x1 : Int32} {out : pv_S} (hf : f_Md_optimise σ x1 = some out) : pv_Mv l y_Md_optimise (Cond.code y_Md_optimise prog_9_method_32_code 2 none :: pv_TB) rm_Md_optimise D pv_cl (pv_ty q) 36 a (pv_FM q a) A (pv_ZM) [.ref (a 0), .int x1] σ out :=
  pv_ofV (by decide) (Nat.le_of_ble_eq_true rfl) hD (fun p e s m args below meth c Q ls C hret hl hP => s_Md_optimise_0 C hmv (Nat.le_refl _) (Nat.le_refl _) hret hl hP va_S.rf hf)
theorem d_Md_steps_0 : decode prog_9_method_46_code 0 = .ok (.aload_n 0, 1) := by decide +kernel
theorem d_Md_steps_1 : decode prog_9_method_46_code 1 = .ok (.iconst 0, 1) := by decide +kernel
theorem d_Md_steps_2 : decode prog_9_method_46_code 2 = .ok (.putfield 127, 3) := by decide +kernel
theorem d_Md_steps_5 : decode prog_9_method_46_code 5 = .ok (.aload_n 0, 1) := by decide +kernel
theorem d_Md_steps_6 : decode prog_9_method_46_code 6 = .ok (.getfield 244, 3) := by decide +kernel
theorem d_Md_steps_9 : decode prog_9_method_46_code 9 = .ok (.ifCond .eq 10, 3) := by decide +kernel
theorem d_Md_steps_12 : decode prog_9_method_46_code 12 = .ok (.aload_n 0, 1) := by decide +kernel
theorem d_Md_steps_13 : decode prog_9_method_46_code 13 = .ok (.getfield 279, 3) := by decide +kernel
theorem d_Md_steps_16 : decode prog_9_method_46_code 16 = .ok (.goto 4, 3) := by decide +kernel
theorem d_Md_steps_19 : decode prog_9_method_46_code 19 = .ok (.iconst 0, 1) := by decide +kernel
theorem d_Md_steps_20 : decode prog_9_method_46_code 20 = .ok (.ireturn, 1) := by decide +kernel
def f_Md_steps_0 (σ : pv_S) : Option (Int32 × pv_S) :=
  (if ((pv_uI σ 0 0 (0 : Int32)).1 0 16) = 0 then
  some ((0 : Int32), (pv_uI σ 0 0 (0 : Int32)))
  else
  some (((pv_uI σ 0 0 (0 : Int32)).1 0 28), (pv_uI σ 0 0 (0 : Int32))))
set_option maxHeartbeats 4000000 in
set_option maxRecDepth 100000 in
theorem s_Md_steps_0 {p : Program} {l : Launch} {e : Env} {R : Room} {s : State} {m : MethodId} {args : Array Value} {below : List Frame} {meth : Method} {c : Code} {Q : State → Prop} {D : va_G} {q : Nat → ClassId} {a : Nat → Nat} {A : Nat → Prop} (C : pv_C p s m args c prog_9_method_46_code 1 "PatchVoicesModel" pv_TB D pv_cl (pv_ty q) 36 a A (pv_ZM)) (hmv : pv_mv A (pv_ZM)) (hRf : 0 ≤ R.frames) (hRl : 0 ≤ R.locals) {out : (Int32 × pv_S)} (hret : pv_Ri p l e R s m args below meth c prog_9_method_46_code D pv_cl 36 a (pv_FM q a) A Q out) {σ : pv_S} {H : Heap} {locs : List Loc} {ls : Array Slot} (hl : lv_has ls 1 [(0, .ref (a 0))]) (hP : pv_W D pv_cl 36 a (pv_FM q a) σ H) (hS : va_S A s.heap H locs) (hf : f_Md_steps_0 σ = some out) : W p l e R s m args below meth c H locs 0 0 Q (F0 m 0 ls []) := by
  unfold f_Md_steps_0 at hf
  have hx := C.1
  have hb := C.2.1
  refine lv_aload_n hx hb d_Md_steps_0 rfl (lv_at hl 0 rfl) ?_
  refine lv_iconst (v := (0 : Int32)) hx hb d_Md_steps_1 (by decide) ?_
  refine pv_putI C hP hS (x := (0 : Int32)) (by decide) (fm_0 _ _ _ _) fw_Md_127 rfl rfl (Nat.le_of_ble_eq_true rfl) (fms_0_0 _ _ _ _ _) d_Md_steps_2 (fun H locs hP hS => ?_)
  refine lv_aload_n hx hb d_Md_steps_5 rfl (lv_at hl 0 rfl) ?_
  refine pv_get C hP (v := .int ((pv_uI σ 0 0 (0 : Int32)).1 0 16)) (j := 16) (by decide) (fm_0 _ _ _ _) fl_Md_244 rfl d_Md_steps_6 ?_
  refine lv_if_eq (tgt := 19) hx hb d_Md_steps_9 (by decide) (fun h => ?_) (fun h => ?_)
  · have hf := pv_t hf h
    refine lv_iconst (v := (0 : Int32)) hx hb d_Md_steps_19 (by decide) ?_
    obtain rfl := Option.some.inj hf
    exact hret _ _ _ _ d_Md_steps_20 hP hS
  · have hf := pv_f hf h
    refine lv_aload_n hx hb d_Md_steps_12 rfl (lv_at hl 0 rfl) ?_
    refine pv_get C hP (v := .int ((pv_uI σ 0 0 (0 : Int32)).1 0 28)) (j := 28) (by decide) (fm_0 _ _ _ _) fl_Md_279 rfl d_Md_steps_13 ?_
    refine lv_goto (tgt := 20) hx hb d_Md_steps_16 (by decide) ?_
    obtain rfl := Option.some.inj hf
    exact hret _ _ _ _ d_Md_steps_20 hP hS
def f_Md_steps (σ : pv_S) : Option (Int32 × pv_S) := f_Md_steps_0 σ
def rm_Md_steps : Room := { frames := 0, cells := 0, slots := 0, locals := 0 }
theorem c_Md_steps {l : Launch} {D : va_G} {q : Nat → ClassId} {a : Nat → Nat} {A : Nat → Prop} (hD : pv_D 36 a A) (hmv : pv_mv A (pv_ZM)) {σ : pv_S} {out : (Int32 × pv_S)} (hf : f_Md_steps σ = some out) : pv_Mi l y_Md_steps (Cond.code y_Md_steps prog_9_method_46_code 1 (some .int) :: pv_TB) rm_Md_steps D pv_cl (pv_ty q) 36 a (pv_FM q a) A (pv_ZM) [.ref (a 0)] σ out :=
  pv_ofI (by decide) (Nat.le_of_ble_eq_true rfl) hD (fun p e s m args below meth c Q ls C hret hl hP => s_Md_steps_0 C hmv (Nat.le_refl _) (Nat.le_refl _) hret hl hP va_S.rf hf)
theorem d_Md_slotOf_0 : decode prog_9_method_47_code 0 = .ok (.iconst (-1), 1) := by decide +kernel
theorem d_Md_slotOf_1 : decode prog_9_method_47_code 1 = .ok (.istore_n 2, 1) := by decide +kernel
theorem d_Md_slotOf_2 : decode prog_9_method_47_code 2 = .ok (.iconst 0, 1) := by decide +kernel
theorem d_Md_slotOf_3 : decode prog_9_method_47_code 3 = .ok (.istore_n 3, 1) := by decide +kernel
theorem d_Md_slotOf_4 : decode prog_9_method_47_code 4 = .ok (.iload_n 3, 1) := by decide +kernel
theorem d_Md_slotOf_5 : decode prog_9_method_47_code 5 = .ok (.aload_n 0, 1) := by decide +kernel
theorem d_Md_slotOf_6 : decode prog_9_method_47_code 6 = .ok (.getfield 279, 3) := by decide +kernel
theorem d_Md_slotOf_9 : decode prog_9_method_47_code 9 = .ok (.if_icmp .ge 39, 3) := by decide +kernel
theorem d_Md_slotOf_12 : decode prog_9_method_47_code 12 = .ok (.aload_n 0, 1) := by decide +kernel
theorem d_Md_slotOf_13 : decode prog_9_method_47_code 13 = .ok (.getfield 69, 3) := by decide +kernel
theorem d_Md_slotOf_16 : decode prog_9_method_47_code 16 = .ok (.iload_n 3, 1) := by decide +kernel
theorem d_Md_slotOf_17 : decode prog_9_method_47_code 17 = .ok (.baload, 1) := by decide +kernel
theorem d_Md_slotOf_18 : decode prog_9_method_47_code 18 = .ok (.ifCond .ne 22, 3) := by decide +kernel
theorem d_Md_slotOf_21 : decode prog_9_method_47_code 21 = .ok (.aload_n 0, 1) := by decide +kernel
theorem d_Md_slotOf_22 : decode prog_9_method_47_code 22 = .ok (.getfield 66, 3) := by decide +kernel
theorem d_Md_slotOf_25 : decode prog_9_method_47_code 25 = .ok (.iload_n 3, 1) := by decide +kernel
theorem d_Md_slotOf_26 : decode prog_9_method_47_code 26 = .ok (.iaload, 1) := by decide +kernel
theorem d_Md_slotOf_27 : decode prog_9_method_47_code 27 = .ok (.iload_n 1, 1) := by decide +kernel
theorem d_Md_slotOf_28 : decode prog_9_method_47_code 28 = .ok (.if_icmp .ne 12, 3) := by decide +kernel
theorem d_Md_slotOf_31 : decode prog_9_method_47_code 31 = .ok (.aload_n 0, 1) := by decide +kernel
theorem d_Md_slotOf_32 : decode prog_9_method_47_code 32 = .ok (.getfield 72, 3) := by decide +kernel
theorem d_Md_slotOf_35 : decode prog_9_method_47_code 35 = .ok (.iload_n 3, 1) := by decide +kernel
theorem d_Md_slotOf_36 : decode prog_9_method_47_code 36 = .ok (.iaload, 1) := by decide +kernel
theorem d_Md_slotOf_37 : decode prog_9_method_47_code 37 = .ok (.goto 4, 3) := by decide +kernel
theorem d_Md_slotOf_40 : decode prog_9_method_47_code 40 = .ok (.iload_n 2, 1) := by decide +kernel
theorem d_Md_slotOf_41 : decode prog_9_method_47_code 41 = .ok (.istore_n 2, 1) := by decide +kernel
theorem d_Md_slotOf_42 : decode prog_9_method_47_code 42 = .ok (.iinc 3 1, 3) := by decide +kernel
theorem d_Md_slotOf_45 : decode prog_9_method_47_code 45 = .ok (.goto (-41), 3) := by decide +kernel
theorem d_Md_slotOf_48 : decode prog_9_method_47_code 48 = .ok (.iload_n 2, 1) := by decide +kernel
theorem d_Md_slotOf_49 : decode prog_9_method_47_code 49 = .ok (.ireturn, 1) := by decide +kernel
def f_Md_slotOf_41 (k_4 : pv_S → Int32 → Int32 → Int32 → Option (Int32 × pv_S)) (σ : pv_S) (x1 : Int32) (x3 : Int32) (s0 : Int32) : Option (Int32 × pv_S) :=
  k_4 σ x1 s0 (x3 + (1 : Int32))
set_option maxHeartbeats 4000000 in
set_option maxRecDepth 100000 in
theorem s_Md_slotOf_41 {p : Program} {l : Launch} {e : Env} {R : Room} {s : State} {m : MethodId} {args : Array Value} {below : List Frame} {meth : Method} {c : Code} {Q : State → Prop} {D : va_G} {q : Nat → ClassId} {a : Nat → Nat} {A : Nat → Prop} (C : pv_C p s m args c prog_9_method_47_code 4 "PatchVoicesModel" pv_TB D pv_cl (pv_ty q) 36 a A (pv_ZM)) (hmv : pv_mv A (pv_ZM)) (hRf : 0 ≤ R.frames) (hRl : 0 ≤ R.locals) {out : (Int32 × pv_S)} (hret : pv_Ri p l e R s m args below meth c prog_9_method_47_code D pv_cl 36 a (pv_FM q a) A Q out) {k_4 : pv_S → Int32 → Int32 → Int32 → Option (Int32 × pv_S)} (hk_4 : ∀ (σ : pv_S) (x1 : Int32) (x2 : Int32) (x3 : Int32) (H : Heap) (locs : List Loc) (ls : Array Slot), k_4 σ x1 x2 x3 = some out → lv_has ls 4 [(0, .ref (a 0)), (1, .int x1), (2, .int x2), (3, .int x3)] → pv_W D pv_cl 36 a (pv_FM q a) σ H → va_S A s.heap H locs → W p l e R s m args below meth c H locs 0 0 Q (F0 m 4 ls [])) {σ : pv_S} {x1 : Int32} {x3 : Int32} {s0 : Int32} {H : Heap} {locs : List Loc} {ls : Array Slot} (hl : lv_has ls 4 [(0, .ref (a 0)), (1, .int x1), (3, .int x3)]) (hP : pv_W D pv_cl 36 a (pv_FM q a) σ H) (hS : va_S A s.heap H locs) (hf : f_Md_slotOf_41 k_4 σ x1 x3 s0 = some out) : W p l e R s m args below meth c H locs 0 0 Q (F0 m 41 ls [.int s0]) := by
  unfold f_Md_slotOf_41 at hf
  have hx := C.1
  have hb := C.2.1
  refine lv_istore_n (lv' := [(2, .int s0), (0, .ref (a 0)), (1, .int x1), (3, .int x3)]) hx hb d_Md_slotOf_41 rfl hl (by decide) rfl (fun ls hl => ?_)
  refine lv_iinc (k := 3) (v := (x3 + (1 : Int32))) (lv' := [(3, .int (x3 + (1 : Int32))), (2, .int s0), (0, .ref (a 0)), (1, .int x1)]) hx hb d_Md_slotOf_42 hl rfl (pv_inc (by decide)) (by decide) rfl (fun ls hl => ?_)
  refine lv_goto (tgt := 4) hx hb d_Md_slotOf_45 (by decide) ?_
  exact hk_4 _ _ _ _ _ _ _ hf (lv_sub hl [2, 3, 1, 0] rfl) hP hS
def f_Md_slotOf_40 (k_4 : pv_S → Int32 → Int32 → Int32 → Option (Int32 × pv_S)) (σ : pv_S) (x1 : Int32) (x2 : Int32) (x3 : Int32) : Option (Int32 × pv_S) :=
  f_Md_slotOf_41 k_4 σ x1 x3 x2
set_option maxHeartbeats 4000000 in
set_option maxRecDepth 100000 in
theorem s_Md_slotOf_40 {p : Program} {l : Launch} {e : Env} {R : Room} {s : State} {m : MethodId} {args : Array Value} {below : List Frame} {meth : Method} {c : Code} {Q : State → Prop} {D : va_G} {q : Nat → ClassId} {a : Nat → Nat} {A : Nat → Prop} (C : pv_C p s m args c prog_9_method_47_code 4 "PatchVoicesModel" pv_TB D pv_cl (pv_ty q) 36 a A (pv_ZM)) (hmv : pv_mv A (pv_ZM)) (hRf : 0 ≤ R.frames) (hRl : 0 ≤ R.locals) {out : (Int32 × pv_S)} (hret : pv_Ri p l e R s m args below meth c prog_9_method_47_code D pv_cl 36 a (pv_FM q a) A Q out) {k_4 : pv_S → Int32 → Int32 → Int32 → Option (Int32 × pv_S)} (hk_4 : ∀ (σ : pv_S) (x1 : Int32) (x2 : Int32) (x3 : Int32) (H : Heap) (locs : List Loc) (ls : Array Slot), k_4 σ x1 x2 x3 = some out → lv_has ls 4 [(0, .ref (a 0)), (1, .int x1), (2, .int x2), (3, .int x3)] → pv_W D pv_cl 36 a (pv_FM q a) σ H → va_S A s.heap H locs → W p l e R s m args below meth c H locs 0 0 Q (F0 m 4 ls [])) {σ : pv_S} {x1 : Int32} {x2 : Int32} {x3 : Int32} {H : Heap} {locs : List Loc} {ls : Array Slot} (hl : lv_has ls 4 [(0, .ref (a 0)), (1, .int x1), (2, .int x2), (3, .int x3)]) (hP : pv_W D pv_cl 36 a (pv_FM q a) σ H) (hS : va_S A s.heap H locs) (hf : f_Md_slotOf_40 k_4 σ x1 x2 x3 = some out) : W p l e R s m args below meth c H locs 0 0 Q (F0 m 40 ls []) := by
  unfold f_Md_slotOf_40 at hf
  have hx := C.1
  have hb := C.2.1
  refine lv_iload_n hx hb d_Md_slotOf_40 rfl (lv_at hl 2 rfl) ?_
  exact s_Md_slotOf_41 C hmv hRf hRl hret hk_4 (lv_sub hl [0, 1, 3] rfl) hP hS hf
def f_Md_slotOf_4b (k_4 : pv_S → Int32 → Int32 → Int32 → Option (Int32 × pv_S)) (σ : pv_S) (x1 : Int32) (x2 : Int32) (x3 : Int32) : Option (Int32 × pv_S) :=
  (if (σ.1 0 28) ≤ x3 then
  some (x2, σ)
  else
  (if pv_in x3 48 = true then
(if (σ.1 19 (x3).toNatClampNeg) = 0 then
  (if pv_in x3 48 = true then
(if (σ.1 18 (x3).toNatClampNeg) = x1 then
  (if pv_in x3 48 = true then
f_Md_slotOf_41 k_4 σ x1 x3 (σ.1 20 (x3).toNatClampNeg)
  else none)
  else
  f_Md_slotOf_40 k_4 σ x1 x2 x3)
  else none)
  else
  f_Md_slotOf_40 k_4 σ x1 x2 x3)
  else none))
set_option maxHeartbeats 4000000 in
set_option maxRecDepth 100000 in
theorem s_Md_slotOf_4b {p : Program} {l : Launch} {e : Env} {R : Room} {s : State} {m : MethodId} {args : Array Value} {below : List Frame} {meth : Method} {c : Code} {Q : State → Prop} {D : va_G} {q : Nat → ClassId} {a : Nat → Nat} {A : Nat → Prop} (C : pv_C p s m args c prog_9_method_47_code 4 "PatchVoicesModel" pv_TB D pv_cl (pv_ty q) 36 a A (pv_ZM)) (hmv : pv_mv A (pv_ZM)) (hRf : 0 ≤ R.frames) (hRl : 0 ≤ R.locals) {out : (Int32 × pv_S)} (hret : pv_Ri p l e R s m args below meth c prog_9_method_47_code D pv_cl 36 a (pv_FM q a) A Q out) {k_4 : pv_S → Int32 → Int32 → Int32 → Option (Int32 × pv_S)} (hk_4 : ∀ (σ : pv_S) (x1 : Int32) (x2 : Int32) (x3 : Int32) (H : Heap) (locs : List Loc) (ls : Array Slot), k_4 σ x1 x2 x3 = some out → lv_has ls 4 [(0, .ref (a 0)), (1, .int x1), (2, .int x2), (3, .int x3)] → pv_W D pv_cl 36 a (pv_FM q a) σ H → va_S A s.heap H locs → W p l e R s m args below meth c H locs 0 0 Q (F0 m 4 ls [])) {σ : pv_S} {x1 : Int32} {x2 : Int32} {x3 : Int32} {H : Heap} {locs : List Loc} {ls : Array Slot} (hl : lv_has ls 4 [(0, .ref (a 0)), (1, .int x1), (2, .int x2), (3, .int x3)]) (hP : pv_W D pv_cl 36 a (pv_FM q a) σ H) (hS : va_S A s.heap H locs) (hf : f_Md_slotOf_4b k_4 σ x1 x2 x3 = some out) : W p l e R s m args below meth c H locs 0 0 Q (F0 m 4 ls []) := by
  unfold f_Md_slotOf_4b at hf
  have hx := C.1
  have hb := C.2.1
  refine lv_iload_n hx hb d_Md_slotOf_4 rfl (lv_at hl 3 rfl) ?_
  refine lv_aload_n hx hb d_Md_slotOf_5 rfl (lv_at hl 0 rfl) ?_
  refine pv_get C hP (v := .int (σ.1 0 28)) (j := 28) (by decide) (fm_0 _ _ _ _) fl_Md_279 rfl d_Md_slotOf_6 ?_
  refine lv_icmp_ge (tgt := 48) hx hb d_Md_slotOf_9 (by decide) (fun h => ?_) (fun h => ?_)
  · have hf := pv_t hf h
    refine lv_iload_n hx hb d_Md_slotOf_48 rfl (lv_at hl 2 rfl) ?_
    obtain rfl := Option.some.inj hf
    exact hret _ _ _ _ d_Md_slotOf_49 hP hS
  · have hf := pv_f hf h
    refine lv_aload_n hx hb d_Md_slotOf_12 rfl (lv_at hl 0 rfl) ?_
    refine pv_get C hP (v := .ref (a 19)) (j := 30) (by decide) (fm_0 _ _ _ _) fl_Md_69 rfl d_Md_slotOf_13 ?_
    refine lv_iload_n hx hb d_Md_slotOf_16 rfl (lv_at hl 3 rfl) ?_
    obtain ⟨hg, hf⟩ := pv_g hf
    refine pv_zald C hP (t0 := 2) (by decide) (fm_19 _ _ _ _) rfl hg d_Md_slotOf_17 ?_
    refine lv_if_ne (tgt := 40) hx hb d_Md_slotOf_18 (by decide) (fun h => ?_) (fun h => ?_)
    · have hf := pv_f hf h
      exact s_Md_slotOf_40 C hmv hRf hRl hret hk_4 (lv_sub hl [0, 1, 2, 3] rfl) hP hS hf
    · have hf := pv_t hf h
      refine lv_aload_n hx hb d_Md_slotOf_21 rfl (lv_at hl 0 rfl) ?_
      refine pv_get C hP (v := .ref (a 18)) (j := 29) (by decide) (fm_0 _ _ _ _) fl_Md_66 rfl d_Md_slotOf_22 ?_
      refine lv_iload_n hx hb d_Md_slotOf_25 rfl (lv_at hl 3 rfl) ?_
      obtain ⟨hg, hf⟩ := pv_g hf
      refine pv_iald C hP (t0 := 0) (by decide) (fm_18 _ _ _ _) rfl hg d_Md_slotOf_26 ?_
      refine lv_iload_n hx hb d_Md_slotOf_27 rfl (lv_at hl 1 rfl) ?_
      refine lv_icmp_ne (tgt := 40) hx hb d_Md_slotOf_28 (by decide) (fun h => ?_) (fun h => ?_)
      · have hf := pv_f hf h
        exact s_Md_slotOf_40 C hmv hRf hRl hret hk_4 (lv_sub hl [0, 1, 2, 3] rfl) hP hS hf
      · have hf := pv_t hf h
        refine lv_aload_n hx hb d_Md_slotOf_31 rfl (lv_at hl 0 rfl) ?_
        refine pv_get C hP (v := .ref (a 20)) (j := 31) (by decide) (fm_0 _ _ _ _) fl_Md_72 rfl d_Md_slotOf_32 ?_
        refine lv_iload_n hx hb d_Md_slotOf_35 rfl (lv_at hl 3 rfl) ?_
        obtain ⟨hg, hf⟩ := pv_g hf
        refine pv_iald C hP (t0 := 0) (by decide) (fm_20 _ _ _ _) rfl hg d_Md_slotOf_36 ?_
        refine lv_goto (tgt := 41) hx hb d_Md_slotOf_37 (by decide) ?_
        exact s_Md_slotOf_41 C hmv hRf hRl hret hk_4 (lv_sub hl [0, 1, 3] rfl) hP hS hf
def f_Md_slotOf_4 : Nat → pv_S → Int32 → Int32 → Int32 → Option (Int32 × pv_S)
  | 0 => fun _ _ _ _ => none
  | n + 1 => f_Md_slotOf_4b (f_Md_slotOf_4 n)
set_option maxHeartbeats 4000000 in
theorem s_Md_slotOf_4 {p : Program} {l : Launch} {e : Env} {R : Room} {s : State} {m : MethodId} {args : Array Value} {below : List Frame} {meth : Method} {c : Code} {Q : State → Prop} {D : va_G} {q : Nat → ClassId} {a : Nat → Nat} {A : Nat → Prop} (C : pv_C p s m args c prog_9_method_47_code 4 "PatchVoicesModel" pv_TB D pv_cl (pv_ty q) 36 a A (pv_ZM)) (hmv : pv_mv A (pv_ZM)) (hRf : 0 ≤ R.frames) (hRl : 0 ≤ R.locals) {out : (Int32 × pv_S)} (hret : pv_Ri p l e R s m args below meth c prog_9_method_47_code D pv_cl 36 a (pv_FM q a) A Q out) (n : Nat) : ∀ {σ : pv_S} {x1 : Int32} {x2 : Int32} {x3 : Int32} {H : Heap} {locs : List Loc} {ls : Array Slot}, lv_has ls 4 [(0, .ref (a 0)), (1, .int x1), (2, .int x2), (3, .int x3)] → pv_W D pv_cl 36 a (pv_FM q a) σ H → va_S A s.heap H locs → f_Md_slotOf_4 n σ x1 x2 x3 = some out → W p l e R s m args below meth c H locs 0 0 Q (F0 m 4 ls []) := by
  induction n with
  | zero => intro σ x1 x2 x3 H locs ls hl hP hS hf; cases hf
  | succ n ih => intro σ x1 x2 x3 H locs ls hl hP hS hf; exact s_Md_slotOf_4b C hmv hRf hRl hret (fun σ x1 x2 x3 H locs ls hf hl hP hS => ih hl hP hS hf) hl hP hS hf
def f_Md_slotOf_0 (σ : pv_S) (x1 : Int32) : Option (Int32 × pv_S) :=
  f_Md_slotOf_4 pv_fu σ x1 (-1 : Int32) (0 : Int32)
set_option maxHeartbeats 4000000 in
set_option maxRecDepth 100000 in
theorem s_Md_slotOf_0 {p : Program} {l : Launch} {e : Env} {R : Room} {s : State} {m : MethodId} {args : Array Value} {below : List Frame} {meth : Method} {c : Code} {Q : State → Prop} {D : va_G} {q : Nat → ClassId} {a : Nat → Nat} {A : Nat → Prop} (C : pv_C p s m args c prog_9_method_47_code 4 "PatchVoicesModel" pv_TB D pv_cl (pv_ty q) 36 a A (pv_ZM)) (hmv : pv_mv A (pv_ZM)) (hRf : 0 ≤ R.frames) (hRl : 0 ≤ R.locals) {out : (Int32 × pv_S)} (hret : pv_Ri p l e R s m args below meth c prog_9_method_47_code D pv_cl 36 a (pv_FM q a) A Q out) {σ : pv_S} {x1 : Int32} {H : Heap} {locs : List Loc} {ls : Array Slot} (hl : lv_has ls 4 [(0, .ref (a 0)), (1, .int x1)]) (hP : pv_W D pv_cl 36 a (pv_FM q a) σ H) (hS : va_S A s.heap H locs) (hf : f_Md_slotOf_0 σ x1 = some out) : W p l e R s m args below meth c H locs 0 0 Q (F0 m 0 ls []) := by
  unfold f_Md_slotOf_0 at hf
  have hx := C.1
  have hb := C.2.1
  refine lv_iconst (v := (-1 : Int32)) hx hb d_Md_slotOf_0 (by decide) ?_
  refine lv_istore_n (lv' := [(2, .int (-1 : Int32)), (0, .ref (a 0)), (1, .int x1)]) hx hb d_Md_slotOf_1 rfl hl (by decide) rfl (fun ls hl => ?_)
  refine lv_iconst (v := (0 : Int32)) hx hb d_Md_slotOf_2 (by decide) ?_
  refine lv_istore_n (lv' := [(3, .int (0 : Int32)), (2, .int (-1 : Int32)), (0, .ref (a 0)), (1, .int x1)]) hx hb d_Md_slotOf_3 rfl hl (by decide) rfl (fun ls hl => ?_)
  exact s_Md_slotOf_4 C hmv hRf hRl hret pv_fu (lv_sub hl [2, 3, 1, 0] rfl) hP hS hf
def f_Md_slotOf (σ : pv_S) (x1 : Int32) : Option (Int32 × pv_S) := f_Md_slotOf_0 σ x1
def rm_Md_slotOf : Room := { frames := 0, cells := 0, slots := 0, locals := 0 }
theorem c_Md_slotOf {l : Launch} {D : va_G} {q : Nat → ClassId} {a : Nat → Nat} {A : Nat → Prop} (hD : pv_D 36 a A) (hmv : pv_mv A (pv_ZM)) {σ : pv_S} {x1 : Int32} {out : (Int32 × pv_S)} (hf : f_Md_slotOf σ x1 = some out) : pv_Mi l y_Md_slotOf (Cond.code y_Md_slotOf prog_9_method_47_code 4 (some .int) :: pv_TB) rm_Md_slotOf D pv_cl (pv_ty q) 36 a (pv_FM q a) A (pv_ZM) [.ref (a 0), .int x1] σ out :=
  pv_ofI (by decide) (Nat.le_of_ble_eq_true rfl) hD (fun p e s m args below meth c Q ls C hret hl hP => s_Md_slotOf_0 C hmv (Nat.le_refl _) (Nat.le_refl _) hret hl hP va_S.rf hf)
theorem d_Md_step_0 : decode prog_9_method_48_code 0 = .ok (.aload_n 0, 1) := by decide +kernel
theorem d_Md_step_1 : decode prog_9_method_48_code 1 = .ok (.aload_n 0, 1) := by decide +kernel
theorem d_Md_step_2 : decode prog_9_method_48_code 2 = .ok (.getfield 244, 3) := by decide +kernel
theorem d_Md_step_5 : decode prog_9_method_48_code 5 = .ok (.ifCond .eq 15, 3) := by decide +kernel
theorem d_Md_step_8 : decode prog_9_method_48_code 8 = .ok (.iload_n 1, 1) := by decide +kernel
theorem d_Md_step_9 : decode prog_9_method_48_code 9 = .ok (.ifCond .lt 11, 3) := by decide +kernel
theorem d_Md_step_12 : decode prog_9_method_48_code 12 = .ok (.iload_n 1, 1) := by decide +kernel
theorem d_Md_step_13 : decode prog_9_method_48_code 13 = .ok (.aload_n 0, 1) := by decide +kernel
theorem d_Md_step_14 : decode prog_9_method_48_code 14 = .ok (.getfield 279, 3) := by decide +kernel
theorem d_Md_step_17 : decode prog_9_method_48_code 17 = .ok (.if_icmp .lt 7, 3) := by decide +kernel
theorem d_Md_step_20 : decode prog_9_method_48_code 20 = .ok (.iconst 1, 1) := by decide +kernel
theorem d_Md_step_21 : decode prog_9_method_48_code 21 = .ok (.goto 18, 3) := by decide +kernel
theorem d_Md_step_24 : decode prog_9_method_48_code 24 = .ok (.iload_n 2, 1) := by decide +kernel
theorem d_Md_step_25 : decode prog_9_method_48_code 25 = .ok (.ifCond .lt 9, 3) := by decide +kernel
theorem d_Md_step_28 : decode prog_9_method_48_code 28 = .ok (.iload_n 2, 1) := by decide +kernel
theorem d_Md_step_29 : decode prog_9_method_48_code 29 = .ok (.bipush 10, 2) := by decide +kernel
theorem d_Md_step_31 : decode prog_9_method_48_code 31 = .ok (.if_icmp .le 7, 3) := by decide +kernel
theorem d_Md_step_34 : decode prog_9_method_48_code 34 = .ok (.iconst 2, 1) := by decide +kernel
theorem d_Md_step_35 : decode prog_9_method_48_code 35 = .ok (.goto 4, 3) := by decide +kernel
theorem d_Md_step_38 : decode prog_9_method_48_code 38 = .ok (.iconst 0, 1) := by decide +kernel
theorem d_Md_step_39 : decode prog_9_method_48_code 39 = .ok (.putfield 127, 3) := by decide +kernel
theorem d_Md_step_42 : decode prog_9_method_48_code 42 = .ok (.aload_n 0, 1) := by decide +kernel
theorem d_Md_step_43 : decode prog_9_method_48_code 43 = .ok (.getfield 127, 3) := by decide +kernel
theorem d_Md_step_46 : decode prog_9_method_48_code 46 = .ok (.ifCond .le 5, 3) := by decide +kernel
theorem d_Md_step_49 : decode prog_9_method_48_code 49 = .ok (.iconst 0, 1) := by decide +kernel
theorem d_Md_step_50 : decode prog_9_method_48_code 50 = .ok (.ireturn, 1) := by decide +kernel
theorem d_Md_step_51 : decode prog_9_method_48_code 51 = .ok (.aload_n 0, 1) := by decide +kernel
theorem d_Md_step_52 : decode prog_9_method_48_code 52 = .ok (.getfield 66, 3) := by decide +kernel
theorem d_Md_step_55 : decode prog_9_method_48_code 55 = .ok (.iload_n 1, 1) := by decide +kernel
theorem d_Md_step_56 : decode prog_9_method_48_code 56 = .ok (.iaload, 1) := by decide +kernel
theorem d_Md_step_57 : decode prog_9_method_48_code 57 = .ok (.istore_n 3, 1) := by decide +kernel
theorem d_Md_step_58 : decode prog_9_method_48_code 58 = .ok (.iload_n 2, 1) := by decide +kernel
theorem d_Md_step_59 : decode prog_9_method_48_code 59 = .ok (.iconst 3, 1) := by decide +kernel
theorem d_Md_step_60 : decode prog_9_method_48_code 60 = .ok (.if_icmp .ge 46, 3) := by decide +kernel
theorem d_Md_step_63 : decode prog_9_method_48_code 63 = .ok (.iload_n 2, 1) := by decide +kernel
theorem d_Md_step_64 : decode prog_9_method_48_code 64 = .ok (.ifCond .ne 26, 3) := by decide +kernel
theorem d_Md_step_67 : decode prog_9_method_48_code 67 = .ok (.aload_n 0, 1) := by decide +kernel
theorem d_Md_step_68 : decode prog_9_method_48_code 68 = .ok (.getfield 69, 3) := by decide +kernel
theorem d_Md_step_71 : decode prog_9_method_48_code 71 = .ok (.iload_n 1, 1) := by decide +kernel
theorem d_Md_step_72 : decode prog_9_method_48_code 72 = .ok (.baload, 1) := by decide +kernel
theorem d_Md_step_73 : decode prog_9_method_48_code 73 = .ok (.ifCond .eq 8, 3) := by decide +kernel
theorem d_Md_step_76 : decode prog_9_method_48_code 76 = .ok (.bipush 20, 2) := by decide +kernel
theorem d_Md_step_78 : decode prog_9_method_48_code 78 = .ok (.goto 27, 3) := by decide +kernel
theorem d_Md_step_81 : decode prog_9_method_48_code 81 = .ok (.aload_n 0, 1) := by decide +kernel
theorem d_Md_step_82 : decode prog_9_method_48_code 82 = .ok (.getfield 38, 3) := by decide +kernel
theorem d_Md_step_85 : decode prog_9_method_48_code 85 = .ok (.iload_n 3, 1) := by decide +kernel
theorem d_Md_step_86 : decode prog_9_method_48_code 86 = .ok (.iaload, 1) := by decide +kernel
theorem d_Md_step_87 : decode prog_9_method_48_code 87 = .ok (.goto 18, 3) := by decide +kernel
theorem d_Md_step_90 : decode prog_9_method_48_code 90 = .ok (.iload_n 2, 1) := by decide +kernel
theorem d_Md_step_91 : decode prog_9_method_48_code 91 = .ok (.iconst 1, 1) := by decide +kernel
theorem d_Md_step_92 : decode prog_9_method_48_code 92 = .ok (.if_icmp .ne 7, 3) := by decide +kernel
theorem d_Md_step_95 : decode prog_9_method_48_code 95 = .ok (.iload_n 3, 1) := by decide +kernel
theorem d_Md_step_96 : decode prog_9_method_48_code 96 = .ok (.goto 9, 3) := by decide +kernel
theorem d_Md_step_99 : decode prog_9_method_48_code 99 = .ok (.aload_n 0, 1) := by decide +kernel
theorem d_Md_step_100 : decode prog_9_method_48_code 100 = .ok (.getfield 72, 3) := by decide +kernel
theorem d_Md_step_103 : decode prog_9_method_48_code 103 = .ok (.iload_n 1, 1) := by decide +kernel
theorem d_Md_step_104 : decode prog_9_method_48_code 104 = .ok (.iaload, 1) := by decide +kernel
theorem d_Md_step_105 : decode prog_9_method_48_code 105 = .ok (.ireturn, 1) := by decide +kernel
theorem d_Md_step_106 : decode prog_9_method_48_code 106 = .ok (.iload_n 2, 1) := by decide +kernel
theorem d_Md_step_107 : decode prog_9_method_48_code 107 = .ok (.bipush 7, 2) := by decide +kernel
theorem d_Md_step_109 : decode prog_9_method_48_code 109 = .ok (.if_icmp .ge 9, 3) := by decide +kernel
theorem d_Md_step_112 : decode prog_9_method_48_code 112 = .ok (.iload_n 2, 1) := by decide +kernel
theorem d_Md_step_113 : decode prog_9_method_48_code 113 = .ok (.iconst 3, 1) := by decide +kernel
theorem d_Md_step_114 : decode prog_9_method_48_code 114 = .ok (.isub, 1) := by decide +kernel
theorem d_Md_step_115 : decode prog_9_method_48_code 115 = .ok (.goto 7, 3) := by decide +kernel
theorem d_Md_step_118 : decode prog_9_method_48_code 118 = .ok (.iload_n 2, 1) := by decide +kernel
theorem d_Md_step_119 : decode prog_9_method_48_code 119 = .ok (.bipush 7, 2) := by decide +kernel
theorem d_Md_step_121 : decode prog_9_method_48_code 121 = .ok (.isub, 1) := by decide +kernel
theorem d_Md_step_122 : decode prog_9_method_48_code 122 = .ok (.istore 4, 2) := by decide +kernel
theorem d_Md_step_124 : decode prog_9_method_48_code 124 = .ok (.aload_n 0, 1) := by decide +kernel
theorem d_Md_step_125 : decode prog_9_method_48_code 125 = .ok (.getfield 69, 3) := by decide +kernel
theorem d_Md_step_128 : decode prog_9_method_48_code 128 = .ok (.iload_n 1, 1) := by decide +kernel
theorem d_Md_step_129 : decode prog_9_method_48_code 129 = .ok (.baload, 1) := by decide +kernel
theorem d_Md_step_130 : decode prog_9_method_48_code 130 = .ok (.ifCond .eq 16, 3) := by decide +kernel
theorem d_Md_step_133 : decode prog_9_method_48_code 133 = .ok (.iload 4, 2) := by decide +kernel
theorem d_Md_step_135 : decode prog_9_method_48_code 135 = .ok (.ifCond .ne 7, 3) := by decide +kernel
theorem d_Md_step_138 : decode prog_9_method_48_code 138 = .ok (.iconst 1, 1) := by decide +kernel
theorem d_Md_step_139 : decode prog_9_method_48_code 139 = .ok (.goto 23, 3) := by decide +kernel
theorem d_Md_step_142 : decode prog_9_method_48_code 142 = .ok (.iconst 0, 1) := by decide +kernel
theorem d_Md_step_143 : decode prog_9_method_48_code 143 = .ok (.goto 19, 3) := by decide +kernel
theorem d_Md_step_146 : decode prog_9_method_48_code 146 = .ok (.aload_n 0, 1) := by decide +kernel
theorem d_Md_step_147 : decode prog_9_method_48_code 147 = .ok (.getfield 38, 3) := by decide +kernel
theorem d_Md_step_150 : decode prog_9_method_48_code 150 = .ok (.iload_n 3, 1) := by decide +kernel
theorem d_Md_step_151 : decode prog_9_method_48_code 151 = .ok (.iaload, 1) := by decide +kernel
theorem d_Md_step_152 : decode prog_9_method_48_code 152 = .ok (.bipush 18, 2) := by decide +kernel
theorem d_Md_step_154 : decode prog_9_method_48_code 154 = .ok (.if_icmp .eq 7, 3) := by decide +kernel
theorem d_Md_step_157 : decode prog_9_method_48_code 157 = .ok (.iconst 1, 1) := by decide +kernel
theorem d_Md_step_158 : decode prog_9_method_48_code 158 = .ok (.goto 4, 3) := by decide +kernel
theorem d_Md_step_161 : decode prog_9_method_48_code 161 = .ok (.iconst 0, 1) := by decide +kernel
theorem d_Md_step_162 : decode prog_9_method_48_code 162 = .ok (.istore 5, 2) := by decide +kernel
theorem d_Md_step_164 : decode prog_9_method_48_code 164 = .ok (.iload_n 2, 1) := by decide +kernel
theorem d_Md_step_165 : decode prog_9_method_48_code 165 = .ok (.bipush 7, 2) := by decide +kernel
theorem d_Md_step_167 : decode prog_9_method_48_code 167 = .ok (.if_icmp .ge 40, 3) := by decide +kernel
theorem d_Md_step_170 : decode prog_9_method_48_code 170 = .ok (.iload 5, 2) := by decide +kernel
theorem d_Md_step_172 : decode prog_9_method_48_code 172 = .ok (.ifCond .eq 33, 3) := by decide +kernel
theorem d_Md_step_175 : decode prog_9_method_48_code 175 = .ok (.aload_n 0, 1) := by decide +kernel
theorem d_Md_step_176 : decode prog_9_method_48_code 176 = .ok (.iconst 4, 1) := by decide +kernel
theorem d_Md_step_177 : decode prog_9_method_48_code 177 = .ok (.iload_n 3, 1) := by decide +kernel
theorem d_Md_step_178 : decode prog_9_method_48_code 178 = .ok (.imul, 1) := by decide +kernel
theorem d_Md_step_179 : decode prog_9_method_48_code 179 = .ok (.iload 4, 2) := by decide +kernel
theorem d_Md_step_181 : decode prog_9_method_48_code 181 = .ok (.iadd, 1) := by decide +kernel
theorem d_Md_step_182 : decode prog_9_method_48_code 182 = .ok (.invokevirtual 259, 3) := by decide +kernel
theorem d_Md_step_185 : decode prog_9_method_48_code 185 = .ok (.ifCond .lt 20, 3) := by decide +kernel
theorem d_Md_step_188 : decode prog_9_method_48_code 188 = .ok (.aload_n 0, 1) := by decide +kernel
theorem d_Md_step_189 : decode prog_9_method_48_code 189 = .ok (.aload_n 0, 1) := by decide +kernel
theorem d_Md_step_190 : decode prog_9_method_48_code 190 = .ok (.iconst 4, 1) := by decide +kernel
theorem d_Md_step_191 : decode prog_9_method_48_code 191 = .ok (.iload_n 3, 1) := by decide +kernel
theorem d_Md_step_192 : decode prog_9_method_48_code 192 = .ok (.imul, 1) := by decide +kernel
theorem d_Md_step_193 : decode prog_9_method_48_code 193 = .ok (.iload 4, 2) := by decide +kernel
theorem d_Md_step_195 : decode prog_9_method_48_code 195 = .ok (.iadd, 1) := by decide +kernel
theorem d_Md_step_196 : decode prog_9_method_48_code 196 = .ok (.invokevirtual 259, 3) := by decide +kernel
theorem d_Md_step_199 : decode prog_9_method_48_code 199 = .ok (.invokevirtual 288, 3) := by decide +kernel
theorem d_Md_step_202 : decode prog_9_method_48_code 202 = .ok (.goto 4, 3) := by decide +kernel
theorem d_Md_step_205 : decode prog_9_method_48_code 205 = .ok (.iconst (-1), 1) := by decide +kernel
theorem d_Md_step_206 : decode prog_9_method_48_code 206 = .ok (.ireturn, 1) := by decide +kernel
theorem d_Md_step_207 : decode prog_9_method_48_code 207 = .ok (.aload_n 0, 1) := by decide +kernel
theorem d_Md_step_208 : decode prog_9_method_48_code 208 = .ok (.getfield 69, 3) := by decide +kernel
theorem d_Md_step_211 : decode prog_9_method_48_code 211 = .ok (.iload_n 1, 1) := by decide +kernel
theorem d_Md_step_212 : decode prog_9_method_48_code 212 = .ok (.baload, 1) := by decide +kernel
theorem d_Md_step_213 : decode prog_9_method_48_code 213 = .ok (.ifCond .eq 8, 3) := by decide +kernel
theorem d_Md_step_216 : decode prog_9_method_48_code 216 = .ok (.iload 4, 2) := by decide +kernel
theorem d_Md_step_218 : decode prog_9_method_48_code 218 = .ok (.ifCond .gt 28, 3) := by decide +kernel
theorem d_Md_step_221 : decode prog_9_method_48_code 221 = .ok (.aload_n 0, 1) := by decide +kernel
theorem d_Md_step_222 : decode prog_9_method_48_code 222 = .ok (.getfield 69, 3) := by decide +kernel
theorem d_Md_step_225 : decode prog_9_method_48_code 225 = .ok (.iload_n 1, 1) := by decide +kernel
theorem d_Md_step_226 : decode prog_9_method_48_code 226 = .ok (.baload, 1) := by decide +kernel
theorem d_Md_step_227 : decode prog_9_method_48_code 227 = .ok (.ifCond .ne 23, 3) := by decide +kernel
theorem d_Md_step_230 : decode prog_9_method_48_code 230 = .ok (.aload_n 0, 1) := by decide +kernel
theorem d_Md_step_231 : decode prog_9_method_48_code 231 = .ok (.getfield 38, 3) := by decide +kernel
theorem d_Md_step_234 : decode prog_9_method_48_code 234 = .ok (.iload_n 3, 1) := by decide +kernel
theorem d_Md_step_235 : decode prog_9_method_48_code 235 = .ok (.iaload, 1) := by decide +kernel
theorem d_Md_step_236 : decode prog_9_method_48_code 236 = .ok (.bipush 18, 2) := by decide +kernel
theorem d_Md_step_238 : decode prog_9_method_48_code 238 = .ok (.if_icmp .ne 12, 3) := by decide +kernel
theorem d_Md_step_241 : decode prog_9_method_48_code 241 = .ok (.iload 4, 2) := by decide +kernel
theorem d_Md_step_243 : decode prog_9_method_48_code 243 = .ok (.ifCond .ne 7, 3) := by decide +kernel
theorem d_Md_step_246 : decode prog_9_method_48_code 246 = .ok (.iconst 0, 1) := by decide +kernel
theorem d_Md_step_247 : decode prog_9_method_48_code 247 = .ok (.goto 13, 3) := by decide +kernel
theorem d_Md_step_250 : decode prog_9_method_48_code 250 = .ok (.aload_n 0, 1) := by decide +kernel
theorem d_Md_step_251 : decode prog_9_method_48_code 251 = .ok (.iconst 4, 1) := by decide +kernel
theorem d_Md_step_252 : decode prog_9_method_48_code 252 = .ok (.iload_n 3, 1) := by decide +kernel
theorem d_Md_step_253 : decode prog_9_method_48_code 253 = .ok (.imul, 1) := by decide +kernel
theorem d_Md_step_254 : decode prog_9_method_48_code 254 = .ok (.iload 4, 2) := by decide +kernel
theorem d_Md_step_256 : decode prog_9_method_48_code 256 = .ok (.iadd, 1) := by decide +kernel
theorem d_Md_step_257 : decode prog_9_method_48_code 257 = .ok (.invokevirtual 262, 3) := by decide +kernel
theorem d_Md_step_260 : decode prog_9_method_48_code 260 = .ok (.ireturn, 1) := by decide +kernel
def f_Md_step_250 (σ : pv_S) (x3 : Int32) (x4 : Int32) : Option (Int32 × pv_S) :=
  ((f_Md_amount σ (((4 : Int32) * x3) + x4)).bind fun q4 =>
some (q4.1, q4.2))
set_option maxHeartbeats 4000000 in
set_option maxRecDepth 100000 in
theorem s_Md_step_250 {p : Program} {l : Launch} {e : Env} {R : Room} {s : State} {m : MethodId} {args : Array Value} {below : List Frame} {meth : Method} {c : Code} {Q : State → Prop} {D : va_G} {q : Nat → ClassId} {a : Nat → Nat} {A : Nat → Prop} (C : pv_C p s m args c prog_9_method_48_code 6 "PatchVoicesModel" pv_TB D pv_cl (pv_ty q) 36 a A (pv_ZM)) (hmv : pv_mv A (pv_ZM)) (hRf : 1 ≤ R.frames) (hRl : 23 ≤ R.locals) {out : (Int32 × pv_S)} (hret : pv_Ri p l e R s m args below meth c prog_9_method_48_code D pv_cl 36 a (pv_FM q a) A Q out) {σ : pv_S} {x3 : Int32} {x4 : Int32} {H : Heap} {locs : List Loc} {ls : Array Slot} (hl : lv_has ls 6 [(0, .ref (a 0)), (3, .int x3), (4, .int x4)]) (hP : pv_W D pv_cl 36 a (pv_FM q a) σ H) (hS : va_S A s.heap H locs) (hf : f_Md_step_250 σ x3 x4 = some out) : W p l e R s m args below meth c H locs 0 0 Q (F0 m 250 ls []) := by
  unfold f_Md_step_250 at hf
  have hx := C.1
  have hb := C.2.1
  refine lv_aload_n hx hb d_Md_step_250 rfl (lv_at hl 0 rfl) ?_
  refine lv_iconst (v := (4 : Int32)) hx hb d_Md_step_251 (by decide) ?_
  refine lv_iload_n hx hb d_Md_step_252 rfl (lv_at hl 1 rfl) ?_
  refine lv_imul hx hb d_Md_step_253 ?_
  refine lv_iload hx hb d_Md_step_254 (lv_at hl 2 rfl) ?_
  refine lv_iadd hx hb d_Md_step_256 ?_
  obtain ⟨q4, hc, hf⟩ := pv_b hf
  refine pv_callVi C hmv pv_good hP hS (As := [.int (((4 : Int32) * x3) + x4)]) (rest := []) (by decide) (fm_0 _ _ _ _) rfl (c_Md_amount C.2.2.2.2.2.2.1 hmv hc) cv_Md_262 ⟨rfl, rfl, Nat.le_trans (Nat.le_of_ble_eq_true rfl) hRf, Nat.le_trans (Nat.le_of_ble_eq_true rfl) hRl⟩ rfl hl.1 rfl (Nat.le_of_ble_eq_true rfl) d_Md_step_257 ⟨Nat.zero_le _, Nat.zero_le _⟩ (fun H locs hP hS => ?_)
  obtain rfl := Option.some.inj hf
  exact hret _ _ _ _ d_Md_step_260 hP hS
def f_Md_step_221 (σ : pv_S) (x1 : Int32) (x3 : Int32) (x4 : Int32) : Option (Int32 × pv_S) :=
  (if pv_in x1 48 = true then
(if (σ.1 19 (x1).toNatClampNeg) = 0 then
  (if pv_in x3 24 = true then
(if (σ.1 9 (x3).toNatClampNeg) = (18 : Int32) then
  (if x4 = 0 then
  some ((0 : Int32), σ)
  else
  f_Md_step_250 σ x3 x4)
  else
  f_Md_step_250 σ x3 x4)
  else none)
  else
  f_Md_step_250 σ x3 x4)
  else none)
set_option maxHeartbeats 4000000 in
set_option maxRecDepth 100000 in
theorem s_Md_step_221 {p : Program} {l : Launch} {e : Env} {R : Room} {s : State} {m : MethodId} {args : Array Value} {below : List Frame} {meth : Method} {c : Code} {Q : State → Prop} {D : va_G} {q : Nat → ClassId} {a : Nat → Nat} {A : Nat → Prop} (C : pv_C p s m args c prog_9_method_48_code 6 "PatchVoicesModel" pv_TB D pv_cl (pv_ty q) 36 a A (pv_ZM)) (hmv : pv_mv A (pv_ZM)) (hRf : 1 ≤ R.frames) (hRl : 23 ≤ R.locals) {out : (Int32 × pv_S)} (hret : pv_Ri p l e R s m args below meth c prog_9_method_48_code D pv_cl 36 a (pv_FM q a) A Q out) {σ : pv_S} {x1 : Int32} {x3 : Int32} {x4 : Int32} {H : Heap} {locs : List Loc} {ls : Array Slot} (hl : lv_has ls 6 [(0, .ref (a 0)), (1, .int x1), (3, .int x3), (4, .int x4)]) (hP : pv_W D pv_cl 36 a (pv_FM q a) σ H) (hS : va_S A s.heap H locs) (hf : f_Md_step_221 σ x1 x3 x4 = some out) : W p l e R s m args below meth c H locs 0 0 Q (F0 m 221 ls []) := by
  unfold f_Md_step_221 at hf
  have hx := C.1
  have hb := C.2.1
  refine lv_aload_n hx hb d_Md_step_221 rfl (lv_at hl 0 rfl) ?_
  refine pv_get C hP (v := .ref (a 19)) (j := 30) (by decide) (fm_0 _ _ _ _) fl_Md_69 rfl d_Md_step_222 ?_
  refine lv_iload_n hx hb d_Md_step_225 rfl (lv_at hl 1 rfl) ?_
  obtain ⟨hg, hf⟩ := pv_g hf
  refine pv_zald C hP (t0 := 2) (by decide) (fm_19 _ _ _ _) rfl hg d_Md_step_226 ?_
  refine lv_if_ne (tgt := 250) hx hb d_Md_step_227 (by decide) (fun h => ?_) (fun h => ?_)
  · have hf := pv_f hf h
    exact s_Md_step_250 C hmv hRf hRl hret (lv_sub hl [0, 2, 3] rfl) hP hS hf
  · have hf := pv_t hf h
    refine lv_aload_n hx hb d_Md_step_230 rfl (lv_at hl 0 rfl) ?_
    refine pv_get C hP (v := .ref (a 9)) (j := 19) (by decide) (fm_0 _ _ _ _) fl_Md_38 rfl d_Md_step_231 ?_
    refine lv_iload_n hx hb d_Md_step_234 rfl (lv_at hl 2 rfl) ?_
    obtain ⟨hg, hf⟩ := pv_g hf
    refine pv_iald C hP (t0 := 0) (by decide) (fm_9 _ _ _ _) rfl hg d_Md_step_235 ?_
    refine lv_bipush (v := (18 : Int32)) hx hb d_Md_step_236 (by decide) ?_
    refine lv_icmp_ne (tgt := 250) hx hb d_Md_step_238 (by decide) (fun h => ?_) (fun h => ?_)
    · have hf := pv_f hf h
      exact s_Md_step_250 C hmv hRf hRl hret (lv_sub hl [0, 2, 3] rfl) hP hS hf
    · have hf := pv_t hf h
      refine lv_iload hx hb d_Md_step_241 (lv_at hl 3 rfl) ?_
      refine lv_if_ne (tgt := 250) hx hb d_Md_step_243 (by decide) (fun h => ?_) (fun h => ?_)
      · have hf := pv_f hf h
        exact s_Md_step_250 C hmv hRf hRl hret (lv_sub hl [0, 2, 3] rfl) hP hS hf
      · have hf := pv_t hf h
        refine lv_iconst (v := (0 : Int32)) hx hb d_Md_step_246 (by decide) ?_
        refine lv_goto (tgt := 260) hx hb d_Md_step_247 (by decide) ?_
        obtain rfl := Option.some.inj hf
        exact hret _ _ _ _ d_Md_step_260 hP hS
def f_Md_step_162 (σ : pv_S) (x1 : Int32) (x2 : Int32) (x3 : Int32) (x4 : Int32) (s0 : Int32) : Option (Int32 × pv_S) :=
  (if (7 : Int32) ≤ x2 then
  (if pv_in x1 48 = true then
(if (σ.1 19 (x1).toNatClampNeg) = 0 then
  f_Md_step_221 σ x1 x3 x4
  else
  (if 0 < x4 then
  some ((0 : Int32), σ)
  else
  f_Md_step_221 σ x1 x3 x4))
  else none)
  else
  (if s0 = 0 then
  some ((-1 : Int32), σ)
  else
  ((f_Md_source σ (((4 : Int32) * x3) + x4)).bind fun q1 =>
(if q1.1 < 0 then
  some ((-1 : Int32), q1.2)
  else
  ((f_Md_source q1.2 (((4 : Int32) * x3) + x4)).bind fun q2 =>
((f_Md_slotOf q2.2 q2.1).bind fun q3 =>
some (q3.1, q3.2)))))))
set_option maxHeartbeats 4000000 in
set_option maxRecDepth 100000 in
theorem s_Md_step_162 {p : Program} {l : Launch} {e : Env} {R : Room} {s : State} {m : MethodId} {args : Array Value} {below : List Frame} {meth : Method} {c : Code} {Q : State → Prop} {D : va_G} {q : Nat → ClassId} {a : Nat → Nat} {A : Nat → Prop} (C : pv_C p s m args c prog_9_method_48_code 6 "PatchVoicesModel" pv_TB D pv_cl (pv_ty q) 36 a A (pv_ZM)) (hmv : pv_mv A (pv_ZM)) (hRf : 1 ≤ R.frames) (hRl : 23 ≤ R.locals) {out : (Int32 × pv_S)} (hret : pv_Ri p l e R s m args below meth c prog_9_method_48_code D pv_cl 36 a (pv_FM q a) A Q out) {σ : pv_S} {x1 : Int32} {x2 : Int32} {x3 : Int32} {x4 : Int32} {s0 : Int32} {H : Heap} {locs : List Loc} {ls : Array Slot} (hl : lv_has ls 6 [(0, .ref (a 0)), (1, .int x1), (2, .int x2), (3, .int x3), (4, .int x4)]) (hP : pv_W D pv_cl 36 a (pv_FM q a) σ H) (hS : va_S A s.heap H locs) (hf : f_Md_step_162 σ x1 x2 x3 x4 s0 = some out) : W p l e R s m args below meth c H locs 0 0 Q (F0 m 162 ls [.int s0]) := by
  unfold f_Md_step_162 at hf
  have hx := C.1
  have hb := C.2.1
  refine lv_istore (lv' := [(5, .int s0), (0, .ref (a 0)), (1, .int x1), (2, .int x2), (3, .int x3), (4, .int x4)]) hx hb d_Md_step_162 hl (by decide) rfl (fun ls hl => ?_)
  refine lv_iload_n hx hb d_Md_step_164 rfl (lv_at hl 3 rfl) ?_
  refine lv_bipush (v := (7 : Int32)) hx hb d_Md_step_165 (by decide) ?_
  refine lv_icmp_ge (tgt := 207) hx hb d_Md_step_167 (by decide) (fun h => ?_) (fun h => ?_)
  · have hf := pv_t hf h
    refine lv_aload_n hx hb d_Md_step_207 rfl (lv_at hl 1 rfl) ?_
    refine pv_get C hP (v := .ref (a 19)) (j := 30) (by decide) (fm_0 _ _ _ _) fl_Md_69 rfl d_Md_step_208 ?_
    refine lv_iload_n hx hb d_Md_step_211 rfl (lv_at hl 2 rfl) ?_
    obtain ⟨hg, hf⟩ := pv_g hf
    refine pv_zald C hP (t0 := 2) (by decide) (fm_19 _ _ _ _) rfl hg d_Md_step_212 ?_
    refine lv_if_eq (tgt := 221) hx hb d_Md_step_213 (by decide) (fun h => ?_) (fun h => ?_)
    · have hf := pv_t hf h
      exact s_Md_step_221 C hmv hRf hRl hret (lv_sub hl [1, 2, 4, 5] rfl) hP hS hf
    · have hf := pv_f hf h
      refine lv_iload hx hb d_Md_step_216 (lv_at hl 5 rfl) ?_
      refine lv_if_gt (tgt := 246) hx hb d_Md_step_218 (by decide) (fun h => ?_) (fun h => ?_)
      · have hf := pv_t hf h
        refine lv_iconst (v := (0 : Int32)) hx hb d_Md_step_246 (by decide) ?_
        refine lv_goto (tgt := 260) hx hb d_Md_step_247 (by decide) ?_
        obtain rfl := Option.some.inj hf
        exact hret _ _ _ _ d_Md_step_260 hP hS
      · have hf := pv_f hf h
        exact s_Md_step_221 C hmv hRf hRl hret (lv_sub hl [1, 2, 4, 5] rfl) hP hS hf
  · have hf := pv_f hf h
    refine lv_iload hx hb d_Md_step_170 (lv_at hl 0 rfl) ?_
    refine lv_if_eq (tgt := 205) hx hb d_Md_step_172 (by decide) (fun h => ?_) (fun h => ?_)
    · have hf := pv_t hf h
      refine lv_iconst (v := (-1 : Int32)) hx hb d_Md_step_205 (by decide) ?_
      obtain rfl := Option.some.inj hf
      exact hret _ _ _ _ d_Md_step_206 hP hS
    · have hf := pv_f hf h
      refine lv_aload_n hx hb d_Md_step_175 rfl (lv_at hl 1 rfl) ?_
      refine lv_iconst (v := (4 : Int32)) hx hb d_Md_step_176 (by decide) ?_
      refine lv_iload_n hx hb d_Md_step_177 rfl (lv_at hl 4 rfl) ?_
      refine lv_imul hx hb d_Md_step_178 ?_
      refine lv_iload hx hb d_Md_step_179 (lv_at hl 5 rfl) ?_
      refine lv_iadd hx hb d_Md_step_181 ?_
      obtain ⟨q1, hc, hf⟩ := pv_b hf
      refine pv_callVi C hmv pv_good hP hS (As := [.int (((4 : Int32) * x3) + x4)]) (rest := []) (by decide) (fm_0 _ _ _ _) rfl (c_Md_source C.2.2.2.2.2.2.1 hmv hc) cv_Md_259 ⟨rfl, rfl, Nat.le_trans (Nat.le_of_ble_eq_true rfl) hRf, Nat.le_trans (Nat.le_of_ble_eq_true rfl) hRl⟩ rfl hl.1 rfl (Nat.le_of_ble_eq_true rfl) d_Md_step_182 ⟨Nat.zero_le _, Nat.zero_le _⟩ (fun H locs hP hS => ?_)
      refine lv_if_lt (tgt := 205) hx hb d_Md_step_185 (by decide) (fun h => ?_) (fun h => ?_)
      · have hf := pv_t hf h
        refine lv_iconst (v := (-1 : Int32)) hx hb d_Md_step_205 (by decide) ?_
        obtain rfl := Option.some.inj hf
        exact hret _ _ _ _ d_Md_step_206 hP hS
      · have hf := pv_f hf h
        refine lv_aload_n hx hb d_Md_step_188 rfl (lv_at hl 1 rfl) ?_
        refine lv_aload_n hx hb d_Md_step_189 rfl (lv_at hl 1 rfl) ?_
        refine lv_iconst (v := (4 : Int32)) hx hb d_Md_step_190 (by decide) ?_
        refine lv_iload_n hx hb d_Md_step_191 rfl (lv_at hl 4 rfl) ?_
        refine lv_imul hx hb d_Md_step_192 ?_
        refine lv_iload hx hb d_Md_step_193 (lv_at hl 5 rfl) ?_
        refine lv_iadd hx hb d_Md_step_195 ?_
        obtain ⟨q2, hc, hf⟩ := pv_b hf
        refine pv_callVi C hmv pv_good hP hS (As := [.int (((4 : Int32) * x3) + x4)]) (rest := [.ref (a 0)]) (by decide) (fm_0 _ _ _ _) rfl (c_Md_source C.2.2.2.2.2.2.1 hmv hc) cv_Md_259 ⟨rfl, rfl, Nat.le_trans (Nat.le_of_ble_eq_true rfl) hRf, Nat.le_trans (Nat.le_of_ble_eq_true rfl) hRl⟩ rfl hl.1 rfl (Nat.le_of_ble_eq_true rfl) d_Md_step_196 ⟨Nat.zero_le _, Nat.zero_le _⟩ (fun H locs hP hS => ?_)
        obtain ⟨q3, hc, hf⟩ := pv_b hf
        refine pv_callVi C hmv pv_good hP hS (As := [.int q2.1]) (rest := []) (by decide) (fm_0 _ _ _ _) rfl (c_Md_slotOf C.2.2.2.2.2.2.1 hmv hc) cv_Md_288 ⟨rfl, rfl, Nat.le_trans (Nat.le_of_ble_eq_true rfl) hRf, Nat.le_trans (Nat.le_of_ble_eq_true rfl) hRl⟩ rfl hl.1 rfl (Nat.le_of_ble_eq_true rfl) d_Md_step_199 ⟨Nat.zero_le _, Nat.zero_le _⟩ (fun H locs hP hS => ?_)
        refine lv_goto (tgt := 206) hx hb d_Md_step_202 (by decide) ?_
        obtain rfl := Option.some.inj hf
        exact hret _ _ _ _ d_Md_step_206 hP hS
def f_Md_step_122 (σ : pv_S) (x1 : Int32) (x2 : Int32) (x3 : Int32) (s0 : Int32) : Option (Int32 × pv_S) :=
  (if pv_in x1 48 = true then
(if (σ.1 19 (x1).toNatClampNeg) = 0 then
  (if pv_in x3 24 = true then
(if (σ.1 9 (x3).toNatClampNeg) = (18 : Int32) then
  f_Md_step_162 σ x1 x2 x3 s0 (0 : Int32)
  else
  f_Md_step_162 σ x1 x2 x3 s0 (1 : Int32))
  else none)
  else
  (if s0 = 0 then
  f_Md_step_162 σ x1 x2 x3 s0 (1 : Int32)
  else
  f_Md_step_162 σ x1 x2 x3 s0 (0 : Int32)))
  else none)
set_option maxHeartbeats 4000000 in
set_option maxRecDepth 100000 in
theorem s_Md_step_122 {p : Program} {l : Launch} {e : Env} {R : Room} {s : State} {m : MethodId} {args : Array Value} {below : List Frame} {meth : Method} {c : Code} {Q : State → Prop} {D : va_G} {q : Nat → ClassId} {a : Nat → Nat} {A : Nat → Prop} (C : pv_C p s m args c prog_9_method_48_code 6 "PatchVoicesModel" pv_TB D pv_cl (pv_ty q) 36 a A (pv_ZM)) (hmv : pv_mv A (pv_ZM)) (hRf : 1 ≤ R.frames) (hRl : 23 ≤ R.locals) {out : (Int32 × pv_S)} (hret : pv_Ri p l e R s m args below meth c prog_9_method_48_code D pv_cl 36 a (pv_FM q a) A Q out) {σ : pv_S} {x1 : Int32} {x2 : Int32} {x3 : Int32} {s0 : Int32} {H : Heap} {locs : List Loc} {ls : Array Slot} (hl : lv_has ls 6 [(0, .ref (a 0)), (1, .int x1), (2, .int x2), (3, .int x3)]) (hP : pv_W D pv_cl 36 a (pv_FM q a) σ H) (hS : va_S A s.heap H locs) (hf : f_Md_step_122 σ x1 x2 x3 s0 = some out) : W p l e R s m args below meth c H locs 0 0 Q (F0 m 122 ls [.int s0]) := by
  unfold f_Md_step_122 at hf
  have hx := C.1
  have hb := C.2.1
  refine lv_istore (lv' := [(4, .int s0), (0, .ref (a 0)), (1, .int x1), (2, .int x2), (3, .int x3)]) hx hb d_Md_step_122 hl (by decide) rfl (fun ls hl => ?_)
  refine lv_aload_n hx hb d_Md_step_124 rfl (lv_at hl 1 rfl) ?_
  refine pv_get C hP (v := .ref (a 19)) (j := 30) (by decide) (fm_0 _ _ _ _) fl_Md_69 rfl d_Md_step_125 ?_
  refine lv_iload_n hx hb d_Md_step_128 rfl (lv_at hl 2 rfl) ?_
  obtain ⟨hg, hf⟩ := pv_g hf
  refine pv_zald C hP (t0 := 2) (by decide) (fm_19 _ _ _ _) rfl hg d_Md_step_129 ?_
  refine lv_if_eq (tgt := 146) hx hb d_Md_step_130 (by decide) (fun h => ?_) (fun h => ?_)
  · have hf := pv_t hf h
    refine lv_aload_n hx hb d_Md_step_146 rfl (lv_at hl 1 rfl) ?_
    refine pv_get C hP (v := .ref (a 9)) (j := 19) (by decide) (fm_0 _ _ _ _) fl_Md_38 rfl d_Md_step_147 ?_
    refine lv_iload_n hx hb d_Md_step_150 rfl (lv_at hl 4 rfl) ?_
    obtain ⟨hg, hf⟩ := pv_g hf
    refine pv_iald C hP (t0 := 0) (by decide) (fm_9 _ _ _ _) rfl hg d_Md_step_151 ?_
    refine lv_bipush (v := (18 : Int32)) hx hb d_Md_step_152 (by decide) ?_
    refine lv_icmp_eq (tgt := 161) hx hb d_Md_step_154 (by decide) (fun h => ?_) (fun h => ?_)
    · have hf := pv_t hf h
      refine lv_iconst (v := (0 : Int32)) hx hb d_Md_step_161 (by decide) ?_
      exact s_Md_step_162 C hmv hRf hRl hret (lv_sub hl [1, 2, 3, 4, 0] rfl) hP hS hf
    · have hf := pv_f hf h
      refine lv_iconst (v := (1 : Int32)) hx hb d_Md_step_157 (by decide) ?_
      refine lv_goto (tgt := 162) hx hb d_Md_step_158 (by decide) ?_
      exact s_Md_step_162 C hmv hRf hRl hret (lv_sub hl [1, 2, 3, 4, 0] rfl) hP hS hf
  · have hf := pv_f hf h
    refine lv_iload hx hb d_Md_step_133 (lv_at hl 0 rfl) ?_
    refine lv_if_ne (tgt := 142) hx hb d_Md_step_135 (by decide) (fun h => ?_) (fun h => ?_)
    · have hf := pv_f hf h
      refine lv_iconst (v := (0 : Int32)) hx hb d_Md_step_142 (by decide) ?_
      refine lv_goto (tgt := 162) hx hb d_Md_step_143 (by decide) ?_
      exact s_Md_step_162 C hmv hRf hRl hret (lv_sub hl [1, 2, 3, 4, 0] rfl) hP hS hf
    · have hf := pv_t hf h
      refine lv_iconst (v := (1 : Int32)) hx hb d_Md_step_138 (by decide) ?_
      refine lv_goto (tgt := 162) hx hb d_Md_step_139 (by decide) ?_
      exact s_Md_step_162 C hmv hRf hRl hret (lv_sub hl [1, 2, 3, 4, 0] rfl) hP hS hf
def f_Md_step_39 (σ : pv_S) (x1 : Int32) (x2 : Int32) (s0 : Int32) : Option (Int32 × pv_S) :=
  (if ((pv_uI σ 0 0 s0).1 0 0) ≤ 0 then
  (if pv_in x1 48 = true then
(if (3 : Int32) ≤ x2 then
  (if (7 : Int32) ≤ x2 then
  f_Md_step_122 (pv_uI σ 0 0 s0) x1 x2 ((pv_uI σ 0 0 s0).1 18 (x1).toNatClampNeg) (x2 - (7 : Int32))
  else
  f_Md_step_122 (pv_uI σ 0 0 s0) x1 x2 ((pv_uI σ 0 0 s0).1 18 (x1).toNatClampNeg) (x2 - (3 : Int32)))
  else
  (if x2 = 0 then
  (if pv_in x1 48 = true then
(if ((pv_uI σ 0 0 s0).1 19 (x1).toNatClampNeg) = 0 then
  (if pv_in ((pv_uI σ 0 0 s0).1 18 (x1).toNatClampNeg) 24 = true then
some (((pv_uI σ 0 0 s0).1 9 (((pv_uI σ 0 0 s0).1 18 (x1).toNatClampNeg)).toNatClampNeg), (pv_uI σ 0 0 s0))
  else none)
  else
  some ((20 : Int32), (pv_uI σ 0 0 s0)))
  else none)
  else
  (if x2 = (1 : Int32) then
  some (((pv_uI σ 0 0 s0).1 18 (x1).toNatClampNeg), (pv_uI σ 0 0 s0))
  else
  (if pv_in x1 48 = true then
some (((pv_uI σ 0 0 s0).1 20 (x1).toNatClampNeg), (pv_uI σ 0 0 s0))
  else none))))
  else none)
  else
  some ((0 : Int32), (pv_uI σ 0 0 s0)))
set_option maxHeartbeats 4000000 in
set_option maxRecDepth 100000 in
theorem s_Md_step_39 {p : Program} {l : Launch} {e : Env} {R : Room} {s : State} {m : MethodId} {args : Array Value} {below : List Frame} {meth : Method} {c : Code} {Q : State → Prop} {D : va_G} {q : Nat → ClassId} {a : Nat → Nat} {A : Nat → Prop} (C : pv_C p s m args c prog_9_method_48_code 6 "PatchVoicesModel" pv_TB D pv_cl (pv_ty q) 36 a A (pv_ZM)) (hmv : pv_mv A (pv_ZM)) (hRf : 1 ≤ R.frames) (hRl : 23 ≤ R.locals) {out : (Int32 × pv_S)} (hret : pv_Ri p l e R s m args below meth c prog_9_method_48_code D pv_cl 36 a (pv_FM q a) A Q out) {σ : pv_S} {x1 : Int32} {x2 : Int32} {s0 : Int32} {H : Heap} {locs : List Loc} {ls : Array Slot} (hl : lv_has ls 6 [(0, .ref (a 0)), (1, .int x1), (2, .int x2)]) (hP : pv_W D pv_cl 36 a (pv_FM q a) σ H) (hS : va_S A s.heap H locs) (hf : f_Md_step_39 σ x1 x2 s0 = some out) : W p l e R s m args below meth c H locs 0 0 Q (F0 m 39 ls [.int s0, .ref (a 0)]) := by
  unfold f_Md_step_39 at hf
  have hx := C.1
  have hb := C.2.1
  refine pv_putI C hP hS (x := s0) (by decide) (fm_0 _ _ _ _) fw_Md_127 rfl rfl (Nat.le_of_ble_eq_true rfl) (fms_0_0 _ _ _ _ _) d_Md_step_39 (fun H locs hP hS => ?_)
  refine lv_aload_n hx hb d_Md_step_42 rfl (lv_at hl 0 rfl) ?_
  refine pv_get C hP (v := .int ((pv_uI σ 0 0 s0).1 0 0)) (j := 0) (by decide) (fm_0 _ _ _ _) fl_Md_127 rfl d_Md_step_43 ?_
  refine lv_if_le (tgt := 51) hx hb d_Md_step_46 (by decide) (fun h => ?_) (fun h => ?_)
  · have hf := pv_t hf h
    refine lv_aload_n hx hb d_Md_step_51 rfl (lv_at hl 0 rfl) ?_
    refine pv_get C hP (v := .ref (a 18)) (j := 29) (by decide) (fm_0 _ _ _ _) fl_Md_66 rfl d_Md_step_52 ?_
    refine lv_iload_n hx hb d_Md_step_55 rfl (lv_at hl 1 rfl) ?_
    obtain ⟨hg, hf⟩ := pv_g hf
    refine pv_iald C hP (t0 := 0) (by decide) (fm_18 _ _ _ _) rfl hg d_Md_step_56 ?_
    refine lv_istore_n (lv' := [(3, .int ((pv_uI σ 0 0 s0).1 18 (x1).toNatClampNeg)), (0, .ref (a 0)), (1, .int x1), (2, .int x2)]) hx hb d_Md_step_57 rfl hl (by decide) rfl (fun ls hl => ?_)
    refine lv_iload_n hx hb d_Md_step_58 rfl (lv_at hl 3 rfl) ?_
    refine lv_iconst (v := (3 : Int32)) hx hb d_Md_step_59 (by decide) ?_
    refine lv_icmp_ge (tgt := 106) hx hb d_Md_step_60 (by decide) (fun h => ?_) (fun h => ?_)
    · have hf := pv_t hf h
      refine lv_iload_n hx hb d_Md_step_106 rfl (lv_at hl 3 rfl) ?_
      refine lv_bipush (v := (7 : Int32)) hx hb d_Md_step_107 (by decide) ?_
      refine lv_icmp_ge (tgt := 118) hx hb d_Md_step_109 (by decide) (fun h => ?_) (fun h => ?_)
      · have hf := pv_t hf h
        refine lv_iload_n hx hb d_Md_step_118 rfl (lv_at hl 3 rfl) ?_
        refine lv_bipush (v := (7 : Int32)) hx hb d_Md_step_119 (by decide) ?_
        refine lv_isub hx hb d_Md_step_121 ?_
        exact s_Md_step_122 C hmv hRf hRl hret (lv_sub hl [1, 2, 3, 0] rfl) hP hS hf
      · have hf := pv_f hf h
        refine lv_iload_n hx hb d_Md_step_112 rfl (lv_at hl 3 rfl) ?_
        refine lv_iconst (v := (3 : Int32)) hx hb d_Md_step_113 (by decide) ?_
        refine lv_isub hx hb d_Md_step_114 ?_
        refine lv_goto (tgt := 122) hx hb d_Md_step_115 (by decide) ?_
        exact s_Md_step_122 C hmv hRf hRl hret (lv_sub hl [1, 2, 3, 0] rfl) hP hS hf
    · have hf := pv_f hf h
      refine lv_iload_n hx hb d_Md_step_63 rfl (lv_at hl 3 rfl) ?_
      refine lv_if_ne (tgt := 90) hx hb d_Md_step_64 (by decide) (fun h => ?_) (fun h => ?_)
      · have hf := pv_f hf h
        refine lv_iload_n hx hb d_Md_step_90 rfl (lv_at hl 3 rfl) ?_
        refine lv_iconst (v := (1 : Int32)) hx hb d_Md_step_91 (by decide) ?_
        refine lv_icmp_ne (tgt := 99) hx hb d_Md_step_92 (by decide) (fun h => ?_) (fun h => ?_)
        · have hf := pv_f hf h
          refine lv_aload_n hx hb d_Md_step_99 rfl (lv_at hl 1 rfl) ?_
          refine pv_get C hP (v := .ref (a 20)) (j := 31) (by decide) (fm_0 _ _ _ _) fl_Md_72 rfl d_Md_step_100 ?_
          refine lv_iload_n hx hb d_Md_step_103 rfl (lv_at hl 2 rfl) ?_
          obtain ⟨hg, hf⟩ := pv_g hf
          refine pv_iald C hP (t0 := 0) (by decide) (fm_20 _ _ _ _) rfl hg d_Md_step_104 ?_
          obtain rfl := Option.some.inj hf
          exact hret _ _ _ _ d_Md_step_105 hP hS
        · have hf := pv_t hf h
          refine lv_iload_n hx hb d_Md_step_95 rfl (lv_at hl 0 rfl) ?_
          refine lv_goto (tgt := 105) hx hb d_Md_step_96 (by decide) ?_
          obtain rfl := Option.some.inj hf
          exact hret _ _ _ _ d_Md_step_105 hP hS
      · have hf := pv_t hf h
        refine lv_aload_n hx hb d_Md_step_67 rfl (lv_at hl 1 rfl) ?_
        refine pv_get C hP (v := .ref (a 19)) (j := 30) (by decide) (fm_0 _ _ _ _) fl_Md_69 rfl d_Md_step_68 ?_
        refine lv_iload_n hx hb d_Md_step_71 rfl (lv_at hl 2 rfl) ?_
        obtain ⟨hg, hf⟩ := pv_g hf
        refine pv_zald C hP (t0 := 2) (by decide) (fm_19 _ _ _ _) rfl hg d_Md_step_72 ?_
        refine lv_if_eq (tgt := 81) hx hb d_Md_step_73 (by decide) (fun h => ?_) (fun h => ?_)
        · have hf := pv_t hf h
          refine lv_aload_n hx hb d_Md_step_81 rfl (lv_at hl 1 rfl) ?_
          refine pv_get C hP (v := .ref (a 9)) (j := 19) (by decide) (fm_0 _ _ _ _) fl_Md_38 rfl d_Md_step_82 ?_
          refine lv_iload_n hx hb d_Md_step_85 rfl (lv_at hl 0 rfl) ?_
          obtain ⟨hg, hf⟩ := pv_g hf
          refine pv_iald C hP (t0 := 0) (by decide) (fm_9 _ _ _ _) rfl hg d_Md_step_86 ?_
          refine lv_goto (tgt := 105) hx hb d_Md_step_87 (by decide) ?_
          obtain rfl := Option.some.inj hf
          exact hret _ _ _ _ d_Md_step_105 hP hS
        · have hf := pv_f hf h
          refine lv_bipush (v := (20 : Int32)) hx hb d_Md_step_76 (by decide) ?_
          refine lv_goto (tgt := 105) hx hb d_Md_step_78 (by decide) ?_
          obtain rfl := Option.some.inj hf
          exact hret _ _ _ _ d_Md_step_105 hP hS
  · have hf := pv_f hf h
    refine lv_iconst (v := (0 : Int32)) hx hb d_Md_step_49 (by decide) ?_
    obtain rfl := Option.some.inj hf
    exact hret _ _ _ _ d_Md_step_50 hP hS
def f_Md_step_34 (σ : pv_S) (x1 : Int32) (x2 : Int32) : Option (Int32 × pv_S) :=
  f_Md_step_39 σ x1 x2 (2 : Int32)
set_option maxHeartbeats 4000000 in
set_option maxRecDepth 100000 in
theorem s_Md_step_34 {p : Program} {l : Launch} {e : Env} {R : Room} {s : State} {m : MethodId} {args : Array Value} {below : List Frame} {meth : Method} {c : Code} {Q : State → Prop} {D : va_G} {q : Nat → ClassId} {a : Nat → Nat} {A : Nat → Prop} (C : pv_C p s m args c prog_9_method_48_code 6 "PatchVoicesModel" pv_TB D pv_cl (pv_ty q) 36 a A (pv_ZM)) (hmv : pv_mv A (pv_ZM)) (hRf : 1 ≤ R.frames) (hRl : 23 ≤ R.locals) {out : (Int32 × pv_S)} (hret : pv_Ri p l e R s m args below meth c prog_9_method_48_code D pv_cl 36 a (pv_FM q a) A Q out) {σ : pv_S} {x1 : Int32} {x2 : Int32} {H : Heap} {locs : List Loc} {ls : Array Slot} (hl : lv_has ls 6 [(0, .ref (a 0)), (1, .int x1), (2, .int x2)]) (hP : pv_W D pv_cl 36 a (pv_FM q a) σ H) (hS : va_S A s.heap H locs) (hf : f_Md_step_34 σ x1 x2 = some out) : W p l e R s m args below meth c H locs 0 0 Q (F0 m 34 ls [.ref (a 0)]) := by
  unfold f_Md_step_34 at hf
  have hx := C.1
  have hb := C.2.1
  refine lv_iconst (v := (2 : Int32)) hx hb d_Md_step_34 (by decide) ?_
  refine lv_goto (tgt := 39) hx hb d_Md_step_35 (by decide) ?_
  exact s_Md_step_39 C hmv hRf hRl hret (lv_sub hl [0, 1, 2] rfl) hP hS hf
def f_Md_step_20 (σ : pv_S) (x1 : Int32) (x2 : Int32) : Option (Int32 × pv_S) :=
  f_Md_step_39 σ x1 x2 (1 : Int32)
set_option maxHeartbeats 4000000 in
set_option maxRecDepth 100000 in
theorem s_Md_step_20 {p : Program} {l : Launch} {e : Env} {R : Room} {s : State} {m : MethodId} {args : Array Value} {below : List Frame} {meth : Method} {c : Code} {Q : State → Prop} {D : va_G} {q : Nat → ClassId} {a : Nat → Nat} {A : Nat → Prop} (C : pv_C p s m args c prog_9_method_48_code 6 "PatchVoicesModel" pv_TB D pv_cl (pv_ty q) 36 a A (pv_ZM)) (hmv : pv_mv A (pv_ZM)) (hRf : 1 ≤ R.frames) (hRl : 23 ≤ R.locals) {out : (Int32 × pv_S)} (hret : pv_Ri p l e R s m args below meth c prog_9_method_48_code D pv_cl 36 a (pv_FM q a) A Q out) {σ : pv_S} {x1 : Int32} {x2 : Int32} {H : Heap} {locs : List Loc} {ls : Array Slot} (hl : lv_has ls 6 [(0, .ref (a 0)), (1, .int x1), (2, .int x2)]) (hP : pv_W D pv_cl 36 a (pv_FM q a) σ H) (hS : va_S A s.heap H locs) (hf : f_Md_step_20 σ x1 x2 = some out) : W p l e R s m args below meth c H locs 0 0 Q (F0 m 20 ls [.ref (a 0)]) := by
  unfold f_Md_step_20 at hf
  have hx := C.1
  have hb := C.2.1
  refine lv_iconst (v := (1 : Int32)) hx hb d_Md_step_20 (by decide) ?_
  refine lv_goto (tgt := 39) hx hb d_Md_step_21 (by decide) ?_
  exact s_Md_step_39 C hmv hRf hRl hret (lv_sub hl [0, 1, 2] rfl) hP hS hf
def f_Md_step_0 (σ : pv_S) (x1 : Int32) (x2 : Int32) : Option (Int32 × pv_S) :=
  (if (σ.1 0 16) = 0 then
  f_Md_step_20 σ x1 x2
  else
  (if x1 < 0 then
  f_Md_step_20 σ x1 x2
  else
  (if x1 < (σ.1 0 28) then
  (if x2 < 0 then
  f_Md_step_34 σ x1 x2
  else
  (if x2 ≤ (10 : Int32) then
  f_Md_step_39 σ x1 x2 (0 : Int32)
  else
  f_Md_step_34 σ x1 x2))
  else
  f_Md_step_20 σ x1 x2)))
set_option maxHeartbeats 4000000 in
set_option maxRecDepth 100000 in
theorem s_Md_step_0 {p : Program} {l : Launch} {e : Env} {R : Room} {s : State} {m : MethodId} {args : Array Value} {below : List Frame} {meth : Method} {c : Code} {Q : State → Prop} {D : va_G} {q : Nat → ClassId} {a : Nat → Nat} {A : Nat → Prop} (C : pv_C p s m args c prog_9_method_48_code 6 "PatchVoicesModel" pv_TB D pv_cl (pv_ty q) 36 a A (pv_ZM)) (hmv : pv_mv A (pv_ZM)) (hRf : 1 ≤ R.frames) (hRl : 23 ≤ R.locals) {out : (Int32 × pv_S)} (hret : pv_Ri p l e R s m args below meth c prog_9_method_48_code D pv_cl 36 a (pv_FM q a) A Q out) {σ : pv_S} {x1 : Int32} {x2 : Int32} {H : Heap} {locs : List Loc} {ls : Array Slot} (hl : lv_has ls 6 [(0, .ref (a 0)), (1, .int x1), (2, .int x2)]) (hP : pv_W D pv_cl 36 a (pv_FM q a) σ H) (hS : va_S A s.heap H locs) (hf : f_Md_step_0 σ x1 x2 = some out) : W p l e R s m args below meth c H locs 0 0 Q (F0 m 0 ls []) := by
  unfold f_Md_step_0 at hf
  have hx := C.1
  have hb := C.2.1
  refine lv_aload_n hx hb d_Md_step_0 rfl (lv_at hl 0 rfl) ?_
  refine lv_aload_n hx hb d_Md_step_1 rfl (lv_at hl 0 rfl) ?_
  refine pv_get C hP (v := .int (σ.1 0 16)) (j := 16) (by decide) (fm_0 _ _ _ _) fl_Md_244 rfl d_Md_step_2 ?_
  refine lv_if_eq (tgt := 20) hx hb d_Md_step_5 (by decide) (fun h => ?_) (fun h => ?_)
  · have hf := pv_t hf h
    exact s_Md_step_20 C hmv hRf hRl hret (lv_sub hl [0, 1, 2] rfl) hP hS hf
  · have hf := pv_f hf h
    refine lv_iload_n hx hb d_Md_step_8 rfl (lv_at hl 1 rfl) ?_
    refine lv_if_lt (tgt := 20) hx hb d_Md_step_9 (by decide) (fun h => ?_) (fun h => ?_)
    · have hf := pv_t hf h
      exact s_Md_step_20 C hmv hRf hRl hret (lv_sub hl [0, 1, 2] rfl) hP hS hf
    · have hf := pv_f hf h
      refine lv_iload_n hx hb d_Md_step_12 rfl (lv_at hl 1 rfl) ?_
      refine lv_aload_n hx hb d_Md_step_13 rfl (lv_at hl 0 rfl) ?_
      refine pv_get C hP (v := .int (σ.1 0 28)) (j := 28) (by decide) (fm_0 _ _ _ _) fl_Md_279 rfl d_Md_step_14 ?_
      refine lv_icmp_lt (tgt := 24) hx hb d_Md_step_17 (by decide) (fun h => ?_) (fun h => ?_)
      · have hf := pv_t hf h
        refine lv_iload_n hx hb d_Md_step_24 rfl (lv_at hl 2 rfl) ?_
        refine lv_if_lt (tgt := 34) hx hb d_Md_step_25 (by decide) (fun h => ?_) (fun h => ?_)
        · have hf := pv_t hf h
          exact s_Md_step_34 C hmv hRf hRl hret (lv_sub hl [0, 1, 2] rfl) hP hS hf
        · have hf := pv_f hf h
          refine lv_iload_n hx hb d_Md_step_28 rfl (lv_at hl 2 rfl) ?_
          refine lv_bipush (v := (10 : Int32)) hx hb d_Md_step_29 (by decide) ?_
          refine lv_icmp_le (tgt := 38) hx hb d_Md_step_31 (by decide) (fun h => ?_) (fun h => ?_)
          · have hf := pv_t hf h
            refine lv_iconst (v := (0 : Int32)) hx hb d_Md_step_38 (by decide) ?_
            exact s_Md_step_39 C hmv hRf hRl hret (lv_sub hl [0, 1, 2] rfl) hP hS hf
          · have hf := pv_f hf h
            exact s_Md_step_34 C hmv hRf hRl hret (lv_sub hl [0, 1, 2] rfl) hP hS hf
      · have hf := pv_f hf h
        exact s_Md_step_20 C hmv hRf hRl hret (lv_sub hl [0, 1, 2] rfl) hP hS hf
def f_Md_step (σ : pv_S) (x1 : Int32) (x2 : Int32) : Option (Int32 × pv_S) := f_Md_step_0 σ x1 x2
def rm_Md_step : Room := { frames := 1, cells := 0, slots := 0, locals := 23 }
theorem c_Md_step {l : Launch} {D : va_G} {q : Nat → ClassId} {a : Nat → Nat} {A : Nat → Prop} (hD : pv_D 36 a A) (hmv : pv_mv A (pv_ZM)) {σ : pv_S} {x1 : Int32} {x2 : Int32} {out : (Int32 × pv_S)} (hf : f_Md_step σ x1 x2 = some out) : pv_Mi l y_Md_step (Cond.code y_Md_step prog_9_method_48_code 6 (some .int) :: pv_TB) rm_Md_step D pv_cl (pv_ty q) 36 a (pv_FM q a) A (pv_ZM) [.ref (a 0), .int x1, .int x2] σ out :=
  pv_ofI (by decide) (Nat.le_of_ble_eq_true rfl) hD (fun p e s m args below meth c Q ls C hret hl hP => s_Md_step_0 C hmv (Nat.le_refl _) (Nat.le_refl _) hret hl hP va_S.rf hf)
theorem d_Md_slots_0 : decode prog_9_method_49_code 0 = .ok (.aload_n 0, 1) := by decide +kernel
theorem d_Md_slots_1 : decode prog_9_method_49_code 1 = .ok (.iconst 0, 1) := by decide +kernel
theorem d_Md_slots_2 : decode prog_9_method_49_code 2 = .ok (.putfield 127, 3) := by decide +kernel
theorem d_Md_slots_5 : decode prog_9_method_49_code 5 = .ok (.iconst 0, 1) := by decide +kernel
theorem d_Md_slots_6 : decode prog_9_method_49_code 6 = .ok (.istore_n 1, 1) := by decide +kernel
theorem d_Md_slots_7 : decode prog_9_method_49_code 7 = .ok (.iconst 0, 1) := by decide +kernel
theorem d_Md_slots_8 : decode prog_9_method_49_code 8 = .ok (.istore_n 2, 1) := by decide +kernel
theorem d_Md_slots_9 : decode prog_9_method_49_code 9 = .ok (.iload_n 2, 1) := by decide +kernel
theorem d_Md_slots_10 : decode prog_9_method_49_code 10 = .ok (.aload_n 0, 1) := by decide +kernel
theorem d_Md_slots_11 : decode prog_9_method_49_code 11 = .ok (.getfield 279, 3) := by decide +kernel
theorem d_Md_slots_14 : decode prog_9_method_49_code 14 = .ok (.if_icmp .ge 39, 3) := by decide +kernel
theorem d_Md_slots_17 : decode prog_9_method_49_code 17 = .ok (.aload_n 0, 1) := by decide +kernel
theorem d_Md_slots_18 : decode prog_9_method_49_code 18 = .ok (.getfield 244, 3) := by decide +kernel
theorem d_Md_slots_21 : decode prog_9_method_49_code 21 = .ok (.ifCond .eq 32, 3) := by decide +kernel
theorem d_Md_slots_24 : decode prog_9_method_49_code 24 = .ok (.aload_n 0, 1) := by decide +kernel
theorem d_Md_slots_25 : decode prog_9_method_49_code 25 = .ok (.getfield 72, 3) := by decide +kernel
theorem d_Md_slots_28 : decode prog_9_method_49_code 28 = .ok (.iload_n 2, 1) := by decide +kernel
theorem d_Md_slots_29 : decode prog_9_method_49_code 29 = .ok (.iaload, 1) := by decide +kernel
theorem d_Md_slots_30 : decode prog_9_method_49_code 30 = .ok (.iload_n 1, 1) := by decide +kernel
theorem d_Md_slots_31 : decode prog_9_method_49_code 31 = .ok (.if_icmp .lt 14, 3) := by decide +kernel
theorem d_Md_slots_34 : decode prog_9_method_49_code 34 = .ok (.aload_n 0, 1) := by decide +kernel
theorem d_Md_slots_35 : decode prog_9_method_49_code 35 = .ok (.getfield 72, 3) := by decide +kernel
theorem d_Md_slots_38 : decode prog_9_method_49_code 38 = .ok (.iload_n 2, 1) := by decide +kernel
theorem d_Md_slots_39 : decode prog_9_method_49_code 39 = .ok (.iaload, 1) := by decide +kernel
theorem d_Md_slots_40 : decode prog_9_method_49_code 40 = .ok (.iconst 1, 1) := by decide +kernel
theorem d_Md_slots_41 : decode prog_9_method_49_code 41 = .ok (.iadd, 1) := by decide +kernel
theorem d_Md_slots_42 : decode prog_9_method_49_code 42 = .ok (.goto 4, 3) := by decide +kernel
theorem d_Md_slots_45 : decode prog_9_method_49_code 45 = .ok (.iload_n 1, 1) := by decide +kernel
theorem d_Md_slots_46 : decode prog_9_method_49_code 46 = .ok (.istore_n 1, 1) := by decide +kernel
theorem d_Md_slots_47 : decode prog_9_method_49_code 47 = .ok (.iinc 2 1, 3) := by decide +kernel
theorem d_Md_slots_50 : decode prog_9_method_49_code 50 = .ok (.goto (-41), 3) := by decide +kernel
theorem d_Md_slots_53 : decode prog_9_method_49_code 53 = .ok (.iload_n 1, 1) := by decide +kernel
theorem d_Md_slots_54 : decode prog_9_method_49_code 54 = .ok (.ireturn, 1) := by decide +kernel
def f_Md_slots_46 (k_9 : pv_S → Int32 → Int32 → Option (Int32 × pv_S)) (σ : pv_S) (x2 : Int32) (s0 : Int32) : Option (Int32 × pv_S) :=
  k_9 σ s0 (x2 + (1 : Int32))
set_option maxHeartbeats 4000000 in
set_option maxRecDepth 100000 in
theorem s_Md_slots_46 {p : Program} {l : Launch} {e : Env} {R : Room} {s : State} {m : MethodId} {args : Array Value} {below : List Frame} {meth : Method} {c : Code} {Q : State → Prop} {D : va_G} {q : Nat → ClassId} {a : Nat → Nat} {A : Nat → Prop} (C : pv_C p s m args c prog_9_method_49_code 3 "PatchVoicesModel" pv_TB D pv_cl (pv_ty q) 36 a A (pv_ZM)) (hmv : pv_mv A (pv_ZM)) (hRf : 0 ≤ R.frames) (hRl : 0 ≤ R.locals) {out : (Int32 × pv_S)} (hret : pv_Ri p l e R s m args below meth c prog_9_method_49_code D pv_cl 36 a (pv_FM q a) A Q out) {k_9 : pv_S → Int32 → Int32 → Option (Int32 × pv_S)} (hk_9 : ∀ (σ : pv_S) (x1 : Int32) (x2 : Int32) (H : Heap) (locs : List Loc) (ls : Array Slot), k_9 σ x1 x2 = some out → lv_has ls 3 [(0, .ref (a 0)), (1, .int x1), (2, .int x2)] → pv_W D pv_cl 36 a (pv_FM q a) σ H → va_S A s.heap H locs → W p l e R s m args below meth c H locs 0 0 Q (F0 m 9 ls [])) {σ : pv_S} {x2 : Int32} {s0 : Int32} {H : Heap} {locs : List Loc} {ls : Array Slot} (hl : lv_has ls 3 [(0, .ref (a 0)), (2, .int x2)]) (hP : pv_W D pv_cl 36 a (pv_FM q a) σ H) (hS : va_S A s.heap H locs) (hf : f_Md_slots_46 k_9 σ x2 s0 = some out) : W p l e R s m args below meth c H locs 0 0 Q (F0 m 46 ls [.int s0]) := by
  unfold f_Md_slots_46 at hf
  have hx := C.1
  have hb := C.2.1
  refine lv_istore_n (lv' := [(1, .int s0), (0, .ref (a 0)), (2, .int x2)]) hx hb d_Md_slots_46 rfl hl (by decide) rfl (fun ls hl => ?_)
  refine lv_iinc (k := 2) (v := (x2 + (1 : Int32))) (lv' := [(2, .int (x2 + (1 : Int32))), (1, .int s0), (0, .ref (a 0))]) hx hb d_Md_slots_47 hl rfl (pv_inc (by decide)) (by decide) rfl (fun ls hl => ?_)
  refine lv_goto (tgt := 9) hx hb d_Md_slots_50 (by decide) ?_
  exact hk_9 _ _ _ _ _ _ hf (lv_sub hl [2, 1, 0] rfl) hP hS
def f_Md_slots_9b (k_9 : pv_S → Int32 → Int32 → Option (Int32 × pv_S)) (σ : pv_S) (x1 : Int32) (x2 : Int32) : Option (Int32 × pv_S) :=
  (if (σ.1 0 28) ≤ x2 then
  some (x1, σ)
  else
  (if (σ.1 0 16) = 0 then
  some (x1, σ)
  else
  (if pv_in x2 48 = true then
(if (σ.1 20 (x2).toNatClampNeg) < x1 then
  f_Md_slots_46 k_9 σ x2 x1
  else
  (if pv_in x2 48 = true then
f_Md_slots_46 k_9 σ x2 ((σ.1 20 (x2).toNatClampNeg) + (1 : Int32))
  else none))
  else none)))
set_option maxHeartbeats 4000000 in
set_option maxRecDepth 100000 in
theorem s_Md_slots_9b {p : Program} {l : Launch} {e : Env} {R : Room} {s : State} {m : MethodId} {args : Array Value} {below : List Frame} {meth : Method} {c : Code} {Q : State → Prop} {D : va_G} {q : Nat → ClassId} {a : Nat → Nat} {A : Nat → Prop} (C : pv_C p s m args c prog_9_method_49_code 3 "PatchVoicesModel" pv_TB D pv_cl (pv_ty q) 36 a A (pv_ZM)) (hmv : pv_mv A (pv_ZM)) (hRf : 0 ≤ R.frames) (hRl : 0 ≤ R.locals) {out : (Int32 × pv_S)} (hret : pv_Ri p l e R s m args below meth c prog_9_method_49_code D pv_cl 36 a (pv_FM q a) A Q out) {k_9 : pv_S → Int32 → Int32 → Option (Int32 × pv_S)} (hk_9 : ∀ (σ : pv_S) (x1 : Int32) (x2 : Int32) (H : Heap) (locs : List Loc) (ls : Array Slot), k_9 σ x1 x2 = some out → lv_has ls 3 [(0, .ref (a 0)), (1, .int x1), (2, .int x2)] → pv_W D pv_cl 36 a (pv_FM q a) σ H → va_S A s.heap H locs → W p l e R s m args below meth c H locs 0 0 Q (F0 m 9 ls [])) {σ : pv_S} {x1 : Int32} {x2 : Int32} {H : Heap} {locs : List Loc} {ls : Array Slot} (hl : lv_has ls 3 [(0, .ref (a 0)), (1, .int x1), (2, .int x2)]) (hP : pv_W D pv_cl 36 a (pv_FM q a) σ H) (hS : va_S A s.heap H locs) (hf : f_Md_slots_9b k_9 σ x1 x2 = some out) : W p l e R s m args below meth c H locs 0 0 Q (F0 m 9 ls []) := by
  unfold f_Md_slots_9b at hf
  have hx := C.1
  have hb := C.2.1
  refine lv_iload_n hx hb d_Md_slots_9 rfl (lv_at hl 2 rfl) ?_
  refine lv_aload_n hx hb d_Md_slots_10 rfl (lv_at hl 0 rfl) ?_
  refine pv_get C hP (v := .int (σ.1 0 28)) (j := 28) (by decide) (fm_0 _ _ _ _) fl_Md_279 rfl d_Md_slots_11 ?_
  refine lv_icmp_ge (tgt := 53) hx hb d_Md_slots_14 (by decide) (fun h => ?_) (fun h => ?_)
  · have hf := pv_t hf h
    refine lv_iload_n hx hb d_Md_slots_53 rfl (lv_at hl 1 rfl) ?_
    obtain rfl := Option.some.inj hf
    exact hret _ _ _ _ d_Md_slots_54 hP hS
  · have hf := pv_f hf h
    refine lv_aload_n hx hb d_Md_slots_17 rfl (lv_at hl 0 rfl) ?_
    refine pv_get C hP (v := .int (σ.1 0 16)) (j := 16) (by decide) (fm_0 _ _ _ _) fl_Md_244 rfl d_Md_slots_18 ?_
    refine lv_if_eq (tgt := 53) hx hb d_Md_slots_21 (by decide) (fun h => ?_) (fun h => ?_)
    · have hf := pv_t hf h
      refine lv_iload_n hx hb d_Md_slots_53 rfl (lv_at hl 1 rfl) ?_
      obtain rfl := Option.some.inj hf
      exact hret _ _ _ _ d_Md_slots_54 hP hS
    · have hf := pv_f hf h
      refine lv_aload_n hx hb d_Md_slots_24 rfl (lv_at hl 0 rfl) ?_
      refine pv_get C hP (v := .ref (a 20)) (j := 31) (by decide) (fm_0 _ _ _ _) fl_Md_72 rfl d_Md_slots_25 ?_
      refine lv_iload_n hx hb d_Md_slots_28 rfl (lv_at hl 2 rfl) ?_
      obtain ⟨hg, hf⟩ := pv_g hf
      refine pv_iald C hP (t0 := 0) (by decide) (fm_20 _ _ _ _) rfl hg d_Md_slots_29 ?_
      refine lv_iload_n hx hb d_Md_slots_30 rfl (lv_at hl 1 rfl) ?_
      refine lv_icmp_lt (tgt := 45) hx hb d_Md_slots_31 (by decide) (fun h => ?_) (fun h => ?_)
      · have hf := pv_t hf h
        refine lv_iload_n hx hb d_Md_slots_45 rfl (lv_at hl 1 rfl) ?_
        exact s_Md_slots_46 C hmv hRf hRl hret hk_9 (lv_sub hl [0, 2] rfl) hP hS hf
      · have hf := pv_f hf h
        refine lv_aload_n hx hb d_Md_slots_34 rfl (lv_at hl 0 rfl) ?_
        refine pv_get C hP (v := .ref (a 20)) (j := 31) (by decide) (fm_0 _ _ _ _) fl_Md_72 rfl d_Md_slots_35 ?_
        refine lv_iload_n hx hb d_Md_slots_38 rfl (lv_at hl 2 rfl) ?_
        obtain ⟨hg, hf⟩ := pv_g hf
        refine pv_iald C hP (t0 := 0) (by decide) (fm_20 _ _ _ _) rfl hg d_Md_slots_39 ?_
        refine lv_iconst (v := (1 : Int32)) hx hb d_Md_slots_40 (by decide) ?_
        refine lv_iadd hx hb d_Md_slots_41 ?_
        refine lv_goto (tgt := 46) hx hb d_Md_slots_42 (by decide) ?_
        exact s_Md_slots_46 C hmv hRf hRl hret hk_9 (lv_sub hl [0, 2] rfl) hP hS hf
def f_Md_slots_9 : Nat → pv_S → Int32 → Int32 → Option (Int32 × pv_S)
  | 0 => fun _ _ _ => none
  | n + 1 => f_Md_slots_9b (f_Md_slots_9 n)
set_option maxHeartbeats 4000000 in
theorem s_Md_slots_9 {p : Program} {l : Launch} {e : Env} {R : Room} {s : State} {m : MethodId} {args : Array Value} {below : List Frame} {meth : Method} {c : Code} {Q : State → Prop} {D : va_G} {q : Nat → ClassId} {a : Nat → Nat} {A : Nat → Prop} (C : pv_C p s m args c prog_9_method_49_code 3 "PatchVoicesModel" pv_TB D pv_cl (pv_ty q) 36 a A (pv_ZM)) (hmv : pv_mv A (pv_ZM)) (hRf : 0 ≤ R.frames) (hRl : 0 ≤ R.locals) {out : (Int32 × pv_S)} (hret : pv_Ri p l e R s m args below meth c prog_9_method_49_code D pv_cl 36 a (pv_FM q a) A Q out) (n : Nat) : ∀ {σ : pv_S} {x1 : Int32} {x2 : Int32} {H : Heap} {locs : List Loc} {ls : Array Slot}, lv_has ls 3 [(0, .ref (a 0)), (1, .int x1), (2, .int x2)] → pv_W D pv_cl 36 a (pv_FM q a) σ H → va_S A s.heap H locs → f_Md_slots_9 n σ x1 x2 = some out → W p l e R s m args below meth c H locs 0 0 Q (F0 m 9 ls []) := by
  induction n with
  | zero => intro σ x1 x2 H locs ls hl hP hS hf; cases hf
  | succ n ih => intro σ x1 x2 H locs ls hl hP hS hf; exact s_Md_slots_9b C hmv hRf hRl hret (fun σ x1 x2 H locs ls hf hl hP hS => ih hl hP hS hf) hl hP hS hf
def f_Md_slots_0 (σ : pv_S) : Option (Int32 × pv_S) :=
  f_Md_slots_9 pv_fu (pv_uI σ 0 0 (0 : Int32)) (0 : Int32) (0 : Int32)
set_option maxHeartbeats 4000000 in
set_option maxRecDepth 100000 in
theorem s_Md_slots_0 {p : Program} {l : Launch} {e : Env} {R : Room} {s : State} {m : MethodId} {args : Array Value} {below : List Frame} {meth : Method} {c : Code} {Q : State → Prop} {D : va_G} {q : Nat → ClassId} {a : Nat → Nat} {A : Nat → Prop} (C : pv_C p s m args c prog_9_method_49_code 3 "PatchVoicesModel" pv_TB D pv_cl (pv_ty q) 36 a A (pv_ZM)) (hmv : pv_mv A (pv_ZM)) (hRf : 0 ≤ R.frames) (hRl : 0 ≤ R.locals) {out : (Int32 × pv_S)} (hret : pv_Ri p l e R s m args below meth c prog_9_method_49_code D pv_cl 36 a (pv_FM q a) A Q out) {σ : pv_S} {H : Heap} {locs : List Loc} {ls : Array Slot} (hl : lv_has ls 3 [(0, .ref (a 0))]) (hP : pv_W D pv_cl 36 a (pv_FM q a) σ H) (hS : va_S A s.heap H locs) (hf : f_Md_slots_0 σ = some out) : W p l e R s m args below meth c H locs 0 0 Q (F0 m 0 ls []) := by
  unfold f_Md_slots_0 at hf
  have hx := C.1
  have hb := C.2.1
  refine lv_aload_n hx hb d_Md_slots_0 rfl (lv_at hl 0 rfl) ?_
  refine lv_iconst (v := (0 : Int32)) hx hb d_Md_slots_1 (by decide) ?_
  refine pv_putI C hP hS (x := (0 : Int32)) (by decide) (fm_0 _ _ _ _) fw_Md_127 rfl rfl (Nat.le_of_ble_eq_true rfl) (fms_0_0 _ _ _ _ _) d_Md_slots_2 (fun H locs hP hS => ?_)
  refine lv_iconst (v := (0 : Int32)) hx hb d_Md_slots_5 (by decide) ?_
  refine lv_istore_n (lv' := [(1, .int (0 : Int32)), (0, .ref (a 0))]) hx hb d_Md_slots_6 rfl hl (by decide) rfl (fun ls hl => ?_)
  refine lv_iconst (v := (0 : Int32)) hx hb d_Md_slots_7 (by decide) ?_
  refine lv_istore_n (lv' := [(2, .int (0 : Int32)), (1, .int (0 : Int32)), (0, .ref (a 0))]) hx hb d_Md_slots_8 rfl hl (by decide) rfl (fun ls hl => ?_)
  exact s_Md_slots_9 C hmv hRf hRl hret pv_fu (lv_sub hl [2, 1, 0] rfl) hP hS hf
def f_Md_slots (σ : pv_S) : Option (Int32 × pv_S) := f_Md_slots_0 σ
def rm_Md_slots : Room := { frames := 0, cells := 0, slots := 0, locals := 0 }
theorem c_Md_slots {l : Launch} {D : va_G} {q : Nat → ClassId} {a : Nat → Nat} {A : Nat → Prop} (hD : pv_D 36 a A) (hmv : pv_mv A (pv_ZM)) {σ : pv_S} {out : (Int32 × pv_S)} (hf : f_Md_slots σ = some out) : pv_Mi l y_Md_slots (Cond.code y_Md_slots prog_9_method_49_code 3 (some .int) :: pv_TB) rm_Md_slots D pv_cl (pv_ty q) 36 a (pv_FM q a) A (pv_ZM) [.ref (a 0)] σ out :=
  pv_ofI (by decide) (Nat.le_of_ble_eq_true rfl) hD (fun p e s m args below meth c Q ls C hret hl hP => s_Md_slots_0 C hmv (Nat.le_refl _) (Nat.le_refl _) hret hl hP va_S.rf hf)
