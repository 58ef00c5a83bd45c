theorem d_Pg_isNone_0 : decode prog_4_method_2_code 0 = .ok (.aload_n 0, 1) := by decide +kernel
theorem d_Pg_isNone_1 : decode prog_4_method_2_code 1 = .ok (.getfield 12, 3) := by decide +kernel
theorem d_Pg_isNone_4 : decode prog_4_method_2_code 4 = .ok (.getfield 36, 3) := by decide +kernel
theorem d_Pg_isNone_7 : decode prog_4_method_2_code 7 = .ok (.ifCond .ne 7, 3) := by decide +kernel
theorem d_Pg_isNone_10 : decode prog_4_method_2_code 10 = .ok (.iconst 1, 1) := by decide +kernel
theorem d_Pg_isNone_11 : decode prog_4_method_2_code 11 = .ok (.goto 4, 3) := by decide +kernel
theorem d_Pg_isNone_14 : decode prog_4_method_2_code 14 = .ok (.iconst 0, 1) := by decide +kernel
theorem d_Pg_isNone_15 : decode prog_4_method_2_code 15 = .ok (.ireturn, 1) := by decide +kernel
def f_Pg_isNone_0 (σ : pv_S) : Option (Int32 × pv_S) :=
  (if (σ.1 12 0) = 0 then
  some ((1 : Int32), σ)
  else
  some ((0 : Int32), σ))
set_option maxHeartbeats 4000000 in
set_option maxRecDepth 100000 in
theorem s_Pg_isNone_0 {p : Program} {l : Launch} {e : Env} {R : Room} {s : State} {m : MethodId} {args : Array Value} {below : List Frame} {meth : Method} {c : Code} {Q : State → Prop} {D : va_G} {q : Nat → ClassId} {a t : Nat → Nat} {A : Nat → Prop} (C : pv_C p s m args c prog_4_method_2_code 1 "PatchVoices$Program" pv_TB D pv_cl (pv_ty q) 52 a A (pv_ZX t A)) (hmv : pv_mv A (pv_ZX t A)) (hRf : 0 ≤ R.frames) (hRl : 0 ≤ R.locals) {out : (Int32 × pv_S)} (hret : pv_Rz p l e R s m args below meth c prog_4_method_2_code D pv_cl 52 a (pv_FX q a) A Q out) {σ : pv_S} {H : Heap} {locs : List Loc} {ls : Array Slot} (hl : lv_has ls 1 [(0, .ref (a 11))]) (hP : pv_W D pv_cl 52 a (pv_FX q a) σ H) (hS : va_S A s.heap H locs) (hf : f_Pg_isNone_0 σ = some out) : W p l e R s m args below meth c H locs 0 0 Q (F0 m 0 ls []) := by
  unfold f_Pg_isNone_0 at hf
  have hx := C.1
  have hb := C.2.1
  refine lv_aload_n hx hb d_Pg_isNone_0 rfl (lv_at hl 0 rfl) ?_
  refine pv_get C hP (v := .ref (a 12)) (j := 0) (by decide) (fx_11 _ _ _ _) fl_Pg_12 rfl d_Pg_isNone_1 ?_
  refine pv_get C hP (v := .int (σ.1 12 0)) (j := 0) (by decide) (fx_12 _ _ _ _) fl_Pg_36 rfl d_Pg_isNone_4 ?_
  refine lv_if_ne (tgt := 14) hx hb d_Pg_isNone_7 (by decide) (fun h => ?_) (fun h => ?_)
  · have hf := pv_f hf h
    refine lv_iconst (v := (0 : Int32)) hx hb d_Pg_isNone_14 (by decide) ?_
    obtain rfl := Option.some.inj hf
    exact hret _ _ _ _ d_Pg_isNone_15 rfl hP hS
  · have hf := pv_t hf h
    refine lv_iconst (v := (1 : Int32)) hx hb d_Pg_isNone_10 (by decide) ?_
    refine lv_goto (tgt := 15) hx hb d_Pg_isNone_11 (by decide) ?_
    obtain rfl := Option.some.inj hf
    exact hret _ _ _ _ d_Pg_isNone_15 rfl hP hS
def f_Pg_isNone (σ : pv_S) : Option (Int32 × pv_S) := f_Pg_isNone_0 σ
def rm_Pg_isNone : Room := { frames := 0, cells := 0, slots := 0, locals := 0 }
theorem c_Pg_isNone {l : Launch} {D : va_G} {q : Nat → ClassId} {a t : Nat → Nat} {A : Nat → Prop} (hD : pv_D 52 a A) (hmv : pv_mv A (pv_ZX t A)) {σ : pv_S} {out : (Int32 × pv_S)} (hf : f_Pg_isNone σ = some out) : pv_Mi l y_Pg_isNone (Cond.code y_Pg_isNone prog_4_method_2_code 1 (some .boolean) :: pv_TB) rm_Pg_isNone D pv_cl (pv_ty q) 52 a (pv_FX q a) A (pv_ZX t A) [.ref (a 11)] σ out :=
  pv_ofZ (by decide) (Nat.le_of_ble_eq_true rfl) hD (fun p e s m args below meth c Q ls C hret hl hP => s_Pg_isNone_0 C hmv (Nat.le_refl _) (Nat.le_refl _) hret hl hP va_S.rf hf)
theorem d_Pg_listSteps_0 : decode prog_4_method_4_code 0 = .ok (.aload_n 0, 1) := by decide +kernel
theorem d_Pg_listSteps_1 : decode prog_4_method_4_code 1 = .ok (.iconst 0, 1) := by decide +kernel
theorem d_Pg_listSteps_2 : decode prog_4_method_4_code 2 = .ok (.putfield 56, 3) := by decide +kernel
theorem d_Pg_listSteps_5 : decode prog_4_method_4_code 5 = .ok (.iconst 0, 1) := by decide +kernel
theorem d_Pg_listSteps_6 : decode prog_4_method_4_code 6 = .ok (.istore_n 1, 1) := by decide +kernel
theorem d_Pg_listSteps_7 : decode prog_4_method_4_code 7 = .ok (.iload_n 1, 1) := by decide +kernel
theorem d_Pg_listSteps_8 : decode prog_4_method_4_code 8 = .ok (.aload_n 0, 1) := by decide +kernel
theorem d_Pg_listSteps_9 : decode prog_4_method_4_code 9 = .ok (.getfield 12, 3) := by decide +kernel
theorem d_Pg_listSteps_12 : decode prog_4_method_4_code 12 = .ok (.getfield 36, 3) := by decide +kernel
theorem d_Pg_listSteps_15 : decode prog_4_method_4_code 15 = .ok (.if_icmp .ge 57, 3) := by decide +kernel
theorem d_Pg_listSteps_18 : decode prog_4_method_4_code 18 = .ok (.aload_n 0, 1) := by decide +kernel
theorem d_Pg_listSteps_19 : decode prog_4_method_4_code 19 = .ok (.getfield 12, 3) := by decide +kernel
theorem d_Pg_listSteps_22 : decode prog_4_method_4_code 22 = .ok (.getfield 59, 3) := by decide +kernel
theorem d_Pg_listSteps_25 : decode prog_4_method_4_code 25 = .ok (.aload_n 0, 1) := by decide +kernel
theorem d_Pg_listSteps_26 : decode prog_4_method_4_code 26 = .ok (.getfield 12, 3) := by decide +kernel
theorem d_Pg_listSteps_29 : decode prog_4_method_4_code 29 = .ok (.getfield 63, 3) := by decide +kernel
theorem d_Pg_listSteps_32 : decode prog_4_method_4_code 32 = .ok (.iload_n 1, 1) := by decide +kernel
theorem d_Pg_listSteps_33 : decode prog_4_method_4_code 33 = .ok (.iaload, 1) := by decide +kernel
theorem d_Pg_listSteps_34 : decode prog_4_method_4_code 34 = .ok (.baload, 1) := by decide +kernel
theorem d_Pg_listSteps_35 : decode prog_4_method_4_code 35 = .ok (.ifCond .eq 31, 3) := by decide +kernel
theorem d_Pg_listSteps_38 : decode prog_4_method_4_code 38 = .ok (.aload_n 0, 1) := by decide +kernel
theorem d_Pg_listSteps_39 : decode prog_4_method_4_code 39 = .ok (.getfield 20, 3) := by decide +kernel
theorem d_Pg_listSteps_42 : decode prog_4_method_4_code 42 = .ok (.aload_n 0, 1) := by decide +kernel
theorem d_Pg_listSteps_43 : decode prog_4_method_4_code 43 = .ok (.getfield 56, 3) := by decide +kernel
theorem d_Pg_listSteps_46 : decode prog_4_method_4_code 46 = .ok (.aload_n 0, 1) := by decide +kernel
theorem d_Pg_listSteps_47 : decode prog_4_method_4_code 47 = .ok (.getfield 12, 3) := by decide +kernel
theorem d_Pg_listSteps_50 : decode prog_4_method_4_code 50 = .ok (.getfield 63, 3) := by decide +kernel
theorem d_Pg_listSteps_53 : decode prog_4_method_4_code 53 = .ok (.iload_n 1, 1) := by decide +kernel
theorem d_Pg_listSteps_54 : decode prog_4_method_4_code 54 = .ok (.iaload, 1) := by decide +kernel
theorem d_Pg_listSteps_55 : decode prog_4_method_4_code 55 = .ok (.iastore, 1) := by decide +kernel
theorem d_Pg_listSteps_56 : decode prog_4_method_4_code 56 = .ok (.aload_n 0, 1) := by decide +kernel
theorem d_Pg_listSteps_57 : decode prog_4_method_4_code 57 = .ok (.dup, 1) := by decide +kernel
theorem d_Pg_listSteps_58 : decode prog_4_method_4_code 58 = .ok (.getfield 56, 3) := by decide +kernel
theorem d_Pg_listSteps_61 : decode prog_4_method_4_code 61 = .ok (.iconst 1, 1) := by decide +kernel
theorem d_Pg_listSteps_62 : decode prog_4_method_4_code 62 = .ok (.iadd, 1) := by decide +kernel
theorem d_Pg_listSteps_63 : decode prog_4_method_4_code 63 = .ok (.putfield 56, 3) := by decide +kernel
theorem d_Pg_listSteps_66 : decode prog_4_method_4_code 66 = .ok (.iinc 1 1, 3) := by decide +kernel
theorem d_Pg_listSteps_69 : decode prog_4_method_4_code 69 = .ok (.goto (-62), 3) := by decide +kernel
theorem d_Pg_listSteps_72 : decode prog_4_method_4_code 72 = .ok (.aload_n 0, 1) := by decide +kernel
theorem d_Pg_listSteps_73 : decode prog_4_method_4_code 73 = .ok (.aload_n 0, 1) := by decide +kernel
theorem d_Pg_listSteps_74 : decode prog_4_method_4_code 74 = .ok (.getfield 56, 3) := by decide +kernel
theorem d_Pg_listSteps_77 : decode prog_4_method_4_code 77 = .ok (.putfield 66, 3) := by decide +kernel
theorem d_Pg_listSteps_80 : decode prog_4_method_4_code 80 = .ok (.iconst 0, 1) := by decide +kernel
theorem d_Pg_listSteps_81 : decode prog_4_method_4_code 81 = .ok (.istore_n 1, 1) := by decide +kernel
theorem d_Pg_listSteps_82 : decode prog_4_method_4_code 82 = .ok (.iload_n 1, 1) := by decide +kernel
theorem d_Pg_listSteps_83 : decode prog_4_method_4_code 83 = .ok (.aload_n 0, 1) := by decide +kernel
theorem d_Pg_listSteps_84 : decode prog_4_method_4_code 84 = .ok (.getfield 66, 3) := by decide +kernel
theorem d_Pg_listSteps_87 : decode prog_4_method_4_code 87 = .ok (.if_icmp .ge 53, 3) := by decide +kernel
theorem d_Pg_listSteps_90 : decode prog_4_method_4_code 90 = .ok (.aload_n 0, 1) := by decide +kernel
theorem d_Pg_listSteps_91 : decode prog_4_method_4_code 91 = .ok (.getfield 12, 3) := by decide +kernel
theorem d_Pg_listSteps_94 : decode prog_4_method_4_code 94 = .ok (.getfield 69, 3) := by decide +kernel
theorem d_Pg_listSteps_97 : decode prog_4_method_4_code 97 = .ok (.aload_n 0, 1) := by decide +kernel
theorem d_Pg_listSteps_98 : decode prog_4_method_4_code 98 = .ok (.getfield 20, 3) := by decide +kernel
theorem d_Pg_listSteps_101 : decode prog_4_method_4_code 101 = .ok (.iload_n 1, 1) := by decide +kernel
theorem d_Pg_listSteps_102 : decode prog_4_method_4_code 102 = .ok (.iaload, 1) := by decide +kernel
theorem d_Pg_listSteps_103 : decode prog_4_method_4_code 103 = .ok (.iaload, 1) := by decide +kernel
theorem d_Pg_listSteps_104 : decode prog_4_method_4_code 104 = .ok (.bipush 18, 2) := by decide +kernel
theorem d_Pg_listSteps_106 : decode prog_4_method_4_code 106 = .ok (.if_icmp .ne 28, 3) := by decide +kernel
theorem d_Pg_listSteps_109 : decode prog_4_method_4_code 109 = .ok (.aload_n 0, 1) := by decide +kernel
theorem d_Pg_listSteps_110 : decode prog_4_method_4_code 110 = .ok (.getfield 20, 3) := by decide +kernel
theorem d_Pg_listSteps_113 : decode prog_4_method_4_code 113 = .ok (.aload_n 0, 1) := by decide +kernel
theorem d_Pg_listSteps_114 : decode prog_4_method_4_code 114 = .ok (.getfield 56, 3) := by decide +kernel
theorem d_Pg_listSteps_117 : decode prog_4_method_4_code 117 = .ok (.aload_n 0, 1) := by decide +kernel
theorem d_Pg_listSteps_118 : decode prog_4_method_4_code 118 = .ok (.getfield 20, 3) := by decide +kernel
theorem d_Pg_listSteps_121 : decode prog_4_method_4_code 121 = .ok (.iload_n 1, 1) := by decide +kernel
theorem d_Pg_listSteps_122 : decode prog_4_method_4_code 122 = .ok (.iaload, 1) := by decide +kernel
theorem d_Pg_listSteps_123 : decode prog_4_method_4_code 123 = .ok (.iastore, 1) := by decide +kernel
theorem d_Pg_listSteps_124 : decode prog_4_method_4_code 124 = .ok (.aload_n 0, 1) := by decide +kernel
theorem d_Pg_listSteps_125 : decode prog_4_method_4_code 125 = .ok (.dup, 1) := by decide +kernel
theorem d_Pg_listSteps_126 : decode prog_4_method_4_code 126 = .ok (.getfield 56, 3) := by decide +kernel
theorem d_Pg_listSteps_129 : decode prog_4_method_4_code 129 = .ok (.iconst 1, 1) := by decide +kernel
theorem d_Pg_listSteps_130 : decode prog_4_method_4_code 130 = .ok (.iadd, 1) := by decide +kernel
theorem d_Pg_listSteps_131 : decode prog_4_method_4_code 131 = .ok (.putfield 56, 3) := by decide +kernel
theorem d_Pg_listSteps_134 : decode prog_4_method_4_code 134 = .ok (.iinc 1 1, 3) := by decide +kernel
theorem d_Pg_listSteps_137 : decode prog_4_method_4_code 137 = .ok (.goto (-55), 3) := by decide +kernel
theorem d_Pg_listSteps_140 : decode prog_4_method_4_code 140 = .ok (.return_, 1) := by decide +kernel
def f_Pg_listSteps_134 (k_82 : pv_S → Int32 → Option pv_S) (σ : pv_S) (x1 : Int32) : Option pv_S :=
  k_82 σ (x1 + (1 : Int32))
set_option maxHeartbeats 4000000 in
set_option maxRecDepth 100000 in
theorem s_Pg_listSteps_134 {p : Program} {l : Launch} {e : Env} {R : Room} {s : State} {m : MethodId} {args : Array Value} {below : List Frame} {meth : Method} {c : Code} {Q : State → Prop} {D : va_G} {q : Nat → ClassId} {a t : Nat → Nat} {A : Nat → Prop} (C : pv_C p s m args c prog_4_method_4_code 2 "PatchVoices$Program" pv_TB D pv_cl (pv_ty q) 52 a A (pv_ZX t A)) (hmv : pv_mv A (pv_ZX t A)) (hRf : 0 ≤ R.frames) (hRl : 0 ≤ R.locals) {out : pv_S} (hret : pv_Rv p l e R s m args below meth c prog_4_method_4_code D pv_cl 52 a (pv_FX q a) A Q out) {k_82 : pv_S → Int32 → Option pv_S} (hk_82 : ∀ (σ : pv_S) (x1 : Int32) (H : Heap) (locs : List Loc) (ls : Array Slot), k_82 σ x1 = some out → lv_has ls 2 [(0, .ref (a 11)), (1, .int x1)] → pv_W D pv_cl 52 a (pv_FX q a) σ H → va_S A s.heap H locs → W p l e R s m args below meth c H locs 0 0 Q (F0 m 82 ls [])) {σ : pv_S} {x1 : Int32} {H : Heap} {locs : List Loc} {ls : Array Slot} (hl : lv_has ls 2 [(0, .ref (a 11)), (1, .int x1)]) (hP : pv_W D pv_cl 52 a (pv_FX q a) σ H) (hS : va_S A s.heap H locs) (hf : f_Pg_listSteps_134 k_82 σ x1 = some out) : W p l e R s m args below meth c H locs 0 0 Q (F0 m 134 ls []) := by
  unfold f_Pg_listSteps_134 at hf
  have hx := C.1
  have hb := C.2.1
  refine lv_iinc (k := 1) (v := (x1 + (1 : Int32))) (lv' := [(1, .int (x1 + (1 : Int32))), (0, .ref (a 11))]) hx hb d_Pg_listSteps_134 hl rfl (pv_inc (by decide)) (by decide) rfl (fun ls hl => ?_)
  refine lv_goto (tgt := 82) hx hb d_Pg_listSteps_137 (by decide) ?_
  exact hk_82 _ _ _ _ _ hf (lv_sub hl [1, 0] rfl) hP hS
def f_Pg_listSteps_82b (k_82 : pv_S → Int32 → Option pv_S) (σ : pv_S) (x1 : Int32) : Option pv_S :=
  (if (σ.1 11 2) ≤ x1 then
  some σ
  else
  (if pv_in x1 48 = true then
(if pv_in (σ.1 20 (x1).toNatClampNeg) 24 = true then
(if (σ.1 13 ((σ.1 20 (x1).toNatClampNeg)).toNatClampNeg) = (18 : Int32) then
  (if pv_in x1 48 = true then
(if pv_in (σ.1 11 1) 48 = true then
f_Pg_listSteps_134 k_82 (pv_uI (pv_uI σ 20 ((σ.1 11 1)).toNatClampNeg (σ.1 20 (x1).toNatClampNeg)) 11 1 (((pv_uI σ 20 ((σ.1 11 1)).toNatClampNeg (σ.1 20 (x1).toNatClampNeg)).1 11 1) + (1 : Int32))) x1
  else none)
  else none)
  else
  f_Pg_listSteps_134 k_82 σ x1)
  else none)
  else none))
set_option maxHeartbeats 4000000 in
set_option maxRecDepth 100000 in
theorem s_Pg_listSteps_82b {p : Program} {l : Launch} {e : Env} {R : Room} {s : State} {m : MethodId} {args : Array Value} {below : List Frame} {meth : Method} {c : Code} {Q : State → Prop} {D : va_G} {q : Nat → ClassId} {a t : Nat → Nat} {A : Nat → Prop} (C : pv_C p s m args c prog_4_method_4_code 2 "PatchVoices$Program" pv_TB D pv_cl (pv_ty q) 52 a A (pv_ZX t A)) (hmv : pv_mv A (pv_ZX t A)) (hRf : 0 ≤ R.frames) (hRl : 0 ≤ R.locals) {out : pv_S} (hret : pv_Rv p l e R s m args below meth c prog_4_method_4_code D pv_cl 52 a (pv_FX q a) A Q out) {k_82 : pv_S → Int32 → Option pv_S} (hk_82 : ∀ (σ : pv_S) (x1 : Int32) (H : Heap) (locs : List Loc) (ls : Array Slot), k_82 σ x1 = some out → lv_has ls 2 [(0, .ref (a 11)), (1, .int x1)] → pv_W D pv_cl 52 a (pv_FX q a) σ H → va_S A s.heap H locs → W p l e R s m args below meth c H locs 0 0 Q (F0 m 82 ls [])) {σ : pv_S} {x1 : Int32} {H : Heap} {locs : List Loc} {ls : Array Slot} (hl : lv_has ls 2 [(0, .ref (a 11)), (1, .int x1)]) (hP : pv_W D pv_cl 52 a (pv_FX q a) σ H) (hS : va_S A s.heap H locs) (hf : f_Pg_listSteps_82b k_82 σ x1 = some out) : W p l e R s m args below meth c H locs 0 0 Q (F0 m 82 ls []) := by
  unfold f_Pg_listSteps_82b at hf
  have hx := C.1
  have hb := C.2.1
  refine lv_iload_n hx hb d_Pg_listSteps_82 rfl (lv_at hl 1 rfl) ?_
  refine lv_aload_n hx hb d_Pg_listSteps_83 rfl (lv_at hl 0 rfl) ?_
  refine pv_get C hP (v := .int (σ.1 11 2)) (j := 2) (by decide) (fx_11 _ _ _ _) fl_Pg_66 rfl d_Pg_listSteps_84 ?_
  refine lv_icmp_ge (tgt := 140) hx hb d_Pg_listSteps_87 (by decide) (fun h => ?_) (fun h => ?_)
  · have hf := pv_t hf h
    obtain rfl := Option.some.inj hf
    exact hret _ _ _ _ d_Pg_listSteps_140 hP hS
  · have hf := pv_f hf h
    refine lv_aload_n hx hb d_Pg_listSteps_90 rfl (lv_at hl 0 rfl) ?_
    refine pv_get C hP (v := .ref (a 12)) (j := 0) (by decide) (fx_11 _ _ _ _) fl_Pg_12 rfl d_Pg_listSteps_91 ?_
    refine pv_get C hP (v := .ref (a 13)) (j := 1) (by decide) (fx_12 _ _ _ _) fl_Pg_69 rfl d_Pg_listSteps_94 ?_
    refine lv_aload_n hx hb d_Pg_listSteps_97 rfl (lv_at hl 0 rfl) ?_
    refine pv_get C hP (v := .ref (a 20)) (j := 3) (by decide) (fx_11 _ _ _ _) fl_Pg_20 rfl d_Pg_listSteps_98 ?_
    refine lv_iload_n hx hb d_Pg_listSteps_101 rfl (lv_at hl 1 rfl) ?_
    obtain ⟨hg, hf⟩ := pv_g hf
    refine pv_iald C hP (t0 := 0) (by decide) (fx_20 _ _ _ _) rfl hg d_Pg_listSteps_102 ?_
    obtain ⟨hg, hf⟩ := pv_g hf
    refine pv_iald C hP (t0 := 0) (by decide) (fx_13 _ _ _ _) rfl hg d_Pg_listSteps_103 ?_
    refine lv_bipush (v := (18 : Int32)) hx hb d_Pg_listSteps_104 (by decide) ?_
    refine lv_icmp_ne (tgt := 134) hx hb d_Pg_listSteps_106 (by decide) (fun h => ?_) (fun h => ?_)
    · have hf := pv_f hf h
      exact s_Pg_listSteps_134 C hmv hRf hRl hret hk_82 (lv_sub hl [0, 1] rfl) hP hS hf
    · have hf := pv_t hf h
      refine lv_aload_n hx hb d_Pg_listSteps_109 rfl (lv_at hl 0 rfl) ?_
      refine pv_get C hP (v := .ref (a 20)) (j := 3) (by decide) (fx_11 _ _ _ _) fl_Pg_20 rfl d_Pg_listSteps_110 ?_
      refine lv_aload_n hx hb d_Pg_listSteps_113 rfl (lv_at hl 0 rfl) ?_
      refine pv_get C hP (v := .int (σ.1 11 1)) (j := 1) (by decide) (fx_11 _ _ _ _) fl_Pg_56 rfl d_Pg_listSteps_114 ?_
      refine lv_aload_n hx hb d_Pg_listSteps_117 rfl (lv_at hl 0 rfl) ?_
      refine pv_get C hP (v := .ref (a 20)) (j := 3) (by decide) (fx_11 _ _ _ _) fl_Pg_20 rfl d_Pg_listSteps_118 ?_
      refine lv_iload_n hx hb d_Pg_listSteps_121 rfl (lv_at hl 1 rfl) ?_
      obtain ⟨hg, hf⟩ := pv_g hf
      refine pv_iald C hP (t0 := 0) (by decide) (fx_20 _ _ _ _) rfl hg d_Pg_listSteps_122 ?_
      obtain ⟨hg, hf⟩ := pv_g hf
      refine pv_iast C hP hS (t0 := 0) (x := (σ.1 20 (x1).toNatClampNeg)) (by decide) (fun f g => (fx_20 _ _ f g)) rfl hg d_Pg_listSteps_123 (fun H locs hP hS => ?_)
      refine lv_aload_n hx hb d_Pg_listSteps_124 rfl (lv_at hl 0 rfl) ?_
      refine lv_dup hx hb d_Pg_listSteps_125 rfl ?_
      refine pv_get C hP (v := .int ((pv_uI σ 20 ((σ.1 11 1)).toNatClampNeg (σ.1 20 (x1).toNatClampNeg)).1 11 1)) (j := 1) (by decide) (fx_11 _ _ _ _) fl_Pg_56 rfl d_Pg_listSteps_126 ?_
      refine lv_iconst (v := (1 : Int32)) hx hb d_Pg_listSteps_129 (by decide) ?_
      refine lv_iadd hx hb d_Pg_listSteps_130 ?_
      refine pv_putI C hP hS (x := (((pv_uI σ 20 ((σ.1 11 1)).toNatClampNeg (σ.1 20 (x1).toNatClampNeg)).1 11 1) + (1 : Int32))) (by decide) (fx_11 _ _ _ _) fw_Pg_56 rfl rfl (Nat.le_of_ble_eq_true rfl) (fxs_11_1 _ _ _ _ _) d_Pg_listSteps_131 (fun H locs hP hS => ?_)
      exact s_Pg_listSteps_134 C hmv hRf hRl hret hk_82 (lv_sub hl [0, 1] rfl) hP hS hf
def f_Pg_listSteps_82 : Nat → pv_S → Int32 → Option pv_S
  | 0 => fun _ _ => none
  | n + 1 => f_Pg_listSteps_82b (f_Pg_listSteps_82 n)
set_option maxHeartbeats 4000000 in
theorem s_Pg_listSteps_82 {p : Program} {l : Launch} {e : Env} {R : Room} {s : State} {m : MethodId} {args : Array Value} {below : List Frame} {meth : Method} {c : Code} {Q : State → Prop} {D : va_G} {q : Nat → ClassId} {a t : Nat → Nat} {A : Nat → Prop} (C : pv_C p s m args c prog_4_method_4_code 2 "PatchVoices$Program" pv_TB D pv_cl (pv_ty q) 52 a A (pv_ZX t A)) (hmv : pv_mv A (pv_ZX t A)) (hRf : 0 ≤ R.frames) (hRl : 0 ≤ R.locals) {out : pv_S} (hret : pv_Rv p l e R s m args below meth c prog_4_method_4_code D pv_cl 52 a (pv_FX q a) A Q out) (n : Nat) : ∀ {σ : pv_S} {x1 : Int32} {H : Heap} {locs : List Loc} {ls : Array Slot}, lv_has ls 2 [(0, .ref (a 11)), (1, .int x1)] → pv_W D pv_cl 52 a (pv_FX q a) σ H → va_S A s.heap H locs → f_Pg_listSteps_82 n σ x1 = some out → W p l e R s m args below meth c H locs 0 0 Q (F0 m 82 ls []) := by
  induction n with
  | zero => intro σ x1 H locs ls hl hP hS hf; cases hf
  | succ n ih => intro σ x1 H locs ls hl hP hS hf; exact s_Pg_listSteps_82b C hmv hRf hRl hret (fun σ x1 H locs ls hf hl hP hS => ih hl hP hS hf) hl hP hS hf
def f_Pg_listSteps_66 (k_7 : pv_S → Int32 → Option pv_S) (σ : pv_S) (x1 : Int32) : Option pv_S :=
  k_7 σ (x1 + (1 : Int32))
set_option maxHeartbeats 4000000 in
set_option maxRecDepth 100000 in
theorem s_Pg_listSteps_66 {p : Program} {l : Launch} {e : Env} {R : Room} {s : State} {m : MethodId} {args : Array Value} {below : List Frame} {meth : Method} {c : Code} {Q : State → Prop} {D : va_G} {q : Nat → ClassId} {a t : Nat → Nat} {A : Nat → Prop} (C : pv_C p s m args c prog_4_method_4_code 2 "PatchVoices$Program" pv_TB D pv_cl (pv_ty q) 52 a A (pv_ZX t A)) (hmv : pv_mv A (pv_ZX t A)) (hRf : 0 ≤ R.frames) (hRl : 0 ≤ R.locals) {out : pv_S} (hret : pv_Rv p l e R s m args below meth c prog_4_method_4_code D pv_cl 52 a (pv_FX q a) A Q out) {k_7 : pv_S → Int32 → Option pv_S} (hk_7 : ∀ (σ : pv_S) (x1 : Int32) (H : Heap) (locs : List Loc) (ls : Array Slot), k_7 σ x1 = some out → lv_has ls 2 [(0, .ref (a 11)), (1, .int x1)] → pv_W D pv_cl 52 a (pv_FX q a) σ H → va_S A s.heap H locs → W p l e R s m args below meth c H locs 0 0 Q (F0 m 7 ls [])) {σ : pv_S} {x1 : Int32} {H : Heap} {locs : List Loc} {ls : Array Slot} (hl : lv_has ls 2 [(0, .ref (a 11)), (1, .int x1)]) (hP : pv_W D pv_cl 52 a (pv_FX q a) σ H) (hS : va_S A s.heap H locs) (hf : f_Pg_listSteps_66 k_7 σ x1 = some out) : W p l e R s m args below meth c H locs 0 0 Q (F0 m 66 ls []) := by
  unfold f_Pg_listSteps_66 at hf
  have hx := C.1
  have hb := C.2.1
  refine lv_iinc (k := 1) (v := (x1 + (1 : Int32))) (lv' := [(1, .int (x1 + (1 : Int32))), (0, .ref (a 11))]) hx hb d_Pg_listSteps_66 hl rfl (pv_inc (by decide)) (by decide) rfl (fun ls hl => ?_)
  refine lv_goto (tgt := 7) hx hb d_Pg_listSteps_69 (by decide) ?_
  exact hk_7 _ _ _ _ _ hf (lv_sub hl [1, 0] rfl) hP hS
def f_Pg_listSteps_7b (k_7 : pv_S → Int32 → Option pv_S) (σ : pv_S) (x1 : Int32) : Option pv_S :=
  (if (σ.1 12 0) ≤ x1 then
  f_Pg_listSteps_82 pv_fu (pv_uI σ 11 2 (σ.1 11 1)) (0 : Int32)
  else
  (if pv_in x1 24 = true then
(if pv_in (σ.1 16 (x1).toNatClampNeg) 24 = true then
(if (σ.1 17 ((σ.1 16 (x1).toNatClampNeg)).toNatClampNeg) = 0 then
  f_Pg_listSteps_66 k_7 σ x1
  else
  (if pv_in x1 24 = true then
(if pv_in (σ.1 11 1) 48 = true then
f_Pg_listSteps_66 k_7 (pv_uI (pv_uI σ 20 ((σ.1 11 1)).toNatClampNeg (σ.1 16 (x1).toNatClampNeg)) 11 1 (((pv_uI σ 20 ((σ.1 11 1)).toNatClampNeg (σ.1 16 (x1).toNatClampNeg)).1 11 1) + (1 : Int32))) x1
  else none)
  else none))
  else none)
  else none))
set_option maxHeartbeats 4000000 in
set_option maxRecDepth 100000 in
theorem s_Pg_listSteps_7b {p : Program} {l : Launch} {e : Env} {R : Room} {s : State} {m : MethodId} {args : Array Value} {below : List Frame} {meth : Method} {c : Code} {Q : State → Prop} {D : va_G} {q : Nat → ClassId} {a t : Nat → Nat} {A : Nat → Prop} (C : pv_C p s m args c prog_4_method_4_code 2 "PatchVoices$Program" pv_TB D pv_cl (pv_ty q) 52 a A (pv_ZX t A)) (hmv : pv_mv A (pv_ZX t A)) (hRf : 0 ≤ R.frames) (hRl : 0 ≤ R.locals) {out : pv_S} (hret : pv_Rv p l e R s m args below meth c prog_4_method_4_code D pv_cl 52 a (pv_FX q a) A Q out) {k_7 : pv_S → Int32 → Option pv_S} (hk_7 : ∀ (σ : pv_S) (x1 : Int32) (H : Heap) (locs : List Loc) (ls : Array Slot), k_7 σ x1 = some out → lv_has ls 2 [(0, .ref (a 11)), (1, .int x1)] → pv_W D pv_cl 52 a (pv_FX q a) σ H → va_S A s.heap H locs → W p l e R s m args below meth c H locs 0 0 Q (F0 m 7 ls [])) {σ : pv_S} {x1 : Int32} {H : Heap} {locs : List Loc} {ls : Array Slot} (hl : lv_has ls 2 [(0, .ref (a 11)), (1, .int x1)]) (hP : pv_W D pv_cl 52 a (pv_FX q a) σ H) (hS : va_S A s.heap H locs) (hf : f_Pg_listSteps_7b k_7 σ x1 = some out) : W p l e R s m args below meth c H locs 0 0 Q (F0 m 7 ls []) := by
  unfold f_Pg_listSteps_7b at hf
  have hx := C.1
  have hb := C.2.1
  refine lv_iload_n hx hb d_Pg_listSteps_7 rfl (lv_at hl 1 rfl) ?_
  refine lv_aload_n hx hb d_Pg_listSteps_8 rfl (lv_at hl 0 rfl) ?_
  refine pv_get C hP (v := .ref (a 12)) (j := 0) (by decide) (fx_11 _ _ _ _) fl_Pg_12 rfl d_Pg_listSteps_9 ?_
  refine pv_get C hP (v := .int (σ.1 12 0)) (j := 0) (by decide) (fx_12 _ _ _ _) fl_Pg_36 rfl d_Pg_listSteps_12 ?_
  refine lv_icmp_ge (tgt := 72) hx hb d_Pg_listSteps_15 (by decide) (fun h => ?_) (fun h => ?_)
  · have hf := pv_t hf h
    refine lv_aload_n hx hb d_Pg_listSteps_72 rfl (lv_at hl 0 rfl) ?_
    refine lv_aload_n hx hb d_Pg_listSteps_73 rfl (lv_at hl 0 rfl) ?_
    refine pv_get C hP (v := .int (σ.1 11 1)) (j := 1) (by decide) (fx_11 _ _ _ _) fl_Pg_56 rfl d_Pg_listSteps_74 ?_
    refine pv_putI C hP hS (x := (σ.1 11 1)) (by decide) (fx_11 _ _ _ _) fw_Pg_66 rfl rfl (Nat.le_of_ble_eq_true rfl) (fxs_11_2 _ _ _ _ _) d_Pg_listSteps_77 (fun H locs hP hS => ?_)
    refine lv_iconst (v := (0 : Int32)) hx hb d_Pg_listSteps_80 (by decide) ?_
    refine lv_istore_n (lv' := [(1, .int (0 : Int32)), (0, .ref (a 11))]) hx hb d_Pg_listSteps_81 rfl hl (by decide) rfl (fun ls hl => ?_)
    exact s_Pg_listSteps_82 C hmv hRf hRl hret pv_fu (lv_sub hl [1, 0] rfl) hP hS hf
  · have hf := pv_f hf h
    refine lv_aload_n hx hb d_Pg_listSteps_18 rfl (lv_at hl 0 rfl) ?_
    refine pv_get C hP (v := .ref (a 12)) (j := 0) (by decide) (fx_11 _ _ _ _) fl_Pg_12 rfl d_Pg_listSteps_19 ?_
    refine pv_get C hP (v := .ref (a 17)) (j := 5) (by decide) (fx_12 _ _ _ _) fl_Pg_59 rfl d_Pg_listSteps_22 ?_
    refine lv_aload_n hx hb d_Pg_listSteps_25 rfl (lv_at hl 0 rfl) ?_
    refine pv_get C hP (v := .ref (a 12)) (j := 0) (by decide) (fx_11 _ _ _ _) fl_Pg_12 rfl d_Pg_listSteps_26 ?_
    refine pv_get C hP (v := .ref (a 16)) (j := 4) (by decide) (fx_12 _ _ _ _) fl_Pg_63 rfl d_Pg_listSteps_29 ?_
    refine lv_iload_n hx hb d_Pg_listSteps_32 rfl (lv_at hl 1 rfl) ?_
    obtain ⟨hg, hf⟩ := pv_g hf
    refine pv_iald C hP (t0 := 0) (by decide) (fx_16 _ _ _ _) rfl hg d_Pg_listSteps_33 ?_
    obtain ⟨hg, hf⟩ := pv_g hf
    refine pv_zald C hP (t0 := 2) (by decide) (fx_17 _ _ _ _) rfl hg d_Pg_listSteps_34 ?_
    refine lv_if_eq (tgt := 66) hx hb d_Pg_listSteps_35 (by decide) (fun h => ?_) (fun h => ?_)
    · have hf := pv_t hf h
      exact s_Pg_listSteps_66 C hmv hRf hRl hret hk_7 (lv_sub hl [0, 1] rfl) hP hS hf
    · have hf := pv_f hf h
      refine lv_aload_n hx hb d_Pg_listSteps_38 rfl (lv_at hl 0 rfl) ?_
      refine pv_get C hP (v := .ref (a 20)) (j := 3) (by decide) (fx_11 _ _ _ _) fl_Pg_20 rfl d_Pg_listSteps_39 ?_
      refine lv_aload_n hx hb d_Pg_listSteps_42 rfl (lv_at hl 0 rfl) ?_
      refine pv_get C hP (v := .int (σ.1 11 1)) (j := 1) (by decide) (fx_11 _ _ _ _) fl_Pg_56 rfl d_Pg_listSteps_43 ?_
      refine lv_aload_n hx hb d_Pg_listSteps_46 rfl (lv_at hl 0 rfl) ?_
      refine pv_get C hP (v := .ref (a 12)) (j := 0) (by decide) (fx_11 _ _ _ _) fl_Pg_12 rfl d_Pg_listSteps_47 ?_
      refine pv_get C hP (v := .ref (a 16)) (j := 4) (by decide) (fx_12 _ _ _ _) fl_Pg_63 rfl d_Pg_listSteps_50 ?_
      refine lv_iload_n hx hb d_Pg_listSteps_53 rfl (lv_at hl 1 rfl) ?_
      obtain ⟨hg, hf⟩ := pv_g hf
      refine pv_iald C hP (t0 := 0) (by decide) (fx_16 _ _ _ _) rfl hg d_Pg_listSteps_54 ?_
      obtain ⟨hg, hf⟩ := pv_g hf
      refine pv_iast C hP hS (t0 := 0) (x := (σ.1 16 (x1).toNatClampNeg)) (by decide) (fun f g => (fx_20 _ _ f g)) rfl hg d_Pg_listSteps_55 (fun H locs hP hS => ?_)
      refine lv_aload_n hx hb d_Pg_listSteps_56 rfl (lv_at hl 0 rfl) ?_
      refine lv_dup hx hb d_Pg_listSteps_57 rfl ?_
      refine pv_get C hP (v := .int ((pv_uI σ 20 ((σ.1 11 1)).toNatClampNeg (σ.1 16 (x1).toNatClampNeg)).1 11 1)) (j := 1) (by decide) (fx_11 _ _ _ _) fl_Pg_56 rfl d_Pg_listSteps_58 ?_
      refine lv_iconst (v := (1 : Int32)) hx hb d_Pg_listSteps_61 (by decide) ?_
      refine lv_iadd hx hb d_Pg_listSteps_62 ?_
      refine pv_putI C hP hS (x := (((pv_uI σ 20 ((σ.1 11 1)).toNatClampNeg (σ.1 16 (x1).toNatClampNeg)).1 11 1) + (1 : Int32))) (by decide) (fx_11 _ _ _ _) fw_Pg_56 rfl rfl (Nat.le_of_ble_eq_true rfl) (fxs_11_1 _ _ _ _ _) d_Pg_listSteps_63 (fun H locs hP hS => ?_)
      exact s_Pg_listSteps_66 C hmv hRf hRl hret hk_7 (lv_sub hl [0, 1] rfl) hP hS hf
def f_Pg_listSteps_7 : Nat → pv_S → Int32 → Option pv_S
  | 0 => fun _ _ => none
  | n + 1 => f_Pg_listSteps_7b (f_Pg_listSteps_7 n)
set_option maxHeartbeats 4000000 in
theorem s_Pg_listSteps_7 {p : Program} {l : Launch} {e : Env} {R : Room} {s : State} {m : MethodId} {args : Array Value} {below : List Frame} {meth : Method} {c : Code} {Q : State → Prop} {D : va_G} {q : Nat → ClassId} {a t : Nat → Nat} {A : Nat → Prop} (C : pv_C p s m args c prog_4_method_4_code 2 "PatchVoices$Program" pv_TB D pv_cl (pv_ty q) 52 a A (pv_ZX t A)) (hmv : pv_mv A (pv_ZX t A)) (hRf : 0 ≤ R.frames) (hRl : 0 ≤ R.locals) {out : pv_S} (hret : pv_Rv p l e R s m args below meth c prog_4_method_4_code D pv_cl 52 a (pv_FX q a) A Q out) (n : Nat) : ∀ {σ : pv_S} {x1 : Int32} {H : Heap} {locs : List Loc} {ls : Array Slot}, lv_has ls 2 [(0, .ref (a 11)), (1, .int x1)] → pv_W D pv_cl 52 a (pv_FX q a) σ H → va_S A s.heap H locs → f_Pg_listSteps_7 n σ x1 = some out → W p l e R s m args below meth c H locs 0 0 Q (F0 m 7 ls []) := by
  induction n with
  | zero => intro σ x1 H locs ls hl hP hS hf; cases hf
  | succ n ih => intro σ x1 H locs ls hl hP hS hf; exact s_Pg_listSteps_7b C hmv hRf hRl hret (fun σ x1 H locs ls hf hl hP hS => ih hl hP hS hf) hl hP hS hf
def f_Pg_listSteps_0 (σ : pv_S) : Option pv_S :=
  f_Pg_listSteps_7 pv_fu (pv_uI σ 11 1 (0 : Int32)) (0 : Int32)
set_option maxHeartbeats 4000000 in
set_option maxRecDepth 100000 in
theorem s_Pg_listSteps_0 {p : Program} {l : Launch} {e : Env} {R : Room} {s : State} {m : MethodId} {args : Array Value} {below : List Frame} {meth : Method} {c : Code} {Q : State → Prop} {D : va_G} {q : Nat → ClassId} {a t : Nat → Nat} {A : Nat → Prop} (C : pv_C p s m args c prog_4_method_4_code 2 "PatchVoices$Program" pv_TB D pv_cl (pv_ty q) 52 a A (pv_ZX t A)) (hmv : pv_mv A (pv_ZX t A)) (hRf : 0 ≤ R.frames) (hRl : 0 ≤ R.locals) {out : pv_S} (hret : pv_Rv p l e R s m args below meth c prog_4_method_4_code D pv_cl 52 a (pv_FX q a) A Q out) {σ : pv_S} {H : Heap} {locs : List Loc} {ls : Array Slot} (hl : lv_has ls 2 [(0, .ref (a 11))]) (hP : pv_W D pv_cl 52 a (pv_FX q a) σ H) (hS : va_S A s.heap H locs) (hf : f_Pg_listSteps_0 σ = some out) : W p l e R s m args below meth c H locs 0 0 Q (F0 m 0 ls []) := by
  unfold f_Pg_listSteps_0 at hf
  have hx := C.1
  have hb := C.2.1
  refine lv_aload_n hx hb d_Pg_listSteps_0 rfl (lv_at hl 0 rfl) ?_
  refine lv_iconst (v := (0 : Int32)) hx hb d_Pg_listSteps_1 (by decide) ?_
  refine pv_putI C hP hS (x := (0 : Int32)) (by decide) (fx_11 _ _ _ _) fw_Pg_56 rfl rfl (Nat.le_of_ble_eq_true rfl) (fxs_11_1 _ _ _ _ _) d_Pg_listSteps_2 (fun H locs hP hS => ?_)
  refine lv_iconst (v := (0 : Int32)) hx hb d_Pg_listSteps_5 (by decide) ?_
  refine lv_istore_n (lv' := [(1, .int (0 : Int32)), (0, .ref (a 11))]) hx hb d_Pg_listSteps_6 rfl hl (by decide) rfl (fun ls hl => ?_)
  exact s_Pg_listSteps_7 C hmv hRf hRl hret pv_fu (lv_sub hl [1, 0] rfl) hP hS hf
def f_Pg_listSteps (σ : pv_S) : Option pv_S := f_Pg_listSteps_0 σ
def rm_Pg_listSteps : Room := { frames := 0, cells := 0, slots := 0, locals := 0 }
theorem c_Pg_listSteps {l : Launch} {D : va_G} {q : Nat → ClassId} {a t : Nat → Nat} {A : Nat → Prop} (hD : pv_D 52 a A) (hmv : pv_mv A (pv_ZX t A)) {σ : pv_S} {out : pv_S} (hf : f_Pg_listSteps σ = some out) : pv_Mv l y_Pg_listSteps (Cond.code y_Pg_listSteps prog_4_method_4_code 2 none :: pv_TB) rm_Pg_listSteps D pv_cl (pv_ty q) 52 a (pv_FX q a) A (pv_ZX t A) [.ref (a 11)] σ out :=
  pv_ofV (by decide) (Nat.le_of_ble_eq_true rfl) hD (fun p e s m args below meth c Q ls C hret hl hP => s_Pg_listSteps_0 C hmv (Nat.le_refl _) (Nat.le_refl _) hret hl hP va_S.rf hf)
theorem d_Pg_layLines_0 : decode prog_4_method_5_code 0 = .ok (.iconst 0, 1) := by decide +kernel
theorem d_Pg_layLines_1 : decode prog_4_method_5_code 1 = .ok (.istore_n 1, 1) := by decide +kernel
theorem d_Pg_layLines_2 : decode prog_4_method_5_code 2 = .ok (.aload_n 0, 1) := by decide +kernel
theorem d_Pg_layLines_3 : decode prog_4_method_5_code 3 = .ok (.getfield 66, 3) := by decide +kernel
theorem d_Pg_layLines_6 : decode prog_4_method_5_code 6 = .ok (.istore_n 2, 1) := by decide +kernel
theorem d_Pg_layLines_7 : decode prog_4_method_5_code 7 = .ok (.iload_n 2, 1) := by decide +kernel
theorem d_Pg_layLines_8 : decode prog_4_method_5_code 8 = .ok (.aload_n 0, 1) := by decide +kernel
theorem d_Pg_layLines_9 : decode prog_4_method_5_code 9 = .ok (.getfield 56, 3) := by decide +kernel
theorem d_Pg_layLines_12 : decode prog_4_method_5_code 12 = .ok (.if_icmp .ge 42, 3) := by decide +kernel
theorem d_Pg_layLines_15 : decode prog_4_method_5_code 15 = .ok (.aload_n 0, 1) := by decide +kernel
theorem d_Pg_layLines_16 : decode prog_4_method_5_code 16 = .ok (.getfield 24, 3) := by decide +kernel
theorem d_Pg_layLines_19 : decode prog_4_method_5_code 19 = .ok (.aload_n 0, 1) := by decide +kernel
theorem d_Pg_layLines_20 : decode prog_4_method_5_code 20 = .ok (.getfield 20, 3) := by decide +kernel
theorem d_Pg_layLines_23 : decode prog_4_method_5_code 23 = .ok (.iload_n 2, 1) := by decide +kernel
theorem d_Pg_layLines_24 : decode prog_4_method_5_code 24 = .ok (.iaload, 1) := by decide +kernel
theorem d_Pg_layLines_25 : decode prog_4_method_5_code 25 = .ok (.iload_n 1, 1) := by decide +kernel
theorem d_Pg_layLines_26 : decode prog_4_method_5_code 26 = .ok (.iastore, 1) := by decide +kernel
theorem d_Pg_layLines_27 : decode prog_4_method_5_code 27 = .ok (.iload_n 1, 1) := by decide +kernel
theorem d_Pg_layLines_28 : decode prog_4_method_5_code 28 = .ok (.aload_n 0, 1) := by decide +kernel
theorem d_Pg_layLines_29 : decode prog_4_method_5_code 29 = .ok (.getfield 12, 3) := by decide +kernel
theorem d_Pg_layLines_32 : decode prog_4_method_5_code 32 = .ok (.getfield 74, 3) := by decide +kernel
theorem d_Pg_layLines_35 : decode prog_4_method_5_code 35 = .ok (.iconst 4, 1) := by decide +kernel
theorem d_Pg_layLines_36 : decode prog_4_method_5_code 36 = .ok (.aload_n 0, 1) := by decide +kernel
theorem d_Pg_layLines_37 : decode prog_4_method_5_code 37 = .ok (.getfield 20, 3) := by decide +kernel
theorem d_Pg_layLines_40 : decode prog_4_method_5_code 40 = .ok (.iload_n 2, 1) := by decide +kernel
theorem d_Pg_layLines_41 : decode prog_4_method_5_code 41 = .ok (.iaload, 1) := by decide +kernel
theorem d_Pg_layLines_42 : decode prog_4_method_5_code 42 = .ok (.imul, 1) := by decide +kernel
theorem d_Pg_layLines_43 : decode prog_4_method_5_code 43 = .ok (.iconst 1, 1) := by decide +kernel
theorem d_Pg_layLines_44 : decode prog_4_method_5_code 44 = .ok (.iadd, 1) := by decide +kernel
theorem d_Pg_layLines_45 : decode prog_4_method_5_code 45 = .ok (.iaload, 1) := by decide +kernel
theorem d_Pg_layLines_46 : decode prog_4_method_5_code 46 = .ok (.iadd, 1) := by decide +kernel
theorem d_Pg_layLines_47 : decode prog_4_method_5_code 47 = .ok (.istore_n 1, 1) := by decide +kernel
theorem d_Pg_layLines_48 : decode prog_4_method_5_code 48 = .ok (.iinc 2 1, 3) := by decide +kernel
theorem d_Pg_layLines_51 : decode prog_4_method_5_code 51 = .ok (.goto (-44), 3) := by decide +kernel
theorem d_Pg_layLines_54 : decode prog_4_method_5_code 54 = .ok (.return_, 1) := by decide +kernel
def f_Pg_layLines_7b (k_7 : pv_S → Int32 → Int32 → Option pv_S) (σ : pv_S) (x1 : Int32) (x2 : Int32) : Option pv_S :=
  (if (σ.1 11 1) ≤ x2 then
  some σ
  else
  (if pv_in x2 48 = true then
(if pv_in (σ.1 20 (x2).toNatClampNeg) 24 = true then
(if pv_in x2 48 = true then
(if pv_in (((4 : Int32) * ((pv_uI σ 21 ((σ.1 20 (x2).toNatClampNeg)).toNatClampNeg x1).1 20 (x2).toNatClampNeg)) + (1 : Int32)) 96 = true then
k_7 (pv_uI σ 21 ((σ.1 20 (x2).toNatClampNeg)).toNatClampNeg x1) (x1 + ((pv_uI σ 21 ((σ.1 20 (x2).toNatClampNeg)).toNatClampNeg x1).1 15 ((((4 : Int32) * ((pv_uI σ 21 ((σ.1 20 (x2).toNatClampNeg)).toNatClampNeg x1).1 20 (x2).toNatClampNeg)) + (1 : Int32))).toNatClampNeg)) (x2 + (1 : Int32))
  else none)
  else none)
  else none)
  else none))
set_option maxHeartbeats 4000000 in
set_option maxRecDepth 100000 in
theorem s_Pg_layLines_7b {p : Program} {l : Launch} {e : Env} {R : Room} {s : State} {m : MethodId} {args : Array Value} {below : List Frame} {meth : Method} {c : Code} {Q : State → Prop} {D : va_G} {q : Nat → ClassId} {a t : Nat → Nat} {A : Nat → Prop} (C : pv_C p s m args c prog_4_method_5_code 3 "PatchVoices$Program" pv_TB D pv_cl (pv_ty q) 52 a A (pv_ZX t A)) (hmv : pv_mv A (pv_ZX t A)) (hRf : 0 ≤ R.frames) (hRl : 0 ≤ R.locals) {out : pv_S} (hret : pv_Rv p l e R s m args below meth c prog_4_method_5_code D pv_cl 52 a (pv_FX q a) A Q out) {k_7 : pv_S → Int32 → Int32 → Option pv_S} (hk_7 : ∀ (σ : pv_S) (x1 : Int32) (x2 : Int32) (H : Heap) (locs : List Loc) (ls : Array Slot), k_7 σ x1 x2 = some out → lv_has ls 3 [(0, .ref (a 11)), (1, .int x1), (2, .int x2)] → pv_W D pv_cl 52 a (pv_FX q a) σ H → va_S A s.heap H locs → W p l e R s m args below meth c H locs 0 0 Q (F0 m 7 ls [])) {σ : pv_S} {x1 : Int32} {x2 : Int32} {H : Heap} {locs : List Loc} {ls : Array Slot} (hl : lv_has ls 3 [(0, .ref (a 11)), (1, .int x1), (2, .int x2)]) (hP : pv_W D pv_cl 52 a (pv_FX q a) σ H) (hS : va_S A s.heap H locs) (hf : f_Pg_layLines_7b k_7 σ x1 x2 = some out) : W p l e R s m args below meth c H locs 0 0 Q (F0 m 7 ls []) := by
  unfold f_Pg_layLines_7b at hf
  have hx := C.1
  have hb := C.2.1
  refine lv_iload_n hx hb d_Pg_layLines_7 rfl (lv_at hl 2 rfl) ?_
  refine lv_aload_n hx hb d_Pg_layLines_8 rfl (lv_at hl 0 rfl) ?_
  refine pv_get C hP (v := .int (σ.1 11 1)) (j := 1) (by decide) (fx_11 _ _ _ _) fl_Pg_56 rfl d_Pg_layLines_9 ?_
  refine lv_icmp_ge (tgt := 54) hx hb d_Pg_layLines_12 (by decide) (fun h => ?_) (fun h => ?_)
  · have hf := pv_t hf h
    obtain rfl := Option.some.inj hf
    exact hret _ _ _ _ d_Pg_layLines_54 hP hS
  · have hf := pv_f hf h
    refine lv_aload_n hx hb d_Pg_layLines_15 rfl (lv_at hl 0 rfl) ?_
    refine pv_get C hP (v := .ref (a 21)) (j := 5) (by decide) (fx_11 _ _ _ _) fl_Pg_24 rfl d_Pg_layLines_16 ?_
    refine lv_aload_n hx hb d_Pg_layLines_19 rfl (lv_at hl 0 rfl) ?_
    refine pv_get C hP (v := .ref (a 20)) (j := 3) (by decide) (fx_11 _ _ _ _) fl_Pg_20 rfl d_Pg_layLines_20 ?_
    refine lv_iload_n hx hb d_Pg_layLines_23 rfl (lv_at hl 2 rfl) ?_
    obtain ⟨hg, hf⟩ := pv_g hf
    refine pv_iald C hP (t0 := 0) (by decide) (fx_20 _ _ _ _) rfl hg d_Pg_layLines_24 ?_
    refine lv_iload_n hx hb d_Pg_layLines_25 rfl (lv_at hl 1 rfl) ?_
    obtain ⟨hg, hf⟩ := pv_g hf
    refine pv_iast C hP hS (t0 := 0) (x := x1) (by decide) (fun f g => (fx_21 _ _ f g)) rfl hg d_Pg_layLines_26 (fun H locs hP hS => ?_)
    refine lv_iload_n hx hb d_Pg_layLines_27 rfl (lv_at hl 1 rfl) ?_
    refine lv_aload_n hx hb d_Pg_layLines_28 rfl (lv_at hl 0 rfl) ?_
    refine pv_get C hP (v := .ref (a 12)) (j := 0) (by decide) (fx_11 _ _ _ _) fl_Pg_12 rfl d_Pg_layLines_29 ?_
    refine pv_get C hP (v := .ref (a 15)) (j := 3) (by decide) (fx_12 _ _ _ _) fl_Pg_74 rfl d_Pg_layLines_32 ?_
    refine lv_iconst (v := (4 : Int32)) hx hb d_Pg_layLines_35 (by decide) ?_
    refine lv_aload_n hx hb d_Pg_layLines_36 rfl (lv_at hl 0 rfl) ?_
    refine pv_get C hP (v := .ref (a 20)) (j := 3) (by decide) (fx_11 _ _ _ _) fl_Pg_20 rfl d_Pg_layLines_37 ?_
    refine lv_iload_n hx hb d_Pg_layLines_40 rfl (lv_at hl 2 rfl) ?_
    obtain ⟨hg, hf⟩ := pv_g hf
    refine pv_iald C hP (t0 := 0) (by decide) (fx_20 _ _ _ _) rfl hg d_Pg_layLines_41 ?_
    refine lv_imul hx hb d_Pg_layLines_42 ?_
    refine lv_iconst (v := (1 : Int32)) hx hb d_Pg_layLines_43 (by decide) ?_
    refine lv_iadd hx hb d_Pg_layLines_44 ?_
    obtain ⟨hg, hf⟩ := pv_g hf
    refine pv_iald C hP (t0 := 0) (by decide) (fx_15 _ _ _ _) rfl hg d_Pg_layLines_45 ?_
    refine lv_iadd hx hb d_Pg_layLines_46 ?_
    refine lv_istore_n (lv' := [(1, .int (x1 + ((pv_uI σ 21 ((σ.1 20 (x2).toNatClampNeg)).toNatClampNeg x1).1 15 ((((4 : Int32) * ((pv_uI σ 21 ((σ.1 20 (x2).toNatClampNeg)).toNatClampNeg x1).1 20 (x2).toNatClampNeg)) + (1 : Int32))).toNatClampNeg))), (0, .ref (a 11)), (2, .int x2)]) hx hb d_Pg_layLines_47 rfl hl (by decide) rfl (fun ls hl => ?_)
    refine lv_iinc (k := 2) (v := (x2 + (1 : Int32))) (lv' := [(2, .int (x2 + (1 : Int32))), (1, .int (x1 + ((pv_uI σ 21 ((σ.1 20 (x2).toNatClampNeg)).toNatClampNeg x1).1 15 ((((4 : Int32) * ((pv_uI σ 21 ((σ.1 20 (x2).toNatClampNeg)).toNatClampNeg x1).1 20 (x2).toNatClampNeg)) + (1 : Int32))).toNatClampNeg))), (0, .ref (a 11))]) hx hb d_Pg_layLines_48 hl rfl (pv_inc (by decide)) (by decide) rfl (fun ls hl => ?_)
    refine lv_goto (tgt := 7) hx hb d_Pg_layLines_51 (by decide) ?_
    exact hk_7 _ _ _ _ _ _ hf (lv_sub hl [2, 1, 0] rfl) hP hS
def f_Pg_layLines_7 : Nat → pv_S → Int32 → Int32 → Option pv_S
  | 0 => fun _ _ _ => none
  | n + 1 => f_Pg_layLines_7b (f_Pg_layLines_7 n)
set_option maxHeartbeats 4000000 in
theorem s_Pg_layLines_7 {p : Program} {l : Launch} {e : Env} {R : Room} {s : State} {m : MethodId} {args : Array Value} {below : List Frame} {meth : Method} {c : Code} {Q : State → Prop} {D : va_G} {q : Nat → ClassId} {a t : Nat → Nat} {A : Nat → Prop} (C : pv_C p s m args c prog_4_method_5_code 3 "PatchVoices$Program" pv_TB D pv_cl (pv_ty q) 52 a A (pv_ZX t A)) (hmv : pv_mv A (pv_ZX t A)) (hRf : 0 ≤ R.frames) (hRl : 0 ≤ R.locals) {out : pv_S} (hret : pv_Rv p l e R s m args below meth c prog_4_method_5_code D pv_cl 52 a (pv_FX q a) A Q out) (n : Nat) : ∀ {σ : pv_S} {x1 : Int32} {x2 : Int32} {H : Heap} {locs : List Loc} {ls : Array Slot}, lv_has ls 3 [(0, .ref (a 11)), (1, .int x1), (2, .int x2)] → pv_W D pv_cl 52 a (pv_FX q a) σ H → va_S A s.heap H locs → f_Pg_layLines_7 n σ x1 x2 = some out → W p l e R s m args below meth c H locs 0 0 Q (F0 m 7 ls []) := by
  induction n with
  | zero => intro σ x1 x2 H locs ls hl hP hS hf; cases hf
  | succ n ih => intro σ x1 x2 H locs ls hl hP hS hf; exact s_Pg_layLines_7b C hmv hRf hRl hret (fun σ x1 x2 H locs ls hf hl hP hS => ih hl hP hS hf) hl hP hS hf
def f_Pg_layLines_0 (σ : pv_S) : Option pv_S :=
  f_Pg_layLines_7 pv_fu σ (0 : Int32) (σ.1 11 2)
set_option maxHeartbeats 4000000 in
set_option maxRecDepth 100000 in
theorem s_Pg_layLines_0 {p : Program} {l : Launch} {e : Env} {R : Room} {s : State} {m : MethodId} {args : Array Value} {below : List Frame} {meth : Method} {c : Code} {Q : State → Prop} {D : va_G} {q : Nat → ClassId} {a t : Nat → Nat} {A : Nat → Prop} (C : pv_C p s m args c prog_4_method_5_code 3 "PatchVoices$Program" pv_TB D pv_cl (pv_ty q) 52 a A (pv_ZX t A)) (hmv : pv_mv A (pv_ZX t A)) (hRf : 0 ≤ R.frames) (hRl : 0 ≤ R.locals) {out : pv_S} (hret : pv_Rv p l e R s m args below meth c prog_4_method_5_code D pv_cl 52 a (pv_FX q a) A Q out) {σ : pv_S} {H : Heap} {locs : List Loc} {ls : Array Slot} (hl : lv_has ls 3 [(0, .ref (a 11))]) (hP : pv_W D pv_cl 52 a (pv_FX q a) σ H) (hS : va_S A s.heap H locs) (hf : f_Pg_layLines_0 σ = some out) : W p l e R s m args below meth c H locs 0 0 Q (F0 m 0 ls []) := by
  unfold f_Pg_layLines_0 at hf
  have hx := C.1
  have hb := C.2.1
  refine lv_iconst (v := (0 : Int32)) hx hb d_Pg_layLines_0 (by decide) ?_
  refine lv_istore_n (lv' := [(1, .int (0 : Int32)), (0, .ref (a 11))]) hx hb d_Pg_layLines_1 rfl hl (by decide) rfl (fun ls hl => ?_)
  refine lv_aload_n hx hb d_Pg_layLines_2 rfl (lv_at hl 1 rfl) ?_
  refine pv_get C hP (v := .int (σ.1 11 2)) (j := 2) (by decide) (fx_11 _ _ _ _) fl_Pg_66 rfl d_Pg_layLines_3 ?_
  refine lv_istore_n (lv' := [(2, .int (σ.1 11 2)), (1, .int (0 : Int32)), (0, .ref (a 11))]) hx hb d_Pg_layLines_6 rfl hl (by decide) rfl (fun ls hl => ?_)
  exact s_Pg_layLines_7 C hmv hRf hRl hret pv_fu (lv_sub hl [2, 1, 0] rfl) hP hS hf
def f_Pg_layLines (σ : pv_S) : Option pv_S := f_Pg_layLines_0 σ
def rm_Pg_layLines : Room := { frames := 0, cells := 0, slots := 0, locals := 0 }
theorem c_Pg_layLines {l : Launch} {D : va_G} {q : Nat → ClassId} {a t : Nat → Nat} {A : Nat → Prop} (hD : pv_D 52 a A) (hmv : pv_mv A (pv_ZX t A)) {σ : pv_S} {out : pv_S} (hf : f_Pg_layLines σ = some out) : pv_Mv l y_Pg_layLines (Cond.code y_Pg_layLines prog_4_method_5_code 3 none :: pv_TB) rm_Pg_layLines D pv_cl (pv_ty q) 52 a (pv_FX q a) A (pv_ZX t A) [.ref (a 11)] σ out :=
  pv_ofV (by decide) (Nat.le_of_ble_eq_true rfl) hD (fun p e s m args below meth c Q ls C hret hl hP => s_Pg_layLines_0 C hmv (Nat.le_refl _) (Nat.le_refl _) hret hl hP va_S.rf hf)
theorem d_Pg_kindOf_0 : decode prog_4_method_10_code 0 = .ok (.iload_n 1, 1) := by decide +kernel
theorem d_Pg_kindOf_1 : decode prog_4_method_10_code 1 = .ok (.aload_n 0, 1) := by decide +kernel
theorem d_Pg_kindOf_2 : decode prog_4_method_10_code 2 = .ok (.getfield 66, 3) := by decide +kernel
theorem d_Pg_kindOf_5 : decode prog_4_method_10_code 5 = .ok (.if_icmp .lt 8, 3) := by decide +kernel
theorem d_Pg_kindOf_8 : decode prog_4_method_10_code 8 = .ok (.bipush 20, 2) := by decide +kernel
theorem d_Pg_kindOf_10 : decode prog_4_method_10_code 10 = .ok (.goto 17, 3) := by decide +kernel
theorem d_Pg_kindOf_13 : decode prog_4_method_10_code 13 = .ok (.aload_n 0, 1) := by decide +kernel
theorem d_Pg_kindOf_14 : decode prog_4_method_10_code 14 = .ok (.getfield 12, 3) := by decide +kernel
theorem d_Pg_kindOf_17 : decode prog_4_method_10_code 17 = .ok (.getfield 69, 3) := by decide +kernel
theorem d_Pg_kindOf_20 : decode prog_4_method_10_code 20 = .ok (.aload_n 0, 1) := by decide +kernel
theorem d_Pg_kindOf_21 : decode prog_4_method_10_code 21 = .ok (.getfield 20, 3) := by decide +kernel
theorem d_Pg_kindOf_24 : decode prog_4_method_10_code 24 = .ok (.iload_n 1, 1) := by decide +kernel
theorem d_Pg_kindOf_25 : decode prog_4_method_10_code 25 = .ok (.iaload, 1) := by decide +kernel
theorem d_Pg_kindOf_26 : decode prog_4_method_10_code 26 = .ok (.iaload, 1) := by decide +kernel
theorem d_Pg_kindOf_27 : decode prog_4_method_10_code 27 = .ok (.ireturn, 1) := by decide +kernel
def f_Pg_kindOf_0 (σ : pv_S) (x1 : Int32) : Option (Int32 × pv_S) :=
  (if x1 < (σ.1 11 2) then
  (if pv_in x1 48 = true then
(if pv_in (σ.1 20 (x1).toNatClampNeg) 24 = true then
some ((σ.1 13 ((σ.1 20 (x1).toNatClampNeg)).toNatClampNeg), σ)
  else none)
  else none)
  else
  some ((20 : Int32), σ))
set_option maxHeartbeats 4000000 in
set_option maxRecDepth 100000 in
theorem s_Pg_kindOf_0 {p : Program} {l : Launch} {e : Env} {R : Room} {s : State} {m : MethodId} {args : Array Value} {below : List Frame} {meth : Method} {c : Code} {Q : State → Prop} {D : va_G} {q : Nat → ClassId} {a t : Nat → Nat} {A : Nat → Prop} (C : pv_C p s m args c prog_4_method_10_code 2 "PatchVoices$Program" pv_TB D pv_cl (pv_ty q) 52 a A (pv_ZX t A)) (hmv : pv_mv A (pv_ZX t A)) (hRf : 0 ≤ R.frames) (hRl : 0 ≤ R.locals) {out : (Int32 × pv_S)} (hret : pv_Ri p l e R s m args below meth c prog_4_method_10_code D pv_cl 52 a (pv_FX q a) A Q out) {σ : pv_S} {x1 : Int32} {H : Heap} {locs : List Loc} {ls : Array Slot} (hl : lv_has ls 2 [(0, .ref (a 11)), (1, .int x1)]) (hP : pv_W D pv_cl 52 a (pv_FX q a) σ H) (hS : va_S A s.heap H locs) (hf : f_Pg_kindOf_0 σ x1 = some out) : W p l e R s m args below meth c H locs 0 0 Q (F0 m 0 ls []) := by
  unfold f_Pg_kindOf_0 at hf
  have hx := C.1
  have hb := C.2.1
  refine lv_iload_n hx hb d_Pg_kindOf_0 rfl (lv_at hl 1 rfl) ?_
  refine lv_aload_n hx hb d_Pg_kindOf_1 rfl (lv_at hl 0 rfl) ?_
  refine pv_get C hP (v := .int (σ.1 11 2)) (j := 2) (by decide) (fx_11 _ _ _ _) fl_Pg_66 rfl d_Pg_kindOf_2 ?_
  refine lv_icmp_lt (tgt := 13) hx hb d_Pg_kindOf_5 (by decide) (fun h => ?_) (fun h => ?_)
  · have hf := pv_t hf h
    refine lv_aload_n hx hb d_Pg_kindOf_13 rfl (lv_at hl 0 rfl) ?_
    refine pv_get C hP (v := .ref (a 12)) (j := 0) (by decide) (fx_11 _ _ _ _) fl_Pg_12 rfl d_Pg_kindOf_14 ?_
    refine pv_get C hP (v := .ref (a 13)) (j := 1) (by decide) (fx_12 _ _ _ _) fl_Pg_69 rfl d_Pg_kindOf_17 ?_
    refine lv_aload_n hx hb d_Pg_kindOf_20 rfl (lv_at hl 0 rfl) ?_
    refine pv_get C hP (v := .ref (a 20)) (j := 3) (by decide) (fx_11 _ _ _ _) fl_Pg_20 rfl d_Pg_kindOf_21 ?_
    refine lv_iload_n hx hb d_Pg_kindOf_24 rfl (lv_at hl 1 rfl) ?_
    obtain ⟨hg, hf⟩ := pv_g hf
    refine pv_iald C hP (t0 := 0) (by decide) (fx_20 _ _ _ _) rfl hg d_Pg_kindOf_25 ?_
    obtain ⟨hg, hf⟩ := pv_g hf
    refine pv_iald C hP (t0 := 0) (by decide) (fx_13 _ _ _ _) rfl hg d_Pg_kindOf_26 ?_
    obtain rfl := Option.some.inj hf
    exact hret _ _ _ _ d_Pg_kindOf_27 hP hS
  · have hf := pv_f hf h
    refine lv_bipush (v := (20 : Int32)) hx hb d_Pg_kindOf_8 (by decide) ?_
    refine lv_goto (tgt := 27) hx hb d_Pg_kindOf_10 (by decide) ?_
    obtain rfl := Option.some.inj hf
    exact hret _ _ _ _ d_Pg_kindOf_27 hP hS
def f_Pg_kindOf (σ : pv_S) (x1 : Int32) : Option (Int32 × pv_S) := f_Pg_kindOf_0 σ x1
def rm_Pg_kindOf : Room := { frames := 0, cells := 0, slots := 0, locals := 0 }
theorem c_Pg_kindOf {l : Launch} {D : va_G} {q : Nat → ClassId} {a t : Nat → Nat} {A : Nat → Prop} (hD : pv_D 52 a A) (hmv : pv_mv A (pv_ZX t A)) {σ : pv_S} {x1 : Int32} {out : (Int32 × pv_S)} (hf : f_Pg_kindOf σ x1 = some out) : pv_Mi l y_Pg_kindOf (Cond.code y_Pg_kindOf prog_4_method_10_code 2 (some .int) :: pv_TB) rm_Pg_kindOf D pv_cl (pv_ty q) 52 a (pv_FX q a) A (pv_ZX t A) [.ref (a 11), .int x1] σ out :=
  pv_ofI (by decide) (Nat.le_of_ble_eq_true rfl) hD (fun p e s m args below meth c Q ls C hret hl hP => s_Pg_kindOf_0 C hmv (Nat.le_refl _) (Nat.le_refl _) hret hl hP va_S.rf hf)
theorem d_Pg_reads_0 : decode prog_4_method_9_code 0 = .ok (.aload_n 0, 1) := by decide +kernel
theorem d_Pg_reads_1 : decode prog_4_method_9_code 1 = .ok (.iload_n 1, 1) := by decide +kernel
theorem d_Pg_reads_2 : decode prog_4_method_9_code 2 = .ok (.invokevirtual 103, 3) := by decide +kernel
theorem d_Pg_reads_5 : decode prog_4_method_9_code 5 = .ok (.istore_n 3, 1) := by decide +kernel
theorem d_Pg_reads_6 : decode prog_4_method_9_code 6 = .ok (.iload_n 3, 1) := by decide +kernel
theorem d_Pg_reads_7 : decode prog_4_method_9_code 7 = .ok (.lookupswitch 46 #[(18, 35), (20, 25)], 25) := by decide +kernel
theorem d_Pg_reads_32 : decode prog_4_method_9_code 32 = .ok (.iload_n 2, 1) := by decide +kernel
theorem d_Pg_reads_33 : decode prog_4_method_9_code 33 = .ok (.ifCond .ne 7, 3) := by decide +kernel
theorem d_Pg_reads_36 : decode prog_4_method_9_code 36 = .ok (.iconst 1, 1) := by decide +kernel
theorem d_Pg_reads_37 : decode prog_4_method_9_code 37 = .ok (.goto 4, 3) := by decide +kernel
theorem d_Pg_reads_40 : decode prog_4_method_9_code 40 = .ok (.iconst 0, 1) := by decide +kernel
theorem d_Pg_reads_41 : decode prog_4_method_9_code 41 = .ok (.ireturn, 1) := by decide +kernel
theorem d_Pg_reads_42 : decode prog_4_method_9_code 42 = .ok (.iload_n 2, 1) := by decide +kernel
theorem d_Pg_reads_43 : decode prog_4_method_9_code 43 = .ok (.iconst 1, 1) := by decide +kernel
theorem d_Pg_reads_44 : decode prog_4_method_9_code 44 = .ok (.if_icmp .ne 7, 3) := by decide +kernel
theorem d_Pg_reads_47 : decode prog_4_method_9_code 47 = .ok (.iconst 1, 1) := by decide +kernel
theorem d_Pg_reads_48 : decode prog_4_method_9_code 48 = .ok (.goto 4, 3) := by decide +kernel
theorem d_Pg_reads_51 : decode prog_4_method_9_code 51 = .ok (.iconst 0, 1) := by decide +kernel
theorem d_Pg_reads_52 : decode prog_4_method_9_code 52 = .ok (.ireturn, 1) := by decide +kernel
theorem d_Pg_reads_53 : decode prog_4_method_9_code 53 = .ok (.iload_n 2, 1) := by decide +kernel
theorem d_Pg_reads_54 : decode prog_4_method_9_code 54 = .ok (.iload_n 3, 1) := by decide +kernel
theorem d_Pg_reads_55 : decode prog_4_method_9_code 55 = .ok (.invokestatic 106, 3) := by decide +kernel
theorem d_Pg_reads_58 : decode prog_4_method_9_code 58 = .ok (.if_icmp .ge 7, 3) := by decide +kernel
theorem d_Pg_reads_61 : decode prog_4_method_9_code 61 = .ok (.iconst 1, 1) := by decide +kernel
theorem d_Pg_reads_62 : decode prog_4_method_9_code 62 = .ok (.goto 4, 3) := by decide +kernel
theorem d_Pg_reads_65 : decode prog_4_method_9_code 65 = .ok (.iconst 0, 1) := by decide +kernel
theorem d_Pg_reads_66 : decode prog_4_method_9_code 66 = .ok (.ireturn, 1) := by decide +kernel
def f_Pg_reads_0 (σ : pv_S) (x1 : Int32) (x2 : Int32) : Option (Int32 × pv_S) :=
  ((f_Pg_kindOf σ x1).bind fun q1 =>
(if q1.1 = (18 : Int32) then
  (if x2 = (1 : Int32) then
  some ((1 : Int32), q1.2)
  else
  some ((0 : Int32), q1.2))
  else
(if q1.1 = (20 : Int32) then
  (if x2 = 0 then
  some ((1 : Int32), q1.2)
  else
  some ((0 : Int32), q1.2))
  else
  ((f_Kd_inputsOf q1.2 q1.1).bind fun q2 =>
(if q2.1 ≤ x2 then
  some ((0 : Int32), q2.2)
  else
  some ((1 : Int32), q2.2))))))
set_option maxHeartbeats 4000000 in
set_option maxRecDepth 100000 in
theorem s_Pg_reads_0 {p : Program} {l : Launch} {e : Env} {R : Room} {s : State} {m : MethodId} {args : Array Value} {below : List Frame} {meth : Method} {c : Code} {Q : State → Prop} {D : va_G} {q : Nat → ClassId} {a t : Nat → Nat} {A : Nat → Prop} (C : pv_C p s m args c prog_4_method_9_code 4 "PatchVoices$Program" pv_TB D pv_cl (pv_ty q) 52 a A (pv_ZX t A)) (hmv : pv_mv A (pv_ZX t A)) (hRf : 1 ≤ R.frames) (hRl : 21 ≤ R.locals) {out : (Int32 × pv_S)} (hret : pv_Rz p l e R s m args below meth c prog_4_method_9_code D pv_cl 52 a (pv_FX q a) A Q out) {σ : pv_S} {x1 : Int32} {x2 : Int32} {H : Heap} {locs : List Loc} {ls : Array Slot} (hl : lv_has ls 4 [(0, .ref (a 11)), (1, .int x1), (2, .int x2)]) (hP : pv_W D pv_cl 52 a (pv_FX q a) σ H) (hS : va_S A s.heap H locs) (hf : f_Pg_reads_0 σ x1 x2 = some out) : W p l e R s m args below meth c H locs 0 0 Q (F0 m 0 ls []) := by
  unfold f_Pg_reads_0 at hf
  have hx := C.1
  have hb := C.2.1
  refine lv_aload_n hx hb d_Pg_reads_0 rfl (lv_at hl 0 rfl) ?_
  refine lv_iload_n hx hb d_Pg_reads_1 rfl (lv_at hl 1 rfl) ?_
  obtain ⟨q1, hc, hf⟩ := pv_b hf
  refine pv_callVi C hmv pv_good hP hS (As := [.int x1]) (rest := []) (by decide) (fx_11 _ _ _ _) rfl (c_Pg_kindOf C.2.2.2.2.2.2.1 hmv hc) cv_Pg_103 ⟨rfl, rfl, Nat.le_trans (Nat.le_of_ble_eq_true rfl) hRf, Nat.le_trans (Nat.le_of_ble_eq_true rfl) hRl⟩ rfl hl.1 rfl (Nat.le_of_ble_eq_true rfl) d_Pg_reads_2 ⟨Nat.zero_le _, Nat.zero_le _⟩ (fun H locs hP hS => ?_)
  refine lv_istore_n (lv' := [(3, .int q1.1), (0, .ref (a 11)), (1, .int x1), (2, .int x2)]) hx hb d_Pg_reads_5 rfl hl (by decide) rfl (fun ls hl => ?_)
  refine lv_iload_n hx hb d_Pg_reads_6 rfl (lv_at hl 0 rfl) ?_
  by_cases h18 : q1.1 = (18 : Int32)
  · have hf := pv_t hf h18
    refine lv_lookup (tgt := 42) (off := 35) hx hb d_Pg_reads_7 (by decide) (by first | (rw [h18]; done) | (rw [h18]; rfl)) (by decide) ?_
    refine lv_iload_n hx hb d_Pg_reads_42 rfl (lv_at hl 3 rfl) ?_
    refine lv_iconst (v := (1 : Int32)) hx hb d_Pg_reads_43 (by decide) ?_
    refine lv_icmp_ne (tgt := 51) hx hb d_Pg_reads_44 (by decide) (fun h => ?_) (fun h => ?_)
    · have hf := pv_f hf h
      refine lv_iconst (v := (0 : Int32)) hx hb d_Pg_reads_51 (by decide) ?_
      obtain rfl := Option.some.inj hf
      exact hret _ _ _ _ d_Pg_reads_52 rfl hP hS
    · have hf := pv_t hf h
      refine lv_iconst (v := (1 : Int32)) hx hb d_Pg_reads_47 (by decide) ?_
      refine lv_goto (tgt := 52) hx hb d_Pg_reads_48 (by decide) ?_
      obtain rfl := Option.some.inj hf
      exact hret _ _ _ _ d_Pg_reads_52 rfl hP hS
  · have hf := pv_f hf h18
    by_cases h20 : q1.1 = (20 : Int32)
    · have hf := pv_t hf h20
      refine lv_lookup (tgt := 32) (off := 25) hx hb d_Pg_reads_7 (by decide) (by first | (rw [h20]; done) | (rw [h20]; rfl)) (by decide) ?_
      refine lv_iload_n hx hb d_Pg_reads_32 rfl (lv_at hl 3 rfl) ?_
      refine lv_if_ne (tgt := 40) hx hb d_Pg_reads_33 (by decide) (fun h => ?_) (fun h => ?_)
      · have hf := pv_f hf h
        refine lv_iconst (v := (0 : Int32)) hx hb d_Pg_reads_40 (by decide) ?_
        obtain rfl := Option.some.inj hf
        exact hret _ _ _ _ d_Pg_reads_41 rfl hP hS
      · have hf := pv_t hf h
        refine lv_iconst (v := (1 : Int32)) hx hb d_Pg_reads_36 (by decide) ?_
        refine lv_goto (tgt := 41) hx hb d_Pg_reads_37 (by decide) ?_
        obtain rfl := Option.some.inj hf
        exact hret _ _ _ _ d_Pg_reads_41 rfl hP hS
    · have hf := pv_f hf h20
      refine lv_lookup (tgt := 53) (off := 46) hx hb d_Pg_reads_7 (by decide) ((lv_osw h18 (by decide)).trans ((lv_osw h20 (by decide)).trans (rfl))) (by decide) ?_
      refine lv_iload_n hx hb d_Pg_reads_53 rfl (lv_at hl 3 rfl) ?_
      refine lv_iload_n hx hb d_Pg_reads_54 rfl (lv_at hl 0 rfl) ?_
      obtain ⟨q2, hc, hf⟩ := pv_b hf
      refine pv_callSi C hmv pv_good hP hS (As := [.int q1.1]) (rest := [.int x2]) (c_Kd_inputsOf C.2.2.2.2.2.2.1 hmv hc) cs_Pg_106 ⟨rfl, rfl, Nat.le_trans (Nat.le_of_ble_eq_true rfl) hRf, Nat.le_trans (Nat.le_of_ble_eq_true rfl) hRl⟩ rfl hl.1 rfl (Nat.le_of_ble_eq_true rfl) d_Pg_reads_55 ⟨Nat.zero_le _, Nat.zero_le _⟩ (fun H locs hP hS => ?_)
      refine lv_icmp_ge (tgt := 65) hx hb d_Pg_reads_58 (by decide) (fun h => ?_) (fun h => ?_)
      · have hf := pv_t hf h
        refine lv_iconst (v := (0 : Int32)) hx hb d_Pg_reads_65 (by decide) ?_
        obtain rfl := Option.some.inj hf
        exact hret _ _ _ _ d_Pg_reads_66 rfl hP hS
      · have hf := pv_f hf h
        refine lv_iconst (v := (1 : Int32)) hx hb d_Pg_reads_61 (by decide) ?_
        refine lv_goto (tgt := 66) hx hb d_Pg_reads_62 (by decide) ?_
        obtain rfl := Option.some.inj hf
        exact hret _ _ _ _ d_Pg_reads_66 rfl hP hS
def f_Pg_reads (σ : pv_S) (x1 : Int32) (x2 : Int32) : Option (Int32 × pv_S) := f_Pg_reads_0 σ x1 x2
def rm_Pg_reads : Room := { frames := 1, cells := 0, slots := 0, locals := 21 }
theorem c_Pg_reads {l : Launch} {D : va_G} {q : Nat → ClassId} {a t : Nat → Nat} {A : Nat → Prop} (hD : pv_D 52 a A) (hmv : pv_mv A (pv_ZX t A)) {σ : pv_S} {x1 : Int32} {x2 : Int32} {out : (Int32 × pv_S)} (hf : f_Pg_reads σ x1 x2 = some out) : pv_Mi l y_Pg_reads (Cond.code y_Pg_reads prog_4_method_9_code 4 (some .boolean) :: pv_TB) rm_Pg_reads D pv_cl (pv_ty q) 52 a (pv_FX q a) A (pv_ZX t A) [.ref (a 11), .int x1, .int x2] σ out :=
  pv_ofZ (by decide) (Nat.le_of_ble_eq_true rfl) hD (fun p e s m args below meth c Q ls C hret hl hP => s_Pg_reads_0 C hmv (Nat.le_refl _) (Nat.le_refl _) hret hl hP va_S.rf hf)
theorem d_Pg_sourceOf_0 : decode prog_4_method_11_code 0 = .ok (.aload_n 0, 1) := by decide +kernel
theorem d_Pg_sourceOf_1 : decode prog_4_method_11_code 1 = .ok (.iload_n 1, 1) := by decide +kernel
theorem d_Pg_sourceOf_2 : decode prog_4_method_11_code 2 = .ok (.iload_n 2, 1) := by decide +kernel
theorem d_Pg_sourceOf_3 : decode prog_4_method_11_code 3 = .ok (.invokevirtual 109, 3) := by decide +kernel
theorem d_Pg_sourceOf_6 : decode prog_4_method_11_code 6 = .ok (.ifCond .eq 24, 3) := by decide +kernel
theorem d_Pg_sourceOf_9 : decode prog_4_method_11_code 9 = .ok (.aload_n 0, 1) := by decide +kernel
theorem d_Pg_sourceOf_10 : decode prog_4_method_11_code 10 = .ok (.getfield 12, 3) := by decide +kernel
theorem d_Pg_sourceOf_13 : decode prog_4_method_11_code 13 = .ok (.getfield 113, 3) := by decide +kernel
theorem d_Pg_sourceOf_16 : decode prog_4_method_11_code 16 = .ok (.iconst 4, 1) := by decide +kernel
theorem d_Pg_sourceOf_17 : decode prog_4_method_11_code 17 = .ok (.aload_n 0, 1) := by decide +kernel
theorem d_Pg_sourceOf_18 : decode prog_4_method_11_code 18 = .ok (.getfield 20, 3) := by decide +kernel
theorem d_Pg_sourceOf_21 : decode prog_4_method_11_code 21 = .ok (.iload_n 1, 1) := by decide +kernel
theorem d_Pg_sourceOf_22 : decode prog_4_method_11_code 22 = .ok (.iaload, 1) := by decide +kernel
theorem d_Pg_sourceOf_23 : decode prog_4_method_11_code 23 = .ok (.imul, 1) := by decide +kernel
theorem d_Pg_sourceOf_24 : decode prog_4_method_11_code 24 = .ok (.iload_n 2, 1) := by decide +kernel
theorem d_Pg_sourceOf_25 : decode prog_4_method_11_code 25 = .ok (.iadd, 1) := by decide +kernel
theorem d_Pg_sourceOf_26 : decode prog_4_method_11_code 26 = .ok (.iaload, 1) := by decide +kernel
theorem d_Pg_sourceOf_27 : decode prog_4_method_11_code 27 = .ok (.goto 4, 3) := by decide +kernel
theorem d_Pg_sourceOf_30 : decode prog_4_method_11_code 30 = .ok (.iconst (-1), 1) := by decide +kernel
theorem d_Pg_sourceOf_31 : decode prog_4_method_11_code 31 = .ok (.ireturn, 1) := by decide +kernel
def f_Pg_sourceOf_0 (σ : pv_S) (x1 : Int32) (x2 : Int32) : Option (Int32 × pv_S) :=
  ((f_Pg_reads σ x1 x2).bind fun q1 =>
(if q1.1 = 0 then
  some ((-1 : Int32), q1.2)
  else
  (if pv_in x1 48 = true then
(if pv_in (((4 : Int32) * (q1.2.1 20 (x1).toNatClampNeg)) + x2) 96 = true then
some ((q1.2.1 14 ((((4 : Int32) * (q1.2.1 20 (x1).toNatClampNeg)) + x2)).toNatClampNeg), q1.2)
  else none)
  else none)))
set_option maxHeartbeats 4000000 in
set_option maxRecDepth 100000 in
theorem s_Pg_sourceOf_0 {p : Program} {l : Launch} {e : Env} {R : Room} {s : State} {m : MethodId} {args : Array Value} {below : List Frame} {meth : Method} {c : Code} {Q : State → Prop} {D : va_G} {q : Nat → ClassId} {a t : Nat → Nat} {A : Nat → Prop} (C : pv_C p s m args c prog_4_method_11_code 3 "PatchVoices$Program" pv_TB D pv_cl (pv_ty q) 52 a A (pv_ZX t A)) (hmv : pv_mv A (pv_ZX t A)) (hRf : 2 ≤ R.frames) (hRl : 44 ≤ R.locals) {out : (Int32 × pv_S)} (hret : pv_Ri p l e R s m args below meth c prog_4_method_11_code D pv_cl 52 a (pv_FX q a) A Q out) {σ : pv_S} {x1 : Int32} {x2 : Int32} {H : Heap} {locs : List Loc} {ls : Array Slot} (hl : lv_has ls 3 [(0, .ref (a 11)), (1, .int x1), (2, .int x2)]) (hP : pv_W D pv_cl 52 a (pv_FX q a) σ H) (hS : va_S A s.heap H locs) (hf : f_Pg_sourceOf_0 σ x1 x2 = some out) : W p l e R s m args below meth c H locs 0 0 Q (F0 m 0 ls []) := by
  unfold f_Pg_sourceOf_0 at hf
  have hx := C.1
  have hb := C.2.1
  refine lv_aload_n hx hb d_Pg_sourceOf_0 rfl (lv_at hl 0 rfl) ?_
  refine lv_iload_n hx hb d_Pg_sourceOf_1 rfl (lv_at hl 1 rfl) ?_
  refine lv_iload_n hx hb d_Pg_sourceOf_2 rfl (lv_at hl 2 rfl) ?_
  obtain ⟨q1, hc, hf⟩ := pv_b hf
  refine pv_callVi C hmv pv_good hP hS (As := [.int x1, .int x2]) (rest := []) (by decide) (fx_11 _ _ _ _) rfl (c_Pg_reads C.2.2.2.2.2.2.1 hmv hc) cv_Pg_109 ⟨rfl, rfl, Nat.le_trans (Nat.le_of_ble_eq_true rfl) hRf, Nat.le_trans (Nat.le_of_ble_eq_true rfl) hRl⟩ rfl hl.1 rfl (Nat.le_of_ble_eq_true rfl) d_Pg_sourceOf_3 ⟨Nat.zero_le _, Nat.zero_le _⟩ (fun H locs hP hS => ?_)
  refine lv_if_eq (tgt := 30) hx hb d_Pg_sourceOf_6 (by decide) (fun h => ?_) (fun h => ?_)
  · have hf := pv_t hf h
    refine lv_iconst (v := (-1 : Int32)) hx hb d_Pg_sourceOf_30 (by decide) ?_
    obtain rfl := Option.some.inj hf
    exact hret _ _ _ _ d_Pg_sourceOf_31 hP hS
  · have hf := pv_f hf h
    refine lv_aload_n hx hb d_Pg_sourceOf_9 rfl (lv_at hl 0 rfl) ?_
    refine pv_get C hP (v := .ref (a 12)) (j := 0) (by decide) (fx_11 _ _ _ _) fl_Pg_12 rfl d_Pg_sourceOf_10 ?_
    refine pv_get C hP (v := .ref (a 14)) (j := 2) (by decide) (fx_12 _ _ _ _) fl_Pg_113 rfl d_Pg_sourceOf_13 ?_
    refine lv_iconst (v := (4 : Int32)) hx hb d_Pg_sourceOf_16 (by decide) ?_
    refine lv_aload_n hx hb d_Pg_sourceOf_17 rfl (lv_at hl 0 rfl) ?_
    refine pv_get C hP (v := .ref (a 20)) (j := 3) (by decide) (fx_11 _ _ _ _) fl_Pg_20 rfl d_Pg_sourceOf_18 ?_
    refine lv_iload_n hx hb d_Pg_sourceOf_21 rfl (lv_at hl 1 rfl) ?_
    obtain ⟨hg, hf⟩ := pv_g hf
    refine pv_iald C hP (t0 := 0) (by decide) (fx_20 _ _ _ _) rfl hg d_Pg_sourceOf_22 ?_
    refine lv_imul hx hb d_Pg_sourceOf_23 ?_
    refine lv_iload_n hx hb d_Pg_sourceOf_24 rfl (lv_at hl 2 rfl) ?_
    refine lv_iadd hx hb d_Pg_sourceOf_25 ?_
    obtain ⟨hg, hf⟩ := pv_g hf
    refine pv_iald C hP (t0 := 0) (by decide) (fx_14 _ _ _ _) rfl hg d_Pg_sourceOf_26 ?_
    refine lv_goto (tgt := 31) hx hb d_Pg_sourceOf_27 (by decide) ?_
    obtain rfl := Option.some.inj hf
    exact hret _ _ _ _ d_Pg_sourceOf_31 hP hS
def f_Pg_sourceOf (σ : pv_S) (x1 : Int32) (x2 : Int32) : Option (Int32 × pv_S) := f_Pg_sourceOf_0 σ x1 x2
def rm_Pg_sourceOf : Room := { frames := 2, cells := 0, slots := 0, locals := 44 }
theorem c_Pg_sourceOf {l : Launch} {D : va_G} {q : Nat → ClassId} {a t : Nat → Nat} {A : Nat → Prop} (hD : pv_D 52 a A) (hmv : pv_mv A (pv_ZX t A)) {σ : pv_S} {x1 : Int32} {x2 : Int32} {out : (Int32 × pv_S)} (hf : f_Pg_sourceOf σ x1 x2 = some out) : pv_Mi l y_Pg_sourceOf (Cond.code y_Pg_sourceOf prog_4_method_11_code 3 (some .int) :: pv_TB) rm_Pg_sourceOf D pv_cl (pv_ty q) 52 a (pv_FX q a) A (pv_ZX t A) [.ref (a 11), .int x1, .int x2] σ out :=
  pv_ofI (by decide) (Nat.le_of_ble_eq_true rfl) hD (fun p e s m args below meth c Q ls C hret hl hP => s_Pg_sourceOf_0 C hmv (Nat.le_refl _) (Nat.le_refl _) hret hl hP va_S.rf hf)
theorem d_Pg_findLastReaders_0 : decode prog_4_method_6_code 0 = .ok (.aload_n 0, 1) := by decide +kernel
theorem d_Pg_findLastReaders_1 : decode prog_4_method_6_code 1 = .ok (.getfield 30, 3) := by decide +kernel
theorem d_Pg_findLastReaders_4 : decode prog_4_method_6_code 4 = .ok (.iconst (-1), 1) := by decide +kernel
theorem d_Pg_findLastReaders_5 : decode prog_4_method_6_code 5 = .ok (.invokestatic 77, 3) := by decide +kernel
theorem d_Pg_findLastReaders_8 : decode prog_4_method_6_code 8 = .ok (.iconst 0, 1) := by decide +kernel
theorem d_Pg_findLastReaders_9 : decode prog_4_method_6_code 9 = .ok (.istore_n 1, 1) := by decide +kernel
theorem d_Pg_findLastReaders_10 : decode prog_4_method_6_code 10 = .ok (.iload_n 1, 1) := by decide +kernel
theorem d_Pg_findLastReaders_11 : decode prog_4_method_6_code 11 = .ok (.aload_n 0, 1) := by decide +kernel
theorem d_Pg_findLastReaders_12 : decode prog_4_method_6_code 12 = .ok (.getfield 56, 3) := by decide +kernel
theorem d_Pg_findLastReaders_15 : decode prog_4_method_6_code 15 = .ok (.if_icmp .ge 41, 3) := by decide +kernel
theorem d_Pg_findLastReaders_18 : decode prog_4_method_6_code 18 = .ok (.iconst 0, 1) := by decide +kernel
theorem d_Pg_findLastReaders_19 : decode prog_4_method_6_code 19 = .ok (.istore_n 2, 1) := by decide +kernel
theorem d_Pg_findLastReaders_20 : decode prog_4_method_6_code 20 = .ok (.iload_n 2, 1) := by decide +kernel
theorem d_Pg_findLastReaders_21 : decode prog_4_method_6_code 21 = .ok (.iconst 4, 1) := by decide +kernel
theorem d_Pg_findLastReaders_22 : decode prog_4_method_6_code 22 = .ok (.if_icmp .ge 28, 3) := by decide +kernel
theorem d_Pg_findLastReaders_25 : decode prog_4_method_6_code 25 = .ok (.aload_n 0, 1) := by decide +kernel
theorem d_Pg_findLastReaders_26 : decode prog_4_method_6_code 26 = .ok (.iload_n 1, 1) := by decide +kernel
theorem d_Pg_findLastReaders_27 : decode prog_4_method_6_code 27 = .ok (.iload_n 2, 1) := by decide +kernel
theorem d_Pg_findLastReaders_28 : decode prog_4_method_6_code 28 = .ok (.invokevirtual 83, 3) := by decide +kernel
theorem d_Pg_findLastReaders_31 : decode prog_4_method_6_code 31 = .ok (.istore_n 3, 1) := by decide +kernel
theorem d_Pg_findLastReaders_32 : decode prog_4_method_6_code 32 = .ok (.iload_n 3, 1) := by decide +kernel
theorem d_Pg_findLastReaders_33 : decode prog_4_method_6_code 33 = .ok (.iconst (-1), 1) := by decide +kernel
theorem d_Pg_findLastReaders_34 : decode prog_4_method_6_code 34 = .ok (.if_icmp .eq 10, 3) := by decide +kernel
theorem d_Pg_findLastReaders_37 : decode prog_4_method_6_code 37 = .ok (.aload_n 0, 1) := by decide +kernel
theorem d_Pg_findLastReaders_38 : decode prog_4_method_6_code 38 = .ok (.getfield 30, 3) := by decide +kernel
theorem d_Pg_findLastReaders_41 : decode prog_4_method_6_code 41 = .ok (.iload_n 3, 1) := by decide +kernel
theorem d_Pg_findLastReaders_42 : decode prog_4_method_6_code 42 = .ok (.iload_n 1, 1) := by decide +kernel
theorem d_Pg_findLastReaders_43 : decode prog_4_method_6_code 43 = .ok (.iastore, 1) := by decide +kernel
theorem d_Pg_findLastReaders_44 : decode prog_4_method_6_code 44 = .ok (.iinc 2 1, 3) := by decide +kernel
theorem d_Pg_findLastReaders_47 : decode prog_4_method_6_code 47 = .ok (.goto (-27), 3) := by decide +kernel
theorem d_Pg_findLastReaders_50 : decode prog_4_method_6_code 50 = .ok (.iinc 1 1, 3) := by decide +kernel
theorem d_Pg_findLastReaders_53 : decode prog_4_method_6_code 53 = .ok (.goto (-43), 3) := by decide +kernel
theorem d_Pg_findLastReaders_56 : decode prog_4_method_6_code 56 = .ok (.aload_n 0, 1) := by decide +kernel
theorem d_Pg_findLastReaders_57 : decode prog_4_method_6_code 57 = .ok (.getfield 12, 3) := by decide +kernel
theorem d_Pg_findLastReaders_60 : decode prog_4_method_6_code 60 = .ok (.invokevirtual 87, 3) := by decide +kernel
theorem d_Pg_findLastReaders_63 : decode prog_4_method_6_code 63 = .ok (.istore_n 1, 1) := by decide +kernel
theorem d_Pg_findLastReaders_64 : decode prog_4_method_6_code 64 = .ok (.iload_n 1, 1) := by decide +kernel
theorem d_Pg_findLastReaders_65 : decode prog_4_method_6_code 65 = .ok (.iconst (-1), 1) := by decide +kernel
theorem d_Pg_findLastReaders_66 : decode prog_4_method_6_code 66 = .ok (.if_icmp .eq 13, 3) := by decide +kernel
theorem d_Pg_findLastReaders_69 : decode prog_4_method_6_code 69 = .ok (.aload_n 0, 1) := by decide +kernel
theorem d_Pg_findLastReaders_70 : decode prog_4_method_6_code 70 = .ok (.getfield 30, 3) := by decide +kernel
theorem d_Pg_findLastReaders_73 : decode prog_4_method_6_code 73 = .ok (.iload_n 1, 1) := by decide +kernel
theorem d_Pg_findLastReaders_74 : decode prog_4_method_6_code 74 = .ok (.aload_n 0, 1) := by decide +kernel
theorem d_Pg_findLastReaders_75 : decode prog_4_method_6_code 75 = .ok (.getfield 56, 3) := by decide +kernel
theorem d_Pg_findLastReaders_78 : decode prog_4_method_6_code 78 = .ok (.iastore, 1) := by decide +kernel
theorem d_Pg_findLastReaders_79 : decode prog_4_method_6_code 79 = .ok (.return_, 1) := by decide +kernel
def f_Pg_findLastReaders_44 (k_10 : pv_S → Int32 → Option pv_S) (k_20 : pv_S → Int32 → Int32 → Option pv_S) (σ : pv_S) (x1 : Int32) (x2 : Int32) : Option pv_S :=
  k_20 σ x1 (x2 + (1 : Int32))
set_option maxHeartbeats 4000000 in
set_option maxRecDepth 100000 in
theorem s_Pg_findLastReaders_44 {p : Program} {l : Launch} {e : Env} {R : Room} {s : State} {m : MethodId} {args : Array Value} {below : List Frame} {meth : Method} {c : Code} {Q : State → Prop} {D : va_G} {q : Nat → ClassId} {a t : Nat → Nat} {A : Nat → Prop} (C : pv_C p s m args c prog_4_method_6_code 4 "PatchVoices$Program" pv_TB D pv_cl (pv_ty q) 52 a A (pv_ZX t A)) (hmv : pv_mv A (pv_ZX t A)) (hRf : 3 ≤ R.frames) (hRl : 66 ≤ R.locals) {out : pv_S} (hret : pv_Rv p l e R s m args below meth c prog_4_method_6_code D pv_cl 52 a (pv_FX q a) A Q out) {k_10 : pv_S → Int32 → Option pv_S} (hk_10 : ∀ (σ : pv_S) (x1 : Int32) (H : Heap) (locs : List Loc) (ls : Array Slot), k_10 σ x1 = some out → lv_has ls 4 [(0, .ref (a 11)), (1, .int x1)] → pv_W D pv_cl 52 a (pv_FX q a) σ H → va_S A s.heap H locs → W p l e R s m args below meth c H locs 0 0 Q (F0 m 10 ls [])) {k_20 : pv_S → Int32 → Int32 → Option pv_S} (hk_20 : ∀ (σ : pv_S) (x1 : Int32) (x2 : Int32) (H : Heap) (locs : List Loc) (ls : Array Slot), k_20 σ x1 x2 = some out → lv_has ls 4 [(0, .ref (a 11)), (1, .int x1), (2, .int x2)] → pv_W D pv_cl 52 a (pv_FX q a) σ H → va_S A s.heap H locs → W p l e R s m args below meth c H locs 0 0 Q (F0 m 20 ls [])) {σ : pv_S} {x1 : Int32} {x2 : Int32} {H : Heap} {locs : List Loc} {ls : Array Slot} (hl : lv_has ls 4 [(0, .ref (a 11)), (1, .int x1), (2, .int x2)]) (hP : pv_W D pv_cl 52 a (pv_FX q a) σ H) (hS : va_S A s.heap H locs) (hf : f_Pg_findLastReaders_44 k_10 k_20 σ x1 x2 = some out) : W p l e R s m args below meth c H locs 0 0 Q (F0 m 44 ls []) := by
  unfold f_Pg_findLastReaders_44 at hf
  have hx := C.1
  have hb := C.2.1
  refine lv_iinc (k := 2) (v := (x2 + (1 : Int32))) (lv' := [(2, .int (x2 + (1 : Int32))), (0, .ref (a 11)), (1, .int x1)]) hx hb d_Pg_findLastReaders_44 hl rfl (pv_inc (by decide)) (by decide) rfl (fun ls hl => ?_)
  refine lv_goto (tgt := 20) hx hb d_Pg_findLastReaders_47 (by decide) ?_
  exact hk_20 _ _ _ _ _ _ hf (lv_sub hl [1, 2, 0] rfl) hP hS
def f_Pg_findLastReaders_20b (k_10 : pv_S → Int32 → Option pv_S) (k_20 : pv_S → Int32 → Int32 → Option pv_S) (σ : pv_S) (x1 : Int32) (x2 : Int32) : Option pv_S :=
  (if (4 : Int32) ≤ x2 then
  k_10 σ (x1 + (1 : Int32))
  else
  ((f_Pg_sourceOf σ x1 x2).bind fun q3 =>
(if q3.1 = (-1 : Int32) then
  f_Pg_findLastReaders_44 k_10 k_20 q3.2 x1 x2
  else
  (if pv_in q3.1 24 = true then
f_Pg_findLastReaders_44 k_10 k_20 (pv_uI q3.2 23 (q3.1).toNatClampNeg x1) x1 x2
  else none))))
set_option maxHeartbeats 4000000 in
set_option maxRecDepth 100000 in
theorem s_Pg_findLastReaders_20b {p : Program} {l : Launch} {e : Env} {R : Room} {s : State} {m : MethodId} {args : Array Value} {below : List Frame} {meth : Method} {c : Code} {Q : State → Prop} {D : va_G} {q : Nat → ClassId} {a t : Nat → Nat} {A : Nat → Prop} (C : pv_C p s m args c prog_4_method_6_code 4 "PatchVoices$Program" pv_TB D pv_cl (pv_ty q) 52 a A (pv_ZX t A)) (hmv : pv_mv A (pv_ZX t A)) (hRf : 3 ≤ R.frames) (hRl : 66 ≤ R.locals) {out : pv_S} (hret : pv_Rv p l e R s m args below meth c prog_4_method_6_code D pv_cl 52 a (pv_FX q a) A Q out) {k_10 : pv_S → Int32 → Option pv_S} (hk_10 : ∀ (σ : pv_S) (x1 : Int32) (H : Heap) (locs : List Loc) (ls : Array Slot), k_10 σ x1 = some out → lv_has ls 4 [(0, .ref (a 11)), (1, .int x1)] → pv_W D pv_cl 52 a (pv_FX q a) σ H → va_S A s.heap H locs → W p l e R s m args below meth c H locs 0 0 Q (F0 m 10 ls [])) {k_20 : pv_S → Int32 → Int32 → Option pv_S} (hk_20 : ∀ (σ : pv_S) (x1 : Int32) (x2 : Int32) (H : Heap) (locs : List Loc) (ls : Array Slot), k_20 σ x1 x2 = some out → lv_has ls 4 [(0, .ref (a 11)), (1, .int x1), (2, .int x2)] → pv_W D pv_cl 52 a (pv_FX q a) σ H → va_S A s.heap H locs → W p l e R s m args below meth c H locs 0 0 Q (F0 m 20 ls [])) {σ : pv_S} {x1 : Int32} {x2 : Int32} {H : Heap} {locs : List Loc} {ls : Array Slot} (hl : lv_has ls 4 [(0, .ref (a 11)), (1, .int x1), (2, .int x2)]) (hP : pv_W D pv_cl 52 a (pv_FX q a) σ H) (hS : va_S A s.heap H locs) (hf : f_Pg_findLastReaders_20b k_10 k_20 σ x1 x2 = some out) : W p l e R s m args below meth c H locs 0 0 Q (F0 m 20 ls []) := by
  unfold f_Pg_findLastReaders_20b at hf
  have hx := C.1
  have hb := C.2.1
  refine lv_iload_n hx hb d_Pg_findLastReaders_20 rfl (lv_at hl 2 rfl) ?_
  refine lv_iconst (v := (4 : Int32)) hx hb d_Pg_findLastReaders_21 (by decide) ?_
  refine lv_icmp_ge (tgt := 50) hx hb d_Pg_findLastReaders_22 (by decide) (fun h => ?_) (fun h => ?_)
  · have hf := pv_t hf h
    refine lv_iinc (k := 1) (v := (x1 + (1 : Int32))) (lv' := [(1, .int (x1 + (1 : Int32))), (0, .ref (a 11)), (2, .int x2)]) hx hb d_Pg_findLastReaders_50 hl rfl (pv_inc (by decide)) (by decide) rfl (fun ls hl => ?_)
    refine lv_goto (tgt := 10) hx hb d_Pg_findLastReaders_53 (by decide) ?_
    exact hk_10 _ _ _ _ _ hf (lv_sub hl [1, 0] rfl) hP hS
  · have hf := pv_f hf h
    refine lv_aload_n hx hb d_Pg_findLastReaders_25 rfl (lv_at hl 0 rfl) ?_
    refine lv_iload_n hx hb d_Pg_findLastReaders_26 rfl (lv_at hl 1 rfl) ?_
    refine lv_iload_n hx hb d_Pg_findLastReaders_27 rfl (lv_at hl 2 rfl) ?_
    obtain ⟨q3, hc, hf⟩ := pv_b hf
    refine pv_callVi C hmv pv_good hP hS (As := [.int x1, .int x2]) (rest := []) (by decide) (fx_11 _ _ _ _) rfl (c_Pg_sourceOf C.2.2.2.2.2.2.1 hmv hc) cv_Pg_83 ⟨rfl, rfl, Nat.le_trans (Nat.le_of_ble_eq_true rfl) hRf, Nat.le_trans (Nat.le_of_ble_eq_true rfl) hRl⟩ rfl hl.1 rfl (Nat.le_of_ble_eq_true rfl) d_Pg_findLastReaders_28 ⟨Nat.zero_le _, Nat.zero_le _⟩ (fun H locs hP hS => ?_)
    refine lv_istore_n (lv' := [(3, .int q3.1), (0, .ref (a 11)), (1, .int x1), (2, .int x2)]) hx hb d_Pg_findLastReaders_31 rfl hl (by decide) rfl (fun ls hl => ?_)
    refine lv_iload_n hx hb d_Pg_findLastReaders_32 rfl (lv_at hl 0 rfl) ?_
    refine lv_iconst (v := (-1 : Int32)) hx hb d_Pg_findLastReaders_33 (by decide) ?_
    refine lv_icmp_eq (tgt := 44) hx hb d_Pg_findLastReaders_34 (by decide) (fun h => ?_) (fun h => ?_)
    · have hf := pv_t hf h
      exact s_Pg_findLastReaders_44 C hmv hRf hRl hret hk_10 hk_20 (lv_sub hl [1, 2, 3] rfl) hP hS hf
    · have hf := pv_f hf h
      refine lv_aload_n hx hb d_Pg_findLastReaders_37 rfl (lv_at hl 1 rfl) ?_
      refine pv_get C hP (v := .ref (a 23)) (j := 7) (by decide) (fx_11 _ _ _ _) fl_Pg_30 rfl d_Pg_findLastReaders_38 ?_
      refine lv_iload_n hx hb d_Pg_findLastReaders_41 rfl (lv_at hl 0 rfl) ?_
      refine lv_iload_n hx hb d_Pg_findLastReaders_42 rfl (lv_at hl 2 rfl) ?_
      obtain ⟨hg, hf⟩ := pv_g hf
      refine pv_iast C hP hS (t0 := 0) (x := x1) (by decide) (fun f g => (fx_23 _ _ f g)) rfl hg d_Pg_findLastReaders_43 (fun H locs hP hS => ?_)
      exact s_Pg_findLastReaders_44 C hmv hRf hRl hret hk_10 hk_20 (lv_sub hl [1, 2, 3] rfl) hP hS hf
def f_Pg_findLastReaders_20 (k_10 : pv_S → Int32 → Option pv_S) : Nat → pv_S → Int32 → Int32 → Option pv_S
  | 0 => fun _ _ _ => none
  | n + 1 => f_Pg_findLastReaders_20b k_10 (f_Pg_findLastReaders_20 k_10 n)
set_option maxHeartbeats 4000000 in
theorem s_Pg_findLastReaders_20 {p : Program} {l : Launch} {e : Env} {R : Room} {s : State} {m : MethodId} {args : Array Value} {below : List Frame} {meth : Method} {c : Code} {Q : State → Prop} {D : va_G} {q : Nat → ClassId} {a t : Nat → Nat} {A : Nat → Prop} (C : pv_C p s m args c prog_4_method_6_code 4 "PatchVoices$Program" pv_TB D pv_cl (pv_ty q) 52 a A (pv_ZX t A)) (hmv : pv_mv A (pv_ZX t A)) (hRf : 3 ≤ R.frames) (hRl : 66 ≤ R.locals) {out : pv_S} (hret : pv_Rv p l e R s m args below meth c prog_4_method_6_code D pv_cl 52 a (pv_FX q a) A Q out) {k_10 : pv_S → Int32 → Option pv_S} (hk_10 : ∀ (σ : pv_S) (x1 : Int32) (H : Heap) (locs : List Loc) (ls : Array Slot), k_10 σ x1 = some out → lv_has ls 4 [(0, .ref (a 11)), (1, .int x1)] → pv_W D pv_cl 52 a (pv_FX q a) σ H → va_S A s.heap H locs → W p l e R s m args below meth c H locs 0 0 Q (F0 m 10 ls [])) (n : Nat) : ∀ {σ : pv_S} {x1 : Int32} {x2 : Int32} {H : Heap} {locs : List Loc} {ls : Array Slot}, lv_has ls 4 [(0, .ref (a 11)), (1, .int x1), (2, .int x2)] → pv_W D pv_cl 52 a (pv_FX q a) σ H → va_S A s.heap H locs → f_Pg_findLastReaders_20 k_10 n σ x1 x2 = some out → W p l e R s m args below meth c H locs 0 0 Q (F0 m 20 ls []) := by
  induction n with
  | zero => intro σ x1 x2 H locs ls hl hP hS hf; cases hf
  | succ n ih => intro σ x1 x2 H locs ls hl hP hS hf; exact s_Pg_findLastReaders_20b C hmv hRf hRl hret hk_10 (fun σ x1 x2 H locs ls hf hl hP hS => ih hl hP hS hf) hl hP hS hf
def f_Pg_findLastReaders_10b (k_10 : pv_S → Int32 → Option pv_S) (σ : pv_S) (x1 : Int32) : Option pv_S :=
  (if (σ.1 11 1) ≤ x1 then
  ((f_Wr_outputModule σ).bind fun q2 =>
(if q2.1 = (-1 : Int32) then
  some q2.2
  else
  (if pv_in q2.1 24 = true then
some (pv_uI q2.2 23 (q2.1).toNatClampNeg (q2.2.1 11 1))
  else none)))
  else
  f_Pg_findLastReaders_20 k_10 pv_fu σ x1 (0 : Int32))
set_option maxHeartbeats 4000000 in
set_option maxRecDepth 100000 in
theorem s_Pg_findLastReaders_10b {p : Program} {l : Launch} {e : Env} {R : Room} {s : State} {m : MethodId} {args : Array Value} {below : List Frame} {meth : Method} {c : Code} {Q : State → Prop} {D : va_G} {q : Nat → ClassId} {a t : Nat → Nat} {A : Nat → Prop} (C : pv_C p s m args c prog_4_method_6_code 4 "PatchVoices$Program" pv_TB D pv_cl (pv_ty q) 52 a A (pv_ZX t A)) (hmv : pv_mv A (pv_ZX t A)) (hRf : 3 ≤ R.frames) (hRl : 66 ≤ R.locals) {out : pv_S} (hret : pv_Rv p l e R s m args below meth c prog_4_method_6_code D pv_cl 52 a (pv_FX q a) A Q out) {k_10 : pv_S → Int32 → Option pv_S} (hk_10 : ∀ (σ : pv_S) (x1 : Int32) (H : Heap) (locs : List Loc) (ls : Array Slot), k_10 σ x1 = some out → lv_has ls 4 [(0, .ref (a 11)), (1, .int x1)] → pv_W D pv_cl 52 a (pv_FX q a) σ H → va_S A s.heap H locs → W p l e R s m args below meth c H locs 0 0 Q (F0 m 10 ls [])) {σ : pv_S} {x1 : Int32} {H : Heap} {locs : List Loc} {ls : Array Slot} (hl : lv_has ls 4 [(0, .ref (a 11)), (1, .int x1)]) (hP : pv_W D pv_cl 52 a (pv_FX q a) σ H) (hS : va_S A s.heap H locs) (hf : f_Pg_findLastReaders_10b k_10 σ x1 = some out) : W p l e R s m args below meth c H locs 0 0 Q (F0 m 10 ls []) := by
  unfold f_Pg_findLastReaders_10b at hf
  have hx := C.1
  have hb := C.2.1
  refine lv_iload_n hx hb d_Pg_findLastReaders_10 rfl (lv_at hl 1 rfl) ?_
  refine lv_aload_n hx hb d_Pg_findLastReaders_11 rfl (lv_at hl 0 rfl) ?_
  refine pv_get C hP (v := .int (σ.1 11 1)) (j := 1) (by decide) (fx_11 _ _ _ _) fl_Pg_56 rfl d_Pg_findLastReaders_12 ?_
  refine lv_icmp_ge (tgt := 56) hx hb d_Pg_findLastReaders_15 (by decide) (fun h => ?_) (fun h => ?_)
  · have hf := pv_t hf h
    refine lv_aload_n hx hb d_Pg_findLastReaders_56 rfl (lv_at hl 0 rfl) ?_
    refine pv_get C hP (v := .ref (a 12)) (j := 0) (by decide) (fx_11 _ _ _ _) fl_Pg_12 rfl d_Pg_findLastReaders_57 ?_
    obtain ⟨q2, hc, hf⟩ := pv_b hf
    refine pv_callVi C hmv pv_good hP hS (As := []) (rest := []) (by decide) (fx_12 _ _ _ _) rfl (c_Wr_outputModule C.2.2.2.2.2.2.1 hmv hc) cv_Pg_87 ⟨rfl, rfl, Nat.le_trans (Nat.le_of_ble_eq_true rfl) hRf, Nat.le_trans (Nat.le_of_ble_eq_true rfl) hRl⟩ rfl hl.1 rfl (Nat.le_of_ble_eq_true rfl) d_Pg_findLastReaders_60 ⟨Nat.zero_le _, Nat.zero_le _⟩ (fun H locs hP hS => ?_)
    refine lv_istore_n (lv' := [(1, .int q2.1), (0, .ref (a 11))]) hx hb d_Pg_findLastReaders_63 rfl hl (by decide) rfl (fun ls hl => ?_)
    refine lv_iload_n hx hb d_Pg_findLastReaders_64 rfl (lv_at hl 0 rfl) ?_
    refine lv_iconst (v := (-1 : Int32)) hx hb d_Pg_findLastReaders_65 (by decide) ?_
    refine lv_icmp_eq (tgt := 79) hx hb d_Pg_findLastReaders_66 (by decide) (fun h => ?_) (fun h => ?_)
    · have hf := pv_t hf h
      obtain rfl := Option.some.inj hf
      exact hret _ _ _ _ d_Pg_findLastReaders_79 hP hS
    · have hf := pv_f hf h
      refine lv_aload_n hx hb d_Pg_findLastReaders_69 rfl (lv_at hl 1 rfl) ?_
      refine pv_get C hP (v := .ref (a 23)) (j := 7) (by decide) (fx_11 _ _ _ _) fl_Pg_30 rfl d_Pg_findLastReaders_70 ?_
      refine lv_iload_n hx hb d_Pg_findLastReaders_73 rfl (lv_at hl 0 rfl) ?_
      refine lv_aload_n hx hb d_Pg_findLastReaders_74 rfl (lv_at hl 1 rfl) ?_
      refine pv_get C hP (v := .int (q2.2.1 11 1)) (j := 1) (by decide) (fx_11 _ _ _ _) fl_Pg_56 rfl d_Pg_findLastReaders_75 ?_
      obtain ⟨hg, hf⟩ := pv_g hf
      refine pv_iast C hP hS (t0 := 0) (x := (q2.2.1 11 1)) (by decide) (fun f g => (fx_23 _ _ f g)) rfl hg d_Pg_findLastReaders_78 (fun H locs hP hS => ?_)
      obtain rfl := Option.some.inj hf
      exact hret _ _ _ _ d_Pg_findLastReaders_79 hP hS
  · have hf := pv_f hf h
    refine lv_iconst (v := (0 : Int32)) hx hb d_Pg_findLastReaders_18 (by decide) ?_
    refine lv_istore_n (lv' := [(2, .int (0 : Int32)), (0, .ref (a 11)), (1, .int x1)]) hx hb d_Pg_findLastReaders_19 rfl hl (by decide) rfl (fun ls hl => ?_)
    exact s_Pg_findLastReaders_20 C hmv hRf hRl hret hk_10 pv_fu (lv_sub hl [1, 2, 0] rfl) hP hS hf
def f_Pg_findLastReaders_10 : Nat → pv_S → Int32 → Option pv_S
  | 0 => fun _ _ => none
  | n + 1 => f_Pg_findLastReaders_10b (f_Pg_findLastReaders_10 n)
set_option maxHeartbeats 4000000 in
theorem s_Pg_findLastReaders_10 {p : Program} {l : Launch} {e : Env} {R : Room} {s : State} {m : MethodId} {args : Array Value} {below : List Frame} {meth : Method} {c : Code} {Q : State → Prop} {D : va_G} {q : Nat → ClassId} {a t : Nat → Nat} {A : Nat → Prop} (C : pv_C p s m args c prog_4_method_6_code 4 "PatchVoices$Program" pv_TB D pv_cl (pv_ty q) 52 a A (pv_ZX t A)) (hmv : pv_mv A (pv_ZX t A)) (hRf : 3 ≤ R.frames) (hRl : 66 ≤ R.locals) {out : pv_S} (hret : pv_Rv p l e R s m args below meth c prog_4_method_6_code D pv_cl 52 a (pv_FX q a) A Q out) (n : Nat) : ∀ {σ : pv_S} {x1 : Int32} {H : Heap} {locs : List Loc} {ls : Array Slot}, lv_has ls 4 [(0, .ref (a 11)), (1, .int x1)] → pv_W D pv_cl 52 a (pv_FX q a) σ H → va_S A s.heap H locs → f_Pg_findLastReaders_10 n σ x1 = some out → W p l e R s m args below meth c H locs 0 0 Q (F0 m 10 ls []) := by
  induction n with
  | zero => intro σ x1 H locs ls hl hP hS hf; cases hf
  | succ n ih => intro σ x1 H locs ls hl hP hS hf; exact s_Pg_findLastReaders_10b C hmv hRf hRl hret (fun σ x1 H locs ls hf hl hP hS => ih hl hP hS hf) hl hP hS hf
def f_Pg_findLastReaders_0 (σ : pv_S) : Option pv_S :=
  ((f_Fill_23 σ (-1 : Int32)).bind fun q1 =>
f_Pg_findLastReaders_10 pv_fu q1 (0 : Int32))
set_option maxHeartbeats 4000000 in
set_option maxRecDepth 100000 in
theorem s_Pg_findLastReaders_0 {p : Program} {l : Launch} {e : Env} {R : Room} {s : State} {m : MethodId} {args : Array Value} {below : List Frame} {meth : Method} {c : Code} {Q : State → Prop} {D : va_G} {q : Nat → ClassId} {a t : Nat → Nat} {A : Nat → Prop} (C : pv_C p s m args c prog_4_method_6_code 4 "PatchVoices$Program" pv_TB D pv_cl (pv_ty q) 52 a A (pv_ZX t A)) (hmv : pv_mv A (pv_ZX t A)) (hRf : 3 ≤ R.frames) (hRl : 66 ≤ R.locals) {out : pv_S} (hret : pv_Rv p l e R s m args below meth c prog_4_method_6_code D pv_cl 52 a (pv_FX q a) A Q out) {σ : pv_S} {H : Heap} {locs : List Loc} {ls : Array Slot} (hl : lv_has ls 4 [(0, .ref (a 11))]) (hP : pv_W D pv_cl 52 a (pv_FX q a) σ H) (hS : va_S A s.heap H locs) (hf : f_Pg_findLastReaders_0 σ = some out) : W p l e R s m args below meth c H locs 0 0 Q (F0 m 0 ls []) := by
  unfold f_Pg_findLastReaders_0 at hf
  have hx := C.1
  have hb := C.2.1
  refine lv_aload_n hx hb d_Pg_findLastReaders_0 rfl (lv_at hl 0 rfl) ?_
  refine pv_get C hP (v := .ref (a 23)) (j := 7) (by decide) (fx_11 _ _ _ _) fl_Pg_30 rfl d_Pg_findLastReaders_1 ?_
  refine lv_iconst (v := (-1 : Int32)) hx hb d_Pg_findLastReaders_4 (by decide) ?_
  obtain ⟨q1, hc, hf⟩ := pv_b hf
  refine pv_callSv C hmv pv_good hP hS (As := [.ref (a 23), .int (-1 : Int32)]) (rest := []) (c_Fill_23 C.2.2.2.2.2.2.1 hmv hc) cs_Pg_77 ⟨rfl, rfl, Nat.le_trans (Nat.le_of_ble_eq_true rfl) hRf, Nat.le_trans (Nat.le_of_ble_eq_true rfl) hRl⟩ rfl hl.1 rfl (Nat.le_of_ble_eq_true rfl) d_Pg_findLastReaders_5 ⟨Nat.zero_le _, Nat.zero_le _⟩ (fun H locs hP hS => ?_)
  refine lv_iconst (v := (0 : Int32)) hx hb d_Pg_findLastReaders_8 (by decide) ?_
  refine lv_istore_n (lv' := [(1, .int (0 : Int32)), (0, .ref (a 11))]) hx hb d_Pg_findLastReaders_9 rfl hl (by decide) rfl (fun ls hl => ?_)
  exact s_Pg_findLastReaders_10 C hmv hRf hRl hret pv_fu (lv_sub hl [1, 0] rfl) hP hS hf
def f_Pg_findLastReaders (σ : pv_S) : Option pv_S := f_Pg_findLastReaders_0 σ
def rm_Pg_findLastReaders : Room := { frames := 3, cells := 0, slots := 0, locals := 66 }
theorem c_Pg_findLastReaders {l : Launch} {D : va_G} {q : Nat → ClassId} {a t : Nat → Nat} {A : Nat → Prop} (hD : pv_D 52 a A) (hmv : pv_mv A (pv_ZX t A)) {σ : pv_S} {out : pv_S} (hf : f_Pg_findLastReaders σ = some out) : pv_Mv l y_Pg_findLastReaders (Cond.code y_Pg_findLastReaders prog_4_method_6_code 4 none :: pv_TB) rm_Pg_findLastReaders D pv_cl (pv_ty q) 52 a (pv_FX q a) A (pv_ZX t A) [.ref (a 11)] σ out :=
  pv_ofV (by decide) (Nat.le_of_ble_eq_true rfl) hD (fun p e s m args below meth c Q ls C hret hl hP => s_Pg_findLastReaders_0 C hmv (Nat.le_refl _) (Nat.le_refl _) hret hl hP va_S.rf hf)
theorem d_Pg_leastFreeSlot_0 : decode prog_4_method_8_code 0 = .ok (.iconst 0, 1) := by decide +kernel
theorem d_Pg_leastFreeSlot_1 : decode prog_4_method_8_code 1 = .ok (.istore_n 2, 1) := by decide +kernel
theorem d_Pg_leastFreeSlot_2 : decode prog_4_method_8_code 2 = .ok (.iload_n 2, 1) := by decide +kernel
theorem d_Pg_leastFreeSlot_3 : decode prog_4_method_8_code 3 = .ok (.aload_n 0, 1) := by decide +kernel
theorem d_Pg_leastFreeSlot_4 : decode prog_4_method_8_code 4 = .ok (.getfield 33, 3) := by decide +kernel
theorem d_Pg_leastFreeSlot_7 : decode prog_4_method_8_code 7 = .ok (.arraylength, 1) := by decide +kernel
theorem d_Pg_leastFreeSlot_8 : decode prog_4_method_8_code 8 = .ok (.iconst 1, 1) := by decide +kernel
theorem d_Pg_leastFreeSlot_9 : decode prog_4_method_8_code 9 = .ok (.isub, 1) := by decide +kernel
theorem d_Pg_leastFreeSlot_10 : decode prog_4_method_8_code 10 = .ok (.if_icmp .ge 21, 3) := by decide +kernel
theorem d_Pg_leastFreeSlot_13 : decode prog_4_method_8_code 13 = .ok (.aload_n 0, 1) := by decide +kernel
theorem d_Pg_leastFreeSlot_14 : decode prog_4_method_8_code 14 = .ok (.getfield 33, 3) := by decide +kernel
theorem d_Pg_leastFreeSlot_17 : decode prog_4_method_8_code 17 = .ok (.iload_n 2, 1) := by decide +kernel
theorem d_Pg_leastFreeSlot_18 : decode prog_4_method_8_code 18 = .ok (.iaload, 1) := by decide +kernel
theorem d_Pg_leastFreeSlot_19 : decode prog_4_method_8_code 19 = .ok (.iload_n 1, 1) := by decide +kernel
theorem d_Pg_leastFreeSlot_20 : decode prog_4_method_8_code 20 = .ok (.if_icmp .gt 5, 3) := by decide +kernel
theorem d_Pg_leastFreeSlot_23 : decode prog_4_method_8_code 23 = .ok (.iload_n 2, 1) := by decide +kernel
theorem d_Pg_leastFreeSlot_24 : decode prog_4_method_8_code 24 = .ok (.ireturn, 1) := by decide +kernel
theorem d_Pg_leastFreeSlot_25 : decode prog_4_method_8_code 25 = .ok (.iinc 2 1, 3) := by decide +kernel
theorem d_Pg_leastFreeSlot_28 : decode prog_4_method_8_code 28 = .ok (.goto (-26), 3) := by decide +kernel
theorem d_Pg_leastFreeSlot_31 : decode prog_4_method_8_code 31 = .ok (.aload_n 0, 1) := by decide +kernel
theorem d_Pg_leastFreeSlot_32 : decode prog_4_method_8_code 32 = .ok (.getfield 33, 3) := by decide +kernel
theorem d_Pg_leastFreeSlot_35 : decode prog_4_method_8_code 35 = .ok (.arraylength, 1) := by decide +kernel
theorem d_Pg_leastFreeSlot_36 : decode prog_4_method_8_code 36 = .ok (.iconst 1, 1) := by decide +kernel
theorem d_Pg_leastFreeSlot_37 : decode prog_4_method_8_code 37 = .ok (.isub, 1) := by decide +kernel
theorem d_Pg_leastFreeSlot_38 : decode prog_4_method_8_code 38 = .ok (.ireturn, 1) := by decide +kernel
def f_Pg_leastFreeSlot_2b (k_2 : pv_S → Int32 → Int32 → Option (Int32 × pv_S)) (σ : pv_S) (x1 : Int32) (x2 : Int32) : Option (Int32 × pv_S) :=
  (if ((24 : Int32) - (1 : Int32)) ≤ x2 then
  some (((24 : Int32) - (1 : Int32)), σ)
  else
  (if pv_in x2 24 = true then
(if x1 < (σ.1 24 (x2).toNatClampNeg) then
  k_2 σ x1 (x2 + (1 : Int32))
  else
  some (x2, σ))
  else none))
set_option maxHeartbeats 4000000 in
set_option maxRecDepth 100000 in
theorem s_Pg_leastFreeSlot_2b {p : Program} {l : Launch} {e : Env} {R : Room} {s : State} {m : MethodId} {args : Array Value} {below : List Frame} {meth : Method} {c : Code} {Q : State → Prop} {D : va_G} {q : Nat → ClassId} {a t : Nat → Nat} {A : Nat → Prop} (C : pv_C p s m args c prog_4_method_8_code 3 "PatchVoices$Program" pv_TB D pv_cl (pv_ty q) 52 a A (pv_ZX t A)) (hmv : pv_mv A (pv_ZX t A)) (hRf : 0 ≤ R.frames) (hRl : 0 ≤ R.locals) {out : (Int32 × pv_S)} (hret : pv_Ri p l e R s m args below meth c prog_4_method_8_code D pv_cl 52 a (pv_FX q a) A Q out) {k_2 : pv_S → Int32 → Int32 → Option (Int32 × pv_S)} (hk_2 : ∀ (σ : pv_S) (x1 : Int32) (x2 : Int32) (H : Heap) (locs : List Loc) (ls : Array Slot), k_2 σ x1 x2 = some out → lv_has ls 3 [(0, .ref (a 11)), (1, .int x1), (2, .int x2)] → pv_W D pv_cl 52 a (pv_FX q a) σ H → va_S A s.heap H locs → W p l e R s m args below meth c H locs 0 0 Q (F0 m 2 ls [])) {σ : pv_S} {x1 : Int32} {x2 : Int32} {H : Heap} {locs : List Loc} {ls : Array Slot} (hl : lv_has ls 3 [(0, .ref (a 11)), (1, .int x1), (2, .int x2)]) (hP : pv_W D pv_cl 52 a (pv_FX q a) σ H) (hS : va_S A s.heap H locs) (hf : f_Pg_leastFreeSlot_2b k_2 σ x1 x2 = some out) : W p l e R s m args below meth c H locs 0 0 Q (F0 m 2 ls []) := by
  unfold f_Pg_leastFreeSlot_2b at hf
  have hx := C.1
  have hb := C.2.1
  refine lv_iload_n hx hb d_Pg_leastFreeSlot_2 rfl (lv_at hl 2 rfl) ?_
  refine lv_aload_n hx hb d_Pg_leastFreeSlot_3 rfl (lv_at hl 0 rfl) ?_
  refine pv_get C hP (v := .ref (a 24)) (j := 8) (by decide) (fx_11 _ _ _ _) fl_Pg_33 rfl d_Pg_leastFreeSlot_4 ?_
  refine pv_alen C hP (t0 := 0) (v := (24 : Int32)) (by decide) (fx_24 _ _ _ _) rfl rfl d_Pg_leastFreeSlot_7 ?_
  refine lv_iconst (v := (1 : Int32)) hx hb d_Pg_leastFreeSlot_8 (by decide) ?_
  refine lv_isub hx hb d_Pg_leastFreeSlot_9 ?_
  refine lv_icmp_ge (tgt := 31) hx hb d_Pg_leastFreeSlot_10 (by decide) (fun h => ?_) (fun h => ?_)
  · have hf := pv_t hf h
    refine lv_aload_n hx hb d_Pg_leastFreeSlot_31 rfl (lv_at hl 0 rfl) ?_
    refine pv_get C hP (v := .ref (a 24)) (j := 8) (by decide) (fx_11 _ _ _ _) fl_Pg_33 rfl d_Pg_leastFreeSlot_32 ?_
    refine pv_alen C hP (t0 := 0) (v := (24 : Int32)) (by decide) (fx_24 _ _ _ _) rfl rfl d_Pg_leastFreeSlot_35 ?_
    refine lv_iconst (v := (1 : Int32)) hx hb d_Pg_leastFreeSlot_36 (by decide) ?_
    refine lv_isub hx hb d_Pg_leastFreeSlot_37 ?_
    obtain rfl := Option.some.inj hf
    exact hret _ _ _ _ d_Pg_leastFreeSlot_38 hP hS
  · have hf := pv_f hf h
    refine lv_aload_n hx hb d_Pg_leastFreeSlot_13 rfl (lv_at hl 0 rfl) ?_
    refine pv_get C hP (v := .ref (a 24)) (j := 8) (by decide) (fx_11 _ _ _ _) fl_Pg_33 rfl d_Pg_leastFreeSlot_14 ?_
    refine lv_iload_n hx hb d_Pg_leastFreeSlot_17 rfl (lv_at hl 2 rfl) ?_
    obtain ⟨hg, hf⟩ := pv_g hf
    refine pv_iald C hP (t0 := 0) (by decide) (fx_24 _ _ _ _) rfl hg d_Pg_leastFreeSlot_18 ?_
    refine lv_iload_n hx hb d_Pg_leastFreeSlot_19 rfl (lv_at hl 1 rfl) ?_
    refine lv_icmp_gt (tgt := 25) hx hb d_Pg_leastFreeSlot_20 (by decide) (fun h => ?_) (fun h => ?_)
    · have hf := pv_t hf h
      refine lv_iinc (k := 2) (v := (x2 + (1 : Int32))) (lv' := [(2, .int (x2 + (1 : Int32))), (0, .ref (a 11)), (1, .int x1)]) hx hb d_Pg_leastFreeSlot_25 hl rfl (pv_inc (by decide)) (by decide) rfl (fun ls hl => ?_)
      refine lv_goto (tgt := 2) hx hb d_Pg_leastFreeSlot_28 (by decide) ?_
      exact hk_2 _ _ _ _ _ _ hf (lv_sub hl [1, 2, 0] rfl) hP hS
    · have hf := pv_f hf h
      refine lv_iload_n hx hb d_Pg_leastFreeSlot_23 rfl (lv_at hl 2 rfl) ?_
      obtain rfl := Option.some.inj hf
      exact hret _ _ _ _ d_Pg_leastFreeSlot_24 hP hS
def f_Pg_leastFreeSlot_2 : Nat → pv_S → Int32 → Int32 → Option (Int32 × pv_S)
  | 0 => fun _ _ _ => none
  | n + 1 => f_Pg_leastFreeSlot_2b (f_Pg_leastFreeSlot_2 n)
set_option maxHeartbeats 4000000 in
theorem s_Pg_leastFreeSlot_2 {p : Program} {l : Launch} {e : Env} {R : Room} {s : State} {m : MethodId} {args : Array Value} {below : List Frame} {meth : Method} {c : Code} {Q : State → Prop} {D : va_G} {q : Nat → ClassId} {a t : Nat → Nat} {A : Nat → Prop} (C : pv_C p s m args c prog_4_method_8_code 3 "PatchVoices$Program" pv_TB D pv_cl (pv_ty q) 52 a A (pv_ZX t A)) (hmv : pv_mv A (pv_ZX t A)) (hRf : 0 ≤ R.frames) (hRl : 0 ≤ R.locals) {out : (Int32 × pv_S)} (hret : pv_Ri p l e R s m args below meth c prog_4_method_8_code D pv_cl 52 a (pv_FX q a) A Q out) (n : Nat) : ∀ {σ : pv_S} {x1 : Int32} {x2 : Int32} {H : Heap} {locs : List Loc} {ls : Array Slot}, lv_has ls 3 [(0, .ref (a 11)), (1, .int x1), (2, .int x2)] → pv_W D pv_cl 52 a (pv_FX q a) σ H → va_S A s.heap H locs → f_Pg_leastFreeSlot_2 n σ x1 x2 = some out → W p l e R s m args below meth c H locs 0 0 Q (F0 m 2 ls []) := by
  induction n with
  | zero => intro σ x1 x2 H locs ls hl hP hS hf; cases hf
  | succ n ih => intro σ x1 x2 H locs ls hl hP hS hf; exact s_Pg_leastFreeSlot_2b C hmv hRf hRl hret (fun σ x1 x2 H locs ls hf hl hP hS => ih hl hP hS hf) hl hP hS hf
def f_Pg_leastFreeSlot_0 (σ : pv_S) (x1 : Int32) : Option (Int32 × pv_S) :=
  f_Pg_leastFreeSlot_2 pv_fu σ x1 (0 : Int32)
set_option maxHeartbeats 4000000 in
set_option maxRecDepth 100000 in
theorem s_Pg_leastFreeSlot_0 {p : Program} {l : Launch} {e : Env} {R : Room} {s : State} {m : MethodId} {args : Array Value} {below : List Frame} {meth : Method} {c : Code} {Q : State → Prop} {D : va_G} {q : Nat → ClassId} {a t : Nat → Nat} {A : Nat → Prop} (C : pv_C p s m args c prog_4_method_8_code 3 "PatchVoices$Program" pv_TB D pv_cl (pv_ty q) 52 a A (pv_ZX t A)) (hmv : pv_mv A (pv_ZX t A)) (hRf : 0 ≤ R.frames) (hRl : 0 ≤ R.locals) {out : (Int32 × pv_S)} (hret : pv_Ri p l e R s m args below meth c prog_4_method_8_code D pv_cl 52 a (pv_FX q a) A Q out) {σ : pv_S} {x1 : Int32} {H : Heap} {locs : List Loc} {ls : Array Slot} (hl : lv_has ls 3 [(0, .ref (a 11)), (1, .int x1)]) (hP : pv_W D pv_cl 52 a (pv_FX q a) σ H) (hS : va_S A s.heap H locs) (hf : f_Pg_leastFreeSlot_0 σ x1 = some out) : W p l e R s m args below meth c H locs 0 0 Q (F0 m 0 ls []) := by
  unfold f_Pg_leastFreeSlot_0 at hf
  have hx := C.1
  have hb := C.2.1
  refine lv_iconst (v := (0 : Int32)) hx hb d_Pg_leastFreeSlot_0 (by decide) ?_
  refine lv_istore_n (lv' := [(2, .int (0 : Int32)), (0, .ref (a 11)), (1, .int x1)]) hx hb d_Pg_leastFreeSlot_1 rfl hl (by decide) rfl (fun ls hl => ?_)
  exact s_Pg_leastFreeSlot_2 C hmv hRf hRl hret pv_fu (lv_sub hl [1, 2, 0] rfl) hP hS hf
def f_Pg_leastFreeSlot (σ : pv_S) (x1 : Int32) : Option (Int32 × pv_S) := f_Pg_leastFreeSlot_0 σ x1
def rm_Pg_leastFreeSlot : Room := { frames := 0, cells := 0, slots := 0, locals := 0 }
theorem c_Pg_leastFreeSlot {l : Launch} {D : va_G} {q : Nat → ClassId} {a t : Nat → Nat} {A : Nat → Prop} (hD : pv_D 52 a A) (hmv : pv_mv A (pv_ZX t A)) {σ : pv_S} {x1 : Int32} {out : (Int32 × pv_S)} (hf : f_Pg_leastFreeSlot σ x1 = some out) : pv_Mi l y_Pg_leastFreeSlot (Cond.code y_Pg_leastFreeSlot prog_4_method_8_code 3 (some .int) :: pv_TB) rm_Pg_leastFreeSlot D pv_cl (pv_ty q) 52 a (pv_FX q a) A (pv_ZX t A) [.ref (a 11), .int x1] σ out :=
  pv_ofI (by decide) (Nat.le_of_ble_eq_true rfl) hD (fun p e s m args below meth c Q ls C hret hl hP => s_Pg_leastFreeSlot_0 C hmv (Nat.le_refl _) (Nat.le_refl _) hret hl hP va_S.rf hf)
theorem d_Pg_giveSlots_0 : decode prog_4_method_7_code 0 = .ok (.aload_n 0, 1) := by decide +kernel
theorem d_Pg_giveSlots_1 : decode prog_4_method_7_code 1 = .ok (.getfield 33, 3) := by decide +kernel
theorem d_Pg_giveSlots_4 : decode prog_4_method_7_code 4 = .ok (.iconst (-1), 1) := by decide +kernel
theorem d_Pg_giveSlots_5 : decode prog_4_method_7_code 5 = .ok (.invokestatic 77, 3) := by decide +kernel
theorem d_Pg_giveSlots_8 : decode prog_4_method_7_code 8 = .ok (.aload_n 0, 1) := by decide +kernel
theorem d_Pg_giveSlots_9 : decode prog_4_method_7_code 9 = .ok (.iconst 0, 1) := by decide +kernel
theorem d_Pg_giveSlots_10 : decode prog_4_method_7_code 10 = .ok (.putfield 91, 3) := by decide +kernel
theorem d_Pg_giveSlots_13 : decode prog_4_method_7_code 13 = .ok (.iconst 0, 1) := by decide +kernel
theorem d_Pg_giveSlots_14 : decode prog_4_method_7_code 14 = .ok (.istore_n 1, 1) := by decide +kernel
theorem d_Pg_giveSlots_15 : decode prog_4_method_7_code 15 = .ok (.iload_n 1, 1) := by decide +kernel
theorem d_Pg_giveSlots_16 : decode prog_4_method_7_code 16 = .ok (.aload_n 0, 1) := by decide +kernel
theorem d_Pg_giveSlots_17 : decode prog_4_method_7_code 17 = .ok (.getfield 66, 3) := by decide +kernel
theorem d_Pg_giveSlots_20 : decode prog_4_method_7_code 20 = .ok (.if_icmp .ge 63, 3) := by decide +kernel
theorem d_Pg_giveSlots_23 : decode prog_4_method_7_code 23 = .ok (.aload_n 0, 1) := by decide +kernel
theorem d_Pg_giveSlots_24 : decode prog_4_method_7_code 24 = .ok (.getfield 20, 3) := by decide +kernel
theorem d_Pg_giveSlots_27 : decode prog_4_method_7_code 27 = .ok (.iload_n 1, 1) := by decide +kernel
theorem d_Pg_giveSlots_28 : decode prog_4_method_7_code 28 = .ok (.iaload, 1) := by decide +kernel
theorem d_Pg_giveSlots_29 : decode prog_4_method_7_code 29 = .ok (.istore_n 2, 1) := by decide +kernel
theorem d_Pg_giveSlots_30 : decode prog_4_method_7_code 30 = .ok (.aload_n 0, 1) := by decide +kernel
theorem d_Pg_giveSlots_31 : decode prog_4_method_7_code 31 = .ok (.getfield 27, 3) := by decide +kernel
theorem d_Pg_giveSlots_34 : decode prog_4_method_7_code 34 = .ok (.iload_n 2, 1) := by decide +kernel
theorem d_Pg_giveSlots_35 : decode prog_4_method_7_code 35 = .ok (.aload_n 0, 1) := by decide +kernel
theorem d_Pg_giveSlots_36 : decode prog_4_method_7_code 36 = .ok (.iload_n 1, 1) := by decide +kernel
theorem d_Pg_giveSlots_37 : decode prog_4_method_7_code 37 = .ok (.invokevirtual 94, 3) := by decide +kernel
theorem d_Pg_giveSlots_40 : decode prog_4_method_7_code 40 = .ok (.iastore, 1) := by decide +kernel
theorem d_Pg_giveSlots_41 : decode prog_4_method_7_code 41 = .ok (.aload_n 0, 1) := by decide +kernel
theorem d_Pg_giveSlots_42 : decode prog_4_method_7_code 42 = .ok (.getfield 33, 3) := by decide +kernel
theorem d_Pg_giveSlots_45 : decode prog_4_method_7_code 45 = .ok (.aload_n 0, 1) := by decide +kernel
theorem d_Pg_giveSlots_46 : decode prog_4_method_7_code 46 = .ok (.getfield 27, 3) := by decide +kernel
theorem d_Pg_giveSlots_49 : decode prog_4_method_7_code 49 = .ok (.iload_n 2, 1) := by decide +kernel
theorem d_Pg_giveSlots_50 : decode prog_4_method_7_code 50 = .ok (.iaload, 1) := by decide +kernel
theorem d_Pg_giveSlots_51 : decode prog_4_method_7_code 51 = .ok (.aload_n 0, 1) := by decide +kernel
theorem d_Pg_giveSlots_52 : decode prog_4_method_7_code 52 = .ok (.getfield 30, 3) := by decide +kernel
theorem d_Pg_giveSlots_55 : decode prog_4_method_7_code 55 = .ok (.iload_n 2, 1) := by decide +kernel
theorem d_Pg_giveSlots_56 : decode prog_4_method_7_code 56 = .ok (.iaload, 1) := by decide +kernel
theorem d_Pg_giveSlots_57 : decode prog_4_method_7_code 57 = .ok (.iastore, 1) := by decide +kernel
theorem d_Pg_giveSlots_58 : decode prog_4_method_7_code 58 = .ok (.aload_n 0, 1) := by decide +kernel
theorem d_Pg_giveSlots_59 : decode prog_4_method_7_code 59 = .ok (.aload_n 0, 1) := by decide +kernel
theorem d_Pg_giveSlots_60 : decode prog_4_method_7_code 60 = .ok (.getfield 91, 3) := by decide +kernel
theorem d_Pg_giveSlots_63 : decode prog_4_method_7_code 63 = .ok (.aload_n 0, 1) := by decide +kernel
theorem d_Pg_giveSlots_64 : decode prog_4_method_7_code 64 = .ok (.getfield 27, 3) := by decide +kernel
theorem d_Pg_giveSlots_67 : decode prog_4_method_7_code 67 = .ok (.iload_n 2, 1) := by decide +kernel
theorem d_Pg_giveSlots_68 : decode prog_4_method_7_code 68 = .ok (.iaload, 1) := by decide +kernel
theorem d_Pg_giveSlots_69 : decode prog_4_method_7_code 69 = .ok (.iconst 1, 1) := by decide +kernel
theorem d_Pg_giveSlots_70 : decode prog_4_method_7_code 70 = .ok (.iadd, 1) := by decide +kernel
theorem d_Pg_giveSlots_71 : decode prog_4_method_7_code 71 = .ok (.invokestatic 98, 3) := by decide +kernel
theorem d_Pg_giveSlots_74 : decode prog_4_method_7_code 74 = .ok (.putfield 91, 3) := by decide +kernel
theorem d_Pg_giveSlots_77 : decode prog_4_method_7_code 77 = .ok (.iinc 1 1, 3) := by decide +kernel
theorem d_Pg_giveSlots_80 : decode prog_4_method_7_code 80 = .ok (.goto (-65), 3) := by decide +kernel
theorem d_Pg_giveSlots_83 : decode prog_4_method_7_code 83 = .ok (.return_, 1) := by decide +kernel
def f_Pg_giveSlots_15b (k_15 : pv_S → Int32 → Option pv_S) (σ : pv_S) (x1 : Int32) : Option pv_S :=
  (if (σ.1 11 2) ≤ x1 then
  some σ
  else
  (if pv_in x1 48 = true then
((f_Pg_leastFreeSlot σ x1).bind fun q2 =>
(if pv_in (σ.1 20 (x1).toNatClampNeg) 24 = true then
(if pv_in (σ.1 20 (x1).toNatClampNeg) 24 = true then
(if pv_in (σ.1 20 (x1).toNatClampNeg) 24 = true then
(if pv_in ((pv_uI q2.2 22 ((σ.1 20 (x1).toNatClampNeg)).toNatClampNeg q2.1).1 22 ((σ.1 20 (x1).toNatClampNeg)).toNatClampNeg) 24 = true then
(if pv_in (σ.1 20 (x1).toNatClampNeg) 24 = true then
k_15 (pv_uI (pv_uI (pv_uI q2.2 22 ((σ.1 20 (x1).toNatClampNeg)).toNatClampNeg q2.1) 24 (((pv_uI q2.2 22 ((σ.1 20 (x1).toNatClampNeg)).toNatClampNeg q2.1).1 22 ((σ.1 20 (x1).toNatClampNeg)).toNatClampNeg)).toNatClampNeg ((pv_uI q2.2 22 ((σ.1 20 (x1).toNatClampNeg)).toNatClampNeg q2.1).1 23 ((σ.1 20 (x1).toNatClampNeg)).toNatClampNeg)) 11 4 (if ((pv_uI (pv_uI q2.2 22 ((σ.1 20 (x1).toNatClampNeg)).toNatClampNeg q2.1) 24 (((pv_uI q2.2 22 ((σ.1 20 (x1).toNatClampNeg)).toNatClampNeg q2.1).1 22 ((σ.1 20 (x1).toNatClampNeg)).toNatClampNeg)).toNatClampNeg ((pv_uI q2.2 22 ((σ.1 20 (x1).toNatClampNeg)).toNatClampNeg q2.1).1 23 ((σ.1 20 (x1).toNatClampNeg)).toNatClampNeg)).1 11 4) < (((pv_uI (pv_uI q2.2 22 ((σ.1 20 (x1).toNatClampNeg)).toNatClampNeg q2.1) 24 (((pv_uI q2.2 22 ((σ.1 20 (x1).toNatClampNeg)).toNatClampNeg q2.1).1 22 ((σ.1 20 (x1).toNatClampNeg)).toNatClampNeg)).toNatClampNeg ((pv_uI q2.2 22 ((σ.1 20 (x1).toNatClampNeg)).toNatClampNeg q2.1).1 23 ((σ.1 20 (x1).toNatClampNeg)).toNatClampNeg)).1 22 ((σ.1 20 (x1).toNatClampNeg)).toNatClampNeg) + (1 : Int32)) then (((pv_uI (pv_uI q2.2 22 ((σ.1 20 (x1).toNatClampNeg)).toNatClampNeg q2.1) 24 (((pv_uI q2.2 22 ((σ.1 20 (x1).toNatClampNeg)).toNatClampNeg q2.1).1 22 ((σ.1 20 (x1).toNatClampNeg)).toNatClampNeg)).toNatClampNeg ((pv_uI q2.2 22 ((σ.1 20 (x1).toNatClampNeg)).toNatClampNeg q2.1).1 23 ((σ.1 20 (x1).toNatClampNeg)).toNatClampNeg)).1 22 ((σ.1 20 (x1).toNatClampNeg)).toNatClampNeg) + (1 : Int32)) else ((pv_uI (pv_uI q2.2 22 ((σ.1 20 (x1).toNatClampNeg)).toNatClampNeg q2.1) 24 (((pv_uI q2.2 22 ((σ.1 20 (x1).toNatClampNeg)).toNatClampNeg q2.1).1 22 ((σ.1 20 (x1).toNatClampNeg)).toNatClampNeg)).toNatClampNeg ((pv_uI q2.2 22 ((σ.1 20 (x1).toNatClampNeg)).toNatClampNeg q2.1).1 23 ((σ.1 20 (x1).toNatClampNeg)).toNatClampNeg)).1 11 4))) (x1 + (1 : Int32))
  else none)
  else none)
  else none)
  else none)
  else none))
  else none))
set_option maxHeartbeats 4000000 in
set_option maxRecDepth 100000 in
theorem s_Pg_giveSlots_15b {p : Program} {l : Launch} {e : Env} {R : Room} {s : State} {m : MethodId} {args : Array Value} {below : List Frame} {meth : Method} {c : Code} {Q : State → Prop} {D : va_G} {q : Nat → ClassId} {a t : Nat → Nat} {A : Nat → Prop} (C : pv_C p s m args c prog_4_method_7_code 3 "PatchVoices$Program" pv_TB D pv_cl (pv_ty q) 52 a A (pv_ZX t A)) (hmv : pv_mv A (pv_ZX t A)) (hRf : 1 ≤ R.frames) (hRl : 23 ≤ R.locals) {out : pv_S} (hret : pv_Rv p l e R s m args below meth c prog_4_method_7_code D pv_cl 52 a (pv_FX q a) A Q out) {k_15 : pv_S → Int32 → Option pv_S} (hk_15 : ∀ (σ : pv_S) (x1 : Int32) (H : Heap) (locs : List Loc) (ls : Array Slot), k_15 σ x1 = some out → lv_has ls 3 [(0, .ref (a 11)), (1, .int x1)] → pv_W D pv_cl 52 a (pv_FX q a) σ H → va_S A s.heap H locs → W p l e R s m args below meth c H locs 0 0 Q (F0 m 15 ls [])) {σ : pv_S} {x1 : Int32} {H : Heap} {locs : List Loc} {ls : Array Slot} (hl : lv_has ls 3 [(0, .ref (a 11)), (1, .int x1)]) (hP : pv_W D pv_cl 52 a (pv_FX q a) σ H) (hS : va_S A s.heap H locs) (hf : f_Pg_giveSlots_15b k_15 σ x1 = some out) : W p l e R s m args below meth c H locs 0 0 Q (F0 m 15 ls []) := by
  unfold f_Pg_giveSlots_15b at hf
  have hx := C.1
  have hb := C.2.1
  refine lv_iload_n hx hb d_Pg_giveSlots_15 rfl (lv_at hl 1 rfl) ?_
  refine lv_aload_n hx hb d_Pg_giveSlots_16 rfl (lv_at hl 0 rfl) ?_
  refine pv_get C hP (v := .int (σ.1 11 2)) (j := 2) (by decide) (fx_11 _ _ _ _) fl_Pg_66 rfl d_Pg_giveSlots_17 ?_
  refine lv_icmp_ge (tgt := 83) hx hb d_Pg_giveSlots_20 (by decide) (fun h => ?_) (fun h => ?_)
  · have hf := pv_t hf h
    obtain rfl := Option.some.inj hf
    exact hret _ _ _ _ d_Pg_giveSlots_83 hP hS
  · have hf := pv_f hf h
    refine lv_aload_n hx hb d_Pg_giveSlots_23 rfl (lv_at hl 0 rfl) ?_
    refine pv_get C hP (v := .ref (a 20)) (j := 3) (by decide) (fx_11 _ _ _ _) fl_Pg_20 rfl d_Pg_giveSlots_24 ?_
    refine lv_iload_n hx hb d_Pg_giveSlots_27 rfl (lv_at hl 1 rfl) ?_
    obtain ⟨hg, hf⟩ := pv_g hf
    refine pv_iald C hP (t0 := 0) (by decide) (fx_20 _ _ _ _) rfl hg d_Pg_giveSlots_28 ?_
    refine lv_istore_n (lv' := [(2, .int (σ.1 20 (x1).toNatClampNeg)), (0, .ref (a 11)), (1, .int x1)]) hx hb d_Pg_giveSlots_29 rfl hl (by decide) rfl (fun ls hl => ?_)
    refine lv_aload_n hx hb d_Pg_giveSlots_30 rfl (lv_at hl 1 rfl) ?_
    refine pv_get C hP (v := .ref (a 22)) (j := 6) (by decide) (fx_11 _ _ _ _) fl_Pg_27 rfl d_Pg_giveSlots_31 ?_
    refine lv_iload_n hx hb d_Pg_giveSlots_34 rfl (lv_at hl 0 rfl) ?_
    refine lv_aload_n hx hb d_Pg_giveSlots_35 rfl (lv_at hl 1 rfl) ?_
    refine lv_iload_n hx hb d_Pg_giveSlots_36 rfl (lv_at hl 2 rfl) ?_
    obtain ⟨q2, hc, hf⟩ := pv_b hf
    refine pv_callVi C hmv pv_good hP hS (As := [.int x1]) (rest := [.int (σ.1 20 (x1).toNatClampNeg), .ref (a 22)]) (by decide) (fx_11 _ _ _ _) rfl (c_Pg_leastFreeSlot C.2.2.2.2.2.2.1 hmv hc) cv_Pg_94 ⟨rfl, rfl, Nat.le_trans (Nat.le_of_ble_eq_true rfl) hRf, Nat.le_trans (Nat.le_of_ble_eq_true rfl) hRl⟩ rfl hl.1 rfl (Nat.le_of_ble_eq_true rfl) d_Pg_giveSlots_37 ⟨Nat.zero_le _, Nat.zero_le _⟩ (fun H locs hP hS => ?_)
    obtain ⟨hg, hf⟩ := pv_g hf
    refine pv_iast C hP hS (t0 := 0) (x := q2.1) (by decide) (fun f g => (fx_22 _ _ f g)) rfl hg d_Pg_giveSlots_40 (fun H locs hP hS => ?_)
    refine lv_aload_n hx hb d_Pg_giveSlots_41 rfl (lv_at hl 1 rfl) ?_
    refine pv_get C hP (v := .ref (a 24)) (j := 8) (by decide) (fx_11 _ _ _ _) fl_Pg_33 rfl d_Pg_giveSlots_42 ?_
    refine lv_aload_n hx hb d_Pg_giveSlots_45 rfl (lv_at hl 1 rfl) ?_
    refine pv_get C hP (v := .ref (a 22)) (j := 6) (by decide) (fx_11 _ _ _ _) fl_Pg_27 rfl d_Pg_giveSlots_46 ?_
    refine lv_iload_n hx hb d_Pg_giveSlots_49 rfl (lv_at hl 0 rfl) ?_
    obtain ⟨hg, hf⟩ := pv_g hf
    refine pv_iald C hP (t0 := 0) (by decide) (fx_22 _ _ _ _) rfl hg d_Pg_giveSlots_50 ?_
    refine lv_aload_n hx hb d_Pg_giveSlots_51 rfl (lv_at hl 1 rfl) ?_
    refine pv_get C hP (v := .ref (a 23)) (j := 7) (by decide) (fx_11 _ _ _ _) fl_Pg_30 rfl d_Pg_giveSlots_52 ?_
    refine lv_iload_n hx hb d_Pg_giveSlots_55 rfl (lv_at hl 0 rfl) ?_
    obtain ⟨hg, hf⟩ := pv_g hf
    refine pv_iald C hP (t0 := 0) (by decide) (fx_23 _ _ _ _) rfl hg d_Pg_giveSlots_56 ?_
    obtain ⟨hg, hf⟩ := pv_g hf
    refine pv_iast C hP hS (t0 := 0) (x := ((pv_uI q2.2 22 ((σ.1 20 (x1).toNatClampNeg)).toNatClampNeg q2.1).1 23 ((σ.1 20 (x1).toNatClampNeg)).toNatClampNeg)) (by decide) (fun f g => (fx_24 _ _ f g)) rfl hg d_Pg_giveSlots_57 (fun H locs hP hS => ?_)
    refine lv_aload_n hx hb d_Pg_giveSlots_58 rfl (lv_at hl 1 rfl) ?_
    refine lv_aload_n hx hb d_Pg_giveSlots_59 rfl (lv_at hl 1 rfl) ?_
    refine pv_get C hP (v := .int ((pv_uI (pv_uI q2.2 22 ((σ.1 20 (x1).toNatClampNeg)).toNatClampNeg q2.1) 24 (((pv_uI q2.2 22 ((σ.1 20 (x1).toNatClampNeg)).toNatClampNeg q2.1).1 22 ((σ.1 20 (x1).toNatClampNeg)).toNatClampNeg)).toNatClampNeg ((pv_uI q2.2 22 ((σ.1 20 (x1).toNatClampNeg)).toNatClampNeg q2.1).1 23 ((σ.1 20 (x1).toNatClampNeg)).toNatClampNeg)).1 11 4)) (j := 4) (by decide) (fx_11 _ _ _ _) fl_Pg_91 rfl d_Pg_giveSlots_60 ?_
    refine lv_aload_n hx hb d_Pg_giveSlots_63 rfl (lv_at hl 1 rfl) ?_
    refine pv_get C hP (v := .ref (a 22)) (j := 6) (by decide) (fx_11 _ _ _ _) fl_Pg_27 rfl d_Pg_giveSlots_64 ?_
    refine lv_iload_n hx hb d_Pg_giveSlots_67 rfl (lv_at hl 0 rfl) ?_
    obtain ⟨hg, hf⟩ := pv_g hf
    refine pv_iald C hP (t0 := 0) (by decide) (fx_22 _ _ _ _) rfl hg d_Pg_giveSlots_68 ?_
    refine lv_iconst (v := (1 : Int32)) hx hb d_Pg_giveSlots_69 (by decide) ?_
    refine lv_iadd hx hb d_Pg_giveSlots_70 ?_
    refine va_mmax hx hb (C.2.2.1.trans hl.1.symm) C.2.2.2.1 (C.2.2.2.2.1 _ w_717) (C.2.2.2.2.1 _ w_718) (C.2.2.2.2.1 _ w_123) (C.2.2.2.2.1 _ w_719) (by omega) (Nat.le_trans (Nat.le_of_ble_eq_true rfl) hRl) (Nat.zero_le _) (Nat.zero_le _) d_Pg_giveSlots_71 ?_
    refine pv_putI C hP hS (x := (if ((pv_uI (pv_uI q2.2 22 ((σ.1 20 (x1).toNatClampNeg)).toNatClampNeg q2.1) 24 (((pv_uI q2.2 22 ((σ.1 20 (x1).toNatClampNeg)).toNatClampNeg q2.1).1 22 ((σ.1 20 (x1).toNatClampNeg)).toNatClampNeg)).toNatClampNeg ((pv_uI q2.2 22 ((σ.1 20 (x1).toNatClampNeg)).toNatClampNeg q2.1).1 23 ((σ.1 20 (x1).toNatClampNeg)).toNatClampNeg)).1 11 4) < (((pv_uI (pv_uI q2.2 22 ((σ.1 20 (x1).toNatClampNeg)).toNatClampNeg q2.1) 24 (((pv_uI q2.2 22 ((σ.1 20 (x1).toNatClampNeg)).toNatClampNeg q2.1).1 22 ((σ.1 20 (x1).toNatClampNeg)).toNatClampNeg)).toNatClampNeg ((pv_uI q2.2 22 ((σ.1 20 (x1).toNatClampNeg)).toNatClampNeg q2.1).1 23 ((σ.1 20 (x1).toNatClampNeg)).toNatClampNeg)).1 22 ((σ.1 20 (x1).toNatClampNeg)).toNatClampNeg) + (1 : Int32)) then (((pv_uI (pv_uI q2.2 22 ((σ.1 20 (x1).toNatClampNeg)).toNatClampNeg q2.1) 24 (((pv_uI q2.2 22 ((σ.1 20 (x1).toNatClampNeg)).toNatClampNeg q2.1).1 22 ((σ.1 20 (x1).toNatClampNeg)).toNatClampNeg)).toNatClampNeg ((pv_uI q2.2 22 ((σ.1 20 (x1).toNatClampNeg)).toNatClampNeg q2.1).1 23 ((σ.1 20 (x1).toNatClampNeg)).toNatClampNeg)).1 22 ((σ.1 20 (x1).toNatClampNeg)).toNatClampNeg) + (1 : Int32)) else ((pv_uI (pv_uI q2.2 22 ((σ.1 20 (x1).toNatClampNeg)).toNatClampNeg q2.1) 24 (((pv_uI q2.2 22 ((σ.1 20 (x1).toNatClampNeg)).toNatClampNeg q2.1).1 22 ((σ.1 20 (x1).toNatClampNeg)).toNatClampNeg)).toNatClampNeg ((pv_uI q2.2 22 ((σ.1 20 (x1).toNatClampNeg)).toNatClampNeg q2.1).1 23 ((σ.1 20 (x1).toNatClampNeg)).toNatClampNeg)).1 11 4))) (by decide) (fx_11 _ _ _ _) fw_Pg_91 rfl rfl (Nat.le_of_ble_eq_true rfl) (fxs_11_4 _ _ _ _ _) d_Pg_giveSlots_74 (fun H locs hP hS => ?_)
    refine lv_iinc (k := 2) (v := (x1 + (1 : Int32))) (lv' := [(1, .int (x1 + (1 : Int32))), (2, .int (σ.1 20 (x1).toNatClampNeg)), (0, .ref (a 11))]) hx hb d_Pg_giveSlots_77 hl rfl (pv_inc (by decide)) (by decide) rfl (fun ls hl => ?_)
    refine lv_goto (tgt := 15) hx hb d_Pg_giveSlots_80 (by decide) ?_
    exact hk_15 _ _ _ _ _ hf (lv_sub hl [2, 0] rfl) hP hS
def f_Pg_giveSlots_15 : Nat → pv_S → Int32 → Option pv_S
  | 0 => fun _ _ => none
  | n + 1 => f_Pg_giveSlots_15b (f_Pg_giveSlots_15 n)
set_option maxHeartbeats 4000000 in
theorem s_Pg_giveSlots_15 {p : Program} {l : Launch} {e : Env} {R : Room} {s : State} {m : MethodId} {args : Array Value} {below : List Frame} {meth : Method} {c : Code} {Q : State → Prop} {D : va_G} {q : Nat → ClassId} {a t : Nat → Nat} {A : Nat → Prop} (C : pv_C p s m args c prog_4_method_7_code 3 "PatchVoices$Program" pv_TB D pv_cl (pv_ty q) 52 a A (pv_ZX t A)) (hmv : pv_mv A (pv_ZX t A)) (hRf : 1 ≤ R.frames) (hRl : 23 ≤ R.locals) {out : pv_S} (hret : pv_Rv p l e R s m args below meth c prog_4_method_7_code D pv_cl 52 a (pv_FX q a) A Q out) (n : Nat) : ∀ {σ : pv_S} {x1 : Int32} {H : Heap} {locs : List Loc} {ls : Array Slot}, lv_has ls 3 [(0, .ref (a 11)), (1, .int x1)] → pv_W D pv_cl 52 a (pv_FX q a) σ H → va_S A s.heap H locs → f_Pg_giveSlots_15 n σ x1 = some out → W p l e R s m args below meth c H locs 0 0 Q (F0 m 15 ls []) := by
  induction n with
  | zero => intro σ x1 H locs ls hl hP hS hf; cases hf
  | succ n ih => intro σ x1 H locs ls hl hP hS hf; exact s_Pg_giveSlots_15b C hmv hRf hRl hret (fun σ x1 H locs ls hf hl hP hS => ih hl hP hS hf) hl hP hS hf
def f_Pg_giveSlots_0 (σ : pv_S) : Option pv_S :=
  ((f_Fill_24 σ (-1 : Int32)).bind fun q1 =>
f_Pg_giveSlots_15 pv_fu (pv_uI q1 11 4 (0 : Int32)) (0 : Int32))
set_option maxHeartbeats 4000000 in
set_option maxRecDepth 100000 in
theorem s_Pg_giveSlots_0 {p : Program} {l : Launch} {e : Env} {R : Room} {s : State} {m : MethodId} {args : Array Value} {below : List Frame} {meth : Method} {c : Code} {Q : State → Prop} {D : va_G} {q : Nat → ClassId} {a t : Nat → Nat} {A : Nat → Prop} (C : pv_C p s m args c prog_4_method_7_code 3 "PatchVoices$Program" pv_TB D pv_cl (pv_ty q) 52 a A (pv_ZX t A)) (hmv : pv_mv A (pv_ZX t A)) (hRf : 1 ≤ R.frames) (hRl : 23 ≤ R.locals) {out : pv_S} (hret : pv_Rv p l e R s m args below meth c prog_4_method_7_code D pv_cl 52 a (pv_FX q a) A Q out) {σ : pv_S} {H : Heap} {locs : List Loc} {ls : Array Slot} (hl : lv_has ls 3 [(0, .ref (a 11))]) (hP : pv_W D pv_cl 52 a (pv_FX q a) σ H) (hS : va_S A s.heap H locs) (hf : f_Pg_giveSlots_0 σ = some out) : W p l e R s m args below meth c H locs 0 0 Q (F0 m 0 ls []) := by
  unfold f_Pg_giveSlots_0 at hf
  have hx := C.1
  have hb := C.2.1
  refine lv_aload_n hx hb d_Pg_giveSlots_0 rfl (lv_at hl 0 rfl) ?_
  refine pv_get C hP (v := .ref (a 24)) (j := 8) (by decide) (fx_11 _ _ _ _) fl_Pg_33 rfl d_Pg_giveSlots_1 ?_
  refine lv_iconst (v := (-1 : Int32)) hx hb d_Pg_giveSlots_4 (by decide) ?_
  obtain ⟨q1, hc, hf⟩ := pv_b hf
  refine pv_callSv C hmv pv_good hP hS (As := [.ref (a 24), .int (-1 : Int32)]) (rest := []) (c_Fill_24 C.2.2.2.2.2.2.1 hmv hc) cs_Pg_77 ⟨rfl, rfl, Nat.le_trans (Nat.le_of_ble_eq_true rfl) hRf, Nat.le_trans (Nat.le_of_ble_eq_true rfl) hRl⟩ rfl hl.1 rfl (Nat.le_of_ble_eq_true rfl) d_Pg_giveSlots_5 ⟨Nat.zero_le _, Nat.zero_le _⟩ (fun H locs hP hS => ?_)
  refine lv_aload_n hx hb d_Pg_giveSlots_8 rfl (lv_at hl 0 rfl) ?_
  refine lv_iconst (v := (0 : Int32)) hx hb d_Pg_giveSlots_9 (by decide) ?_
  refine pv_putI C hP hS (x := (0 : Int32)) (by decide) (fx_11 _ _ _ _) fw_Pg_91 rfl rfl (Nat.le_of_ble_eq_true rfl) (fxs_11_4 _ _ _ _ _) d_Pg_giveSlots_10 (fun H locs hP hS => ?_)
  refine lv_iconst (v := (0 : Int32)) hx hb d_Pg_giveSlots_13 (by decide) ?_
  refine lv_istore_n (lv' := [(1, .int (0 : Int32)), (0, .ref (a 11))]) hx hb d_Pg_giveSlots_14 rfl hl (by decide) rfl (fun ls hl => ?_)
  exact s_Pg_giveSlots_15 C hmv hRf hRl hret pv_fu (lv_sub hl [1, 0] rfl) hP hS hf
def f_Pg_giveSlots (σ : pv_S) : Option pv_S := f_Pg_giveSlots_0 σ
def rm_Pg_giveSlots : Room := { frames := 1, cells := 0, slots := 0, locals := 23 }
theorem c_Pg_giveSlots {l : Launch} {D : va_G} {q : Nat → ClassId} {a t : Nat → Nat} {A : Nat → Prop} (hD : pv_D 52 a A) (hmv : pv_mv A (pv_ZX t A)) {σ : pv_S} {out : pv_S} (hf : f_Pg_giveSlots σ = some out) : pv_Mv l y_Pg_giveSlots (Cond.code y_Pg_giveSlots prog_4_method_7_code 3 none :: pv_TB) rm_Pg_giveSlots D pv_cl (pv_ty q) 52 a (pv_FX q a) A (pv_ZX t A) [.ref (a 11)] σ out :=
  pv_ofV (by decide) (Nat.le_of_ble_eq_true rfl) hD (fun p e s m args below meth c Q ls C hret hl hP => s_Pg_giveSlots_0 C hmv (Nat.le_refl _) (Nat.le_refl _) hret hl hP va_S.rf hf)
theorem d_Pg_make_0 : decode prog_4_method_3_code 0 = .ok (.aload_n 0, 1) := by decide +kernel
theorem d_Pg_make_1 : decode prog_4_method_3_code 1 = .ok (.getfield 12, 3) := by decide +kernel
theorem d_Pg_make_4 : decode prog_4_method_3_code 4 = .ok (.aload_n 1, 1) := by decide +kernel
theorem d_Pg_make_5 : decode prog_4_method_3_code 5 = .ok (.iload_n 2, 1) := by decide +kernel
theorem d_Pg_make_6 : decode prog_4_method_3_code 6 = .ok (.invokevirtual 40, 3) := by decide +kernel
theorem d_Pg_make_9 : decode prog_4_method_3_code 9 = .ok (.aload_n 0, 1) := by decide +kernel
theorem d_Pg_make_10 : decode prog_4_method_3_code 10 = .ok (.invokevirtual 44, 3) := by decide +kernel
theorem d_Pg_make_13 : decode prog_4_method_3_code 13 = .ok (.aload_n 0, 1) := by decide +kernel
theorem d_Pg_make_14 : decode prog_4_method_3_code 14 = .ok (.invokevirtual 47, 3) := by decide +kernel
theorem d_Pg_make_17 : decode prog_4_method_3_code 17 = .ok (.aload_n 0, 1) := by decide +kernel
theorem d_Pg_make_18 : decode prog_4_method_3_code 18 = .ok (.invokevirtual 50, 3) := by decide +kernel
theorem d_Pg_make_21 : decode prog_4_method_3_code 21 = .ok (.aload_n 0, 1) := by decide +kernel
theorem d_Pg_make_22 : decode prog_4_method_3_code 22 = .ok (.invokevirtual 53, 3) := by decide +kernel
theorem d_Pg_make_25 : decode prog_4_method_3_code 25 = .ok (.return_, 1) := by decide +kernel
def f_Pg_make_0 (σ : pv_S) (x2 : Int32) : Option pv_S :=
  ((f_Wr_make σ x2).bind fun q1 =>
((f_Pg_listSteps q1).bind fun q2 =>
((f_Pg_layLines q2).bind fun q3 =>
((f_Pg_findLastReaders q3).bind fun q4 =>
((f_Pg_giveSlots q4).bind fun q5 =>
some q5)))))
set_option maxHeartbeats 4000000 in
set_option maxRecDepth 100000 in
theorem s_Pg_make_0 {p : Program} {l : Launch} {e : Env} {R : Room} {s : State} {m : MethodId} {args : Array Value} {below : List Frame} {meth : Method} {c : Code} {Q : State → Prop} {D : va_G} {q : Nat → ClassId} {a t : Nat → Nat} {A : Nat → Prop} (C : pv_C p s m args c prog_4_method_3_code 3 "PatchVoices$Program" pv_TB D pv_cl (pv_ty q) 52 a A (pv_ZX t A)) (hmv : pv_mv A (pv_ZX t A)) (hRf : 6 ≤ R.frames) (hRl : 142 ≤ R.locals) {out : pv_S} (hret : pv_Rv p l e R s m args below meth c prog_4_method_3_code D pv_cl 52 a (pv_FX q a) A Q out) {σ : pv_S} {x2 : Int32} {H : Heap} {locs : List Loc} {ls : Array Slot} (hl : lv_has ls 3 [(0, .ref (a 11)), (1, .ref (a 3)), (2, .int x2)]) (hP : pv_W D pv_cl 52 a (pv_FX q a) σ H) (hS : va_S A s.heap H locs) (hf : f_Pg_make_0 σ x2 = some out) : W p l e R s m args below meth c H locs 0 0 Q (F0 m 0 ls []) := by
  unfold f_Pg_make_0 at hf
  have hx := C.1
  have hb := C.2.1
  refine lv_aload_n hx hb d_Pg_make_0 rfl (lv_at hl 0 rfl) ?_
  refine pv_get C hP (v := .ref (a 12)) (j := 0) (by decide) (fx_11 _ _ _ _) fl_Pg_12 rfl d_Pg_make_1 ?_
  refine lv_aload_n hx hb d_Pg_make_4 rfl (lv_at hl 1 rfl) ?_
  refine lv_iload_n hx hb d_Pg_make_5 rfl (lv_at hl 2 rfl) ?_
  obtain ⟨q1, hc, hf⟩ := pv_b hf
  refine pv_callVv C hmv pv_good hP hS (As := [.ref (a 3), .int x2]) (rest := []) (by decide) (fx_12 _ _ _ _) rfl (c_Wr_make C.2.2.2.2.2.2.1 hmv hc) cv_Pg_40 ⟨rfl, rfl, Nat.le_trans (Nat.le_of_ble_eq_true rfl) hRf, Nat.le_trans (Nat.le_of_ble_eq_true rfl) hRl⟩ rfl hl.1 rfl (Nat.le_of_ble_eq_true rfl) d_Pg_make_6 ⟨Nat.zero_le _, Nat.zero_le _⟩ (fun H locs hP hS => ?_)
  refine lv_aload_n hx hb d_Pg_make_9 rfl (lv_at hl 0 rfl) ?_
  obtain ⟨q2, hc, hf⟩ := pv_b hf
  refine pv_callVv C hmv pv_good hP hS (As := []) (rest := []) (by decide) (fx_11 _ _ _ _) rfl (c_Pg_listSteps C.2.2.2.2.2.2.1 hmv hc) cv_Pg_44 ⟨rfl, rfl, Nat.le_trans (Nat.le_of_ble_eq_true rfl) hRf, Nat.le_trans (Nat.le_of_ble_eq_true rfl) hRl⟩ rfl hl.1 rfl (Nat.le_of_ble_eq_true rfl) d_Pg_make_10 ⟨Nat.zero_le _, Nat.zero_le _⟩ (fun H locs hP hS => ?_)
  refine lv_aload_n hx hb d_Pg_make_13 rfl (lv_at hl 0 rfl) ?_
  obtain ⟨q3, hc, hf⟩ := pv_b hf
  refine pv_callVv C hmv pv_good hP hS (As := []) (rest := []) (by decide) (fx_11 _ _ _ _) rfl (c_Pg_layLines C.2.2.2.2.2.2.1 hmv hc) cv_Pg_47 ⟨rfl, rfl, Nat.le_trans (Nat.le_of_ble_eq_true rfl) hRf, Nat.le_trans (Nat.le_of_ble_eq_true rfl) hRl⟩ rfl hl.1 rfl (Nat.le_of_ble_eq_true rfl) d_Pg_make_14 ⟨Nat.zero_le _, Nat.zero_le _⟩ (fun H locs hP hS => ?_)
  refine lv_aload_n hx hb d_Pg_make_17 rfl (lv_at hl 0 rfl) ?_
  obtain ⟨q4, hc, hf⟩ := pv_b hf
  refine pv_callVv C hmv pv_good hP hS (As := []) (rest := []) (by decide) (fx_11 _ _ _ _) rfl (c_Pg_findLastReaders C.2.2.2.2.2.2.1 hmv hc) cv_Pg_50 ⟨rfl, rfl, Nat.le_trans (Nat.le_of_ble_eq_true rfl) hRf, Nat.le_trans (Nat.le_of_ble_eq_true rfl) hRl⟩ rfl hl.1 rfl (Nat.le_of_ble_eq_true rfl) d_Pg_make_18 ⟨Nat.zero_le _, Nat.zero_le _⟩ (fun H locs hP hS => ?_)
  refine lv_aload_n hx hb d_Pg_make_21 rfl (lv_at hl 0 rfl) ?_
  obtain ⟨q5, hc, hf⟩ := pv_b hf
  refine pv_callVv C hmv pv_good hP hS (As := []) (rest := []) (by decide) (fx_11 _ _ _ _) rfl (c_Pg_giveSlots C.2.2.2.2.2.2.1 hmv hc) cv_Pg_53 ⟨rfl, rfl, Nat.le_trans (Nat.le_of_ble_eq_true rfl) hRf, Nat.le_trans (Nat.le_of_ble_eq_true rfl) hRl⟩ rfl hl.1 rfl (Nat.le_of_ble_eq_true rfl) d_Pg_make_22 ⟨Nat.zero_le _, Nat.zero_le _⟩ (fun H locs hP hS => ?_)
  obtain rfl := Option.some.inj hf
  exact hret _ _ _ _ d_Pg_make_25 hP hS
def f_Pg_make (σ : pv_S) (x2 : Int32) : Option pv_S := f_Pg_make_0 σ x2
def rm_Pg_make : Room := { frames := 6, cells := 0, slots := 0, locals := 142 }
theorem c_Pg_make {l : Launch} {D : va_G} {q : Nat → ClassId} {a t : Nat → Nat} {A : Nat → Prop} (hD : pv_D 52 a A) (hmv : pv_mv A (pv_ZX t A)) {σ : pv_S} {x2 : Int32} {out : pv_S} (hf : f_Pg_make σ x2 = some out) : pv_Mv l y_Pg_make (Cond.code y_Pg_make prog_4_method_3_code 3 none :: pv_TB) rm_Pg_make D pv_cl (pv_ty q) 52 a (pv_FX q a) A (pv_ZX t A) [.ref (a 11), .ref (a 3), .int x2] σ out :=
  pv_ofV (by decide) (Nat.le_of_ble_eq_true rfl) hD (fun p e s m args below meth c Q ls C hret hl hP => s_Pg_make_0 C hmv (Nat.le_refl _) (Nat.le_refl _) hret hl hP va_S.rf hf)
theorem d_Pg_slotRead_0 : decode prog_4_method_13_code 0 = .ok (.aload_n 0, 1) := by decide +kernel
theorem d_Pg_slotRead_1 : decode prog_4_method_13_code 1 = .ok (.iload_n 1, 1) := by decide +kernel
theorem d_Pg_slotRead_2 : decode prog_4_method_13_code 2 = .ok (.iload_n 2, 1) := by decide +kernel
theorem d_Pg_slotRead_3 : decode prog_4_method_13_code 3 = .ok (.invokevirtual 83, 3) := by decide +kernel
theorem d_Pg_slotRead_6 : decode prog_4_method_13_code 6 = .ok (.istore_n 3, 1) := by decide +kernel
theorem d_Pg_slotRead_7 : decode prog_4_method_13_code 7 = .ok (.iload_n 3, 1) := by decide +kernel
theorem d_Pg_slotRead_8 : decode prog_4_method_13_code 8 = .ok (.iconst (-1), 1) := by decide +kernel
theorem d_Pg_slotRead_9 : decode prog_4_method_13_code 9 = .ok (.if_icmp .ne 7, 3) := by decide +kernel
theorem d_Pg_slotRead_12 : decode prog_4_method_13_code 12 = .ok (.iconst (-1), 1) := by decide +kernel
theorem d_Pg_slotRead_13 : decode prog_4_method_13_code 13 = .ok (.goto 9, 3) := by decide +kernel
theorem d_Pg_slotRead_16 : decode prog_4_method_13_code 16 = .ok (.aload_n 0, 1) := by decide +kernel
theorem d_Pg_slotRead_17 : decode prog_4_method_13_code 17 = .ok (.getfield 27, 3) := by decide +kernel
theorem d_Pg_slotRead_20 : decode prog_4_method_13_code 20 = .ok (.iload_n 3, 1) := by decide +kernel
theorem d_Pg_slotRead_21 : decode prog_4_method_13_code 21 = .ok (.iaload, 1) := by decide +kernel
theorem d_Pg_slotRead_22 : decode prog_4_method_13_code 22 = .ok (.ireturn, 1) := by decide +kernel
def f_Pg_slotRead_0 (σ : pv_S) (x1 : Int32) (x2 : Int32) : Option (Int32 × pv_S) :=
  ((f_Pg_sourceOf σ x1 x2).bind fun q1 =>
(if q1.1 = (-1 : Int32) then
  some ((-1 : Int32), q1.2)
  else
  (if pv_in q1.1 24 = true then
some ((q1.2.1 22 (q1.1).toNatClampNeg), q1.2)
  else none)))
set_option maxHeartbeats 4000000 in
set_option maxRecDepth 100000 in
theorem s_Pg_slotRead_0 {p : Program} {l : Launch} {e : Env} {R : Room} {s : State} {m : MethodId} {args : Array Value} {below : List Frame} {meth : Method} {c : Code} {Q : State → Prop} {D : va_G} {q : Nat → ClassId} {a t : Nat → Nat} {A : Nat → Prop} (C : pv_C p s m args c prog_4_method_13_code 4 "PatchVoices$Program" pv_TB D pv_cl (pv_ty q) 52 a A (pv_ZX t A)) (hmv : pv_mv A (pv_ZX t A)) (hRf : 3 ≤ R.frames) (hRl : 66 ≤ R.locals) {out : (Int32 × pv_S)} (hret : pv_Ri p l e R s m args below meth c prog_4_method_13_code D pv_cl 52 a (pv_FX q a) A Q out) {σ : pv_S} {x1 : Int32} {x2 : Int32} {H : Heap} {locs : List Loc} {ls : Array Slot} (hl : lv_has ls 4 [(0, .ref (a 11)), (1, .int x1), (2, .int x2)]) (hP : pv_W D pv_cl 52 a (pv_FX q a) σ H) (hS : va_S A s.heap H locs) (hf : f_Pg_slotRead_0 σ x1 x2 = some out) : W p l e R s m args below meth c H locs 0 0 Q (F0 m 0 ls []) := by
  unfold f_Pg_slotRead_0 at hf
  have hx := C.1
  have hb := C.2.1
  refine lv_aload_n hx hb d_Pg_slotRead_0 rfl (lv_at hl 0 rfl) ?_
  refine lv_iload_n hx hb d_Pg_slotRead_1 rfl (lv_at hl 1 rfl) ?_
  refine lv_iload_n hx hb d_Pg_slotRead_2 rfl (lv_at hl 2 rfl) ?_
  obtain ⟨q1, hc, hf⟩ := pv_b hf
  refine pv_callVi C hmv pv_good hP hS (As := [.int x1, .int x2]) (rest := []) (by decide) (fx_11 _ _ _ _) rfl (c_Pg_sourceOf C.2.2.2.2.2.2.1 hmv hc) cv_Pg_83 ⟨rfl, rfl, Nat.le_trans (Nat.le_of_ble_eq_true rfl) hRf, Nat.le_trans (Nat.le_of_ble_eq_true rfl) hRl⟩ rfl hl.1 rfl (Nat.le_of_ble_eq_true rfl) d_Pg_slotRead_3 ⟨Nat.zero_le _, Nat.zero_le _⟩ (fun H locs hP hS => ?_)
  refine lv_istore_n (lv' := [(3, .int q1.1), (0, .ref (a 11)), (1, .int x1), (2, .int x2)]) hx hb d_Pg_slotRead_6 rfl hl (by decide) rfl (fun ls hl => ?_)
  refine lv_iload_n hx hb d_Pg_slotRead_7 rfl (lv_at hl 0 rfl) ?_
  refine lv_iconst (v := (-1 : Int32)) hx hb d_Pg_slotRead_8 (by decide) ?_
  refine lv_icmp_ne (tgt := 16) hx hb d_Pg_slotRead_9 (by decide) (fun h => ?_) (fun h => ?_)
  · have hf := pv_f hf h
    refine lv_aload_n hx hb d_Pg_slotRead_16 rfl (lv_at hl 1 rfl) ?_
    refine pv_get C hP (v := .ref (a 22)) (j := 6) (by decide) (fx_11 _ _ _ _) fl_Pg_27 rfl d_Pg_slotRead_17 ?_
    refine lv_iload_n hx hb d_Pg_slotRead_20 rfl (lv_at hl 0 rfl) ?_
    obtain ⟨hg, hf⟩ := pv_g hf
    refine pv_iald C hP (t0 := 0) (by decide) (fx_22 _ _ _ _) rfl hg d_Pg_slotRead_21 ?_
    obtain rfl := Option.some.inj hf
    exact hret _ _ _ _ d_Pg_slotRead_22 hP hS
  · have hf := pv_t hf h
    refine lv_iconst (v := (-1 : Int32)) hx hb d_Pg_slotRead_12 (by decide) ?_
    refine lv_goto (tgt := 22) hx hb d_Pg_slotRead_13 (by decide) ?_
    obtain rfl := Option.some.inj hf
    exact hret _ _ _ _ d_Pg_slotRead_22 hP hS
def f_Pg_slotRead (σ : pv_S) (x1 : Int32) (x2 : Int32) : Option (Int32 × pv_S) := f_Pg_slotRead_0 σ x1 x2
def rm_Pg_slotRead : Room := { frames := 3, cells := 0, slots := 0, locals := 66 }
theorem c_Pg_slotRead {l : Launch} {D : va_G} {q : Nat → ClassId} {a t : Nat → Nat} {A : Nat → Prop} (hD : pv_D 52 a A) (hmv : pv_mv A (pv_ZX t A)) {σ : pv_S} {x1 : Int32} {x2 : Int32} {out : (Int32 × pv_S)} (hf : f_Pg_slotRead σ x1 x2 = some out) : pv_Mi l y_Pg_slotRead (Cond.code y_Pg_slotRead prog_4_method_13_code 4 (some .int) :: pv_TB) rm_Pg_slotRead D pv_cl (pv_ty q) 52 a (pv_FX q a) A (pv_ZX t A) [.ref (a 11), .int x1, .int x2] σ out :=
  pv_ofI (by decide) (Nat.le_of_ble_eq_true rfl) hD (fun p e s m args below meth c Q ls C hret hl hP => s_Pg_slotRead_0 C hmv (Nat.le_refl _) (Nat.le_refl _) hret hl hP va_S.rf hf)
theorem d_Pg_numberRead_0 : decode prog_4_method_14_code 0 = .ok (.aload_n 0, 1) := by decide +kernel
theorem d_Pg_numberRead_1 : decode prog_4_method_14_code 1 = .ok (.iload_n 1, 1) := by decide +kernel
theorem d_Pg_numberRead_2 : decode prog_4_method_14_code 2 = .ok (.iload_n 2, 1) := by decide +kernel
theorem d_Pg_numberRead_3 : decode prog_4_method_14_code 3 = .ok (.invokevirtual 109, 3) := by decide +kernel
theorem d_Pg_numberRead_6 : decode prog_4_method_14_code 6 = .ok (.ifCond .eq 17, 3) := by decide +kernel
theorem d_Pg_numberRead_9 : decode prog_4_method_14_code 9 = .ok (.aload_n 0, 1) := by decide +kernel
theorem d_Pg_numberRead_10 : decode prog_4_method_14_code 10 = .ok (.iload_n 1, 1) := by decide +kernel
theorem d_Pg_numberRead_11 : decode prog_4_method_14_code 11 = .ok (.iload_n 2, 1) := by decide +kernel
theorem d_Pg_numberRead_12 : decode prog_4_method_14_code 12 = .ok (.invokevirtual 83, 3) := by decide +kernel
theorem d_Pg_numberRead_15 : decode prog_4_method_14_code 15 = .ok (.iconst (-1), 1) := by decide +kernel
theorem d_Pg_numberRead_16 : decode prog_4_method_14_code 16 = .ok (.if_icmp .ne 7, 3) := by decide +kernel
theorem d_Pg_numberRead_19 : decode prog_4_method_14_code 19 = .ok (.iconst 1, 1) := by decide +kernel
theorem d_Pg_numberRead_20 : decode prog_4_method_14_code 20 = .ok (.goto 4, 3) := by decide +kernel
theorem d_Pg_numberRead_23 : decode prog_4_method_14_code 23 = .ok (.iconst 0, 1) := by decide +kernel
theorem d_Pg_numberRead_24 : decode prog_4_method_14_code 24 = .ok (.istore_n 3, 1) := by decide +kernel
theorem d_Pg_numberRead_25 : decode prog_4_method_14_code 25 = .ok (.iload_n 3, 1) := by decide +kernel
theorem d_Pg_numberRead_26 : decode prog_4_method_14_code 26 = .ok (.ifCond .eq 24, 3) := by decide +kernel
theorem d_Pg_numberRead_29 : decode prog_4_method_14_code 29 = .ok (.aload_n 0, 1) := by decide +kernel
theorem d_Pg_numberRead_30 : decode prog_4_method_14_code 30 = .ok (.getfield 12, 3) := by decide +kernel
theorem d_Pg_numberRead_33 : decode prog_4_method_14_code 33 = .ok (.getfield 74, 3) := by decide +kernel
theorem d_Pg_numberRead_36 : decode prog_4_method_14_code 36 = .ok (.iconst 4, 1) := by decide +kernel
theorem d_Pg_numberRead_37 : decode prog_4_method_14_code 37 = .ok (.aload_n 0, 1) := by decide +kernel
theorem d_Pg_numberRead_38 : decode prog_4_method_14_code 38 = .ok (.getfield 20, 3) := by decide +kernel
theorem d_Pg_numberRead_41 : decode prog_4_method_14_code 41 = .ok (.iload_n 1, 1) := by decide +kernel
theorem d_Pg_numberRead_42 : decode prog_4_method_14_code 42 = .ok (.iaload, 1) := by decide +kernel
theorem d_Pg_numberRead_43 : decode prog_4_method_14_code 43 = .ok (.imul, 1) := by decide +kernel
theorem d_Pg_numberRead_44 : decode prog_4_method_14_code 44 = .ok (.iload_n 2, 1) := by decide +kernel
theorem d_Pg_numberRead_45 : decode prog_4_method_14_code 45 = .ok (.iadd, 1) := by decide +kernel
theorem d_Pg_numberRead_46 : decode prog_4_method_14_code 46 = .ok (.iaload, 1) := by decide +kernel
theorem d_Pg_numberRead_47 : decode prog_4_method_14_code 47 = .ok (.goto 4, 3) := by decide +kernel
theorem d_Pg_numberRead_50 : decode prog_4_method_14_code 50 = .ok (.iconst 0, 1) := by decide +kernel
theorem d_Pg_numberRead_51 : decode prog_4_method_14_code 51 = .ok (.ireturn, 1) := by decide +kernel
def f_Pg_numberRead_24 (σ : pv_S) (x1 : Int32) (x2 : Int32) (s0 : Int32) : Option (Int32 × pv_S) :=
  (if s0 = 0 then
  some ((0 : Int32), σ)
  else
  (if pv_in x1 48 = true then
(if pv_in (((4 : Int32) * (σ.1 20 (x1).toNatClampNeg)) + x2) 96 = true then
some ((σ.1 15 ((((4 : Int32) * (σ.1 20 (x1).toNatClampNeg)) + x2)).toNatClampNeg), σ)
  else none)
  else none))
set_option maxHeartbeats 4000000 in
set_option maxRecDepth 100000 in
theorem s_Pg_numberRead_24 {p : Program} {l : Launch} {e : Env} {R : Room} {s : State} {m : MethodId} {args : Array Value} {below : List Frame} {meth : Method} {c : Code} {Q : State → Prop} {D : va_G} {q : Nat → ClassId} {a t : Nat → Nat} {A : Nat → Prop} (C : pv_C p s m args c prog_4_method_14_code 4 "PatchVoices$Program" pv_TB D pv_cl (pv_ty q) 52 a A (pv_ZX t A)) (hmv : pv_mv A (pv_ZX t A)) (hRf : 3 ≤ R.frames) (hRl : 66 ≤ R.locals) {out : (Int32 × pv_S)} (hret : pv_Ri p l e R s m args below meth c prog_4_method_14_code D pv_cl 52 a (pv_FX q a) A Q out) {σ : pv_S} {x1 : Int32} {x2 : Int32} {s0 : Int32} {H : Heap} {locs : List Loc} {ls : Array Slot} (hl : lv_has ls 4 [(0, .ref (a 11)), (1, .int x1), (2, .int x2)]) (hP : pv_W D pv_cl 52 a (pv_FX q a) σ H) (hS : va_S A s.heap H locs) (hf : f_Pg_numberRead_24 σ x1 x2 s0 = some out) : W p l e R s m args below meth c H locs 0 0 Q (F0 m 24 ls [.int s0]) := by
  unfold f_Pg_numberRead_24 at hf
  have hx := C.1
  have hb := C.2.1
  refine lv_istore_n (lv' := [(3, .int s0), (0, .ref (a 11)), (1, .int x1), (2, .int x2)]) hx hb d_Pg_numberRead_24 rfl hl (by decide) rfl (fun ls hl => ?_)
  refine lv_iload_n hx hb d_Pg_numberRead_25 rfl (lv_at hl 0 rfl) ?_
  refine lv_if_eq (tgt := 50) hx hb d_Pg_numberRead_26 (by decide) (fun h => ?_) (fun h => ?_)
  · have hf := pv_t hf h
    refine lv_iconst (v := (0 : Int32)) hx hb d_Pg_numberRead_50 (by decide) ?_
    obtain rfl := Option.some.inj hf
    exact hret _ _ _ _ d_Pg_numberRead_51 hP hS
  · have hf := pv_f hf h
    refine lv_aload_n hx hb d_Pg_numberRead_29 rfl (lv_at hl 1 rfl) ?_
    refine pv_get C hP (v := .ref (a 12)) (j := 0) (by decide) (fx_11 _ _ _ _) fl_Pg_12 rfl d_Pg_numberRead_30 ?_
    refine pv_get C hP (v := .ref (a 15)) (j := 3) (by decide) (fx_12 _ _ _ _) fl_Pg_74 rfl d_Pg_numberRead_33 ?_
    refine lv_iconst (v := (4 : Int32)) hx hb d_Pg_numberRead_36 (by decide) ?_
    refine lv_aload_n hx hb d_Pg_numberRead_37 rfl (lv_at hl 1 rfl) ?_
    refine pv_get C hP (v := .ref (a 20)) (j := 3) (by decide) (fx_11 _ _ _ _) fl_Pg_20 rfl d_Pg_numberRead_38 ?_
    refine lv_iload_n hx hb d_Pg_numberRead_41 rfl (lv_at hl 2 rfl) ?_
    obtain ⟨hg, hf⟩ := pv_g hf
    refine pv_iald C hP (t0 := 0) (by decide) (fx_20 _ _ _ _) rfl hg d_Pg_numberRead_42 ?_
    refine lv_imul hx hb d_Pg_numberRead_43 ?_
    refine lv_iload_n hx hb d_Pg_numberRead_44 rfl (lv_at hl 3 rfl) ?_
    refine lv_iadd hx hb d_Pg_numberRead_45 ?_
    obtain ⟨hg, hf⟩ := pv_g hf
    refine pv_iald C hP (t0 := 0) (by decide) (fx_15 _ _ _ _) rfl hg d_Pg_numberRead_46 ?_
    refine lv_goto (tgt := 51) hx hb d_Pg_numberRead_47 (by decide) ?_
    obtain rfl := Option.some.inj hf
    exact hret _ _ _ _ d_Pg_numberRead_51 hP hS
def f_Pg_numberRead_23 (σ : pv_S) (x1 : Int32) (x2 : Int32) : Option (Int32 × pv_S) :=
  f_Pg_numberRead_24 σ x1 x2 (0 : Int32)
set_option maxHeartbeats 4000000 in
set_option maxRecDepth 100000 in
theorem s_Pg_numberRead_23 {p : Program} {l : Launch} {e : Env} {R : Room} {s : State} {m : MethodId} {args : Array Value} {below : List Frame} {meth : Method} {c : Code} {Q : State → Prop} {D : va_G} {q : Nat → ClassId} {a t : Nat → Nat} {A : Nat → Prop} (C : pv_C p s m args c prog_4_method_14_code 4 "PatchVoices$Program" pv_TB D pv_cl (pv_ty q) 52 a A (pv_ZX t A)) (hmv : pv_mv A (pv_ZX t A)) (hRf : 3 ≤ R.frames) (hRl : 66 ≤ R.locals) {out : (Int32 × pv_S)} (hret : pv_Ri p l e R s m args below meth c prog_4_method_14_code D pv_cl 52 a (pv_FX q a) A Q out) {σ : pv_S} {x1 : Int32} {x2 : Int32} {H : Heap} {locs : List Loc} {ls : Array Slot} (hl : lv_has ls 4 [(0, .ref (a 11)), (1, .int x1), (2, .int x2)]) (hP : pv_W D pv_cl 52 a (pv_FX q a) σ H) (hS : va_S A s.heap H locs) (hf : f_Pg_numberRead_23 σ x1 x2 = some out) : W p l e R s m args below meth c H locs 0 0 Q (F0 m 23 ls []) := by
  unfold f_Pg_numberRead_23 at hf
  have hx := C.1
  have hb := C.2.1
  refine lv_iconst (v := (0 : Int32)) hx hb d_Pg_numberRead_23 (by decide) ?_
  exact s_Pg_numberRead_24 C hmv hRf hRl hret (lv_sub hl [0, 1, 2] rfl) hP hS hf
def f_Pg_numberRead_0 (σ : pv_S) (x1 : Int32) (x2 : Int32) : Option (Int32 × pv_S) :=
  ((f_Pg_reads σ x1 x2).bind fun q1 =>
(if q1.1 = 0 then
  f_Pg_numberRead_23 q1.2 x1 x2
  else
  ((f_Pg_sourceOf q1.2 x1 x2).bind fun q2 =>
(if q2.1 = (-1 : Int32) then
  f_Pg_numberRead_24 q2.2 x1 x2 (1 : Int32)
  else
  f_Pg_numberRead_23 q2.2 x1 x2))))
set_option maxHeartbeats 4000000 in
set_option maxRecDepth 100000 in
theorem s_Pg_numberRead_0 {p : Program} {l : Launch} {e : Env} {R : Room} {s : State} {m : MethodId} {args : Array Value} {below : List Frame} {meth : Method} {c : Code} {Q : State → Prop} {D : va_G} {q : Nat → ClassId} {a t : Nat → Nat} {A : Nat → Prop} (C : pv_C p s m args c prog_4_method_14_code 4 "PatchVoices$Program" pv_TB D pv_cl (pv_ty q) 52 a A (pv_ZX t A)) (hmv : pv_mv A (pv_ZX t A)) (hRf : 3 ≤ R.frames) (hRl : 66 ≤ R.locals) {out : (Int32 × pv_S)} (hret : pv_Ri p l e R s m args below meth c prog_4_method_14_code D pv_cl 52 a (pv_FX q a) A Q out) {σ : pv_S} {x1 : Int32} {x2 : Int32} {H : Heap} {locs : List Loc} {ls : Array Slot} (hl : lv_has ls 4 [(0, .ref (a 11)), (1, .int x1), (2, .int x2)]) (hP : pv_W D pv_cl 52 a (pv_FX q a) σ H) (hS : va_S A s.heap H locs) (hf : f_Pg_numberRead_0 σ x1 x2 = some out) : W p l e R s m args below meth c H locs 0 0 Q (F0 m 0 ls []) := by
  unfold f_Pg_numberRead_0 at hf
  have hx := C.1
  have hb := C.2.1
  refine lv_aload_n hx hb d_Pg_numberRead_0 rfl (lv_at hl 0 rfl) ?_
  refine lv_iload_n hx hb d_Pg_numberRead_1 rfl (lv_at hl 1 rfl) ?_
  refine lv_iload_n hx hb d_Pg_numberRead_2 rfl (lv_at hl 2 rfl) ?_
  obtain ⟨q1, hc, hf⟩ := pv_b hf
  refine pv_callVi C hmv pv_good hP hS (As := [.int x1, .int x2]) (rest := []) (by decide) (fx_11 _ _ _ _) rfl (c_Pg_reads C.2.2.2.2.2.2.1 hmv hc) cv_Pg_109 ⟨rfl, rfl, Nat.le_trans (Nat.le_of_ble_eq_true rfl) hRf, Nat.le_trans (Nat.le_of_ble_eq_true rfl) hRl⟩ rfl hl.1 rfl (Nat.le_of_ble_eq_true rfl) d_Pg_numberRead_3 ⟨Nat.zero_le _, Nat.zero_le _⟩ (fun H locs hP hS => ?_)
  refine lv_if_eq (tgt := 23) hx hb d_Pg_numberRead_6 (by decide) (fun h => ?_) (fun h => ?_)
  · have hf := pv_t hf h
    exact s_Pg_numberRead_23 C hmv hRf hRl hret (lv_sub hl [0, 1, 2] rfl) hP hS hf
  · have hf := pv_f hf h
    refine lv_aload_n hx hb d_Pg_numberRead_9 rfl (lv_at hl 0 rfl) ?_
    refine lv_iload_n hx hb d_Pg_numberRead_10 rfl (lv_at hl 1 rfl) ?_
    refine lv_iload_n hx hb d_Pg_numberRead_11 rfl (lv_at hl 2 rfl) ?_
    obtain ⟨q2, hc, hf⟩ := pv_b hf
    refine pv_callVi C hmv pv_good hP hS (As := [.int x1, .int x2]) (rest := []) (by decide) (fx_11 _ _ _ _) rfl (c_Pg_sourceOf C.2.2.2.2.2.2.1 hmv hc) cv_Pg_83 ⟨rfl, rfl, Nat.le_trans (Nat.le_of_ble_eq_true rfl) hRf, Nat.le_trans (Nat.le_of_ble_eq_true rfl) hRl⟩ rfl hl.1 rfl (Nat.le_of_ble_eq_true rfl) d_Pg_numberRead_12 ⟨Nat.zero_le _, Nat.zero_le _⟩ (fun H locs hP hS => ?_)
    refine lv_iconst (v := (-1 : Int32)) hx hb d_Pg_numberRead_15 (by decide) ?_
    refine lv_icmp_ne (tgt := 23) hx hb d_Pg_numberRead_16 (by decide) (fun h => ?_) (fun h => ?_)
    · have hf := pv_f hf h
      exact s_Pg_numberRead_23 C hmv hRf hRl hret (lv_sub hl [0, 1, 2] rfl) hP hS hf
    · have hf := pv_t hf h
      refine lv_iconst (v := (1 : Int32)) hx hb d_Pg_numberRead_19 (by decide) ?_
      refine lv_goto (tgt := 24) hx hb d_Pg_numberRead_20 (by decide) ?_
      exact s_Pg_numberRead_24 C hmv hRf hRl hret (lv_sub hl [0, 1, 2] rfl) hP hS hf
def f_Pg_numberRead (σ : pv_S) (x1 : Int32) (x2 : Int32) : Option (Int32 × pv_S) := f_Pg_numberRead_0 σ x1 x2
def rm_Pg_numberRead : Room := { frames := 3, cells := 0, slots := 0, locals := 66 }
theorem c_Pg_numberRead {l : Launch} {D : va_G} {q : Nat → ClassId} {a t : Nat → Nat} {A : Nat → Prop} (hD : pv_D 52 a A) (hmv : pv_mv A (pv_ZX t A)) {σ : pv_S} {x1 : Int32} {x2 : Int32} {out : (Int32 × pv_S)} (hf : f_Pg_numberRead σ x1 x2 = some out) : pv_Mi l y_Pg_numberRead (Cond.code y_Pg_numberRead prog_4_method_14_code 4 (some .int) :: pv_TB) rm_Pg_numberRead D pv_cl (pv_ty q) 52 a (pv_FX q a) A (pv_ZX t A) [.ref (a 11), .int x1, .int x2] σ out :=
  pv_ofI (by decide) (Nat.le_of_ble_eq_true rfl) hD (fun p e s m args below meth c Q ls C hret hl hP => s_Pg_numberRead_0 C hmv (Nat.le_refl _) (Nat.le_refl _) hret hl hP va_S.rf hf)
theorem d_Pg_tell_0 : decode prog_4_method_12_code 0 = .ok (.iload_n 2, 1) := by decide +kernel
theorem d_Pg_tell_1 : decode prog_4_method_12_code 1 = .ok (.tableswitch 64 (0) (2) #[27, 33, 40], 27) := by decide +kernel
theorem d_Pg_tell_28 : decode prog_4_method_12_code 28 = .ok (.aload_n 0, 1) := by decide +kernel
theorem d_Pg_tell_29 : decode prog_4_method_12_code 29 = .ok (.iload_n 1, 1) := by decide +kernel
theorem d_Pg_tell_30 : decode prog_4_method_12_code 30 = .ok (.invokevirtual 103, 3) := by decide +kernel
theorem d_Pg_tell_33 : decode prog_4_method_12_code 33 = .ok (.ireturn, 1) := by decide +kernel
theorem d_Pg_tell_34 : decode prog_4_method_12_code 34 = .ok (.aload_n 0, 1) := by decide +kernel
theorem d_Pg_tell_35 : decode prog_4_method_12_code 35 = .ok (.getfield 20, 3) := by decide +kernel
theorem d_Pg_tell_38 : decode prog_4_method_12_code 38 = .ok (.iload_n 1, 1) := by decide +kernel
theorem d_Pg_tell_39 : decode prog_4_method_12_code 39 = .ok (.iaload, 1) := by decide +kernel
theorem d_Pg_tell_40 : decode prog_4_method_12_code 40 = .ok (.ireturn, 1) := by decide +kernel
theorem d_Pg_tell_41 : decode prog_4_method_12_code 41 = .ok (.iload_n 1, 1) := by decide +kernel
theorem d_Pg_tell_42 : decode prog_4_method_12_code 42 = .ok (.aload_n 0, 1) := by decide +kernel
theorem d_Pg_tell_43 : decode prog_4_method_12_code 43 = .ok (.getfield 66, 3) := by decide +kernel
theorem d_Pg_tell_46 : decode prog_4_method_12_code 46 = .ok (.if_icmp .lt 7, 3) := by decide +kernel
theorem d_Pg_tell_49 : decode prog_4_method_12_code 49 = .ok (.iconst (-1), 1) := by decide +kernel
theorem d_Pg_tell_50 : decode prog_4_method_12_code 50 = .ok (.goto 14, 3) := by decide +kernel
theorem d_Pg_tell_53 : decode prog_4_method_12_code 53 = .ok (.aload_n 0, 1) := by decide +kernel
theorem d_Pg_tell_54 : decode prog_4_method_12_code 54 = .ok (.getfield 27, 3) := by decide +kernel
theorem d_Pg_tell_57 : decode prog_4_method_12_code 57 = .ok (.aload_n 0, 1) := by decide +kernel
theorem d_Pg_tell_58 : decode prog_4_method_12_code 58 = .ok (.getfield 20, 3) := by decide +kernel
theorem d_Pg_tell_61 : decode prog_4_method_12_code 61 = .ok (.iload_n 1, 1) := by decide +kernel
theorem d_Pg_tell_62 : decode prog_4_method_12_code 62 = .ok (.iaload, 1) := by decide +kernel
theorem d_Pg_tell_63 : decode prog_4_method_12_code 63 = .ok (.iaload, 1) := by decide +kernel
theorem d_Pg_tell_64 : decode prog_4_method_12_code 64 = .ok (.ireturn, 1) := by decide +kernel
theorem d_Pg_tell_65 : decode prog_4_method_12_code 65 = .ok (.iload_n 2, 1) := by decide +kernel
theorem d_Pg_tell_66 : decode prog_4_method_12_code 66 = .ok (.bipush 7, 2) := by decide +kernel
theorem d_Pg_tell_68 : decode prog_4_method_12_code 68 = .ok (.if_icmp .ge 14, 3) := by decide +kernel
theorem d_Pg_tell_71 : decode prog_4_method_12_code 71 = .ok (.aload_n 0, 1) := by decide +kernel
theorem d_Pg_tell_72 : decode prog_4_method_12_code 72 = .ok (.iload_n 1, 1) := by decide +kernel
theorem d_Pg_tell_73 : decode prog_4_method_12_code 73 = .ok (.iload_n 2, 1) := by decide +kernel
theorem d_Pg_tell_74 : decode prog_4_method_12_code 74 = .ok (.iconst 3, 1) := by decide +kernel
theorem d_Pg_tell_75 : decode prog_4_method_12_code 75 = .ok (.isub, 1) := by decide +kernel
theorem d_Pg_tell_76 : decode prog_4_method_12_code 76 = .ok (.invokevirtual 116, 3) := by decide +kernel
theorem d_Pg_tell_79 : decode prog_4_method_12_code 79 = .ok (.goto 12, 3) := by decide +kernel
theorem d_Pg_tell_82 : decode prog_4_method_12_code 82 = .ok (.aload_n 0, 1) := by decide +kernel
theorem d_Pg_tell_83 : decode prog_4_method_12_code 83 = .ok (.iload_n 1, 1) := by decide +kernel
theorem d_Pg_tell_84 : decode prog_4_method_12_code 84 = .ok (.iload_n 2, 1) := by decide +kernel
theorem d_Pg_tell_85 : decode prog_4_method_12_code 85 = .ok (.bipush 7, 2) := by decide +kernel
theorem d_Pg_tell_87 : decode prog_4_method_12_code 87 = .ok (.isub, 1) := by decide +kernel
theorem d_Pg_tell_88 : decode prog_4_method_12_code 88 = .ok (.invokevirtual 119, 3) := by decide +kernel
theorem d_Pg_tell_91 : decode prog_4_method_12_code 91 = .ok (.ireturn, 1) := by decide +kernel
def f_Pg_tell_0 (σ : pv_S) (x1 : Int32) (x2 : Int32) : Option (Int32 × pv_S) :=
  (if x2 = (0 : Int32) then
  ((f_Pg_kindOf σ x1).bind fun q1 =>
some (q1.1, q1.2))
  else
(if x2 = (1 : Int32) then
  (if pv_in x1 48 = true then
some ((σ.1 20 (x1).toNatClampNeg), σ)
  else none)
  else
(if x2 = (2 : Int32) then
  (if x1 < (σ.1 11 2) then
  (if pv_in x1 48 = true then
(if pv_in (σ.1 20 (x1).toNatClampNeg) 24 = true then
some ((σ.1 22 ((σ.1 20 (x1).toNatClampNeg)).toNatClampNeg), σ)
  else none)
  else none)
  else
  some ((-1 : Int32), σ))
  else
  (if (7 : Int32) ≤ x2 then
  ((f_Pg_numberRead σ x1 (x2 - (7 : Int32))).bind fun q2 =>
some (q2.1, q2.2))
  else
  ((f_Pg_slotRead σ x1 (x2 - (3 : Int32))).bind fun q3 =>
some (q3.1, q3.2))))))
set_option maxHeartbeats 4000000 in
set_option maxRecDepth 100000 in
theorem s_Pg_tell_0 {p : Program} {l : Launch} {e : Env} {R : Room} {s : State} {m : MethodId} {args : Array Value} {below : List Frame} {meth : Method} {c : Code} {Q : State → Prop} {D : va_G} {q : Nat → ClassId} {a t : Nat → Nat} {A : Nat → Prop} (C : pv_C p s m args c prog_4_method_12_code 3 "PatchVoices$Program" pv_TB D pv_cl (pv_ty q) 52 a A (pv_ZX t A)) (hmv : pv_mv A (pv_ZX t A)) (hRf : 4 ≤ R.frames) (hRl : 89 ≤ R.locals) {out : (Int32 × pv_S)} (hret : pv_Ri p l e R s m args below meth c prog_4_method_12_code D pv_cl 52 a (pv_FX q a) A Q out) {σ : pv_S} {x1 : Int32} {x2 : Int32} {H : Heap} {locs : List Loc} {ls : Array Slot} (hl : lv_has ls 3 [(0, .ref (a 11)), (1, .int x1), (2, .int x2)]) (hP : pv_W D pv_cl 52 a (pv_FX q a) σ H) (hS : va_S A s.heap H locs) (hf : f_Pg_tell_0 σ x1 x2 = some out) : W p l e R s m args below meth c H locs 0 0 Q (F0 m 0 ls []) := by
  unfold f_Pg_tell_0 at hf
  have hx := C.1
  have hb := C.2.1
  refine lv_iload_n hx hb d_Pg_tell_0 rfl (lv_at hl 2 rfl) ?_
  by_cases h0 : x2 = (0 : Int32)
  · have hf := pv_t hf h0
    refine lv_tableIn (tgt := 28) hx hb d_Pg_tell_1 (by rw [h0]; decide) (by rw [h0]; decide) (by first | (rw [h0]; done) | (rw [h0]; rfl)) (by decide) ?_
    refine lv_aload_n hx hb d_Pg_tell_28 rfl (lv_at hl 0 rfl) ?_
    refine lv_iload_n hx hb d_Pg_tell_29 rfl (lv_at hl 1 rfl) ?_
    obtain ⟨q1, hc, hf⟩ := pv_b hf
    refine pv_callVi C hmv pv_good hP hS (As := [.int x1]) (rest := []) (by decide) (fx_11 _ _ _ _) rfl (c_Pg_kindOf C.2.2.2.2.2.2.1 hmv hc) cv_Pg_103 ⟨rfl, rfl, Nat.le_trans (Nat.le_of_ble_eq_true rfl) hRf, Nat.le_trans (Nat.le_of_ble_eq_true rfl) hRl⟩ rfl hl.1 rfl (Nat.le_of_ble_eq_true rfl) d_Pg_tell_30 ⟨Nat.zero_le _, Nat.zero_le _⟩ (fun H locs hP hS => ?_)
    obtain rfl := Option.some.inj hf
    exact hret _ _ _ _ d_Pg_tell_33 hP hS
  · have hf := pv_f hf h0
    by_cases h1 : x2 = (1 : Int32)
    · have hf := pv_t hf h1
      refine lv_tableIn (tgt := 34) hx hb d_Pg_tell_1 (by rw [h1]; decide) (by rw [h1]; decide) (by first | (rw [h1]; done) | (rw [h1]; rfl)) (by decide) ?_
      refine lv_aload_n hx hb d_Pg_tell_34 rfl (lv_at hl 0 rfl) ?_
      refine pv_get C hP (v := .ref (a 20)) (j := 3) (by decide) (fx_11 _ _ _ _) fl_Pg_20 rfl d_Pg_tell_35 ?_
      refine lv_iload_n hx hb d_Pg_tell_38 rfl (lv_at hl 1 rfl) ?_
      obtain ⟨hg, hf⟩ := pv_g hf
      refine pv_iald C hP (t0 := 0) (by decide) (fx_20 _ _ _ _) rfl hg d_Pg_tell_39 ?_
      obtain rfl := Option.some.inj hf
      exact hret _ _ _ _ d_Pg_tell_40 hP hS
    · have hf := pv_f hf h1
      by_cases h2 : x2 = (2 : Int32)
      · have hf := pv_t hf h2
        refine lv_tableIn (tgt := 41) hx hb d_Pg_tell_1 (by rw [h2]; decide) (by rw [h2]; decide) (by first | (rw [h2]; done) | (rw [h2]; rfl)) (by decide) ?_
        refine lv_iload_n hx hb d_Pg_tell_41 rfl (lv_at hl 1 rfl) ?_
        refine lv_aload_n hx hb d_Pg_tell_42 rfl (lv_at hl 0 rfl) ?_
        refine pv_get C hP (v := .int (σ.1 11 2)) (j := 2) (by decide) (fx_11 _ _ _ _) fl_Pg_66 rfl d_Pg_tell_43 ?_
        refine lv_icmp_lt (tgt := 53) hx hb d_Pg_tell_46 (by decide) (fun h => ?_) (fun h => ?_)
        · have hf := pv_t hf h
          refine lv_aload_n hx hb d_Pg_tell_53 rfl (lv_at hl 0 rfl) ?_
          refine pv_get C hP (v := .ref (a 22)) (j := 6) (by decide) (fx_11 _ _ _ _) fl_Pg_27 rfl d_Pg_tell_54 ?_
          refine lv_aload_n hx hb d_Pg_tell_57 rfl (lv_at hl 0 rfl) ?_
          refine pv_get C hP (v := .ref (a 20)) (j := 3) (by decide) (fx_11 _ _ _ _) fl_Pg_20 rfl d_Pg_tell_58 ?_
          refine lv_iload_n hx hb d_Pg_tell_61 rfl (lv_at hl 1 rfl) ?_
          obtain ⟨hg, hf⟩ := pv_g hf
          refine pv_iald C hP (t0 := 0) (by decide) (fx_20 _ _ _ _) rfl hg d_Pg_tell_62 ?_
          obtain ⟨hg, hf⟩ := pv_g hf
          refine pv_iald C hP (t0 := 0) (by decide) (fx_22 _ _ _ _) rfl hg d_Pg_tell_63 ?_
          obtain rfl := Option.some.inj hf
          exact hret _ _ _ _ d_Pg_tell_64 hP hS
        · have hf := pv_f hf h
          refine lv_iconst (v := (-1 : Int32)) hx hb d_Pg_tell_49 (by decide) ?_
          refine lv_goto (tgt := 64) hx hb d_Pg_tell_50 (by decide) ?_
          obtain rfl := Option.some.inj hf
          exact hret _ _ _ _ d_Pg_tell_64 hP hS
      · have hf := pv_f hf h2
        refine lv_tableOut (tgt := 65) hx hb d_Pg_tell_1 (by have z0 := lv_neT h0 (a := 0) (by decide); have z1 := lv_neT h1 (a := 1) (by decide); have z2 := lv_neT h2 (a := 2) (by decide); omega) (by decide) ?_
        refine lv_iload_n hx hb d_Pg_tell_65 rfl (lv_at hl 2 rfl) ?_
        refine lv_bipush (v := (7 : Int32)) hx hb d_Pg_tell_66 (by decide) ?_
        refine lv_icmp_ge (tgt := 82) hx hb d_Pg_tell_68 (by decide) (fun h => ?_) (fun h => ?_)
        · have hf := pv_t hf h
          refine lv_aload_n hx hb d_Pg_tell_82 rfl (lv_at hl 0 rfl) ?_
          refine lv_iload_n hx hb d_Pg_tell_83 rfl (lv_at hl 1 rfl) ?_
          refine lv_iload_n hx hb d_Pg_tell_84 rfl (lv_at hl 2 rfl) ?_
          refine lv_bipush (v := (7 : Int32)) hx hb d_Pg_tell_85 (by decide) ?_
          refine lv_isub hx hb d_Pg_tell_87 ?_
          obtain ⟨q2, hc, hf⟩ := pv_b hf
          refine pv_callVi C hmv pv_good hP hS (As := [.int x1, .int (x2 - (7 : Int32))]) (rest := []) (by decide) (fx_11 _ _ _ _) rfl (c_Pg_numberRead C.2.2.2.2.2.2.1 hmv hc) cv_Pg_119 ⟨rfl, rfl, Nat.le_trans (Nat.le_of_ble_eq_true rfl) hRf, Nat.le_trans (Nat.le_of_ble_eq_true rfl) hRl⟩ rfl hl.1 rfl (Nat.le_of_ble_eq_true rfl) d_Pg_tell_88 ⟨Nat.zero_le _, Nat.zero_le _⟩ (fun H locs hP hS => ?_)
          obtain rfl := Option.some.inj hf
          exact hret _ _ _ _ d_Pg_tell_91 hP hS
        · have hf := pv_f hf h
          refine lv_aload_n hx hb d_Pg_tell_71 rfl (lv_at hl 0 rfl) ?_
          refine lv_iload_n hx hb d_Pg_tell_72 rfl (lv_at hl 1 rfl) ?_
          refine lv_iload_n hx hb d_Pg_tell_73 rfl (lv_at hl 2 rfl) ?_
          refine lv_iconst (v := (3 : Int32)) hx hb d_Pg_tell_74 (by decide) ?_
          refine lv_isub hx hb d_Pg_tell_75 ?_
          obtain ⟨q3, hc, hf⟩ := pv_b hf
          refine pv_callVi C hmv pv_good hP hS (As := [.int x1, .int (x2 - (3 : Int32))]) (rest := []) (by decide) (fx_11 _ _ _ _) rfl (c_Pg_slotRead C.2.2.2.2.2.2.1 hmv hc) cv_Pg_116 ⟨rfl, rfl, Nat.le_trans (Nat.le_of_ble_eq_true rfl) hRf, Nat.le_trans (Nat.le_of_ble_eq_true rfl) hRl⟩ rfl hl.1 rfl (Nat.le_of_ble_eq_true rfl) d_Pg_tell_76 ⟨Nat.zero_le _, Nat.zero_le _⟩ (fun H locs hP hS => ?_)
          refine lv_goto (tgt := 91) hx hb d_Pg_tell_79 (by decide) ?_
          obtain rfl := Option.some.inj hf
          exact hret _ _ _ _ d_Pg_tell_91 hP hS
def f_Pg_tell (σ : pv_S) (x1 : Int32) (x2 : Int32) : Option (Int32 × pv_S) := f_Pg_tell_0 σ x1 x2
def rm_Pg_tell : Room := { frames := 4, cells := 0, slots := 0, locals := 89 }
theorem c_Pg_tell {l : Launch} {D : va_G} {q : Nat → ClassId} {a t : Nat → Nat} {A : Nat → Prop} (hD : pv_D 52 a A) (hmv : pv_mv A (pv_ZX t A)) {σ : pv_S} {x1 : Int32} {x2 : Int32} {out : (Int32 × pv_S)} (hf : f_Pg_tell σ x1 x2 = some out) : pv_Mi l y_Pg_tell (Cond.code y_Pg_tell prog_4_method_12_code 3 (some .int) :: pv_TB) rm_Pg_tell D pv_cl (pv_ty q) 52 a (pv_FX q a) A (pv_ZX t A) [.ref (a 11), .int x1, .int x2] σ out :=
  pv_ofI (by decide) (Nat.le_of_ble_eq_true rfl) hD (fun p e s m args below meth c Q ls C hret hl hP => s_Pg_tell_0 C hmv (Nat.le_refl _) (Nat.le_refl _) hret hl hP va_S.rf hf)
