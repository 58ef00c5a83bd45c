theorem d_Md_moduleOf_0 : decode prog_9_method_22_code 0 = .ok (.iconst (-1), 1) := by decide +kernel
theorem d_Md_moduleOf_1 : decode prog_9_method_22_code 1 = .ok (.istore_n 2, 1) := by decide +kernel
theorem d_Md_moduleOf_2 : decode prog_9_method_22_code 2 = .ok (.aload_n 0, 1) := by decide +kernel
theorem d_Md_moduleOf_3 : decode prog_9_method_22_code 3 = .ok (.getfield 144, 3) := by decide +kernel
theorem d_Md_moduleOf_6 : decode prog_9_method_22_code 6 = .ok (.iconst 1, 1) := by decide +kernel
theorem d_Md_moduleOf_7 : decode prog_9_method_22_code 7 = .ok (.isub, 1) := by decide +kernel
theorem d_Md_moduleOf_8 : decode prog_9_method_22_code 8 = .ok (.istore_n 3, 1) := by decide +kernel
theorem d_Md_moduleOf_9 : decode prog_9_method_22_code 9 = .ok (.iload_n 3, 1) := by decide +kernel
theorem d_Md_moduleOf_10 : decode prog_9_method_22_code 10 = .ok (.ifCond .lt 25, 3) := by decide +kernel
theorem d_Md_moduleOf_13 : decode prog_9_method_22_code 13 = .ok (.aload_n 0, 1) := by decide +kernel
theorem d_Md_moduleOf_14 : decode prog_9_method_22_code 14 = .ok (.getfield 19, 3) := by decide +kernel
theorem d_Md_moduleOf_17 : decode prog_9_method_22_code 17 = .ok (.iload_n 3, 1) := by decide +kernel
theorem d_Md_moduleOf_18 : decode prog_9_method_22_code 18 = .ok (.iaload, 1) := by decide +kernel
theorem d_Md_moduleOf_19 : decode prog_9_method_22_code 19 = .ok (.iload_n 1, 1) := by decide +kernel
theorem d_Md_moduleOf_20 : decode prog_9_method_22_code 20 = .ok (.if_icmp .ne 7, 3) := by decide +kernel
theorem d_Md_moduleOf_23 : decode prog_9_method_22_code 23 = .ok (.iload_n 3, 1) := by decide +kernel
theorem d_Md_moduleOf_24 : decode prog_9_method_22_code 24 = .ok (.goto 4, 3) := by decide +kernel
theorem d_Md_moduleOf_27 : decode prog_9_method_22_code 27 = .ok (.iload_n 2, 1) := by decide +kernel
theorem d_Md_moduleOf_28 : decode prog_9_method_22_code 28 = .ok (.istore_n 2, 1) := by decide +kernel
theorem d_Md_moduleOf_29 : decode prog_9_method_22_code 29 = .ok (.iinc 3 (-1), 3) := by decide +kernel
theorem d_Md_moduleOf_32 : decode prog_9_method_22_code 32 = .ok (.goto (-23), 3) := by decide +kernel
theorem d_Md_moduleOf_35 : decode prog_9_method_22_code 35 = .ok (.iload_n 2, 1) := by decide +kernel
theorem d_Md_moduleOf_36 : decode prog_9_method_22_code 36 = .ok (.ireturn, 1) := by decide +kernel
def f_Md_moduleOf_28 (k_9 : pv_S → Int32 → Int32 → Int32 → Option (Int32 × pv_S)) (σ : pv_S) (x1 : Int32) (x3 : Int32) (s0 : Int32) : Option (Int32 × pv_S) :=
  k_9 σ x1 s0 (x3 + (-1 : Int32))
set_option maxHeartbeats 4000000 in
set_option maxRecDepth 100000 in
theorem s_Md_moduleOf_28 {p : Program} {l : Launch} {e : Env} {R : Room} {s : State} {m : MethodId} {args : Array Value} {below : List Frame} {meth : Method} {c : Code} {Q : State → Prop} {D : va_G} {q : Nat → ClassId} {a : Nat → Nat} {A : Nat → Prop} (C : pv_C p s m args c prog_9_method_22_code 4 "PatchVoicesModel" pv_TB D pv_cl (pv_ty q) 36 a A (pv_ZM)) (hmv : pv_mv A (pv_ZM)) (hRf : 0 ≤ R.frames) (hRl : 0 ≤ R.locals) {out : (Int32 × pv_S)} (hret : pv_Ri p l e R s m args below meth c prog_9_method_22_code D pv_cl 36 a (pv_FM q a) A Q out) {k_9 : pv_S → Int32 → Int32 → Int32 → Option (Int32 × pv_S)} (hk_9 : ∀ (σ : pv_S) (x1 : Int32) (x2 : Int32) (x3 : Int32) (H : Heap) (locs : List Loc) (ls : Array Slot), k_9 σ x1 x2 x3 = some out → lv_has ls 4 [(0, .ref (a 0)), (1, .int x1), (2, .int x2), (3, .int x3)] → pv_W D pv_cl 36 a (pv_FM q a) σ H → va_S A s.heap H locs → W p l e R s m args below meth c H locs 0 0 Q (F0 m 9 ls [])) {σ : pv_S} {x1 : Int32} {x3 : Int32} {s0 : Int32} {H : Heap} {locs : List Loc} {ls : Array Slot} (hl : lv_has ls 4 [(0, .ref (a 0)), (1, .int x1), (3, .int x3)]) (hP : pv_W D pv_cl 36 a (pv_FM q a) σ H) (hS : va_S A s.heap H locs) (hf : f_Md_moduleOf_28 k_9 σ x1 x3 s0 = some out) : W p l e R s m args below meth c H locs 0 0 Q (F0 m 28 ls [.int s0]) := by
  unfold f_Md_moduleOf_28 at hf
  have hx := C.1
  have hb := C.2.1
  refine lv_istore_n (lv' := [(2, .int s0), (0, .ref (a 0)), (1, .int x1), (3, .int x3)]) hx hb d_Md_moduleOf_28 rfl hl (by decide) rfl (fun ls hl => ?_)
  refine lv_iinc (k := 3) (v := (x3 + (-1 : Int32))) (lv' := [(3, .int (x3 + (-1 : Int32))), (2, .int s0), (0, .ref (a 0)), (1, .int x1)]) hx hb d_Md_moduleOf_29 hl rfl (pv_inc (by decide)) (by decide) rfl (fun ls hl => ?_)
  refine lv_goto (tgt := 9) hx hb d_Md_moduleOf_32 (by decide) ?_
  exact hk_9 _ _ _ _ _ _ _ hf (lv_sub hl [2, 3, 1, 0] rfl) hP hS
def f_Md_moduleOf_9b (k_9 : pv_S → Int32 → Int32 → Int32 → Option (Int32 × pv_S)) (σ : pv_S) (x1 : Int32) (x2 : Int32) (x3 : Int32) : Option (Int32 × pv_S) :=
  (if x3 < 0 then
  some (x2, σ)
  else
  (if pv_in x3 40 = true then
(if (σ.1 4 (x3).toNatClampNeg) = x1 then
  f_Md_moduleOf_28 k_9 σ x1 x3 x3
  else
  f_Md_moduleOf_28 k_9 σ x1 x3 x2)
  else none))
set_option maxHeartbeats 4000000 in
set_option maxRecDepth 100000 in
theorem s_Md_moduleOf_9b {p : Program} {l : Launch} {e : Env} {R : Room} {s : State} {m : MethodId} {args : Array Value} {below : List Frame} {meth : Method} {c : Code} {Q : State → Prop} {D : va_G} {q : Nat → ClassId} {a : Nat → Nat} {A : Nat → Prop} (C : pv_C p s m args c prog_9_method_22_code 4 "PatchVoicesModel" pv_TB D pv_cl (pv_ty q) 36 a A (pv_ZM)) (hmv : pv_mv A (pv_ZM)) (hRf : 0 ≤ R.frames) (hRl : 0 ≤ R.locals) {out : (Int32 × pv_S)} (hret : pv_Ri p l e R s m args below meth c prog_9_method_22_code D pv_cl 36 a (pv_FM q a) A Q out) {k_9 : pv_S → Int32 → Int32 → Int32 → Option (Int32 × pv_S)} (hk_9 : ∀ (σ : pv_S) (x1 : Int32) (x2 : Int32) (x3 : Int32) (H : Heap) (locs : List Loc) (ls : Array Slot), k_9 σ x1 x2 x3 = some out → lv_has ls 4 [(0, .ref (a 0)), (1, .int x1), (2, .int x2), (3, .int x3)] → pv_W D pv_cl 36 a (pv_FM q a) σ H → va_S A s.heap H locs → W p l e R s m args below meth c H locs 0 0 Q (F0 m 9 ls [])) {σ : pv_S} {x1 : Int32} {x2 : Int32} {x3 : Int32} {H : Heap} {locs : List Loc} {ls : Array Slot} (hl : lv_has ls 4 [(0, .ref (a 0)), (1, .int x1), (2, .int x2), (3, .int x3)]) (hP : pv_W D pv_cl 36 a (pv_FM q a) σ H) (hS : va_S A s.heap H locs) (hf : f_Md_moduleOf_9b k_9 σ x1 x2 x3 = some out) : W p l e R s m args below meth c H locs 0 0 Q (F0 m 9 ls []) := by
  unfold f_Md_moduleOf_9b at hf
  have hx := C.1
  have hb := C.2.1
  refine lv_iload_n hx hb d_Md_moduleOf_9 rfl (lv_at hl 3 rfl) ?_
  refine lv_if_lt (tgt := 35) hx hb d_Md_moduleOf_10 (by decide) (fun h => ?_) (fun h => ?_)
  · have hf := pv_t hf h
    refine lv_iload_n hx hb d_Md_moduleOf_35 rfl (lv_at hl 2 rfl) ?_
    obtain rfl := Option.some.inj hf
    exact hret _ _ _ _ d_Md_moduleOf_36 hP hS
  · have hf := pv_f hf h
    refine lv_aload_n hx hb d_Md_moduleOf_13 rfl (lv_at hl 0 rfl) ?_
    refine pv_get C hP (v := .ref (a 4)) (j := 6) (by decide) (fm_0 _ _ _ _) fl_Md_19 rfl d_Md_moduleOf_14 ?_
    refine lv_iload_n hx hb d_Md_moduleOf_17 rfl (lv_at hl 3 rfl) ?_
    obtain ⟨hg, hf⟩ := pv_g hf
    refine pv_iald C hP (t0 := 0) (by decide) (fm_4 _ _ _ _) rfl hg d_Md_moduleOf_18 ?_
    refine lv_iload_n hx hb d_Md_moduleOf_19 rfl (lv_at hl 1 rfl) ?_
    refine lv_icmp_ne (tgt := 27) hx hb d_Md_moduleOf_20 (by decide) (fun h => ?_) (fun h => ?_)
    · have hf := pv_f hf h
      refine lv_iload_n hx hb d_Md_moduleOf_27 rfl (lv_at hl 2 rfl) ?_
      exact s_Md_moduleOf_28 C hmv hRf hRl hret hk_9 (lv_sub hl [0, 1, 3] rfl) hP hS hf
    · have hf := pv_t hf h
      refine lv_iload_n hx hb d_Md_moduleOf_23 rfl (lv_at hl 3 rfl) ?_
      refine lv_goto (tgt := 28) hx hb d_Md_moduleOf_24 (by decide) ?_
      exact s_Md_moduleOf_28 C hmv hRf hRl hret hk_9 (lv_sub hl [0, 1, 3] rfl) hP hS hf
def f_Md_moduleOf_9 : Nat → pv_S → Int32 → Int32 → Int32 → Option (Int32 × pv_S)
  | 0 => fun _ _ _ _ => none
  | n + 1 => f_Md_moduleOf_9b (f_Md_moduleOf_9 n)
set_option maxHeartbeats 4000000 in
theorem s_Md_moduleOf_9 {p : Program} {l : Launch} {e : Env} {R : Room} {s : State} {m : MethodId} {args : Array Value} {below : List Frame} {meth : Method} {c : Code} {Q : State → Prop} {D : va_G} {q : Nat → ClassId} {a : Nat → Nat} {A : Nat → Prop} (C : pv_C p s m args c prog_9_method_22_code 4 "PatchVoicesModel" pv_TB D pv_cl (pv_ty q) 36 a A (pv_ZM)) (hmv : pv_mv A (pv_ZM)) (hRf : 0 ≤ R.frames) (hRl : 0 ≤ R.locals) {out : (Int32 × pv_S)} (hret : pv_Ri p l e R s m args below meth c prog_9_method_22_code D pv_cl 36 a (pv_FM q a) A Q out) (n : Nat) : ∀ {σ : pv_S} {x1 : Int32} {x2 : Int32} {x3 : Int32} {H : Heap} {locs : List Loc} {ls : Array Slot}, lv_has ls 4 [(0, .ref (a 0)), (1, .int x1), (2, .int x2), (3, .int x3)] → pv_W D pv_cl 36 a (pv_FM q a) σ H → va_S A s.heap H locs → f_Md_moduleOf_9 n σ x1 x2 x3 = some out → W p l e R s m args below meth c H locs 0 0 Q (F0 m 9 ls []) := by
  induction n with
  | zero => intro σ x1 x2 x3 H locs ls hl hP hS hf; cases hf
  | succ n ih => intro σ x1 x2 x3 H locs ls hl hP hS hf; exact s_Md_moduleOf_9b C hmv hRf hRl hret (fun σ x1 x2 x3 H locs ls hf hl hP hS => ih hl hP hS hf) hl hP hS hf
def f_Md_moduleOf_0 (σ : pv_S) (x1 : Int32) : Option (Int32 × pv_S) :=
  f_Md_moduleOf_9 pv_fu σ x1 (-1 : Int32) ((σ.1 0 5) - (1 : Int32))
set_option maxHeartbeats 4000000 in
set_option maxRecDepth 100000 in
theorem s_Md_moduleOf_0 {p : Program} {l : Launch} {e : Env} {R : Room} {s : State} {m : MethodId} {args : Array Value} {below : List Frame} {meth : Method} {c : Code} {Q : State → Prop} {D : va_G} {q : Nat → ClassId} {a : Nat → Nat} {A : Nat → Prop} (C : pv_C p s m args c prog_9_method_22_code 4 "PatchVoicesModel" pv_TB D pv_cl (pv_ty q) 36 a A (pv_ZM)) (hmv : pv_mv A (pv_ZM)) (hRf : 0 ≤ R.frames) (hRl : 0 ≤ R.locals) {out : (Int32 × pv_S)} (hret : pv_Ri p l e R s m args below meth c prog_9_method_22_code D pv_cl 36 a (pv_FM q a) A Q out) {σ : pv_S} {x1 : Int32} {H : Heap} {locs : List Loc} {ls : Array Slot} (hl : lv_has ls 4 [(0, .ref (a 0)), (1, .int x1)]) (hP : pv_W D pv_cl 36 a (pv_FM q a) σ H) (hS : va_S A s.heap H locs) (hf : f_Md_moduleOf_0 σ x1 = some out) : W p l e R s m args below meth c H locs 0 0 Q (F0 m 0 ls []) := by
  unfold f_Md_moduleOf_0 at hf
  have hx := C.1
  have hb := C.2.1
  refine lv_iconst (v := (-1 : Int32)) hx hb d_Md_moduleOf_0 (by decide) ?_
  refine lv_istore_n (lv' := [(2, .int (-1 : Int32)), (0, .ref (a 0)), (1, .int x1)]) hx hb d_Md_moduleOf_1 rfl hl (by decide) rfl (fun ls hl => ?_)
  refine lv_aload_n hx hb d_Md_moduleOf_2 rfl (lv_at hl 1 rfl) ?_
  refine pv_get C hP (v := .int (σ.1 0 5)) (j := 5) (by decide) (fm_0 _ _ _ _) fl_Md_144 rfl d_Md_moduleOf_3 ?_
  refine lv_iconst (v := (1 : Int32)) hx hb d_Md_moduleOf_6 (by decide) ?_
  refine lv_isub hx hb d_Md_moduleOf_7 ?_
  refine lv_istore_n (lv' := [(3, .int ((σ.1 0 5) - (1 : Int32))), (2, .int (-1 : Int32)), (0, .ref (a 0)), (1, .int x1)]) hx hb d_Md_moduleOf_8 rfl hl (by decide) rfl (fun ls hl => ?_)
  exact s_Md_moduleOf_9 C hmv hRf hRl hret pv_fu (lv_sub hl [2, 3, 1, 0] rfl) hP hS hf
def f_Md_moduleOf (σ : pv_S) (x1 : Int32) : Option (Int32 × pv_S) := f_Md_moduleOf_0 σ x1
def rm_Md_moduleOf : Room := { frames := 0, cells := 0, slots := 0, locals := 0 }
theorem c_Md_moduleOf {l : Launch} {D : va_G} {q : Nat → ClassId} {a : Nat → Nat} {A : Nat → Prop} (hD : pv_D 36 a A) (hmv : pv_mv A (pv_ZM)) {σ : pv_S} {x1 : Int32} {out : (Int32 × pv_S)} (hf : f_Md_moduleOf σ x1 = some out) : pv_Mi l y_Md_moduleOf (Cond.code y_Md_moduleOf prog_9_method_22_code 4 (some .int) :: pv_TB) rm_Md_moduleOf D pv_cl (pv_ty q) 36 a (pv_FM q a) A (pv_ZM) [.ref (a 0), .int x1] σ out :=
  pv_ofI (by decide) (Nat.le_of_ble_eq_true rfl) hD (fun p e s m args below meth c Q ls C hret hl hP => s_Md_moduleOf_0 C hmv (Nat.le_refl _) (Nat.le_refl _) hret hl hP va_S.rf hf)
theorem d_Md_lacksName_0 : decode prog_9_method_23_code 0 = .ok (.iconst 0, 1) := by decide +kernel
theorem d_Md_lacksName_1 : decode prog_9_method_23_code 1 = .ok (.istore_n 2, 1) := by decide +kernel
theorem d_Md_lacksName_2 : decode prog_9_method_23_code 2 = .ok (.iconst 4, 1) := by decide +kernel
theorem d_Md_lacksName_3 : decode prog_9_method_23_code 3 = .ok (.iload_n 1, 1) := by decide +kernel
theorem d_Md_lacksName_4 : decode prog_9_method_23_code 4 = .ok (.imul, 1) := by decide +kernel
theorem d_Md_lacksName_5 : decode prog_9_method_23_code 5 = .ok (.istore_n 3, 1) := by decide +kernel
theorem d_Md_lacksName_6 : decode prog_9_method_23_code 6 = .ok (.iload_n 3, 1) := by decide +kernel
theorem d_Md_lacksName_7 : decode prog_9_method_23_code 7 = .ok (.iconst 4, 1) := by decide +kernel
theorem d_Md_lacksName_8 : decode prog_9_method_23_code 8 = .ok (.iload_n 1, 1) := by decide +kernel
theorem d_Md_lacksName_9 : decode prog_9_method_23_code 9 = .ok (.imul, 1) := by decide +kernel
theorem d_Md_lacksName_10 : decode prog_9_method_23_code 10 = .ok (.aload_n 0, 1) := by decide +kernel
theorem d_Md_lacksName_11 : decode prog_9_method_23_code 11 = .ok (.getfield 25, 3) := by decide +kernel
theorem d_Md_lacksName_14 : decode prog_9_method_23_code 14 = .ok (.iload_n 1, 1) := by decide +kernel
theorem d_Md_lacksName_15 : decode prog_9_method_23_code 15 = .ok (.iaload, 1) := by decide +kernel
theorem d_Md_lacksName_16 : decode prog_9_method_23_code 16 = .ok (.iadd, 1) := by decide +kernel
theorem d_Md_lacksName_17 : decode prog_9_method_23_code 17 = .ok (.if_icmp .ge 41, 3) := by decide +kernel
theorem d_Md_lacksName_20 : decode prog_9_method_23_code 20 = .ok (.iload_n 2, 1) := by decide +kernel
theorem d_Md_lacksName_21 : decode prog_9_method_23_code 21 = .ok (.ifCond .ne 25, 3) := by decide +kernel
theorem d_Md_lacksName_24 : decode prog_9_method_23_code 24 = .ok (.aload_n 0, 1) := by decide +kernel
theorem d_Md_lacksName_25 : decode prog_9_method_23_code 25 = .ok (.getfield 28, 3) := by decide +kernel
theorem d_Md_lacksName_28 : decode prog_9_method_23_code 28 = .ok (.iload_n 3, 1) := by decide +kernel
theorem d_Md_lacksName_29 : decode prog_9_method_23_code 29 = .ok (.iaload, 1) := by decide +kernel
theorem d_Md_lacksName_30 : decode prog_9_method_23_code 30 = .ok (.ifCond .eq 20, 3) := by decide +kernel
theorem d_Md_lacksName_33 : decode prog_9_method_23_code 33 = .ok (.aload_n 0, 1) := by decide +kernel
theorem d_Md_lacksName_34 : decode prog_9_method_23_code 34 = .ok (.aload_n 0, 1) := by decide +kernel
theorem d_Md_lacksName_35 : decode prog_9_method_23_code 35 = .ok (.getfield 28, 3) := by decide +kernel
theorem d_Md_lacksName_38 : decode prog_9_method_23_code 38 = .ok (.iload_n 3, 1) := by decide +kernel
theorem d_Md_lacksName_39 : decode prog_9_method_23_code 39 = .ok (.iaload, 1) := by decide +kernel
theorem d_Md_lacksName_40 : decode prog_9_method_23_code 40 = .ok (.invokevirtual 200, 3) := by decide +kernel
theorem d_Md_lacksName_43 : decode prog_9_method_23_code 43 = .ok (.ifCond .ge 7, 3) := by decide +kernel
theorem d_Md_lacksName_46 : decode prog_9_method_23_code 46 = .ok (.iconst 1, 1) := by decide +kernel
theorem d_Md_lacksName_47 : decode prog_9_method_23_code 47 = .ok (.goto 4, 3) := by decide +kernel
theorem d_Md_lacksName_50 : decode prog_9_method_23_code 50 = .ok (.iconst 0, 1) := by decide +kernel
theorem d_Md_lacksName_51 : decode prog_9_method_23_code 51 = .ok (.istore_n 2, 1) := by decide +kernel
theorem d_Md_lacksName_52 : decode prog_9_method_23_code 52 = .ok (.iinc 3 1, 3) := by decide +kernel
theorem d_Md_lacksName_55 : decode prog_9_method_23_code 55 = .ok (.goto (-49), 3) := by decide +kernel
theorem d_Md_lacksName_58 : decode prog_9_method_23_code 58 = .ok (.iload_n 2, 1) := by decide +kernel
theorem d_Md_lacksName_59 : decode prog_9_method_23_code 59 = .ok (.ireturn, 1) := by decide +kernel
def f_Md_lacksName_51 (k_6 : pv_S → Int32 → Int32 → Int32 → Option (Int32 × pv_S)) (σ : pv_S) (x1 : Int32) (x3 : Int32) (s0 : Int32) : Option (Int32 × pv_S) :=
  k_6 σ x1 s0 (x3 + (1 : Int32))
set_option maxHeartbeats 4000000 in
set_option maxRecDepth 100000 in
theorem s_Md_lacksName_51 {p : Program} {l : Launch} {e : Env} {R : Room} {s : State} {m : MethodId} {args : Array Value} {below : List Frame} {meth : Method} {c : Code} {Q : State → Prop} {D : va_G} {q : Nat → ClassId} {a : Nat → Nat} {A : Nat → Prop} (C : pv_C p s m args c prog_9_method_23_code 4 "PatchVoicesModel" pv_TB D pv_cl (pv_ty q) 36 a A (pv_ZM)) (hmv : pv_mv A (pv_ZM)) (hRf : 1 ≤ R.frames) (hRl : 23 ≤ R.locals) {out : (Int32 × pv_S)} (hret : pv_Rz p l e R s m args below meth c prog_9_method_23_code D pv_cl 36 a (pv_FM q a) A Q out) {k_6 : pv_S → Int32 → Int32 → Int32 → Option (Int32 × pv_S)} (hk_6 : ∀ (σ : pv_S) (x1 : Int32) (x2 : Int32) (x3 : Int32) (H : Heap) (locs : List Loc) (ls : Array Slot), k_6 σ x1 x2 x3 = some out → lv_has ls 4 [(0, .ref (a 0)), (1, .int x1), (2, .int x2), (3, .int x3)] → pv_W D pv_cl 36 a (pv_FM q a) σ H → va_S A s.heap H locs → W p l e R s m args below meth c H locs 0 0 Q (F0 m 6 ls [])) {σ : pv_S} {x1 : Int32} {x3 : Int32} {s0 : Int32} {H : Heap} {locs : List Loc} {ls : Array Slot} (hl : lv_has ls 4 [(0, .ref (a 0)), (1, .int x1), (3, .int x3)]) (hP : pv_W D pv_cl 36 a (pv_FM q a) σ H) (hS : va_S A s.heap H locs) (hf : f_Md_lacksName_51 k_6 σ x1 x3 s0 = some out) : W p l e R s m args below meth c H locs 0 0 Q (F0 m 51 ls [.int s0]) := by
  unfold f_Md_lacksName_51 at hf
  have hx := C.1
  have hb := C.2.1
  refine lv_istore_n (lv' := [(2, .int s0), (0, .ref (a 0)), (1, .int x1), (3, .int x3)]) hx hb d_Md_lacksName_51 rfl hl (by decide) rfl (fun ls hl => ?_)
  refine lv_iinc (k := 3) (v := (x3 + (1 : Int32))) (lv' := [(3, .int (x3 + (1 : Int32))), (2, .int s0), (0, .ref (a 0)), (1, .int x1)]) hx hb d_Md_lacksName_52 hl rfl (pv_inc (by decide)) (by decide) rfl (fun ls hl => ?_)
  refine lv_goto (tgt := 6) hx hb d_Md_lacksName_55 (by decide) ?_
  exact hk_6 _ _ _ _ _ _ _ hf (lv_sub hl [2, 3, 1, 0] rfl) hP hS
def f_Md_lacksName_50 (k_6 : pv_S → Int32 → Int32 → Int32 → Option (Int32 × pv_S)) (σ : pv_S) (x1 : Int32) (x3 : Int32) : Option (Int32 × pv_S) :=
  f_Md_lacksName_51 k_6 σ x1 x3 (0 : Int32)
set_option maxHeartbeats 4000000 in
set_option maxRecDepth 100000 in
theorem s_Md_lacksName_50 {p : Program} {l : Launch} {e : Env} {R : Room} {s : State} {m : MethodId} {args : Array Value} {below : List Frame} {meth : Method} {c : Code} {Q : State → Prop} {D : va_G} {q : Nat → ClassId} {a : Nat → Nat} {A : Nat → Prop} (C : pv_C p s m args c prog_9_method_23_code 4 "PatchVoicesModel" pv_TB D pv_cl (pv_ty q) 36 a A (pv_ZM)) (hmv : pv_mv A (pv_ZM)) (hRf : 1 ≤ R.frames) (hRl : 23 ≤ R.locals) {out : (Int32 × pv_S)} (hret : pv_Rz p l e R s m args below meth c prog_9_method_23_code D pv_cl 36 a (pv_FM q a) A Q out) {k_6 : pv_S → Int32 → Int32 → Int32 → Option (Int32 × pv_S)} (hk_6 : ∀ (σ : pv_S) (x1 : Int32) (x2 : Int32) (x3 : Int32) (H : Heap) (locs : List Loc) (ls : Array Slot), k_6 σ x1 x2 x3 = some out → lv_has ls 4 [(0, .ref (a 0)), (1, .int x1), (2, .int x2), (3, .int x3)] → pv_W D pv_cl 36 a (pv_FM q a) σ H → va_S A s.heap H locs → W p l e R s m args below meth c H locs 0 0 Q (F0 m 6 ls [])) {σ : pv_S} {x1 : Int32} {x3 : Int32} {H : Heap} {locs : List Loc} {ls : Array Slot} (hl : lv_has ls 4 [(0, .ref (a 0)), (1, .int x1), (3, .int x3)]) (hP : pv_W D pv_cl 36 a (pv_FM q a) σ H) (hS : va_S A s.heap H locs) (hf : f_Md_lacksName_50 k_6 σ x1 x3 = some out) : W p l e R s m args below meth c H locs 0 0 Q (F0 m 50 ls []) := by
  unfold f_Md_lacksName_50 at hf
  have hx := C.1
  have hb := C.2.1
  refine lv_iconst (v := (0 : Int32)) hx hb d_Md_lacksName_50 (by decide) ?_
  exact s_Md_lacksName_51 C hmv hRf hRl hret hk_6 (lv_sub hl [0, 1, 2] rfl) hP hS hf
def f_Md_lacksName_46 (k_6 : pv_S → Int32 → Int32 → Int32 → Option (Int32 × pv_S)) (σ : pv_S) (x1 : Int32) (x3 : Int32) : Option (Int32 × pv_S) :=
  f_Md_lacksName_51 k_6 σ x1 x3 (1 : Int32)
set_option maxHeartbeats 4000000 in
set_option maxRecDepth 100000 in
theorem s_Md_lacksName_46 {p : Program} {l : Launch} {e : Env} {R : Room} {s : State} {m : MethodId} {args : Array Value} {below : List Frame} {meth : Method} {c : Code} {Q : State → Prop} {D : va_G} {q : Nat → ClassId} {a : Nat → Nat} {A : Nat → Prop} (C : pv_C p s m args c prog_9_method_23_code 4 "PatchVoicesModel" pv_TB D pv_cl (pv_ty q) 36 a A (pv_ZM)) (hmv : pv_mv A (pv_ZM)) (hRf : 1 ≤ R.frames) (hRl : 23 ≤ R.locals) {out : (Int32 × pv_S)} (hret : pv_Rz p l e R s m args below meth c prog_9_method_23_code D pv_cl 36 a (pv_FM q a) A Q out) {k_6 : pv_S → Int32 → Int32 → Int32 → Option (Int32 × pv_S)} (hk_6 : ∀ (σ : pv_S) (x1 : Int32) (x2 : Int32) (x3 : Int32) (H : Heap) (locs : List Loc) (ls : Array Slot), k_6 σ x1 x2 x3 = some out → lv_has ls 4 [(0, .ref (a 0)), (1, .int x1), (2, .int x2), (3, .int x3)] → pv_W D pv_cl 36 a (pv_FM q a) σ H → va_S A s.heap H locs → W p l e R s m args below meth c H locs 0 0 Q (F0 m 6 ls [])) {σ : pv_S} {x1 : Int32} {x3 : Int32} {H : Heap} {locs : List Loc} {ls : Array Slot} (hl : lv_has ls 4 [(0, .ref (a 0)), (1, .int x1), (3, .int x3)]) (hP : pv_W D pv_cl 36 a (pv_FM q a) σ H) (hS : va_S A s.heap H locs) (hf : f_Md_lacksName_46 k_6 σ x1 x3 = some out) : W p l e R s m args below meth c H locs 0 0 Q (F0 m 46 ls []) := by
  unfold f_Md_lacksName_46 at hf
  have hx := C.1
  have hb := C.2.1
  refine lv_iconst (v := (1 : Int32)) hx hb d_Md_lacksName_46 (by decide) ?_
  refine lv_goto (tgt := 51) hx hb d_Md_lacksName_47 (by decide) ?_
  exact s_Md_lacksName_51 C hmv hRf hRl hret hk_6 (lv_sub hl [0, 1, 2] rfl) hP hS hf
def f_Md_lacksName_6b (k_6 : pv_S → Int32 → Int32 → Int32 → Option (Int32 × pv_S)) (σ : pv_S) (x1 : Int32) (x2 : Int32) (x3 : Int32) : Option (Int32 × pv_S) :=
  (if pv_in x1 40 = true then
(if (((4 : Int32) * x1) + (σ.1 6 (x1).toNatClampNeg)) ≤ x3 then
  (if pv_z x2 = true then
some (x2, σ)
  else none)
  else
  (if x2 = 0 then
  (if pv_in x3 160 = true then
(if (σ.1 7 (x3).toNatClampNeg) = 0 then
  f_Md_lacksName_50 k_6 σ x1 x3
  else
  (if pv_in x3 160 = true then
((f_Md_moduleOf σ (σ.1 7 (x3).toNatClampNeg)).bind fun q1 =>
(if 0 ≤ q1.1 then
  f_Md_lacksName_50 k_6 q1.2 x1 x3
  else
  f_Md_lacksName_46 k_6 q1.2 x1 x3))
  else none))
  else none)
  else
  f_Md_lacksName_46 k_6 σ x1 x3))
  else none)
set_option maxHeartbeats 4000000 in
set_option maxRecDepth 100000 in
theorem s_Md_lacksName_6b {p : Program} {l : Launch} {e : Env} {R : Room} {s : State} {m : MethodId} {args : Array Value} {below : List Frame} {meth : Method} {c : Code} {Q : State → Prop} {D : va_G} {q : Nat → ClassId} {a : Nat → Nat} {A : Nat → Prop} (C : pv_C p s m args c prog_9_method_23_code 4 "PatchVoicesModel" pv_TB D pv_cl (pv_ty q) 36 a A (pv_ZM)) (hmv : pv_mv A (pv_ZM)) (hRf : 1 ≤ R.frames) (hRl : 23 ≤ R.locals) {out : (Int32 × pv_S)} (hret : pv_Rz p l e R s m args below meth c prog_9_method_23_code D pv_cl 36 a (pv_FM q a) A Q out) {k_6 : pv_S → Int32 → Int32 → Int32 → Option (Int32 × pv_S)} (hk_6 : ∀ (σ : pv_S) (x1 : Int32) (x2 : Int32) (x3 : Int32) (H : Heap) (locs : List Loc) (ls : Array Slot), k_6 σ x1 x2 x3 = some out → lv_has ls 4 [(0, .ref (a 0)), (1, .int x1), (2, .int x2), (3, .int x3)] → pv_W D pv_cl 36 a (pv_FM q a) σ H → va_S A s.heap H locs → W p l e R s m args below meth c H locs 0 0 Q (F0 m 6 ls [])) {σ : pv_S} {x1 : Int32} {x2 : Int32} {x3 : Int32} {H : Heap} {locs : List Loc} {ls : Array Slot} (hl : lv_has ls 4 [(0, .ref (a 0)), (1, .int x1), (2, .int x2), (3, .int x3)]) (hP : pv_W D pv_cl 36 a (pv_FM q a) σ H) (hS : va_S A s.heap H locs) (hf : f_Md_lacksName_6b k_6 σ x1 x2 x3 = some out) : W p l e R s m args below meth c H locs 0 0 Q (F0 m 6 ls []) := by
  unfold f_Md_lacksName_6b at hf
  have hx := C.1
  have hb := C.2.1
  refine lv_iload_n hx hb d_Md_lacksName_6 rfl (lv_at hl 3 rfl) ?_
  refine lv_iconst (v := (4 : Int32)) hx hb d_Md_lacksName_7 (by decide) ?_
  refine lv_iload_n hx hb d_Md_lacksName_8 rfl (lv_at hl 1 rfl) ?_
  refine lv_imul hx hb d_Md_lacksName_9 ?_
  refine lv_aload_n hx hb d_Md_lacksName_10 rfl (lv_at hl 0 rfl) ?_
  refine pv_get C hP (v := .ref (a 6)) (j := 8) (by decide) (fm_0 _ _ _ _) fl_Md_25 rfl d_Md_lacksName_11 ?_
  refine lv_iload_n hx hb d_Md_lacksName_14 rfl (lv_at hl 1 rfl) ?_
  obtain ⟨hg, hf⟩ := pv_g hf
  refine pv_iald C hP (t0 := 0) (by decide) (fm_6 _ _ _ _) rfl hg d_Md_lacksName_15 ?_
  refine lv_iadd hx hb d_Md_lacksName_16 ?_
  refine lv_icmp_ge (tgt := 58) hx hb d_Md_lacksName_17 (by decide) (fun h => ?_) (fun h => ?_)
  · have hf := pv_t hf h
    refine lv_iload_n hx hb d_Md_lacksName_58 rfl (lv_at hl 2 rfl) ?_
    obtain ⟨hg, hf⟩ := pv_g hf
    obtain rfl := Option.some.inj hf
    exact hret _ _ _ _ d_Md_lacksName_59 hg hP hS
  · have hf := pv_f hf h
    refine lv_iload_n hx hb d_Md_lacksName_20 rfl (lv_at hl 2 rfl) ?_
    refine lv_if_ne (tgt := 46) hx hb d_Md_lacksName_21 (by decide) (fun h => ?_) (fun h => ?_)
    · have hf := pv_f hf h
      exact s_Md_lacksName_46 C hmv hRf hRl hret hk_6 (lv_sub hl [0, 1, 3] rfl) hP hS hf
    · have hf := pv_t hf h
      refine lv_aload_n hx hb d_Md_lacksName_24 rfl (lv_at hl 0 rfl) ?_
      refine pv_get C hP (v := .ref (a 7)) (j := 9) (by decide) (fm_0 _ _ _ _) fl_Md_28 rfl d_Md_lacksName_25 ?_
      refine lv_iload_n hx hb d_Md_lacksName_28 rfl (lv_at hl 3 rfl) ?_
      obtain ⟨hg, hf⟩ := pv_g hf
      refine pv_iald C hP (t0 := 0) (by decide) (fm_7 _ _ _ _) rfl hg d_Md_lacksName_29 ?_
      refine lv_if_eq (tgt := 50) hx hb d_Md_lacksName_30 (by decide) (fun h => ?_) (fun h => ?_)
      · have hf := pv_t hf h
        exact s_Md_lacksName_50 C hmv hRf hRl hret hk_6 (lv_sub hl [0, 1, 3] rfl) hP hS hf
      · have hf := pv_f hf h
        refine lv_aload_n hx hb d_Md_lacksName_33 rfl (lv_at hl 0 rfl) ?_
        refine lv_aload_n hx hb d_Md_lacksName_34 rfl (lv_at hl 0 rfl) ?_
        refine pv_get C hP (v := .ref (a 7)) (j := 9) (by decide) (fm_0 _ _ _ _) fl_Md_28 rfl d_Md_lacksName_35 ?_
        refine lv_iload_n hx hb d_Md_lacksName_38 rfl (lv_at hl 3 rfl) ?_
        obtain ⟨hg, hf⟩ := pv_g hf
        refine pv_iald C hP (t0 := 0) (by decide) (fm_7 _ _ _ _) rfl hg d_Md_lacksName_39 ?_
        obtain ⟨q1, hc, hf⟩ := pv_b hf
        refine pv_callVi C hmv pv_good hP hS (As := [.int (σ.1 7 (x3).toNatClampNeg)]) (rest := []) (by decide) (fm_0 _ _ _ _) rfl (c_Md_moduleOf C.2.2.2.2.2.2.1 hmv hc) cv_Md_200 ⟨rfl, rfl, Nat.le_trans (Nat.le_of_ble_eq_true rfl) hRf, Nat.le_trans (Nat.le_of_ble_eq_true rfl) hRl⟩ rfl hl.1 rfl (Nat.le_of_ble_eq_true rfl) d_Md_lacksName_40 ⟨Nat.zero_le _, Nat.zero_le _⟩ (fun H locs hP hS => ?_)
        refine lv_if_ge (tgt := 50) hx hb d_Md_lacksName_43 (by decide) (fun h => ?_) (fun h => ?_)
        · have hf := pv_t hf h
          exact s_Md_lacksName_50 C hmv hRf hRl hret hk_6 (lv_sub hl [0, 1, 3] rfl) hP hS hf
        · have hf := pv_f hf h
          exact s_Md_lacksName_46 C hmv hRf hRl hret hk_6 (lv_sub hl [0, 1, 3] rfl) hP hS hf
def f_Md_lacksName_6 : Nat → pv_S → Int32 → Int32 → Int32 → Option (Int32 × pv_S)
  | 0 => fun _ _ _ _ => none
  | n + 1 => f_Md_lacksName_6b (f_Md_lacksName_6 n)
set_option maxHeartbeats 4000000 in
theorem s_Md_lacksName_6 {p : Program} {l : Launch} {e : Env} {R : Room} {s : State} {m : MethodId} {args : Array Value} {below : List Frame} {meth : Method} {c : Code} {Q : State → Prop} {D : va_G} {q : Nat → ClassId} {a : Nat → Nat} {A : Nat → Prop} (C : pv_C p s m args c prog_9_method_23_code 4 "PatchVoicesModel" pv_TB D pv_cl (pv_ty q) 36 a A (pv_ZM)) (hmv : pv_mv A (pv_ZM)) (hRf : 1 ≤ R.frames) (hRl : 23 ≤ R.locals) {out : (Int32 × pv_S)} (hret : pv_Rz p l e R s m args below meth c prog_9_method_23_code D pv_cl 36 a (pv_FM q a) A Q out) (n : Nat) : ∀ {σ : pv_S} {x1 : Int32} {x2 : Int32} {x3 : Int32} {H : Heap} {locs : List Loc} {ls : Array Slot}, lv_has ls 4 [(0, .ref (a 0)), (1, .int x1), (2, .int x2), (3, .int x3)] → pv_W D pv_cl 36 a (pv_FM q a) σ H → va_S A s.heap H locs → f_Md_lacksName_6 n σ x1 x2 x3 = some out → W p l e R s m args below meth c H locs 0 0 Q (F0 m 6 ls []) := by
  induction n with
  | zero => intro σ x1 x2 x3 H locs ls hl hP hS hf; cases hf
  | succ n ih => intro σ x1 x2 x3 H locs ls hl hP hS hf; exact s_Md_lacksName_6b C hmv hRf hRl hret (fun σ x1 x2 x3 H locs ls hf hl hP hS => ih hl hP hS hf) hl hP hS hf
def f_Md_lacksName_0 (σ : pv_S) (x1 : Int32) : Option (Int32 × pv_S) :=
  f_Md_lacksName_6 pv_fu σ x1 (0 : Int32) ((4 : Int32) * x1)
set_option maxHeartbeats 4000000 in
set_option maxRecDepth 100000 in
theorem s_Md_lacksName_0 {p : Program} {l : Launch} {e : Env} {R : Room} {s : State} {m : MethodId} {args : Array Value} {below : List Frame} {meth : Method} {c : Code} {Q : State → Prop} {D : va_G} {q : Nat → ClassId} {a : Nat → Nat} {A : Nat → Prop} (C : pv_C p s m args c prog_9_method_23_code 4 "PatchVoicesModel" pv_TB D pv_cl (pv_ty q) 36 a A (pv_ZM)) (hmv : pv_mv A (pv_ZM)) (hRf : 1 ≤ R.frames) (hRl : 23 ≤ R.locals) {out : (Int32 × pv_S)} (hret : pv_Rz p l e R s m args below meth c prog_9_method_23_code D pv_cl 36 a (pv_FM q a) A Q out) {σ : pv_S} {x1 : Int32} {H : Heap} {locs : List Loc} {ls : Array Slot} (hl : lv_has ls 4 [(0, .ref (a 0)), (1, .int x1)]) (hP : pv_W D pv_cl 36 a (pv_FM q a) σ H) (hS : va_S A s.heap H locs) (hf : f_Md_lacksName_0 σ x1 = some out) : W p l e R s m args below meth c H locs 0 0 Q (F0 m 0 ls []) := by
  unfold f_Md_lacksName_0 at hf
  have hx := C.1
  have hb := C.2.1
  refine lv_iconst (v := (0 : Int32)) hx hb d_Md_lacksName_0 (by decide) ?_
  refine lv_istore_n (lv' := [(2, .int (0 : Int32)), (0, .ref (a 0)), (1, .int x1)]) hx hb d_Md_lacksName_1 rfl hl (by decide) rfl (fun ls hl => ?_)
  refine lv_iconst (v := (4 : Int32)) hx hb d_Md_lacksName_2 (by decide) ?_
  refine lv_iload_n hx hb d_Md_lacksName_3 rfl (lv_at hl 2 rfl) ?_
  refine lv_imul hx hb d_Md_lacksName_4 ?_
  refine lv_istore_n (lv' := [(3, .int ((4 : Int32) * x1)), (2, .int (0 : Int32)), (0, .ref (a 0)), (1, .int x1)]) hx hb d_Md_lacksName_5 rfl hl (by decide) rfl (fun ls hl => ?_)
  exact s_Md_lacksName_6 C hmv hRf hRl hret pv_fu (lv_sub hl [2, 3, 1, 0] rfl) hP hS hf
def f_Md_lacksName (σ : pv_S) (x1 : Int32) : Option (Int32 × pv_S) := f_Md_lacksName_0 σ x1
def rm_Md_lacksName : Room := { frames := 1, cells := 0, slots := 0, locals := 23 }
theorem c_Md_lacksName {l : Launch} {D : va_G} {q : Nat → ClassId} {a : Nat → Nat} {A : Nat → Prop} (hD : pv_D 36 a A) (hmv : pv_mv A (pv_ZM)) {σ : pv_S} {x1 : Int32} {out : (Int32 × pv_S)} (hf : f_Md_lacksName σ x1 = some out) : pv_Mi l y_Md_lacksName (Cond.code y_Md_lacksName prog_9_method_23_code 4 (some .boolean) :: pv_TB) rm_Md_lacksName D pv_cl (pv_ty q) 36 a (pv_FM q a) A (pv_ZM) [.ref (a 0), .int x1] σ out :=
  pv_ofZ (by decide) (Nat.le_of_ble_eq_true rfl) hD (fun p e s m args below meth c Q ls C hret hl hP => s_Md_lacksName_0 C hmv (Nat.le_refl _) (Nat.le_refl _) hret hl hP va_S.rf hf)
theorem d_Md_isMisfit_0 : decode prog_9_method_24_code 0 = .ok (.aload_n 0, 1) := by decide +kernel
theorem d_Md_isMisfit_1 : decode prog_9_method_24_code 1 = .ok (.getfield 25, 3) := by decide +kernel
theorem d_Md_isMisfit_4 : decode prog_9_method_24_code 4 = .ok (.iload_n 1, 1) := by decide +kernel
theorem d_Md_isMisfit_5 : decode prog_9_method_24_code 5 = .ok (.iaload, 1) := by decide +kernel
theorem d_Md_isMisfit_6 : decode prog_9_method_24_code 6 = .ok (.aload_n 0, 1) := by decide +kernel
theorem d_Md_isMisfit_7 : decode prog_9_method_24_code 7 = .ok (.getfield 16, 3) := by decide +kernel
theorem d_Md_isMisfit_10 : decode prog_9_method_24_code 10 = .ok (.aload_n 0, 1) := by decide +kernel
theorem d_Md_isMisfit_11 : decode prog_9_method_24_code 11 = .ok (.getfield 22, 3) := by decide +kernel
theorem d_Md_isMisfit_14 : decode prog_9_method_24_code 14 = .ok (.iload_n 1, 1) := by decide +kernel
theorem d_Md_isMisfit_15 : decode prog_9_method_24_code 15 = .ok (.iaload, 1) := by decide +kernel
theorem d_Md_isMisfit_16 : decode prog_9_method_24_code 16 = .ok (.iaload, 1) := by decide +kernel
theorem d_Md_isMisfit_17 : decode prog_9_method_24_code 17 = .ok (.if_icmp .eq 5, 3) := by decide +kernel
theorem d_Md_isMisfit_20 : decode prog_9_method_24_code 20 = .ok (.iconst 1, 1) := by decide +kernel
theorem d_Md_isMisfit_21 : decode prog_9_method_24_code 21 = .ok (.ireturn, 1) := by decide +kernel
theorem d_Md_isMisfit_22 : decode prog_9_method_24_code 22 = .ok (.iconst 4, 1) := by decide +kernel
theorem d_Md_isMisfit_23 : decode prog_9_method_24_code 23 = .ok (.iload_n 1, 1) := by decide +kernel
theorem d_Md_isMisfit_24 : decode prog_9_method_24_code 24 = .ok (.imul, 1) := by decide +kernel
theorem d_Md_isMisfit_25 : decode prog_9_method_24_code 25 = .ok (.istore_n 2, 1) := by decide +kernel
theorem d_Md_isMisfit_26 : decode prog_9_method_24_code 26 = .ok (.aload_n 0, 1) := by decide +kernel
theorem d_Md_isMisfit_27 : decode prog_9_method_24_code 27 = .ok (.getfield 22, 3) := by decide +kernel
theorem d_Md_isMisfit_30 : decode prog_9_method_24_code 30 = .ok (.iload_n 1, 1) := by decide +kernel
theorem d_Md_isMisfit_31 : decode prog_9_method_24_code 31 = .ok (.iaload, 1) := by decide +kernel
theorem d_Md_isMisfit_32 : decode prog_9_method_24_code 32 = .ok (.bipush 18, 2) := by decide +kernel
theorem d_Md_isMisfit_34 : decode prog_9_method_24_code 34 = .ok (.if_icmp .ne 43, 3) := by decide +kernel
theorem d_Md_isMisfit_37 : decode prog_9_method_24_code 37 = .ok (.aload_n 0, 1) := by decide +kernel
theorem d_Md_isMisfit_38 : decode prog_9_method_24_code 38 = .ok (.getfield 28, 3) := by decide +kernel
theorem d_Md_isMisfit_41 : decode prog_9_method_24_code 41 = .ok (.iload_n 2, 1) := by decide +kernel
theorem d_Md_isMisfit_42 : decode prog_9_method_24_code 42 = .ok (.iconst 1, 1) := by decide +kernel
theorem d_Md_isMisfit_43 : decode prog_9_method_24_code 43 = .ok (.iadd, 1) := by decide +kernel
theorem d_Md_isMisfit_44 : decode prog_9_method_24_code 44 = .ok (.iaload, 1) := by decide +kernel
theorem d_Md_isMisfit_45 : decode prog_9_method_24_code 45 = .ok (.ifCond .ne 28, 3) := by decide +kernel
theorem d_Md_isMisfit_48 : decode prog_9_method_24_code 48 = .ok (.aload_n 0, 1) := by decide +kernel
theorem d_Md_isMisfit_49 : decode prog_9_method_24_code 49 = .ok (.getfield 31, 3) := by decide +kernel
theorem d_Md_isMisfit_52 : decode prog_9_method_24_code 52 = .ok (.iload_n 2, 1) := by decide +kernel
theorem d_Md_isMisfit_53 : decode prog_9_method_24_code 53 = .ok (.iconst 1, 1) := by decide +kernel
theorem d_Md_isMisfit_54 : decode prog_9_method_24_code 54 = .ok (.iadd, 1) := by decide +kernel
theorem d_Md_isMisfit_55 : decode prog_9_method_24_code 55 = .ok (.iaload, 1) := by decide +kernel
theorem d_Md_isMisfit_56 : decode prog_9_method_24_code 56 = .ok (.iconst 1, 1) := by decide +kernel
theorem d_Md_isMisfit_57 : decode prog_9_method_24_code 57 = .ok (.if_icmp .lt 16, 3) := by decide +kernel
theorem d_Md_isMisfit_60 : decode prog_9_method_24_code 60 = .ok (.aload_n 0, 1) := by decide +kernel
theorem d_Md_isMisfit_61 : decode prog_9_method_24_code 61 = .ok (.getfield 31, 3) := by decide +kernel
theorem d_Md_isMisfit_64 : decode prog_9_method_24_code 64 = .ok (.iload_n 2, 1) := by decide +kernel
theorem d_Md_isMisfit_65 : decode prog_9_method_24_code 65 = .ok (.iconst 1, 1) := by decide +kernel
theorem d_Md_isMisfit_66 : decode prog_9_method_24_code 66 = .ok (.iadd, 1) := by decide +kernel
theorem d_Md_isMisfit_67 : decode prog_9_method_24_code 67 = .ok (.iaload, 1) := by decide +kernel
theorem d_Md_isMisfit_68 : decode prog_9_method_24_code 68 = .ok (.bipush 64, 2) := by decide +kernel
theorem d_Md_isMisfit_70 : decode prog_9_method_24_code 70 = .ok (.if_icmp .le 7, 3) := by decide +kernel
theorem d_Md_isMisfit_73 : decode prog_9_method_24_code 73 = .ok (.iconst 1, 1) := by decide +kernel
theorem d_Md_isMisfit_74 : decode prog_9_method_24_code 74 = .ok (.goto 4, 3) := by decide +kernel
theorem d_Md_isMisfit_77 : decode prog_9_method_24_code 77 = .ok (.iconst 0, 1) := by decide +kernel
theorem d_Md_isMisfit_78 : decode prog_9_method_24_code 78 = .ok (.istore_n 3, 1) := by decide +kernel
theorem d_Md_isMisfit_79 : decode prog_9_method_24_code 79 = .ok (.iload_n 3, 1) := by decide +kernel
theorem d_Md_isMisfit_80 : decode prog_9_method_24_code 80 = .ok (.ifCond .ne 42, 3) := by decide +kernel
theorem d_Md_isMisfit_83 : decode prog_9_method_24_code 83 = .ok (.aload_n 0, 1) := by decide +kernel
theorem d_Md_isMisfit_84 : decode prog_9_method_24_code 84 = .ok (.getfield 22, 3) := by decide +kernel
theorem d_Md_isMisfit_87 : decode prog_9_method_24_code 87 = .ok (.iload_n 1, 1) := by decide +kernel
theorem d_Md_isMisfit_88 : decode prog_9_method_24_code 88 = .ok (.iaload, 1) := by decide +kernel
theorem d_Md_isMisfit_89 : decode prog_9_method_24_code 89 = .ok (.bipush 7, 2) := by decide +kernel
theorem d_Md_isMisfit_91 : decode prog_9_method_24_code 91 = .ok (.if_icmp .ne 35, 3) := by decide +kernel
theorem d_Md_isMisfit_94 : decode prog_9_method_24_code 94 = .ok (.aload_n 0, 1) := by decide +kernel
theorem d_Md_isMisfit_95 : decode prog_9_method_24_code 95 = .ok (.getfield 28, 3) := by decide +kernel
theorem d_Md_isMisfit_98 : decode prog_9_method_24_code 98 = .ok (.iload_n 2, 1) := by decide +kernel
theorem d_Md_isMisfit_99 : decode prog_9_method_24_code 99 = .ok (.iaload, 1) := by decide +kernel
theorem d_Md_isMisfit_100 : decode prog_9_method_24_code 100 = .ok (.ifCond .ne 22, 3) := by decide +kernel
theorem d_Md_isMisfit_103 : decode prog_9_method_24_code 103 = .ok (.aload_n 0, 1) := by decide +kernel
theorem d_Md_isMisfit_104 : decode prog_9_method_24_code 104 = .ok (.getfield 31, 3) := by decide +kernel
theorem d_Md_isMisfit_107 : decode prog_9_method_24_code 107 = .ok (.iload_n 2, 1) := by decide +kernel
theorem d_Md_isMisfit_108 : decode prog_9_method_24_code 108 = .ok (.iaload, 1) := by decide +kernel
theorem d_Md_isMisfit_109 : decode prog_9_method_24_code 109 = .ok (.ifCond .lt 13, 3) := by decide +kernel
theorem d_Md_isMisfit_112 : decode prog_9_method_24_code 112 = .ok (.aload_n 0, 1) := by decide +kernel
theorem d_Md_isMisfit_113 : decode prog_9_method_24_code 113 = .ok (.getfield 31, 3) := by decide +kernel
theorem d_Md_isMisfit_116 : decode prog_9_method_24_code 116 = .ok (.iload_n 2, 1) := by decide +kernel
theorem d_Md_isMisfit_117 : decode prog_9_method_24_code 117 = .ok (.iaload, 1) := by decide +kernel
theorem d_Md_isMisfit_118 : decode prog_9_method_24_code 118 = .ok (.iconst 3, 1) := by decide +kernel
theorem d_Md_isMisfit_119 : decode prog_9_method_24_code 119 = .ok (.if_icmp .le 7, 3) := by decide +kernel
theorem d_Md_isMisfit_122 : decode prog_9_method_24_code 122 = .ok (.iconst 1, 1) := by decide +kernel
theorem d_Md_isMisfit_123 : decode prog_9_method_24_code 123 = .ok (.goto 4, 3) := by decide +kernel
theorem d_Md_isMisfit_126 : decode prog_9_method_24_code 126 = .ok (.iconst 0, 1) := by decide +kernel
theorem d_Md_isMisfit_127 : decode prog_9_method_24_code 127 = .ok (.ireturn, 1) := by decide +kernel
def f_Md_isMisfit_78 (σ : pv_S) (x1 : Int32) (x2 : Int32) (s0 : Int32) : Option (Int32 × pv_S) :=
  (if s0 = 0 then
  (if pv_in x1 40 = true then
(if (σ.1 5 (x1).toNatClampNeg) = (7 : Int32) then
  (if pv_in x2 160 = true then
(if (σ.1 7 (x2).toNatClampNeg) = 0 then
  (if pv_in x2 160 = true then
(if (σ.1 8 (x2).toNatClampNeg) < 0 then
  some ((1 : Int32), σ)
  else
  (if pv_in x2 160 = true then
(if (σ.1 8 (x2).toNatClampNeg) ≤ (3 : Int32) then
  some ((0 : Int32), σ)
  else
  some ((1 : Int32), σ))
  else none))
  else none)
  else
  some ((1 : Int32), σ))
  else none)
  else
  some ((0 : Int32), σ))
  else none)
  else
  some ((1 : Int32), σ))
set_option maxHeartbeats 4000000 in
set_option maxRecDepth 100000 in
theorem s_Md_isMisfit_78 {p : Program} {l : Launch} {e : Env} {R : Room} {s : State} {m : MethodId} {args : Array Value} {below : List Frame} {meth : Method} {c : Code} {Q : State → Prop} {D : va_G} {q : Nat → ClassId} {a : Nat → Nat} {A : Nat → Prop} (C : pv_C p s m args c prog_9_method_24_code 4 "PatchVoicesModel" pv_TB D pv_cl (pv_ty q) 36 a A (pv_ZM)) (hmv : pv_mv A (pv_ZM)) (hRf : 0 ≤ R.frames) (hRl : 0 ≤ R.locals) {out : (Int32 × pv_S)} (hret : pv_Rz p l e R s m args below meth c prog_9_method_24_code D pv_cl 36 a (pv_FM q a) A Q out) {σ : pv_S} {x1 : Int32} {x2 : Int32} {s0 : Int32} {H : Heap} {locs : List Loc} {ls : Array Slot} (hl : lv_has ls 4 [(0, .ref (a 0)), (1, .int x1), (2, .int x2)]) (hP : pv_W D pv_cl 36 a (pv_FM q a) σ H) (hS : va_S A s.heap H locs) (hf : f_Md_isMisfit_78 σ x1 x2 s0 = some out) : W p l e R s m args below meth c H locs 0 0 Q (F0 m 78 ls [.int s0]) := by
  unfold f_Md_isMisfit_78 at hf
  have hx := C.1
  have hb := C.2.1
  refine lv_istore_n (lv' := [(3, .int s0), (0, .ref (a 0)), (1, .int x1), (2, .int x2)]) hx hb d_Md_isMisfit_78 rfl hl (by decide) rfl (fun ls hl => ?_)
  refine lv_iload_n hx hb d_Md_isMisfit_79 rfl (lv_at hl 0 rfl) ?_
  refine lv_if_ne (tgt := 122) hx hb d_Md_isMisfit_80 (by decide) (fun h => ?_) (fun h => ?_)
  · have hf := pv_f hf h
    refine lv_iconst (v := (1 : Int32)) hx hb d_Md_isMisfit_122 (by decide) ?_
    refine lv_goto (tgt := 127) hx hb d_Md_isMisfit_123 (by decide) ?_
    obtain rfl := Option.some.inj hf
    exact hret _ _ _ _ d_Md_isMisfit_127 rfl hP hS
  · have hf := pv_t hf h
    refine lv_aload_n hx hb d_Md_isMisfit_83 rfl (lv_at hl 1 rfl) ?_
    refine pv_get C hP (v := .ref (a 5)) (j := 7) (by decide) (fm_0 _ _ _ _) fl_Md_22 rfl d_Md_isMisfit_84 ?_
    refine lv_iload_n hx hb d_Md_isMisfit_87 rfl (lv_at hl 2 rfl) ?_
    obtain ⟨hg, hf⟩ := pv_g hf
    refine pv_iald C hP (t0 := 0) (by decide) (fm_5 _ _ _ _) rfl hg d_Md_isMisfit_88 ?_
    refine lv_bipush (v := (7 : Int32)) hx hb d_Md_isMisfit_89 (by decide) ?_
    refine lv_icmp_ne (tgt := 126) hx hb d_Md_isMisfit_91 (by decide) (fun h => ?_) (fun h => ?_)
    · have hf := pv_f hf h
      refine lv_iconst (v := (0 : Int32)) hx hb d_Md_isMisfit_126 (by decide) ?_
      obtain rfl := Option.some.inj hf
      exact hret _ _ _ _ d_Md_isMisfit_127 rfl hP hS
    · have hf := pv_t hf h
      refine lv_aload_n hx hb d_Md_isMisfit_94 rfl (lv_at hl 1 rfl) ?_
      refine pv_get C hP (v := .ref (a 7)) (j := 9) (by decide) (fm_0 _ _ _ _) fl_Md_28 rfl d_Md_isMisfit_95 ?_
      refine lv_iload_n hx hb d_Md_isMisfit_98 rfl (lv_at hl 3 rfl) ?_
      obtain ⟨hg, hf⟩ := pv_g hf
      refine pv_iald C hP (t0 := 0) (by decide) (fm_7 _ _ _ _) rfl hg d_Md_isMisfit_99 ?_
      refine lv_if_ne (tgt := 122) hx hb d_Md_isMisfit_100 (by decide) (fun h => ?_) (fun h => ?_)
      · have hf := pv_f hf h
        refine lv_iconst (v := (1 : Int32)) hx hb d_Md_isMisfit_122 (by decide) ?_
        refine lv_goto (tgt := 127) hx hb d_Md_isMisfit_123 (by decide) ?_
        obtain rfl := Option.some.inj hf
        exact hret _ _ _ _ d_Md_isMisfit_127 rfl hP hS
      · have hf := pv_t hf h
        refine lv_aload_n hx hb d_Md_isMisfit_103 rfl (lv_at hl 1 rfl) ?_
        refine pv_get C hP (v := .ref (a 8)) (j := 10) (by decide) (fm_0 _ _ _ _) fl_Md_31 rfl d_Md_isMisfit_104 ?_
        refine lv_iload_n hx hb d_Md_isMisfit_107 rfl (lv_at hl 3 rfl) ?_
        obtain ⟨hg, hf⟩ := pv_g hf
        refine pv_iald C hP (t0 := 0) (by decide) (fm_8 _ _ _ _) rfl hg d_Md_isMisfit_108 ?_
        refine lv_if_lt (tgt := 122) hx hb d_Md_isMisfit_109 (by decide) (fun h => ?_) (fun h => ?_)
        · have hf := pv_t hf h
          refine lv_iconst (v := (1 : Int32)) hx hb d_Md_isMisfit_122 (by decide) ?_
          refine lv_goto (tgt := 127) hx hb d_Md_isMisfit_123 (by decide) ?_
          obtain rfl := Option.some.inj hf
          exact hret _ _ _ _ d_Md_isMisfit_127 rfl hP hS
        · have hf := pv_f hf h
          refine lv_aload_n hx hb d_Md_isMisfit_112 rfl (lv_at hl 1 rfl) ?_
          refine pv_get C hP (v := .ref (a 8)) (j := 10) (by decide) (fm_0 _ _ _ _) fl_Md_31 rfl d_Md_isMisfit_113 ?_
          refine lv_iload_n hx hb d_Md_isMisfit_116 rfl (lv_at hl 3 rfl) ?_
          obtain ⟨hg, hf⟩ := pv_g hf
          refine pv_iald C hP (t0 := 0) (by decide) (fm_8 _ _ _ _) rfl hg d_Md_isMisfit_117 ?_
          refine lv_iconst (v := (3 : Int32)) hx hb d_Md_isMisfit_118 (by decide) ?_
          refine lv_icmp_le (tgt := 126) hx hb d_Md_isMisfit_119 (by decide) (fun h => ?_) (fun h => ?_)
          · have hf := pv_t hf h
            refine lv_iconst (v := (0 : Int32)) hx hb d_Md_isMisfit_126 (by decide) ?_
            obtain rfl := Option.some.inj hf
            exact hret _ _ _ _ d_Md_isMisfit_127 rfl hP hS
          · have hf := pv_f hf h
            refine lv_iconst (v := (1 : Int32)) hx hb d_Md_isMisfit_122 (by decide) ?_
            refine lv_goto (tgt := 127) hx hb d_Md_isMisfit_123 (by decide) ?_
            obtain rfl := Option.some.inj hf
            exact hret _ _ _ _ d_Md_isMisfit_127 rfl hP hS
def f_Md_isMisfit_77 (σ : pv_S) (x1 : Int32) (x2 : Int32) : Option (Int32 × pv_S) :=
  f_Md_isMisfit_78 σ x1 x2 (0 : Int32)
set_option maxHeartbeats 4000000 in
set_option maxRecDepth 100000 in
theorem s_Md_isMisfit_77 {p : Program} {l : Launch} {e : Env} {R : Room} {s : State} {m : MethodId} {args : Array Value} {below : List Frame} {meth : Method} {c : Code} {Q : State → Prop} {D : va_G} {q : Nat → ClassId} {a : Nat → Nat} {A : Nat → Prop} (C : pv_C p s m args c prog_9_method_24_code 4 "PatchVoicesModel" pv_TB D pv_cl (pv_ty q) 36 a A (pv_ZM)) (hmv : pv_mv A (pv_ZM)) (hRf : 0 ≤ R.frames) (hRl : 0 ≤ R.locals) {out : (Int32 × pv_S)} (hret : pv_Rz p l e R s m args below meth c prog_9_method_24_code D pv_cl 36 a (pv_FM q a) A Q out) {σ : pv_S} {x1 : Int32} {x2 : Int32} {H : Heap} {locs : List Loc} {ls : Array Slot} (hl : lv_has ls 4 [(0, .ref (a 0)), (1, .int x1), (2, .int x2)]) (hP : pv_W D pv_cl 36 a (pv_FM q a) σ H) (hS : va_S A s.heap H locs) (hf : f_Md_isMisfit_77 σ x1 x2 = some out) : W p l e R s m args below meth c H locs 0 0 Q (F0 m 77 ls []) := by
  unfold f_Md_isMisfit_77 at hf
  have hx := C.1
  have hb := C.2.1
  refine lv_iconst (v := (0 : Int32)) hx hb d_Md_isMisfit_77 (by decide) ?_
  exact s_Md_isMisfit_78 C hmv hRf hRl hret (lv_sub hl [0, 1, 2] rfl) hP hS hf
def f_Md_isMisfit_73 (σ : pv_S) (x1 : Int32) (x2 : Int32) : Option (Int32 × pv_S) :=
  f_Md_isMisfit_78 σ x1 x2 (1 : Int32)
set_option maxHeartbeats 4000000 in
set_option maxRecDepth 100000 in
theorem s_Md_isMisfit_73 {p : Program} {l : Launch} {e : Env} {R : Room} {s : State} {m : MethodId} {args : Array Value} {below : List Frame} {meth : Method} {c : Code} {Q : State → Prop} {D : va_G} {q : Nat → ClassId} {a : Nat → Nat} {A : Nat → Prop} (C : pv_C p s m args c prog_9_method_24_code 4 "PatchVoicesModel" pv_TB D pv_cl (pv_ty q) 36 a A (pv_ZM)) (hmv : pv_mv A (pv_ZM)) (hRf : 0 ≤ R.frames) (hRl : 0 ≤ R.locals) {out : (Int32 × pv_S)} (hret : pv_Rz p l e R s m args below meth c prog_9_method_24_code D pv_cl 36 a (pv_FM q a) A Q out) {σ : pv_S} {x1 : Int32} {x2 : Int32} {H : Heap} {locs : List Loc} {ls : Array Slot} (hl : lv_has ls 4 [(0, .ref (a 0)), (1, .int x1), (2, .int x2)]) (hP : pv_W D pv_cl 36 a (pv_FM q a) σ H) (hS : va_S A s.heap H locs) (hf : f_Md_isMisfit_73 σ x1 x2 = some out) : W p l e R s m args below meth c H locs 0 0 Q (F0 m 73 ls []) := by
  unfold f_Md_isMisfit_73 at hf
  have hx := C.1
  have hb := C.2.1
  refine lv_iconst (v := (1 : Int32)) hx hb d_Md_isMisfit_73 (by decide) ?_
  refine lv_goto (tgt := 78) hx hb d_Md_isMisfit_74 (by decide) ?_
  exact s_Md_isMisfit_78 C hmv hRf hRl hret (lv_sub hl [0, 1, 2] rfl) hP hS hf
def f_Md_isMisfit_0 (σ : pv_S) (x1 : Int32) : Option (Int32 × pv_S) :=
  (if pv_in x1 40 = true then
(if pv_in x1 40 = true then
(if pv_in (σ.1 5 (x1).toNatClampNeg) 20 = true then
(if (σ.1 6 (x1).toNatClampNeg) = (σ.1 3 ((σ.1 5 (x1).toNatClampNeg)).toNatClampNeg) then
  (if pv_in x1 40 = true then
(if (σ.1 5 (x1).toNatClampNeg) = (18 : Int32) then
  (if pv_in (((4 : Int32) * x1) + (1 : Int32)) 160 = true then
(if (σ.1 7 ((((4 : Int32) * x1) + (1 : Int32))).toNatClampNeg) = 0 then
  (if pv_in (((4 : Int32) * x1) + (1 : Int32)) 160 = true then
(if (σ.1 8 ((((4 : Int32) * x1) + (1 : Int32))).toNatClampNeg) < (1 : Int32) then
  f_Md_isMisfit_73 σ x1 ((4 : Int32) * x1)
  else
  (if pv_in (((4 : Int32) * x1) + (1 : Int32)) 160 = true then
(if (σ.1 8 ((((4 : Int32) * x1) + (1 : Int32))).toNatClampNeg) ≤ (64 : Int32) then
  f_Md_isMisfit_77 σ x1 ((4 : Int32) * x1)
  else
  f_Md_isMisfit_73 σ x1 ((4 : Int32) * x1))
  else none))
  else none)
  else
  f_Md_isMisfit_73 σ x1 ((4 : Int32) * x1))
  else none)
  else
  f_Md_isMisfit_77 σ x1 ((4 : Int32) * x1))
  else none)
  else
  some ((1 : Int32), σ))
  else none)
  else none)
  else none)
set_option maxHeartbeats 4000000 in
set_option maxRecDepth 100000 in
theorem s_Md_isMisfit_0 {p : Program} {l : Launch} {e : Env} {R : Room} {s : State} {m : MethodId} {args : Array Value} {below : List Frame} {meth : Method} {c : Code} {Q : State → Prop} {D : va_G} {q : Nat → ClassId} {a : Nat → Nat} {A : Nat → Prop} (C : pv_C p s m args c prog_9_method_24_code 4 "PatchVoicesModel" pv_TB D pv_cl (pv_ty q) 36 a A (pv_ZM)) (hmv : pv_mv A (pv_ZM)) (hRf : 0 ≤ R.frames) (hRl : 0 ≤ R.locals) {out : (Int32 × pv_S)} (hret : pv_Rz p l e R s m args below meth c prog_9_method_24_code D pv_cl 36 a (pv_FM q a) A Q out) {σ : pv_S} {x1 : Int32} {H : Heap} {locs : List Loc} {ls : Array Slot} (hl : lv_has ls 4 [(0, .ref (a 0)), (1, .int x1)]) (hP : pv_W D pv_cl 36 a (pv_FM q a) σ H) (hS : va_S A s.heap H locs) (hf : f_Md_isMisfit_0 σ x1 = some out) : W p l e R s m args below meth c H locs 0 0 Q (F0 m 0 ls []) := by
  unfold f_Md_isMisfit_0 at hf
  have hx := C.1
  have hb := C.2.1
  refine lv_aload_n hx hb d_Md_isMisfit_0 rfl (lv_at hl 0 rfl) ?_
  refine pv_get C hP (v := .ref (a 6)) (j := 8) (by decide) (fm_0 _ _ _ _) fl_Md_25 rfl d_Md_isMisfit_1 ?_
  refine lv_iload_n hx hb d_Md_isMisfit_4 rfl (lv_at hl 1 rfl) ?_
  obtain ⟨hg, hf⟩ := pv_g hf
  refine pv_iald C hP (t0 := 0) (by decide) (fm_6 _ _ _ _) rfl hg d_Md_isMisfit_5 ?_
  refine lv_aload_n hx hb d_Md_isMisfit_6 rfl (lv_at hl 0 rfl) ?_
  refine pv_get C hP (v := .ref (a 3)) (j := 4) (by decide) (fm_0 _ _ _ _) fl_Md_16 rfl d_Md_isMisfit_7 ?_
  refine lv_aload_n hx hb d_Md_isMisfit_10 rfl (lv_at hl 0 rfl) ?_
  refine pv_get C hP (v := .ref (a 5)) (j := 7) (by decide) (fm_0 _ _ _ _) fl_Md_22 rfl d_Md_isMisfit_11 ?_
  refine lv_iload_n hx hb d_Md_isMisfit_14 rfl (lv_at hl 1 rfl) ?_
  obtain ⟨hg, hf⟩ := pv_g hf
  refine pv_iald C hP (t0 := 0) (by decide) (fm_5 _ _ _ _) rfl hg d_Md_isMisfit_15 ?_
  obtain ⟨hg, hf⟩ := pv_g hf
  refine pv_iald C hP (t0 := 0) (by decide) (fm_3 _ _ _ _) rfl hg d_Md_isMisfit_16 ?_
  refine lv_icmp_eq (tgt := 22) hx hb d_Md_isMisfit_17 (by decide) (fun h => ?_) (fun h => ?_)
  · have hf := pv_t hf h
    refine lv_iconst (v := (4 : Int32)) hx hb d_Md_isMisfit_22 (by decide) ?_
    refine lv_iload_n hx hb d_Md_isMisfit_23 rfl (lv_at hl 1 rfl) ?_
    refine lv_imul hx hb d_Md_isMisfit_24 ?_
    refine lv_istore_n (lv' := [(2, .int ((4 : Int32) * x1)), (0, .ref (a 0)), (1, .int x1)]) hx hb d_Md_isMisfit_25 rfl hl (by decide) rfl (fun ls hl => ?_)
    refine lv_aload_n hx hb d_Md_isMisfit_26 rfl (lv_at hl 1 rfl) ?_
    refine pv_get C hP (v := .ref (a 5)) (j := 7) (by decide) (fm_0 _ _ _ _) fl_Md_22 rfl d_Md_isMisfit_27 ?_
    refine lv_iload_n hx hb d_Md_isMisfit_30 rfl (lv_at hl 2 rfl) ?_
    obtain ⟨hg, hf⟩ := pv_g hf
    refine pv_iald C hP (t0 := 0) (by decide) (fm_5 _ _ _ _) rfl hg d_Md_isMisfit_31 ?_
    refine lv_bipush (v := (18 : Int32)) hx hb d_Md_isMisfit_32 (by decide) ?_
    refine lv_icmp_ne (tgt := 77) hx hb d_Md_isMisfit_34 (by decide) (fun h => ?_) (fun h => ?_)
    · have hf := pv_f hf h
      exact s_Md_isMisfit_77 C hmv hRf hRl hret (lv_sub hl [1, 2, 0] rfl) hP hS hf
    · have hf := pv_t hf h
      refine lv_aload_n hx hb d_Md_isMisfit_37 rfl (lv_at hl 1 rfl) ?_
      refine pv_get C hP (v := .ref (a 7)) (j := 9) (by decide) (fm_0 _ _ _ _) fl_Md_28 rfl d_Md_isMisfit_38 ?_
      refine lv_iload_n hx hb d_Md_isMisfit_41 rfl (lv_at hl 0 rfl) ?_
      refine lv_iconst (v := (1 : Int32)) hx hb d_Md_isMisfit_42 (by decide) ?_
      refine lv_iadd hx hb d_Md_isMisfit_43 ?_
      obtain ⟨hg, hf⟩ := pv_g hf
      refine pv_iald C hP (t0 := 0) (by decide) (fm_7 _ _ _ _) rfl hg d_Md_isMisfit_44 ?_
      refine lv_if_ne (tgt := 73) hx hb d_Md_isMisfit_45 (by decide) (fun h => ?_) (fun h => ?_)
      · have hf := pv_f hf h
        exact s_Md_isMisfit_73 C hmv hRf hRl hret (lv_sub hl [1, 2, 0] rfl) hP hS hf
      · have hf := pv_t hf h
        refine lv_aload_n hx hb d_Md_isMisfit_48 rfl (lv_at hl 1 rfl) ?_
        refine pv_get C hP (v := .ref (a 8)) (j := 10) (by decide) (fm_0 _ _ _ _) fl_Md_31 rfl d_Md_isMisfit_49 ?_
        refine lv_iload_n hx hb d_Md_isMisfit_52 rfl (lv_at hl 0 rfl) ?_
        refine lv_iconst (v := (1 : Int32)) hx hb d_Md_isMisfit_53 (by decide) ?_
        refine lv_iadd hx hb d_Md_isMisfit_54 ?_
        obtain ⟨hg, hf⟩ := pv_g hf
        refine pv_iald C hP (t0 := 0) (by decide) (fm_8 _ _ _ _) rfl hg d_Md_isMisfit_55 ?_
        refine lv_iconst (v := (1 : Int32)) hx hb d_Md_isMisfit_56 (by decide) ?_
        refine lv_icmp_lt (tgt := 73) hx hb d_Md_isMisfit_57 (by decide) (fun h => ?_) (fun h => ?_)
        · have hf := pv_t hf h
          exact s_Md_isMisfit_73 C hmv hRf hRl hret (lv_sub hl [1, 2, 0] rfl) hP hS hf
        · have hf := pv_f hf h
          refine lv_aload_n hx hb d_Md_isMisfit_60 rfl (lv_at hl 1 rfl) ?_
          refine pv_get C hP (v := .ref (a 8)) (j := 10) (by decide) (fm_0 _ _ _ _) fl_Md_31 rfl d_Md_isMisfit_61 ?_
          refine lv_iload_n hx hb d_Md_isMisfit_64 rfl (lv_at hl 0 rfl) ?_
          refine lv_iconst (v := (1 : Int32)) hx hb d_Md_isMisfit_65 (by decide) ?_
          refine lv_iadd hx hb d_Md_isMisfit_66 ?_
          obtain ⟨hg, hf⟩ := pv_g hf
          refine pv_iald C hP (t0 := 0) (by decide) (fm_8 _ _ _ _) rfl hg d_Md_isMisfit_67 ?_
          refine lv_bipush (v := (64 : Int32)) hx hb d_Md_isMisfit_68 (by decide) ?_
          refine lv_icmp_le (tgt := 77) hx hb d_Md_isMisfit_70 (by decide) (fun h => ?_) (fun h => ?_)
          · have hf := pv_t hf h
            exact s_Md_isMisfit_77 C hmv hRf hRl hret (lv_sub hl [1, 2, 0] rfl) hP hS hf
          · have hf := pv_f hf h
            exact s_Md_isMisfit_73 C hmv hRf hRl hret (lv_sub hl [1, 2, 0] rfl) hP hS hf
  · have hf := pv_f hf h
    refine lv_iconst (v := (1 : Int32)) hx hb d_Md_isMisfit_20 (by decide) ?_
    obtain rfl := Option.some.inj hf
    exact hret _ _ _ _ d_Md_isMisfit_21 rfl hP hS
def f_Md_isMisfit (σ : pv_S) (x1 : Int32) : Option (Int32 × pv_S) := f_Md_isMisfit_0 σ x1
def rm_Md_isMisfit : Room := { frames := 0, cells := 0, slots := 0, locals := 0 }
theorem c_Md_isMisfit {l : Launch} {D : va_G} {q : Nat → ClassId} {a : Nat → Nat} {A : Nat → Prop} (hD : pv_D 36 a A) (hmv : pv_mv A (pv_ZM)) {σ : pv_S} {x1 : Int32} {out : (Int32 × pv_S)} (hf : f_Md_isMisfit σ x1 = some out) : pv_Mi l y_Md_isMisfit (Cond.code y_Md_isMisfit prog_9_method_24_code 4 (some .boolean) :: pv_TB) rm_Md_isMisfit D pv_cl (pv_ty q) 36 a (pv_FM q a) A (pv_ZM) [.ref (a 0), .int x1] σ out :=
  pv_ofZ (by decide) (Nat.le_of_ble_eq_true rfl) hD (fun p e s m args below meth c Q ls C hret hl hP => s_Md_isMisfit_0 C hmv (Nat.le_refl _) (Nat.le_refl _) hret hl hP va_S.rf hf)
theorem d_Md_isTooMuch_0 : decode prog_9_method_25_code 0 = .ok (.iconst 0, 1) := by decide +kernel
theorem d_Md_isTooMuch_1 : decode prog_9_method_25_code 1 = .ok (.istore_n 2, 1) := by decide +kernel
theorem d_Md_isTooMuch_2 : decode prog_9_method_25_code 2 = .ok (.iconst 0, 1) := by decide +kernel
theorem d_Md_isTooMuch_3 : decode prog_9_method_25_code 3 = .ok (.istore_n 3, 1) := by decide +kernel
theorem d_Md_isTooMuch_4 : decode prog_9_method_25_code 4 = .ok (.iload_n 3, 1) := by decide +kernel
theorem d_Md_isTooMuch_5 : decode prog_9_method_25_code 5 = .ok (.iload_n 1, 1) := by decide +kernel
theorem d_Md_isTooMuch_6 : decode prog_9_method_25_code 6 = .ok (.if_icmp .gt 37, 3) := by decide +kernel
theorem d_Md_isTooMuch_9 : decode prog_9_method_25_code 9 = .ok (.aload_n 0, 1) := by decide +kernel
theorem d_Md_isTooMuch_10 : decode prog_9_method_25_code 10 = .ok (.getfield 22, 3) := by decide +kernel
theorem d_Md_isTooMuch_13 : decode prog_9_method_25_code 13 = .ok (.iload_n 3, 1) := by decide +kernel
theorem d_Md_isTooMuch_14 : decode prog_9_method_25_code 14 = .ok (.iaload, 1) := by decide +kernel
theorem d_Md_isTooMuch_15 : decode prog_9_method_25_code 15 = .ok (.bipush 18, 2) := by decide +kernel
theorem d_Md_isTooMuch_17 : decode prog_9_method_25_code 17 = .ok (.if_icmp .ne 18, 3) := by decide +kernel
theorem d_Md_isTooMuch_20 : decode prog_9_method_25_code 20 = .ok (.iload_n 2, 1) := by decide +kernel
theorem d_Md_isTooMuch_21 : decode prog_9_method_25_code 21 = .ok (.aload_n 0, 1) := by decide +kernel
theorem d_Md_isTooMuch_22 : decode prog_9_method_25_code 22 = .ok (.getfield 31, 3) := by decide +kernel
theorem d_Md_isTooMuch_25 : decode prog_9_method_25_code 25 = .ok (.iconst 4, 1) := by decide +kernel
theorem d_Md_isTooMuch_26 : decode prog_9_method_25_code 26 = .ok (.iload_n 3, 1) := by decide +kernel
theorem d_Md_isTooMuch_27 : decode prog_9_method_25_code 27 = .ok (.imul, 1) := by decide +kernel
theorem d_Md_isTooMuch_28 : decode prog_9_method_25_code 28 = .ok (.iconst 1, 1) := by decide +kernel
theorem d_Md_isTooMuch_29 : decode prog_9_method_25_code 29 = .ok (.iadd, 1) := by decide +kernel
theorem d_Md_isTooMuch_30 : decode prog_9_method_25_code 30 = .ok (.iaload, 1) := by decide +kernel
theorem d_Md_isTooMuch_31 : decode prog_9_method_25_code 31 = .ok (.iadd, 1) := by decide +kernel
theorem d_Md_isTooMuch_32 : decode prog_9_method_25_code 32 = .ok (.goto 4, 3) := by decide +kernel
theorem d_Md_isTooMuch_35 : decode prog_9_method_25_code 35 = .ok (.iload_n 2, 1) := by decide +kernel
theorem d_Md_isTooMuch_36 : decode prog_9_method_25_code 36 = .ok (.istore_n 2, 1) := by decide +kernel
theorem d_Md_isTooMuch_37 : decode prog_9_method_25_code 37 = .ok (.iinc 3 1, 3) := by decide +kernel
theorem d_Md_isTooMuch_40 : decode prog_9_method_25_code 40 = .ok (.goto (-36), 3) := by decide +kernel
theorem d_Md_isTooMuch_43 : decode prog_9_method_25_code 43 = .ok (.iload_n 1, 1) := by decide +kernel
theorem d_Md_isTooMuch_44 : decode prog_9_method_25_code 44 = .ok (.bipush 24, 2) := by decide +kernel
theorem d_Md_isTooMuch_46 : decode prog_9_method_25_code 46 = .ok (.if_icmp .eq 10, 3) := by decide +kernel
theorem d_Md_isTooMuch_49 : decode prog_9_method_25_code 49 = .ok (.iload_n 2, 1) := by decide +kernel
theorem d_Md_isTooMuch_50 : decode prog_9_method_25_code 50 = .ok (.sipush 128, 3) := by decide +kernel
theorem d_Md_isTooMuch_53 : decode prog_9_method_25_code 53 = .ok (.if_icmp .le 7, 3) := by decide +kernel
theorem d_Md_isTooMuch_56 : decode prog_9_method_25_code 56 = .ok (.iconst 1, 1) := by decide +kernel
theorem d_Md_isTooMuch_57 : decode prog_9_method_25_code 57 = .ok (.goto 4, 3) := by decide +kernel
theorem d_Md_isTooMuch_60 : decode prog_9_method_25_code 60 = .ok (.iconst 0, 1) := by decide +kernel
theorem d_Md_isTooMuch_61 : decode prog_9_method_25_code 61 = .ok (.ireturn, 1) := by decide +kernel
def f_Md_isTooMuch_36 (k_4 : pv_S → Int32 → Int32 → Int32 → Option (Int32 × pv_S)) (σ : pv_S) (x1 : Int32) (x3 : Int32) (s0 : Int32) : Option (Int32 × pv_S) :=
  k_4 σ x1 s0 (x3 + (1 : Int32))
set_option maxHeartbeats 4000000 in
set_option maxRecDepth 100000 in
theorem s_Md_isTooMuch_36 {p : Program} {l : Launch} {e : Env} {R : Room} {s : State} {m : MethodId} {args : Array Value} {below : List Frame} {meth : Method} {c : Code} {Q : State → Prop} {D : va_G} {q : Nat → ClassId} {a : Nat → Nat} {A : Nat → Prop} (C : pv_C p s m args c prog_9_method_25_code 4 "PatchVoicesModel" pv_TB D pv_cl (pv_ty q) 36 a A (pv_ZM)) (hmv : pv_mv A (pv_ZM)) (hRf : 0 ≤ R.frames) (hRl : 0 ≤ R.locals) {out : (Int32 × pv_S)} (hret : pv_Rz p l e R s m args below meth c prog_9_method_25_code D pv_cl 36 a (pv_FM q a) A Q out) {k_4 : pv_S → Int32 → Int32 → Int32 → Option (Int32 × pv_S)} (hk_4 : ∀ (σ : pv_S) (x1 : Int32) (x2 : Int32) (x3 : Int32) (H : Heap) (locs : List Loc) (ls : Array Slot), k_4 σ x1 x2 x3 = some out → lv_has ls 4 [(0, .ref (a 0)), (1, .int x1), (2, .int x2), (3, .int x3)] → pv_W D pv_cl 36 a (pv_FM q a) σ H → va_S A s.heap H locs → W p l e R s m args below meth c H locs 0 0 Q (F0 m 4 ls [])) {σ : pv_S} {x1 : Int32} {x3 : Int32} {s0 : Int32} {H : Heap} {locs : List Loc} {ls : Array Slot} (hl : lv_has ls 4 [(0, .ref (a 0)), (1, .int x1), (3, .int x3)]) (hP : pv_W D pv_cl 36 a (pv_FM q a) σ H) (hS : va_S A s.heap H locs) (hf : f_Md_isTooMuch_36 k_4 σ x1 x3 s0 = some out) : W p l e R s m args below meth c H locs 0 0 Q (F0 m 36 ls [.int s0]) := by
  unfold f_Md_isTooMuch_36 at hf
  have hx := C.1
  have hb := C.2.1
  refine lv_istore_n (lv' := [(2, .int s0), (0, .ref (a 0)), (1, .int x1), (3, .int x3)]) hx hb d_Md_isTooMuch_36 rfl hl (by decide) rfl (fun ls hl => ?_)
  refine lv_iinc (k := 3) (v := (x3 + (1 : Int32))) (lv' := [(3, .int (x3 + (1 : Int32))), (2, .int s0), (0, .ref (a 0)), (1, .int x1)]) hx hb d_Md_isTooMuch_37 hl rfl (pv_inc (by decide)) (by decide) rfl (fun ls hl => ?_)
  refine lv_goto (tgt := 4) hx hb d_Md_isTooMuch_40 (by decide) ?_
  exact hk_4 _ _ _ _ _ _ _ hf (lv_sub hl [2, 3, 1, 0] rfl) hP hS
def f_Md_isTooMuch_4b (k_4 : pv_S → Int32 → Int32 → Int32 → Option (Int32 × pv_S)) (σ : pv_S) (x1 : Int32) (x2 : Int32) (x3 : Int32) : Option (Int32 × pv_S) :=
  (if x1 < x3 then
  (if x1 = (24 : Int32) then
  some ((1 : Int32), σ)
  else
  (if x2 ≤ (128 : Int32) then
  some ((0 : Int32), σ)
  else
  some ((1 : Int32), σ)))
  else
  (if pv_in x3 40 = true then
(if (σ.1 5 (x3).toNatClampNeg) = (18 : Int32) then
  (if pv_in (((4 : Int32) * x3) + (1 : Int32)) 160 = true then
f_Md_isTooMuch_36 k_4 σ x1 x3 (x2 + (σ.1 8 ((((4 : Int32) * x3) + (1 : Int32))).toNatClampNeg))
  else none)
  else
  f_Md_isTooMuch_36 k_4 σ x1 x3 x2)
  else none))
set_option maxHeartbeats 4000000 in
set_option maxRecDepth 100000 in
theorem s_Md_isTooMuch_4b {p : Program} {l : Launch} {e : Env} {R : Room} {s : State} {m : MethodId} {args : Array Value} {below : List Frame} {meth : Method} {c : Code} {Q : State → Prop} {D : va_G} {q : Nat → ClassId} {a : Nat → Nat} {A : Nat → Prop} (C : pv_C p s m args c prog_9_method_25_code 4 "PatchVoicesModel" pv_TB D pv_cl (pv_ty q) 36 a A (pv_ZM)) (hmv : pv_mv A (pv_ZM)) (hRf : 0 ≤ R.frames) (hRl : 0 ≤ R.locals) {out : (Int32 × pv_S)} (hret : pv_Rz p l e R s m args below meth c prog_9_method_25_code D pv_cl 36 a (pv_FM q a) A Q out) {k_4 : pv_S → Int32 → Int32 → Int32 → Option (Int32 × pv_S)} (hk_4 : ∀ (σ : pv_S) (x1 : Int32) (x2 : Int32) (x3 : Int32) (H : Heap) (locs : List Loc) (ls : Array Slot), k_4 σ x1 x2 x3 = some out → lv_has ls 4 [(0, .ref (a 0)), (1, .int x1), (2, .int x2), (3, .int x3)] → pv_W D pv_cl 36 a (pv_FM q a) σ H → va_S A s.heap H locs → W p l e R s m args below meth c H locs 0 0 Q (F0 m 4 ls [])) {σ : pv_S} {x1 : Int32} {x2 : Int32} {x3 : Int32} {H : Heap} {locs : List Loc} {ls : Array Slot} (hl : lv_has ls 4 [(0, .ref (a 0)), (1, .int x1), (2, .int x2), (3, .int x3)]) (hP : pv_W D pv_cl 36 a (pv_FM q a) σ H) (hS : va_S A s.heap H locs) (hf : f_Md_isTooMuch_4b k_4 σ x1 x2 x3 = some out) : W p l e R s m args below meth c H locs 0 0 Q (F0 m 4 ls []) := by
  unfold f_Md_isTooMuch_4b at hf
  have hx := C.1
  have hb := C.2.1
  refine lv_iload_n hx hb d_Md_isTooMuch_4 rfl (lv_at hl 3 rfl) ?_
  refine lv_iload_n hx hb d_Md_isTooMuch_5 rfl (lv_at hl 1 rfl) ?_
  refine lv_icmp_gt (tgt := 43) hx hb d_Md_isTooMuch_6 (by decide) (fun h => ?_) (fun h => ?_)
  · have hf := pv_t hf h
    refine lv_iload_n hx hb d_Md_isTooMuch_43 rfl (lv_at hl 1 rfl) ?_
    refine lv_bipush (v := (24 : Int32)) hx hb d_Md_isTooMuch_44 (by decide) ?_
    refine lv_icmp_eq (tgt := 56) hx hb d_Md_isTooMuch_46 (by decide) (fun h => ?_) (fun h => ?_)
    · have hf := pv_t hf h
      refine lv_iconst (v := (1 : Int32)) hx hb d_Md_isTooMuch_56 (by decide) ?_
      refine lv_goto (tgt := 61) hx hb d_Md_isTooMuch_57 (by decide) ?_
      obtain rfl := Option.some.inj hf
      exact hret _ _ _ _ d_Md_isTooMuch_61 rfl hP hS
    · have hf := pv_f hf h
      refine lv_iload_n hx hb d_Md_isTooMuch_49 rfl (lv_at hl 2 rfl) ?_
      refine lv_sipush (v := (128 : Int32)) hx hb d_Md_isTooMuch_50 (by decide) ?_
      refine lv_icmp_le (tgt := 60) hx hb d_Md_isTooMuch_53 (by decide) (fun h => ?_) (fun h => ?_)
      · have hf := pv_t hf h
        refine lv_iconst (v := (0 : Int32)) hx hb d_Md_isTooMuch_60 (by decide) ?_
        obtain rfl := Option.some.inj hf
        exact hret _ _ _ _ d_Md_isTooMuch_61 rfl hP hS
      · have hf := pv_f hf h
        refine lv_iconst (v := (1 : Int32)) hx hb d_Md_isTooMuch_56 (by decide) ?_
        refine lv_goto (tgt := 61) hx hb d_Md_isTooMuch_57 (by decide) ?_
        obtain rfl := Option.some.inj hf
        exact hret _ _ _ _ d_Md_isTooMuch_61 rfl hP hS
  · have hf := pv_f hf h
    refine lv_aload_n hx hb d_Md_isTooMuch_9 rfl (lv_at hl 0 rfl) ?_
    refine pv_get C hP (v := .ref (a 5)) (j := 7) (by decide) (fm_0 _ _ _ _) fl_Md_22 rfl d_Md_isTooMuch_10 ?_
    refine lv_iload_n hx hb d_Md_isTooMuch_13 rfl (lv_at hl 3 rfl) ?_
    obtain ⟨hg, hf⟩ := pv_g hf
    refine pv_iald C hP (t0 := 0) (by decide) (fm_5 _ _ _ _) rfl hg d_Md_isTooMuch_14 ?_
    refine lv_bipush (v := (18 : Int32)) hx hb d_Md_isTooMuch_15 (by decide) ?_
    refine lv_icmp_ne (tgt := 35) hx hb d_Md_isTooMuch_17 (by decide) (fun h => ?_) (fun h => ?_)
    · have hf := pv_f hf h
      refine lv_iload_n hx hb d_Md_isTooMuch_35 rfl (lv_at hl 2 rfl) ?_
      exact s_Md_isTooMuch_36 C hmv hRf hRl hret hk_4 (lv_sub hl [0, 1, 3] rfl) hP hS hf
    · have hf := pv_t hf h
      refine lv_iload_n hx hb d_Md_isTooMuch_20 rfl (lv_at hl 2 rfl) ?_
      refine lv_aload_n hx hb d_Md_isTooMuch_21 rfl (lv_at hl 0 rfl) ?_
      refine pv_get C hP (v := .ref (a 8)) (j := 10) (by decide) (fm_0 _ _ _ _) fl_Md_31 rfl d_Md_isTooMuch_22 ?_
      refine lv_iconst (v := (4 : Int32)) hx hb d_Md_isTooMuch_25 (by decide) ?_
      refine lv_iload_n hx hb d_Md_isTooMuch_26 rfl (lv_at hl 3 rfl) ?_
      refine lv_imul hx hb d_Md_isTooMuch_27 ?_
      refine lv_iconst (v := (1 : Int32)) hx hb d_Md_isTooMuch_28 (by decide) ?_
      refine lv_iadd hx hb d_Md_isTooMuch_29 ?_
      obtain ⟨hg, hf⟩ := pv_g hf
      refine pv_iald C hP (t0 := 0) (by decide) (fm_8 _ _ _ _) rfl hg d_Md_isTooMuch_30 ?_
      refine lv_iadd hx hb d_Md_isTooMuch_31 ?_
      refine lv_goto (tgt := 36) hx hb d_Md_isTooMuch_32 (by decide) ?_
      exact s_Md_isTooMuch_36 C hmv hRf hRl hret hk_4 (lv_sub hl [0, 1, 3] rfl) hP hS hf
def f_Md_isTooMuch_4 : Nat → pv_S → Int32 → Int32 → Int32 → Option (Int32 × pv_S)
  | 0 => fun _ _ _ _ => none
  | n + 1 => f_Md_isTooMuch_4b (f_Md_isTooMuch_4 n)
set_option maxHeartbeats 4000000 in
theorem s_Md_isTooMuch_4 {p : Program} {l : Launch} {e : Env} {R : Room} {s : State} {m : MethodId} {args : Array Value} {below : List Frame} {meth : Method} {c : Code} {Q : State → Prop} {D : va_G} {q : Nat → ClassId} {a : Nat → Nat} {A : Nat → Prop} (C : pv_C p s m args c prog_9_method_25_code 4 "PatchVoicesModel" pv_TB D pv_cl (pv_ty q) 36 a A (pv_ZM)) (hmv : pv_mv A (pv_ZM)) (hRf : 0 ≤ R.frames) (hRl : 0 ≤ R.locals) {out : (Int32 × pv_S)} (hret : pv_Rz p l e R s m args below meth c prog_9_method_25_code D pv_cl 36 a (pv_FM q a) A Q out) (n : Nat) : ∀ {σ : pv_S} {x1 : Int32} {x2 : Int32} {x3 : Int32} {H : Heap} {locs : List Loc} {ls : Array Slot}, lv_has ls 4 [(0, .ref (a 0)), (1, .int x1), (2, .int x2), (3, .int x3)] → pv_W D pv_cl 36 a (pv_FM q a) σ H → va_S A s.heap H locs → f_Md_isTooMuch_4 n σ x1 x2 x3 = some out → W p l e R s m args below meth c H locs 0 0 Q (F0 m 4 ls []) := by
  induction n with
  | zero => intro σ x1 x2 x3 H locs ls hl hP hS hf; cases hf
  | succ n ih => intro σ x1 x2 x3 H locs ls hl hP hS hf; exact s_Md_isTooMuch_4b C hmv hRf hRl hret (fun σ x1 x2 x3 H locs ls hf hl hP hS => ih hl hP hS hf) hl hP hS hf
def f_Md_isTooMuch_0 (σ : pv_S) (x1 : Int32) : Option (Int32 × pv_S) :=
  f_Md_isTooMuch_4 pv_fu σ x1 (0 : Int32) (0 : Int32)
set_option maxHeartbeats 4000000 in
set_option maxRecDepth 100000 in
theorem s_Md_isTooMuch_0 {p : Program} {l : Launch} {e : Env} {R : Room} {s : State} {m : MethodId} {args : Array Value} {below : List Frame} {meth : Method} {c : Code} {Q : State → Prop} {D : va_G} {q : Nat → ClassId} {a : Nat → Nat} {A : Nat → Prop} (C : pv_C p s m args c prog_9_method_25_code 4 "PatchVoicesModel" pv_TB D pv_cl (pv_ty q) 36 a A (pv_ZM)) (hmv : pv_mv A (pv_ZM)) (hRf : 0 ≤ R.frames) (hRl : 0 ≤ R.locals) {out : (Int32 × pv_S)} (hret : pv_Rz p l e R s m args below meth c prog_9_method_25_code D pv_cl 36 a (pv_FM q a) A Q out) {σ : pv_S} {x1 : Int32} {H : Heap} {locs : List Loc} {ls : Array Slot} (hl : lv_has ls 4 [(0, .ref (a 0)), (1, .int x1)]) (hP : pv_W D pv_cl 36 a (pv_FM q a) σ H) (hS : va_S A s.heap H locs) (hf : f_Md_isTooMuch_0 σ x1 = some out) : W p l e R s m args below meth c H locs 0 0 Q (F0 m 0 ls []) := by
  unfold f_Md_isTooMuch_0 at hf
  have hx := C.1
  have hb := C.2.1
  refine lv_iconst (v := (0 : Int32)) hx hb d_Md_isTooMuch_0 (by decide) ?_
  refine lv_istore_n (lv' := [(2, .int (0 : Int32)), (0, .ref (a 0)), (1, .int x1)]) hx hb d_Md_isTooMuch_1 rfl hl (by decide) rfl (fun ls hl => ?_)
  refine lv_iconst (v := (0 : Int32)) hx hb d_Md_isTooMuch_2 (by decide) ?_
  refine lv_istore_n (lv' := [(3, .int (0 : Int32)), (2, .int (0 : Int32)), (0, .ref (a 0)), (1, .int x1)]) hx hb d_Md_isTooMuch_3 rfl hl (by decide) rfl (fun ls hl => ?_)
  exact s_Md_isTooMuch_4 C hmv hRf hRl hret pv_fu (lv_sub hl [2, 3, 1, 0] rfl) hP hS hf
def f_Md_isTooMuch (σ : pv_S) (x1 : Int32) : Option (Int32 × pv_S) := f_Md_isTooMuch_0 σ x1
def rm_Md_isTooMuch : Room := { frames := 0, cells := 0, slots := 0, locals := 0 }
theorem c_Md_isTooMuch {l : Launch} {D : va_G} {q : Nat → ClassId} {a : Nat → Nat} {A : Nat → Prop} (hD : pv_D 36 a A) (hmv : pv_mv A (pv_ZM)) {σ : pv_S} {x1 : Int32} {out : (Int32 × pv_S)} (hf : f_Md_isTooMuch σ x1 = some out) : pv_Mi l y_Md_isTooMuch (Cond.code y_Md_isTooMuch prog_9_method_25_code 4 (some .boolean) :: pv_TB) rm_Md_isTooMuch D pv_cl (pv_ty q) 36 a (pv_FM q a) A (pv_ZM) [.ref (a 0), .int x1] σ out :=
  pv_ofZ (by decide) (Nat.le_of_ble_eq_true rfl) hD (fun p e s m args below meth c Q ls C hret hl hP => s_Md_isTooMuch_0 C hmv (Nat.le_refl _) (Nat.le_refl _) hret hl hP va_S.rf hf)
theorem d_Md_onward_0 : decode prog_9_method_26_code 0 = .ok (.iconst 0, 1) := by decide +kernel
theorem d_Md_onward_1 : decode prog_9_method_26_code 1 = .ok (.istore_n 2, 1) := by decide +kernel
theorem d_Md_onward_2 : decode prog_9_method_26_code 2 = .ok (.iconst 0, 1) := by decide +kernel
theorem d_Md_onward_3 : decode prog_9_method_26_code 3 = .ok (.istore_n 3, 1) := by decide +kernel
theorem d_Md_onward_4 : decode prog_9_method_26_code 4 = .ok (.iload_n 3, 1) := by decide +kernel
theorem d_Md_onward_5 : decode prog_9_method_26_code 5 = .ok (.aload_n 0, 1) := by decide +kernel
theorem d_Md_onward_6 : decode prog_9_method_26_code 6 = .ok (.getfield 144, 3) := by decide +kernel
theorem d_Md_onward_9 : decode prog_9_method_26_code 9 = .ok (.if_icmp .ge 85, 3) := by decide +kernel
theorem d_Md_onward_12 : decode prog_9_method_26_code 12 = .ok (.iconst 4, 1) := by decide +kernel
theorem d_Md_onward_13 : decode prog_9_method_26_code 13 = .ok (.iload_n 3, 1) := by decide +kernel
theorem d_Md_onward_14 : decode prog_9_method_26_code 14 = .ok (.imul, 1) := by decide +kernel
theorem d_Md_onward_15 : decode prog_9_method_26_code 15 = .ok (.istore 4, 2) := by decide +kernel
theorem d_Md_onward_17 : decode prog_9_method_26_code 17 = .ok (.iload 4, 2) := by decide +kernel
theorem d_Md_onward_19 : decode prog_9_method_26_code 19 = .ok (.iconst 4, 1) := by decide +kernel
theorem d_Md_onward_20 : decode prog_9_method_26_code 20 = .ok (.iload_n 3, 1) := by decide +kernel
theorem d_Md_onward_21 : decode prog_9_method_26_code 21 = .ok (.imul, 1) := by decide +kernel
theorem d_Md_onward_22 : decode prog_9_method_26_code 22 = .ok (.aload_n 0, 1) := by decide +kernel
theorem d_Md_onward_23 : decode prog_9_method_26_code 23 = .ok (.getfield 25, 3) := by decide +kernel
theorem d_Md_onward_26 : decode prog_9_method_26_code 26 = .ok (.iload_n 3, 1) := by decide +kernel
theorem d_Md_onward_27 : decode prog_9_method_26_code 27 = .ok (.iaload, 1) := by decide +kernel
theorem d_Md_onward_28 : decode prog_9_method_26_code 28 = .ok (.iadd, 1) := by decide +kernel
theorem d_Md_onward_29 : decode prog_9_method_26_code 29 = .ok (.if_icmp .ge 59, 3) := by decide +kernel
theorem d_Md_onward_32 : decode prog_9_method_26_code 32 = .ok (.aload_n 0, 1) := by decide +kernel
theorem d_Md_onward_33 : decode prog_9_method_26_code 33 = .ok (.getfield 22, 3) := by decide +kernel
theorem d_Md_onward_36 : decode prog_9_method_26_code 36 = .ok (.iload_n 3, 1) := by decide +kernel
theorem d_Md_onward_37 : decode prog_9_method_26_code 37 = .ok (.iaload, 1) := by decide +kernel
theorem d_Md_onward_38 : decode prog_9_method_26_code 38 = .ok (.bipush 18, 2) := by decide +kernel
theorem d_Md_onward_40 : decode prog_9_method_26_code 40 = .ok (.if_icmp .eq 48, 3) := by decide +kernel
theorem d_Md_onward_43 : decode prog_9_method_26_code 43 = .ok (.aload_n 0, 1) := by decide +kernel
theorem d_Md_onward_44 : decode prog_9_method_26_code 44 = .ok (.getfield 28, 3) := by decide +kernel
theorem d_Md_onward_47 : decode prog_9_method_26_code 47 = .ok (.iload 4, 2) := by decide +kernel
theorem d_Md_onward_49 : decode prog_9_method_26_code 49 = .ok (.iaload, 1) := by decide +kernel
theorem d_Md_onward_50 : decode prog_9_method_26_code 50 = .ok (.ifCond .eq 30, 3) := by decide +kernel
theorem d_Md_onward_53 : decode prog_9_method_26_code 53 = .ok (.iload_n 1, 1) := by decide +kernel
theorem d_Md_onward_54 : decode prog_9_method_26_code 54 = .ok (.aload_n 0, 1) := by decide +kernel
theorem d_Md_onward_55 : decode prog_9_method_26_code 55 = .ok (.aload_n 0, 1) := by decide +kernel
theorem d_Md_onward_56 : decode prog_9_method_26_code 56 = .ok (.getfield 28, 3) := by decide +kernel
theorem d_Md_onward_59 : decode prog_9_method_26_code 59 = .ok (.iload 4, 2) := by decide +kernel
theorem d_Md_onward_61 : decode prog_9_method_26_code 61 = .ok (.iaload, 1) := by decide +kernel
theorem d_Md_onward_62 : decode prog_9_method_26_code 62 = .ok (.invokevirtual 200, 3) := by decide +kernel
theorem d_Md_onward_65 : decode prog_9_method_26_code 65 = .ok (.ishr, 1) := by decide +kernel
theorem d_Md_onward_66 : decode prog_9_method_26_code 66 = .ok (.iconst 1, 1) := by decide +kernel
theorem d_Md_onward_67 : decode prog_9_method_26_code 67 = .ok (.iand, 1) := by decide +kernel
theorem d_Md_onward_68 : decode prog_9_method_26_code 68 = .ok (.iconst 1, 1) := by decide +kernel
theorem d_Md_onward_69 : decode prog_9_method_26_code 69 = .ok (.if_icmp .ne 11, 3) := by decide +kernel
theorem d_Md_onward_72 : decode prog_9_method_26_code 72 = .ok (.iload_n 2, 1) := by decide +kernel
theorem d_Md_onward_73 : decode prog_9_method_26_code 73 = .ok (.iconst 1, 1) := by decide +kernel
theorem d_Md_onward_74 : decode prog_9_method_26_code 74 = .ok (.iload_n 3, 1) := by decide +kernel
theorem d_Md_onward_75 : decode prog_9_method_26_code 75 = .ok (.ishl, 1) := by decide +kernel
theorem d_Md_onward_76 : decode prog_9_method_26_code 76 = .ok (.ior, 1) := by decide +kernel
theorem d_Md_onward_77 : decode prog_9_method_26_code 77 = .ok (.goto 4, 3) := by decide +kernel
theorem d_Md_onward_80 : decode prog_9_method_26_code 80 = .ok (.iload_n 2, 1) := by decide +kernel
theorem d_Md_onward_81 : decode prog_9_method_26_code 81 = .ok (.istore_n 2, 1) := by decide +kernel
theorem d_Md_onward_82 : decode prog_9_method_26_code 82 = .ok (.iinc 4 1, 3) := by decide +kernel
theorem d_Md_onward_85 : decode prog_9_method_26_code 85 = .ok (.goto (-68), 3) := by decide +kernel
theorem d_Md_onward_88 : decode prog_9_method_26_code 88 = .ok (.iinc 3 1, 3) := by decide +kernel
theorem d_Md_onward_91 : decode prog_9_method_26_code 91 = .ok (.goto (-87), 3) := by decide +kernel
theorem d_Md_onward_94 : decode prog_9_method_26_code 94 = .ok (.iload_n 2, 1) := by decide +kernel
theorem d_Md_onward_95 : decode prog_9_method_26_code 95 = .ok (.ireturn, 1) := by decide +kernel
def f_Md_onward_88 (k_4 : pv_S → Int32 → Int32 → Int32 → Option (Int32 × pv_S)) (σ : pv_S) (x1 : Int32) (x2 : Int32) (x3 : Int32) : Option (Int32 × pv_S) :=
  k_4 σ x1 x2 (x3 + (1 : Int32))
set_option maxHeartbeats 4000000 in
set_option maxRecDepth 100000 in
theorem s_Md_onward_88 {p : Program} {l : Launch} {e : Env} {R : Room} {s : State} {m : MethodId} {args : Array Value} {below : List Frame} {meth : Method} {c : Code} {Q : State → Prop} {D : va_G} {q : Nat → ClassId} {a : Nat → Nat} {A : Nat → Prop} (C : pv_C p s m args c prog_9_method_26_code 5 "PatchVoicesModel" pv_TB D pv_cl (pv_ty q) 36 a A (pv_ZM)) (hmv : pv_mv A (pv_ZM)) (hRf : 1 ≤ R.frames) (hRl : 23 ≤ R.locals) {out : (Int32 × pv_S)} (hret : pv_Ri p l e R s m args below meth c prog_9_method_26_code D pv_cl 36 a (pv_FM q a) A Q out) {k_4 : pv_S → Int32 → Int32 → Int32 → Option (Int32 × pv_S)} (hk_4 : ∀ (σ : pv_S) (x1 : Int32) (x2 : Int32) (x3 : Int32) (H : Heap) (locs : List Loc) (ls : Array Slot), k_4 σ x1 x2 x3 = some out → lv_has ls 5 [(0, .ref (a 0)), (1, .int x1), (2, .int x2), (3, .int x3)] → pv_W D pv_cl 36 a (pv_FM q a) σ H → va_S A s.heap H locs → W p l e R s m args below meth c H locs 0 0 Q (F0 m 4 ls [])) {σ : pv_S} {x1 : Int32} {x2 : Int32} {x3 : Int32} {H : Heap} {locs : List Loc} {ls : Array Slot} (hl : lv_has ls 5 [(0, .ref (a 0)), (1, .int x1), (2, .int x2), (3, .int x3)]) (hP : pv_W D pv_cl 36 a (pv_FM q a) σ H) (hS : va_S A s.heap H locs) (hf : f_Md_onward_88 k_4 σ x1 x2 x3 = some out) : W p l e R s m args below meth c H locs 0 0 Q (F0 m 88 ls []) := by
  unfold f_Md_onward_88 at hf
  have hx := C.1
  have hb := C.2.1
  refine lv_iinc (k := 3) (v := (x3 + (1 : Int32))) (lv' := [(3, .int (x3 + (1 : Int32))), (0, .ref (a 0)), (1, .int x1), (2, .int x2)]) hx hb d_Md_onward_88 hl rfl (pv_inc (by decide)) (by decide) rfl (fun ls hl => ?_)
  refine lv_goto (tgt := 4) hx hb d_Md_onward_91 (by decide) ?_
  exact hk_4 _ _ _ _ _ _ _ hf (lv_sub hl [1, 2, 3, 0] rfl) hP hS
def f_Md_onward_81 (k_4 : pv_S → Int32 → Int32 → Int32 → Option (Int32 × pv_S)) (k_17 : pv_S → Int32 → Int32 → Int32 → Int32 → Option (Int32 × pv_S)) (σ : pv_S) (x1 : Int32) (x3 : Int32) (x4 : Int32) (s0 : Int32) : Option (Int32 × pv_S) :=
  k_17 σ x1 s0 x3 (x4 + (1 : Int32))
set_option maxHeartbeats 4000000 in
set_option maxRecDepth 100000 in
theorem s_Md_onward_81 {p : Program} {l : Launch} {e : Env} {R : Room} {s : State} {m : MethodId} {args : Array Value} {below : List Frame} {meth : Method} {c : Code} {Q : State → Prop} {D : va_G} {q : Nat → ClassId} {a : Nat → Nat} {A : Nat → Prop} (C : pv_C p s m args c prog_9_method_26_code 5 "PatchVoicesModel" pv_TB D pv_cl (pv_ty q) 36 a A (pv_ZM)) (hmv : pv_mv A (pv_ZM)) (hRf : 1 ≤ R.frames) (hRl : 23 ≤ R.locals) {out : (Int32 × pv_S)} (hret : pv_Ri p l e R s m args below meth c prog_9_method_26_code D pv_cl 36 a (pv_FM q a) A Q out) {k_4 : pv_S → Int32 → Int32 → Int32 → Option (Int32 × pv_S)} (hk_4 : ∀ (σ : pv_S) (x1 : Int32) (x2 : Int32) (x3 : Int32) (H : Heap) (locs : List Loc) (ls : Array Slot), k_4 σ x1 x2 x3 = some out → lv_has ls 5 [(0, .ref (a 0)), (1, .int x1), (2, .int x2), (3, .int x3)] → pv_W D pv_cl 36 a (pv_FM q a) σ H → va_S A s.heap H locs → W p l e R s m args below meth c H locs 0 0 Q (F0 m 4 ls [])) {k_17 : pv_S → Int32 → Int32 → Int32 → Int32 → Option (Int32 × pv_S)} (hk_17 : ∀ (σ : pv_S) (x1 : Int32) (x2 : Int32) (x3 : Int32) (x4 : Int32) (H : Heap) (locs : List Loc) (ls : Array Slot), k_17 σ x1 x2 x3 x4 = some out → lv_has ls 5 [(0, .ref (a 0)), (1, .int x1), (2, .int x2), (3, .int x3), (4, .int x4)] → pv_W D pv_cl 36 a (pv_FM q a) σ H → va_S A s.heap H locs → W p l e R s m args below meth c H locs 0 0 Q (F0 m 17 ls [])) {σ : pv_S} {x1 : Int32} {x3 : Int32} {x4 : Int32} {s0 : Int32} {H : Heap} {locs : List Loc} {ls : Array Slot} (hl : lv_has ls 5 [(0, .ref (a 0)), (1, .int x1), (3, .int x3), (4, .int x4)]) (hP : pv_W D pv_cl 36 a (pv_FM q a) σ H) (hS : va_S A s.heap H locs) (hf : f_Md_onward_81 k_4 k_17 σ x1 x3 x4 s0 = some out) : W p l e R s m args below meth c H locs 0 0 Q (F0 m 81 ls [.int s0]) := by
  unfold f_Md_onward_81 at hf
  have hx := C.1
  have hb := C.2.1
  refine lv_istore_n (lv' := [(2, .int s0), (0, .ref (a 0)), (1, .int x1), (3, .int x3), (4, .int x4)]) hx hb d_Md_onward_81 rfl hl (by decide) rfl (fun ls hl => ?_)
  refine lv_iinc (k := 4) (v := (x4 + (1 : Int32))) (lv' := [(4, .int (x4 + (1 : Int32))), (2, .int s0), (0, .ref (a 0)), (1, .int x1), (3, .int x3)]) hx hb d_Md_onward_82 hl rfl (pv_inc (by decide)) (by decide) rfl (fun ls hl => ?_)
  refine lv_goto (tgt := 17) hx hb d_Md_onward_85 (by decide) ?_
  exact hk_17 _ _ _ _ _ _ _ _ hf (lv_sub hl [2, 3, 1, 4, 0] rfl) hP hS
def f_Md_onward_80 (k_4 : pv_S → Int32 → Int32 → Int32 → Option (Int32 × pv_S)) (k_17 : pv_S → Int32 → Int32 → Int32 → Int32 → Option (Int32 × pv_S)) (σ : pv_S) (x1 : Int32) (x2 : Int32) (x3 : Int32) (x4 : Int32) : Option (Int32 × pv_S) :=
  f_Md_onward_81 k_4 k_17 σ x1 x3 x4 x2
set_option maxHeartbeats 4000000 in
set_option maxRecDepth 100000 in
theorem s_Md_onward_80 {p : Program} {l : Launch} {e : Env} {R : Room} {s : State} {m : MethodId} {args : Array Value} {below : List Frame} {meth : Method} {c : Code} {Q : State → Prop} {D : va_G} {q : Nat → ClassId} {a : Nat → Nat} {A : Nat → Prop} (C : pv_C p s m args c prog_9_method_26_code 5 "PatchVoicesModel" pv_TB D pv_cl (pv_ty q) 36 a A (pv_ZM)) (hmv : pv_mv A (pv_ZM)) (hRf : 1 ≤ R.frames) (hRl : 23 ≤ R.locals) {out : (Int32 × pv_S)} (hret : pv_Ri p l e R s m args below meth c prog_9_method_26_code D pv_cl 36 a (pv_FM q a) A Q out) {k_4 : pv_S → Int32 → Int32 → Int32 → Option (Int32 × pv_S)} (hk_4 : ∀ (σ : pv_S) (x1 : Int32) (x2 : Int32) (x3 : Int32) (H : Heap) (locs : List Loc) (ls : Array Slot), k_4 σ x1 x2 x3 = some out → lv_has ls 5 [(0, .ref (a 0)), (1, .int x1), (2, .int x2), (3, .int x3)] → pv_W D pv_cl 36 a (pv_FM q a) σ H → va_S A s.heap H locs → W p l e R s m args below meth c H locs 0 0 Q (F0 m 4 ls [])) {k_17 : pv_S → Int32 → Int32 → Int32 → Int32 → Option (Int32 × pv_S)} (hk_17 : ∀ (σ : pv_S) (x1 : Int32) (x2 : Int32) (x3 : Int32) (x4 : Int32) (H : Heap) (locs : List Loc) (ls : Array Slot), k_17 σ x1 x2 x3 x4 = some out → lv_has ls 5 [(0, .ref (a 0)), (1, .int x1), (2, .int x2), (3, .int x3), (4, .int x4)] → pv_W D pv_cl 36 a (pv_FM q a) σ H → va_S A s.heap H locs → W p l e R s m args below meth c H locs 0 0 Q (F0 m 17 ls [])) {σ : pv_S} {x1 : Int32} {x2 : Int32} {x3 : Int32} {x4 : Int32} {H : Heap} {locs : List Loc} {ls : Array Slot} (hl : lv_has ls 5 [(0, .ref (a 0)), (1, .int x1), (2, .int x2), (3, .int x3), (4, .int x4)]) (hP : pv_W D pv_cl 36 a (pv_FM q a) σ H) (hS : va_S A s.heap H locs) (hf : f_Md_onward_80 k_4 k_17 σ x1 x2 x3 x4 = some out) : W p l e R s m args below meth c H locs 0 0 Q (F0 m 80 ls []) := by
  unfold f_Md_onward_80 at hf
  have hx := C.1
  have hb := C.2.1
  refine lv_iload_n hx hb d_Md_onward_80 rfl (lv_at hl 2 rfl) ?_
  exact s_Md_onward_81 C hmv hRf hRl hret hk_4 hk_17 (lv_sub hl [0, 1, 3, 4] rfl) hP hS hf
def f_Md_onward_17b (k_4 : pv_S → Int32 → Int32 → Int32 → Option (Int32 × pv_S)) (k_17 : pv_S → Int32 → Int32 → Int32 → Int32 → Option (Int32 × pv_S)) (σ : pv_S) (x1 : Int32) (x2 : Int32) (x3 : Int32) (x4 : Int32) : Option (Int32 × pv_S) :=
  (if pv_in x3 40 = true then
(if (((4 : Int32) * x3) + (σ.1 6 (x3).toNatClampNeg)) ≤ x4 then
  f_Md_onward_88 k_4 σ x1 x2 x3
  else
  (if pv_in x3 40 = true then
(if (σ.1 5 (x3).toNatClampNeg) = (18 : Int32) then
  f_Md_onward_88 k_4 σ x1 x2 x3
  else
  (if pv_in x4 160 = true then
(if (σ.1 7 (x4).toNatClampNeg) = 0 then
  f_Md_onward_80 k_4 k_17 σ x1 x2 x3 x4
  else
  (if pv_in x4 160 = true then
((f_Md_moduleOf σ (σ.1 7 (x4).toNatClampNeg)).bind fun q1 =>
(if ((x1 >>> (q1.1 &&& 31)) &&& (1 : Int32)) = (1 : Int32) then
  f_Md_onward_81 k_4 k_17 q1.2 x1 x3 x4 (x2 ||| ((1 : Int32) <<< (x3 &&& 31)))
  else
  f_Md_onward_80 k_4 k_17 q1.2 x1 x2 x3 x4))
  else none))
  else none))
  else none))
  else none)
set_option maxHeartbeats 4000000 in
set_option maxRecDepth 100000 in
theorem s_Md_onward_17b {p : Program} {l : Launch} {e : Env} {R : Room} {s : State} {m : MethodId} {args : Array Value} {below : List Frame} {meth : Method} {c : Code} {Q : State → Prop} {D : va_G} {q : Nat → ClassId} {a : Nat → Nat} {A : Nat → Prop} (C : pv_C p s m args c prog_9_method_26_code 5 "PatchVoicesModel" pv_TB D pv_cl (pv_ty q) 36 a A (pv_ZM)) (hmv : pv_mv A (pv_ZM)) (hRf : 1 ≤ R.frames) (hRl : 23 ≤ R.locals) {out : (Int32 × pv_S)} (hret : pv_Ri p l e R s m args below meth c prog_9_method_26_code D pv_cl 36 a (pv_FM q a) A Q out) {k_4 : pv_S → Int32 → Int32 → Int32 → Option (Int32 × pv_S)} (hk_4 : ∀ (σ : pv_S) (x1 : Int32) (x2 : Int32) (x3 : Int32) (H : Heap) (locs : List Loc) (ls : Array Slot), k_4 σ x1 x2 x3 = some out → lv_has ls 5 [(0, .ref (a 0)), (1, .int x1), (2, .int x2), (3, .int x3)] → pv_W D pv_cl 36 a (pv_FM q a) σ H → va_S A s.heap H locs → W p l e R s m args below meth c H locs 0 0 Q (F0 m 4 ls [])) {k_17 : pv_S → Int32 → Int32 → Int32 → Int32 → Option (Int32 × pv_S)} (hk_17 : ∀ (σ : pv_S) (x1 : Int32) (x2 : Int32) (x3 : Int32) (x4 : Int32) (H : Heap) (locs : List Loc) (ls : Array Slot), k_17 σ x1 x2 x3 x4 = some out → lv_has ls 5 [(0, .ref (a 0)), (1, .int x1), (2, .int x2), (3, .int x3), (4, .int x4)] → pv_W D pv_cl 36 a (pv_FM q a) σ H → va_S A s.heap H locs → W p l e R s m args below meth c H locs 0 0 Q (F0 m 17 ls [])) {σ : pv_S} {x1 : Int32} {x2 : Int32} {x3 : Int32} {x4 : Int32} {H : Heap} {locs : List Loc} {ls : Array Slot} (hl : lv_has ls 5 [(0, .ref (a 0)), (1, .int x1), (2, .int x2), (3, .int x3), (4, .int x4)]) (hP : pv_W D pv_cl 36 a (pv_FM q a) σ H) (hS : va_S A s.heap H locs) (hf : f_Md_onward_17b k_4 k_17 σ x1 x2 x3 x4 = some out) : W p l e R s m args below meth c H locs 0 0 Q (F0 m 17 ls []) := by
  unfold f_Md_onward_17b at hf
  have hx := C.1
  have hb := C.2.1
  refine lv_iload hx hb d_Md_onward_17 (lv_at hl 4 rfl) ?_
  refine lv_iconst (v := (4 : Int32)) hx hb d_Md_onward_19 (by decide) ?_
  refine lv_iload_n hx hb d_Md_onward_20 rfl (lv_at hl 3 rfl) ?_
  refine lv_imul hx hb d_Md_onward_21 ?_
  refine lv_aload_n hx hb d_Md_onward_22 rfl (lv_at hl 0 rfl) ?_
  refine pv_get C hP (v := .ref (a 6)) (j := 8) (by decide) (fm_0 _ _ _ _) fl_Md_25 rfl d_Md_onward_23 ?_
  refine lv_iload_n hx hb d_Md_onward_26 rfl (lv_at hl 3 rfl) ?_
  obtain ⟨hg, hf⟩ := pv_g hf
  refine pv_iald C hP (t0 := 0) (by decide) (fm_6 _ _ _ _) rfl hg d_Md_onward_27 ?_
  refine lv_iadd hx hb d_Md_onward_28 ?_
  refine lv_icmp_ge (tgt := 88) hx hb d_Md_onward_29 (by decide) (fun h => ?_) (fun h => ?_)
  · have hf := pv_t hf h
    exact s_Md_onward_88 C hmv hRf hRl hret hk_4 (lv_sub hl [0, 1, 2, 3] rfl) hP hS hf
  · have hf := pv_f hf h
    refine lv_aload_n hx hb d_Md_onward_32 rfl (lv_at hl 0 rfl) ?_
    refine pv_get C hP (v := .ref (a 5)) (j := 7) (by decide) (fm_0 _ _ _ _) fl_Md_22 rfl d_Md_onward_33 ?_
    refine lv_iload_n hx hb d_Md_onward_36 rfl (lv_at hl 3 rfl) ?_
    obtain ⟨hg, hf⟩ := pv_g hf
    refine pv_iald C hP (t0 := 0) (by decide) (fm_5 _ _ _ _) rfl hg d_Md_onward_37 ?_
    refine lv_bipush (v := (18 : Int32)) hx hb d_Md_onward_38 (by decide) ?_
    refine lv_icmp_eq (tgt := 88) hx hb d_Md_onward_40 (by decide) (fun h => ?_) (fun h => ?_)
    · have hf := pv_t hf h
      exact s_Md_onward_88 C hmv hRf hRl hret hk_4 (lv_sub hl [0, 1, 2, 3] rfl) hP hS hf
    · have hf := pv_f hf h
      refine lv_aload_n hx hb d_Md_onward_43 rfl (lv_at hl 0 rfl) ?_
      refine pv_get C hP (v := .ref (a 7)) (j := 9) (by decide) (fm_0 _ _ _ _) fl_Md_28 rfl d_Md_onward_44 ?_
      refine lv_iload hx hb d_Md_onward_47 (lv_at hl 4 rfl) ?_
      obtain ⟨hg, hf⟩ := pv_g hf
      refine pv_iald C hP (t0 := 0) (by decide) (fm_7 _ _ _ _) rfl hg d_Md_onward_49 ?_
      refine lv_if_eq (tgt := 80) hx hb d_Md_onward_50 (by decide) (fun h => ?_) (fun h => ?_)
      · have hf := pv_t hf h
        exact s_Md_onward_80 C hmv hRf hRl hret hk_4 hk_17 (lv_sub hl [0, 1, 2, 3, 4] rfl) hP hS hf
      · have hf := pv_f hf h
        refine lv_iload_n hx hb d_Md_onward_53 rfl (lv_at hl 1 rfl) ?_
        refine lv_aload_n hx hb d_Md_onward_54 rfl (lv_at hl 0 rfl) ?_
        refine lv_aload_n hx hb d_Md_onward_55 rfl (lv_at hl 0 rfl) ?_
        refine pv_get C hP (v := .ref (a 7)) (j := 9) (by decide) (fm_0 _ _ _ _) fl_Md_28 rfl d_Md_onward_56 ?_
        refine lv_iload hx hb d_Md_onward_59 (lv_at hl 4 rfl) ?_
        obtain ⟨hg, hf⟩ := pv_g hf
        refine pv_iald C hP (t0 := 0) (by decide) (fm_7 _ _ _ _) rfl hg d_Md_onward_61 ?_
        obtain ⟨q1, hc, hf⟩ := pv_b hf
        refine pv_callVi C hmv pv_good hP hS (As := [.int (σ.1 7 (x4).toNatClampNeg)]) (rest := [.int x1]) (by decide) (fm_0 _ _ _ _) rfl (c_Md_moduleOf C.2.2.2.2.2.2.1 hmv hc) cv_Md_200 ⟨rfl, rfl, Nat.le_trans (Nat.le_of_ble_eq_true rfl) hRf, Nat.le_trans (Nat.le_of_ble_eq_true rfl) hRl⟩ rfl hl.1 rfl (Nat.le_of_ble_eq_true rfl) d_Md_onward_62 ⟨Nat.zero_le _, Nat.zero_le _⟩ (fun H locs hP hS => ?_)
        refine lv_ishr hx hb d_Md_onward_65 ?_
        refine lv_iconst (v := (1 : Int32)) hx hb d_Md_onward_66 (by decide) ?_
        refine lv_iand hx hb d_Md_onward_67 ?_
        refine lv_iconst (v := (1 : Int32)) hx hb d_Md_onward_68 (by decide) ?_
        refine lv_icmp_ne (tgt := 80) hx hb d_Md_onward_69 (by decide) (fun h => ?_) (fun h => ?_)
        · have hf := pv_f hf h
          exact s_Md_onward_80 C hmv hRf hRl hret hk_4 hk_17 (lv_sub hl [0, 1, 2, 3, 4] rfl) hP hS hf
        · have hf := pv_t hf h
          refine lv_iload_n hx hb d_Md_onward_72 rfl (lv_at hl 2 rfl) ?_
          refine lv_iconst (v := (1 : Int32)) hx hb d_Md_onward_73 (by decide) ?_
          refine lv_iload_n hx hb d_Md_onward_74 rfl (lv_at hl 3 rfl) ?_
          refine lv_ishl hx hb d_Md_onward_75 ?_
          refine lv_ior hx hb d_Md_onward_76 ?_
          refine lv_goto (tgt := 81) hx hb d_Md_onward_77 (by decide) ?_
          exact s_Md_onward_81 C hmv hRf hRl hret hk_4 hk_17 (lv_sub hl [0, 1, 3, 4] rfl) hP hS hf
def f_Md_onward_17 (k_4 : pv_S → Int32 → Int32 → Int32 → Option (Int32 × pv_S)) : Nat → pv_S → Int32 → Int32 → Int32 → Int32 → Option (Int32 × pv_S)
  | 0 => fun _ _ _ _ _ => none
  | n + 1 => f_Md_onward_17b k_4 (f_Md_onward_17 k_4 n)
set_option maxHeartbeats 4000000 in
theorem s_Md_onward_17 {p : Program} {l : Launch} {e : Env} {R : Room} {s : State} {m : MethodId} {args : Array Value} {below : List Frame} {meth : Method} {c : Code} {Q : State → Prop} {D : va_G} {q : Nat → ClassId} {a : Nat → Nat} {A : Nat → Prop} (C : pv_C p s m args c prog_9_method_26_code 5 "PatchVoicesModel" pv_TB D pv_cl (pv_ty q) 36 a A (pv_ZM)) (hmv : pv_mv A (pv_ZM)) (hRf : 1 ≤ R.frames) (hRl : 23 ≤ R.locals) {out : (Int32 × pv_S)} (hret : pv_Ri p l e R s m args below meth c prog_9_method_26_code D pv_cl 36 a (pv_FM q a) A Q out) {k_4 : pv_S → Int32 → Int32 → Int32 → Option (Int32 × pv_S)} (hk_4 : ∀ (σ : pv_S) (x1 : Int32) (x2 : Int32) (x3 : Int32) (H : Heap) (locs : List Loc) (ls : Array Slot), k_4 σ x1 x2 x3 = some out → lv_has ls 5 [(0, .ref (a 0)), (1, .int x1), (2, .int x2), (3, .int x3)] → pv_W D pv_cl 36 a (pv_FM q a) σ H → va_S A s.heap H locs → W p l e R s m args below meth c H locs 0 0 Q (F0 m 4 ls [])) (n : Nat) : ∀ {σ : pv_S} {x1 : Int32} {x2 : Int32} {x3 : Int32} {x4 : Int32} {H : Heap} {locs : List Loc} {ls : Array Slot}, lv_has ls 5 [(0, .ref (a 0)), (1, .int x1), (2, .int x2), (3, .int x3), (4, .int x4)] → pv_W D pv_cl 36 a (pv_FM q a) σ H → va_S A s.heap H locs → f_Md_onward_17 k_4 n σ x1 x2 x3 x4 = some out → W p l e R s m args below meth c H locs 0 0 Q (F0 m 17 ls []) := by
  induction n with
  | zero => intro σ x1 x2 x3 x4 H locs ls hl hP hS hf; cases hf
  | succ n ih => intro σ x1 x2 x3 x4 H locs ls hl hP hS hf; exact s_Md_onward_17b C hmv hRf hRl hret hk_4 (fun σ x1 x2 x3 x4 H locs ls hf hl hP hS => ih hl hP hS hf) hl hP hS hf
def f_Md_onward_4b (k_4 : pv_S → Int32 → Int32 → Int32 → Option (Int32 × pv_S)) (σ : pv_S) (x1 : Int32) (x2 : Int32) (x3 : Int32) : Option (Int32 × pv_S) :=
  (if (σ.1 0 5) ≤ x3 then
  some (x2, σ)
  else
  f_Md_onward_17 k_4 pv_fu σ x1 x2 x3 ((4 : Int32) * x3))
set_option maxHeartbeats 4000000 in
set_option maxRecDepth 100000 in
theorem s_Md_onward_4b {p : Program} {l : Launch} {e : Env} {R : Room} {s : State} {m : MethodId} {args : Array Value} {below : List Frame} {meth : Method} {c : Code} {Q : State → Prop} {D : va_G} {q : Nat → ClassId} {a : Nat → Nat} {A : Nat → Prop} (C : pv_C p s m args c prog_9_method_26_code 5 "PatchVoicesModel" pv_TB D pv_cl (pv_ty q) 36 a A (pv_ZM)) (hmv : pv_mv A (pv_ZM)) (hRf : 1 ≤ R.frames) (hRl : 23 ≤ R.locals) {out : (Int32 × pv_S)} (hret : pv_Ri p l e R s m args below meth c prog_9_method_26_code D pv_cl 36 a (pv_FM q a) A Q out) {k_4 : pv_S → Int32 → Int32 → Int32 → Option (Int32 × pv_S)} (hk_4 : ∀ (σ : pv_S) (x1 : Int32) (x2 : Int32) (x3 : Int32) (H : Heap) (locs : List Loc) (ls : Array Slot), k_4 σ x1 x2 x3 = some out → lv_has ls 5 [(0, .ref (a 0)), (1, .int x1), (2, .int x2), (3, .int x3)] → pv_W D pv_cl 36 a (pv_FM q a) σ H → va_S A s.heap H locs → W p l e R s m args below meth c H locs 0 0 Q (F0 m 4 ls [])) {σ : pv_S} {x1 : Int32} {x2 : Int32} {x3 : Int32} {H : Heap} {locs : List Loc} {ls : Array Slot} (hl : lv_has ls 5 [(0, .ref (a 0)), (1, .int x1), (2, .int x2), (3, .int x3)]) (hP : pv_W D pv_cl 36 a (pv_FM q a) σ H) (hS : va_S A s.heap H locs) (hf : f_Md_onward_4b k_4 σ x1 x2 x3 = some out) : W p l e R s m args below meth c H locs 0 0 Q (F0 m 4 ls []) := by
  unfold f_Md_onward_4b at hf
  have hx := C.1
  have hb := C.2.1
  refine lv_iload_n hx hb d_Md_onward_4 rfl (lv_at hl 3 rfl) ?_
  refine lv_aload_n hx hb d_Md_onward_5 rfl (lv_at hl 0 rfl) ?_
  refine pv_get C hP (v := .int (σ.1 0 5)) (j := 5) (by decide) (fm_0 _ _ _ _) fl_Md_144 rfl d_Md_onward_6 ?_
  refine lv_icmp_ge (tgt := 94) hx hb d_Md_onward_9 (by decide) (fun h => ?_) (fun h => ?_)
  · have hf := pv_t hf h
    refine lv_iload_n hx hb d_Md_onward_94 rfl (lv_at hl 2 rfl) ?_
    obtain rfl := Option.some.inj hf
    exact hret _ _ _ _ d_Md_onward_95 hP hS
  · have hf := pv_f hf h
    refine lv_iconst (v := (4 : Int32)) hx hb d_Md_onward_12 (by decide) ?_
    refine lv_iload_n hx hb d_Md_onward_13 rfl (lv_at hl 3 rfl) ?_
    refine lv_imul hx hb d_Md_onward_14 ?_
    refine lv_istore (lv' := [(4, .int ((4 : Int32) * x3)), (0, .ref (a 0)), (1, .int x1), (2, .int x2), (3, .int x3)]) hx hb d_Md_onward_15 hl (by decide) rfl (fun ls hl => ?_)
    exact s_Md_onward_17 C hmv hRf hRl hret hk_4 pv_fu (lv_sub hl [1, 2, 3, 4, 0] rfl) hP hS hf
def f_Md_onward_4 : Nat → pv_S → Int32 → Int32 → Int32 → Option (Int32 × pv_S)
  | 0 => fun _ _ _ _ => none
  | n + 1 => f_Md_onward_4b (f_Md_onward_4 n)
set_option maxHeartbeats 4000000 in
theorem s_Md_onward_4 {p : Program} {l : Launch} {e : Env} {R : Room} {s : State} {m : MethodId} {args : Array Value} {below : List Frame} {meth : Method} {c : Code} {Q : State → Prop} {D : va_G} {q : Nat → ClassId} {a : Nat → Nat} {A : Nat → Prop} (C : pv_C p s m args c prog_9_method_26_code 5 "PatchVoicesModel" pv_TB D pv_cl (pv_ty q) 36 a A (pv_ZM)) (hmv : pv_mv A (pv_ZM)) (hRf : 1 ≤ R.frames) (hRl : 23 ≤ R.locals) {out : (Int32 × pv_S)} (hret : pv_Ri p l e R s m args below meth c prog_9_method_26_code D pv_cl 36 a (pv_FM q a) A Q out) (n : Nat) : ∀ {σ : pv_S} {x1 : Int32} {x2 : Int32} {x3 : Int32} {H : Heap} {locs : List Loc} {ls : Array Slot}, lv_has ls 5 [(0, .ref (a 0)), (1, .int x1), (2, .int x2), (3, .int x3)] → pv_W D pv_cl 36 a (pv_FM q a) σ H → va_S A s.heap H locs → f_Md_onward_4 n σ x1 x2 x3 = some out → W p l e R s m args below meth c H locs 0 0 Q (F0 m 4 ls []) := by
  induction n with
  | zero => intro σ x1 x2 x3 H locs ls hl hP hS hf; cases hf
  | succ n ih => intro σ x1 x2 x3 H locs ls hl hP hS hf; exact s_Md_onward_4b C hmv hRf hRl hret (fun σ x1 x2 x3 H locs ls hf hl hP hS => ih hl hP hS hf) hl hP hS hf
def f_Md_onward_0 (σ : pv_S) (x1 : Int32) : Option (Int32 × pv_S) :=
  f_Md_onward_4 pv_fu σ x1 (0 : Int32) (0 : Int32)
set_option maxHeartbeats 4000000 in
set_option maxRecDepth 100000 in
theorem s_Md_onward_0 {p : Program} {l : Launch} {e : Env} {R : Room} {s : State} {m : MethodId} {args : Array Value} {below : List Frame} {meth : Method} {c : Code} {Q : State → Prop} {D : va_G} {q : Nat → ClassId} {a : Nat → Nat} {A : Nat → Prop} (C : pv_C p s m args c prog_9_method_26_code 5 "PatchVoicesModel" pv_TB D pv_cl (pv_ty q) 36 a A (pv_ZM)) (hmv : pv_mv A (pv_ZM)) (hRf : 1 ≤ R.frames) (hRl : 23 ≤ R.locals) {out : (Int32 × pv_S)} (hret : pv_Ri p l e R s m args below meth c prog_9_method_26_code D pv_cl 36 a (pv_FM q a) A Q out) {σ : pv_S} {x1 : Int32} {H : Heap} {locs : List Loc} {ls : Array Slot} (hl : lv_has ls 5 [(0, .ref (a 0)), (1, .int x1)]) (hP : pv_W D pv_cl 36 a (pv_FM q a) σ H) (hS : va_S A s.heap H locs) (hf : f_Md_onward_0 σ x1 = some out) : W p l e R s m args below meth c H locs 0 0 Q (F0 m 0 ls []) := by
  unfold f_Md_onward_0 at hf
  have hx := C.1
  have hb := C.2.1
  refine lv_iconst (v := (0 : Int32)) hx hb d_Md_onward_0 (by decide) ?_
  refine lv_istore_n (lv' := [(2, .int (0 : Int32)), (0, .ref (a 0)), (1, .int x1)]) hx hb d_Md_onward_1 rfl hl (by decide) rfl (fun ls hl => ?_)
  refine lv_iconst (v := (0 : Int32)) hx hb d_Md_onward_2 (by decide) ?_
  refine lv_istore_n (lv' := [(3, .int (0 : Int32)), (2, .int (0 : Int32)), (0, .ref (a 0)), (1, .int x1)]) hx hb d_Md_onward_3 rfl hl (by decide) rfl (fun ls hl => ?_)
  exact s_Md_onward_4 C hmv hRf hRl hret pv_fu (lv_sub hl [2, 3, 1, 0] rfl) hP hS hf
def f_Md_onward (σ : pv_S) (x1 : Int32) : Option (Int32 × pv_S) := f_Md_onward_0 σ x1
def rm_Md_onward : Room := { frames := 1, cells := 0, slots := 0, locals := 23 }
theorem c_Md_onward {l : Launch} {D : va_G} {q : Nat → ClassId} {a : Nat → Nat} {A : Nat → Prop} (hD : pv_D 36 a A) (hmv : pv_mv A (pv_ZM)) {σ : pv_S} {x1 : Int32} {out : (Int32 × pv_S)} (hf : f_Md_onward σ x1 = some out) : pv_Mi l y_Md_onward (Cond.code y_Md_onward prog_9_method_26_code 5 (some .int) :: pv_TB) rm_Md_onward D pv_cl (pv_ty q) 36 a (pv_FM q a) A (pv_ZM) [.ref (a 0), .int x1] σ out :=
  pv_ofI (by decide) (Nat.le_of_ble_eq_true rfl) hD (fun p e s m args below meth c Q ls C hret hl hP => s_Md_onward_0 C hmv (Nat.le_refl _) (Nat.le_refl _) hret hl hP va_S.rf hf)
theorem d_Md_isLooped_0 : decode prog_9_method_27_code 0 = .ok (.aload_n 0, 1) := by decide +kernel
theorem d_Md_isLooped_1 : decode prog_9_method_27_code 1 = .ok (.iconst 1, 1) := by decide +kernel
theorem d_Md_isLooped_2 : decode prog_9_method_27_code 2 = .ok (.iload_n 1, 1) := by decide +kernel
theorem d_Md_isLooped_3 : decode prog_9_method_27_code 3 = .ok (.ishl, 1) := by decide +kernel
theorem d_Md_isLooped_4 : decode prog_9_method_27_code 4 = .ok (.invokevirtual 204, 3) := by decide +kernel
theorem d_Md_isLooped_7 : decode prog_9_method_27_code 7 = .ok (.istore_n 2, 1) := by decide +kernel
theorem d_Md_isLooped_8 : decode prog_9_method_27_code 8 = .ok (.iconst 0, 1) := by decide +kernel
theorem d_Md_isLooped_9 : decode prog_9_method_27_code 9 = .ok (.istore_n 3, 1) := by decide +kernel
theorem d_Md_isLooped_10 : decode prog_9_method_27_code 10 = .ok (.iload_n 3, 1) := by decide +kernel
theorem d_Md_isLooped_11 : decode prog_9_method_27_code 11 = .ok (.bipush 24, 2) := by decide +kernel
theorem d_Md_isLooped_13 : decode prog_9_method_27_code 13 = .ok (.if_icmp .ge 17, 3) := by decide +kernel
theorem d_Md_isLooped_16 : decode prog_9_method_27_code 16 = .ok (.iload_n 2, 1) := by decide +kernel
theorem d_Md_isLooped_17 : decode prog_9_method_27_code 17 = .ok (.aload_n 0, 1) := by decide +kernel
theorem d_Md_isLooped_18 : decode prog_9_method_27_code 18 = .ok (.iload_n 2, 1) := by decide +kernel
theorem d_Md_isLooped_19 : decode prog_9_method_27_code 19 = .ok (.invokevirtual 204, 3) := by decide +kernel
theorem d_Md_isLooped_22 : decode prog_9_method_27_code 22 = .ok (.ior, 1) := by decide +kernel
theorem d_Md_isLooped_23 : decode prog_9_method_27_code 23 = .ok (.istore_n 2, 1) := by decide +kernel
theorem d_Md_isLooped_24 : decode prog_9_method_27_code 24 = .ok (.iinc 3 1, 3) := by decide +kernel
theorem d_Md_isLooped_27 : decode prog_9_method_27_code 27 = .ok (.goto (-17), 3) := by decide +kernel
theorem d_Md_isLooped_30 : decode prog_9_method_27_code 30 = .ok (.iload_n 2, 1) := by decide +kernel
theorem d_Md_isLooped_31 : decode prog_9_method_27_code 31 = .ok (.iload_n 1, 1) := by decide +kernel
theorem d_Md_isLooped_32 : decode prog_9_method_27_code 32 = .ok (.ishr, 1) := by decide +kernel
theorem d_Md_isLooped_33 : decode prog_9_method_27_code 33 = .ok (.iconst 1, 1) := by decide +kernel
theorem d_Md_isLooped_34 : decode prog_9_method_27_code 34 = .ok (.iand, 1) := by decide +kernel
theorem d_Md_isLooped_35 : decode prog_9_method_27_code 35 = .ok (.iconst 1, 1) := by decide +kernel
theorem d_Md_isLooped_36 : decode prog_9_method_27_code 36 = .ok (.if_icmp .ne 7, 3) := by decide +kernel
theorem d_Md_isLooped_39 : decode prog_9_method_27_code 39 = .ok (.iconst 1, 1) := by decide +kernel
theorem d_Md_isLooped_40 : decode prog_9_method_27_code 40 = .ok (.goto 4, 3) := by decide +kernel
theorem d_Md_isLooped_43 : decode prog_9_method_27_code 43 = .ok (.iconst 0, 1) := by decide +kernel
theorem d_Md_isLooped_44 : decode prog_9_method_27_code 44 = .ok (.ireturn, 1) := by decide +kernel
def f_Md_isLooped_10b (k_10 : pv_S → Int32 → Int32 → Int32 → Option (Int32 × pv_S)) (σ : pv_S) (x1 : Int32) (x2 : Int32) (x3 : Int32) : Option (Int32 × pv_S) :=
  (if (24 : Int32) ≤ x3 then
  (if ((x2 >>> (x1 &&& 31)) &&& (1 : Int32)) = (1 : Int32) then
  some ((1 : Int32), σ)
  else
  some ((0 : Int32), σ))
  else
  ((f_Md_onward σ x2).bind fun q2 =>
k_10 q2.2 x1 (x2 ||| q2.1) (x3 + (1 : Int32))))
set_option maxHeartbeats 4000000 in
set_option maxRecDepth 100000 in
theorem s_Md_isLooped_10b {p : Program} {l : Launch} {e : Env} {R : Room} {s : State} {m : MethodId} {args : Array Value} {below : List Frame} {meth : Method} {c : Code} {Q : State → Prop} {D : va_G} {q : Nat → ClassId} {a : Nat → Nat} {A : Nat → Prop} (C : pv_C p s m args c prog_9_method_27_code 4 "PatchVoicesModel" pv_TB D pv_cl (pv_ty q) 36 a A (pv_ZM)) (hmv : pv_mv A (pv_ZM)) (hRf : 2 ≤ R.frames) (hRl : 47 ≤ R.locals) {out : (Int32 × pv_S)} (hret : pv_Rz p l e R s m args below meth c prog_9_method_27_code D pv_cl 36 a (pv_FM q a) A Q out) {k_10 : pv_S → Int32 → Int32 → Int32 → Option (Int32 × pv_S)} (hk_10 : ∀ (σ : pv_S) (x1 : Int32) (x2 : Int32) (x3 : Int32) (H : Heap) (locs : List Loc) (ls : Array Slot), k_10 σ x1 x2 x3 = some out → lv_has ls 4 [(0, .ref (a 0)), (1, .int x1), (2, .int x2), (3, .int x3)] → pv_W D pv_cl 36 a (pv_FM q a) σ H → va_S A s.heap H locs → W p l e R s m args below meth c H locs 0 0 Q (F0 m 10 ls [])) {σ : pv_S} {x1 : Int32} {x2 : Int32} {x3 : Int32} {H : Heap} {locs : List Loc} {ls : Array Slot} (hl : lv_has ls 4 [(0, .ref (a 0)), (1, .int x1), (2, .int x2), (3, .int x3)]) (hP : pv_W D pv_cl 36 a (pv_FM q a) σ H) (hS : va_S A s.heap H locs) (hf : f_Md_isLooped_10b k_10 σ x1 x2 x3 = some out) : W p l e R s m args below meth c H locs 0 0 Q (F0 m 10 ls []) := by
  unfold f_Md_isLooped_10b at hf
  have hx := C.1
  have hb := C.2.1
  refine lv_iload_n hx hb d_Md_isLooped_10 rfl (lv_at hl 3 rfl) ?_
  refine lv_bipush (v := (24 : Int32)) hx hb d_Md_isLooped_11 (by decide) ?_
  refine lv_icmp_ge (tgt := 30) hx hb d_Md_isLooped_13 (by decide) (fun h => ?_) (fun h => ?_)
  · have hf := pv_t hf h
    refine lv_iload_n hx hb d_Md_isLooped_30 rfl (lv_at hl 2 rfl) ?_
    refine lv_iload_n hx hb d_Md_isLooped_31 rfl (lv_at hl 1 rfl) ?_
    refine lv_ishr hx hb d_Md_isLooped_32 ?_
    refine lv_iconst (v := (1 : Int32)) hx hb d_Md_isLooped_33 (by decide) ?_
    refine lv_iand hx hb d_Md_isLooped_34 ?_
    refine lv_iconst (v := (1 : Int32)) hx hb d_Md_isLooped_35 (by decide) ?_
    refine lv_icmp_ne (tgt := 43) hx hb d_Md_isLooped_36 (by decide) (fun h => ?_) (fun h => ?_)
    · have hf := pv_f hf h
      refine lv_iconst (v := (0 : Int32)) hx hb d_Md_isLooped_43 (by decide) ?_
      obtain rfl := Option.some.inj hf
      exact hret _ _ _ _ d_Md_isLooped_44 rfl hP hS
    · have hf := pv_t hf h
      refine lv_iconst (v := (1 : Int32)) hx hb d_Md_isLooped_39 (by decide) ?_
      refine lv_goto (tgt := 44) hx hb d_Md_isLooped_40 (by decide) ?_
      obtain rfl := Option.some.inj hf
      exact hret _ _ _ _ d_Md_isLooped_44 rfl hP hS
  · have hf := pv_f hf h
    refine lv_iload_n hx hb d_Md_isLooped_16 rfl (lv_at hl 2 rfl) ?_
    refine lv_aload_n hx hb d_Md_isLooped_17 rfl (lv_at hl 0 rfl) ?_
    refine lv_iload_n hx hb d_Md_isLooped_18 rfl (lv_at hl 2 rfl) ?_
    obtain ⟨q2, hc, hf⟩ := pv_b hf
    refine pv_callVi C hmv pv_good hP hS (As := [.int x2]) (rest := [.int x2]) (by decide) (fm_0 _ _ _ _) rfl (c_Md_onward C.2.2.2.2.2.2.1 hmv hc) cv_Md_204 ⟨rfl, rfl, Nat.le_trans (Nat.le_of_ble_eq_true rfl) hRf, Nat.le_trans (Nat.le_of_ble_eq_true rfl) hRl⟩ rfl hl.1 rfl (Nat.le_of_ble_eq_true rfl) d_Md_isLooped_19 ⟨Nat.zero_le _, Nat.zero_le _⟩ (fun H locs hP hS => ?_)
    refine lv_ior hx hb d_Md_isLooped_22 ?_
    refine lv_istore_n (lv' := [(2, .int (x2 ||| q2.1)), (0, .ref (a 0)), (1, .int x1), (3, .int x3)]) hx hb d_Md_isLooped_23 rfl hl (by decide) rfl (fun ls hl => ?_)
    refine lv_iinc (k := 3) (v := (x3 + (1 : Int32))) (lv' := [(3, .int (x3 + (1 : Int32))), (2, .int (x2 ||| q2.1)), (0, .ref (a 0)), (1, .int x1)]) hx hb d_Md_isLooped_24 hl rfl (pv_inc (by decide)) (by decide) rfl (fun ls hl => ?_)
    refine lv_goto (tgt := 10) hx hb d_Md_isLooped_27 (by decide) ?_
    exact hk_10 _ _ _ _ _ _ _ hf (lv_sub hl [2, 3, 1, 0] rfl) hP hS
def f_Md_isLooped_10 : Nat → pv_S → Int32 → Int32 → Int32 → Option (Int32 × pv_S)
  | 0 => fun _ _ _ _ => none
  | n + 1 => f_Md_isLooped_10b (f_Md_isLooped_10 n)
set_option maxHeartbeats 4000000 in
theorem s_Md_isLooped_10 {p : Program} {l : Launch} {e : Env} {R : Room} {s : State} {m : MethodId} {args : Array Value} {below : List Frame} {meth : Method} {c : Code} {Q : State → Prop} {D : va_G} {q : Nat → ClassId} {a : Nat → Nat} {A : Nat → Prop} (C : pv_C p s m args c prog_9_method_27_code 4 "PatchVoicesModel" pv_TB D pv_cl (pv_ty q) 36 a A (pv_ZM)) (hmv : pv_mv A (pv_ZM)) (hRf : 2 ≤ R.frames) (hRl : 47 ≤ R.locals) {out : (Int32 × pv_S)} (hret : pv_Rz p l e R s m args below meth c prog_9_method_27_code D pv_cl 36 a (pv_FM q a) A Q out) (n : Nat) : ∀ {σ : pv_S} {x1 : Int32} {x2 : Int32} {x3 : Int32} {H : Heap} {locs : List Loc} {ls : Array Slot}, lv_has ls 4 [(0, .ref (a 0)), (1, .int x1), (2, .int x2), (3, .int x3)] → pv_W D pv_cl 36 a (pv_FM q a) σ H → va_S A s.heap H locs → f_Md_isLooped_10 n σ x1 x2 x3 = some out → W p l e R s m args below meth c H locs 0 0 Q (F0 m 10 ls []) := by
  induction n with
  | zero => intro σ x1 x2 x3 H locs ls hl hP hS hf; cases hf
  | succ n ih => intro σ x1 x2 x3 H locs ls hl hP hS hf; exact s_Md_isLooped_10b C hmv hRf hRl hret (fun σ x1 x2 x3 H locs ls hf hl hP hS => ih hl hP hS hf) hl hP hS hf
def f_Md_isLooped_0 (σ : pv_S) (x1 : Int32) : Option (Int32 × pv_S) :=
  ((f_Md_onward σ ((1 : Int32) <<< (x1 &&& 31))).bind fun q1 =>
f_Md_isLooped_10 pv_fu q1.2 x1 q1.1 (0 : Int32))
set_option maxHeartbeats 4000000 in
set_option maxRecDepth 100000 in
theorem s_Md_isLooped_0 {p : Program} {l : Launch} {e : Env} {R : Room} {s : State} {m : MethodId} {args : Array Value} {below : List Frame} {meth : Method} {c : Code} {Q : State → Prop} {D : va_G} {q : Nat → ClassId} {a : Nat → Nat} {A : Nat → Prop} (C : pv_C p s m args c prog_9_method_27_code 4 "PatchVoicesModel" pv_TB D pv_cl (pv_ty q) 36 a A (pv_ZM)) (hmv : pv_mv A (pv_ZM)) (hRf : 2 ≤ R.frames) (hRl : 47 ≤ R.locals) {out : (Int32 × pv_S)} (hret : pv_Rz p l e R s m args below meth c prog_9_method_27_code D pv_cl 36 a (pv_FM q a) A Q out) {σ : pv_S} {x1 : Int32} {H : Heap} {locs : List Loc} {ls : Array Slot} (hl : lv_has ls 4 [(0, .ref (a 0)), (1, .int x1)]) (hP : pv_W D pv_cl 36 a (pv_FM q a) σ H) (hS : va_S A s.heap H locs) (hf : f_Md_isLooped_0 σ x1 = some out) : W p l e R s m args below meth c H locs 0 0 Q (F0 m 0 ls []) := by
  unfold f_Md_isLooped_0 at hf
  have hx := C.1
  have hb := C.2.1
  refine lv_aload_n hx hb d_Md_isLooped_0 rfl (lv_at hl 0 rfl) ?_
  refine lv_iconst (v := (1 : Int32)) hx hb d_Md_isLooped_1 (by decide) ?_
  refine lv_iload_n hx hb d_Md_isLooped_2 rfl (lv_at hl 1 rfl) ?_
  refine lv_ishl hx hb d_Md_isLooped_3 ?_
  obtain ⟨q1, hc, hf⟩ := pv_b hf
  refine pv_callVi C hmv pv_good hP hS (As := [.int ((1 : Int32) <<< (x1 &&& 31))]) (rest := []) (by decide) (fm_0 _ _ _ _) rfl (c_Md_onward C.2.2.2.2.2.2.1 hmv hc) cv_Md_204 ⟨rfl, rfl, Nat.le_trans (Nat.le_of_ble_eq_true rfl) hRf, Nat.le_trans (Nat.le_of_ble_eq_true rfl) hRl⟩ rfl hl.1 rfl (Nat.le_of_ble_eq_true rfl) d_Md_isLooped_4 ⟨Nat.zero_le _, Nat.zero_le _⟩ (fun H locs hP hS => ?_)
  refine lv_istore_n (lv' := [(2, .int q1.1), (0, .ref (a 0)), (1, .int x1)]) hx hb d_Md_isLooped_7 rfl hl (by decide) rfl (fun ls hl => ?_)
  refine lv_iconst (v := (0 : Int32)) hx hb d_Md_isLooped_8 (by decide) ?_
  refine lv_istore_n (lv' := [(3, .int (0 : Int32)), (2, .int q1.1), (0, .ref (a 0)), (1, .int x1)]) hx hb d_Md_isLooped_9 rfl hl (by decide) rfl (fun ls hl => ?_)
  exact s_Md_isLooped_10 C hmv hRf hRl hret pv_fu (lv_sub hl [2, 3, 1, 0] rfl) hP hS hf
def f_Md_isLooped (σ : pv_S) (x1 : Int32) : Option (Int32 × pv_S) := f_Md_isLooped_0 σ x1
def rm_Md_isLooped : Room := { frames := 2, cells := 0, slots := 0, locals := 47 }
theorem c_Md_isLooped {l : Launch} {D : va_G} {q : Nat → ClassId} {a : Nat → Nat} {A : Nat → Prop} (hD : pv_D 36 a A) (hmv : pv_mv A (pv_ZM)) {σ : pv_S} {x1 : Int32} {out : (Int32 × pv_S)} (hf : f_Md_isLooped σ x1 = some out) : pv_Mi l y_Md_isLooped (Cond.code y_Md_isLooped prog_9_method_27_code 4 (some .boolean) :: pv_TB) rm_Md_isLooped D pv_cl (pv_ty q) 36 a (pv_FM q a) A (pv_ZM) [.ref (a 0), .int x1] σ out :=
  pv_ofZ (by decide) (Nat.le_of_ble_eq_true rfl) hD (fun p e s m args below meth c Q ls C hret hl hP => s_Md_isLooped_0 C hmv (Nat.le_refl _) (Nat.le_refl _) hret hl hP va_S.rf hf)
theorem d_Md_has_0 : decode prog_9_method_28_code 0 = .ok (.iload_n 1, 1) := by decide +kernel
theorem d_Md_has_1 : decode prog_9_method_28_code 1 = .ok (.tableswitch 69 (2) (5) #[51, 31, 57, 63], 31) := by decide +kernel
theorem d_Md_has_32 : decode prog_9_method_28_code 32 = .ok (.aload_n 0, 1) := by decide +kernel
theorem d_Md_has_33 : decode prog_9_method_28_code 33 = .ok (.aload_n 0, 1) := by decide +kernel
theorem d_Md_has_34 : decode prog_9_method_28_code 34 = .ok (.getfield 19, 3) := by decide +kernel
theorem d_Md_has_37 : decode prog_9_method_28_code 37 = .ok (.iload_n 2, 1) := by decide +kernel
theorem d_Md_has_38 : decode prog_9_method_28_code 38 = .ok (.iaload, 1) := by decide +kernel
theorem d_Md_has_39 : decode prog_9_method_28_code 39 = .ok (.invokevirtual 200, 3) := by decide +kernel
theorem d_Md_has_42 : decode prog_9_method_28_code 42 = .ok (.iload_n 2, 1) := by decide +kernel
theorem d_Md_has_43 : decode prog_9_method_28_code 43 = .ok (.if_icmp .ge 7, 3) := by decide +kernel
theorem d_Md_has_46 : decode prog_9_method_28_code 46 = .ok (.iconst 1, 1) := by decide +kernel
theorem d_Md_has_47 : decode prog_9_method_28_code 47 = .ok (.goto 4, 3) := by decide +kernel
theorem d_Md_has_50 : decode prog_9_method_28_code 50 = .ok (.iconst 0, 1) := by decide +kernel
theorem d_Md_has_51 : decode prog_9_method_28_code 51 = .ok (.ireturn, 1) := by decide +kernel
theorem d_Md_has_52 : decode prog_9_method_28_code 52 = .ok (.aload_n 0, 1) := by decide +kernel
theorem d_Md_has_53 : decode prog_9_method_28_code 53 = .ok (.iload_n 2, 1) := by decide +kernel
theorem d_Md_has_54 : decode prog_9_method_28_code 54 = .ok (.invokevirtual 207, 3) := by decide +kernel
theorem d_Md_has_57 : decode prog_9_method_28_code 57 = .ok (.ireturn, 1) := by decide +kernel
theorem d_Md_has_58 : decode prog_9_method_28_code 58 = .ok (.aload_n 0, 1) := by decide +kernel
theorem d_Md_has_59 : decode prog_9_method_28_code 59 = .ok (.iload_n 2, 1) := by decide +kernel
theorem d_Md_has_60 : decode prog_9_method_28_code 60 = .ok (.invokevirtual 210, 3) := by decide +kernel
theorem d_Md_has_63 : decode prog_9_method_28_code 63 = .ok (.ireturn, 1) := by decide +kernel
theorem d_Md_has_64 : decode prog_9_method_28_code 64 = .ok (.aload_n 0, 1) := by decide +kernel
theorem d_Md_has_65 : decode prog_9_method_28_code 65 = .ok (.iload_n 2, 1) := by decide +kernel
theorem d_Md_has_66 : decode prog_9_method_28_code 66 = .ok (.invokevirtual 213, 3) := by decide +kernel
theorem d_Md_has_69 : decode prog_9_method_28_code 69 = .ok (.ireturn, 1) := by decide +kernel
theorem d_Md_has_70 : decode prog_9_method_28_code 70 = .ok (.aload_n 0, 1) := by decide +kernel
theorem d_Md_has_71 : decode prog_9_method_28_code 71 = .ok (.iload_n 2, 1) := by decide +kernel
theorem d_Md_has_72 : decode prog_9_method_28_code 72 = .ok (.invokevirtual 216, 3) := by decide +kernel
theorem d_Md_has_75 : decode prog_9_method_28_code 75 = .ok (.ireturn, 1) := by decide +kernel
def f_Md_has_0 (σ : pv_S) (x1 : Int32) (x2 : Int32) : Option (Int32 × pv_S) :=
  (if x1 = (2 : Int32) then
  ((f_Md_lacksName σ x2).bind fun q1 =>
(if pv_z q1.1 = true then
some (q1.1, q1.2)
  else none))
  else
(if x1 = (3 : Int32) then
  (if pv_in x2 40 = true then
((f_Md_moduleOf σ (σ.1 4 (x2).toNatClampNeg)).bind fun q2 =>
(if x2 ≤ q2.1 then
  some ((0 : Int32), q2.2)
  else
  some ((1 : Int32), q2.2)))
  else none)
  else
(if x1 = (4 : Int32) then
  ((f_Md_isMisfit σ x2).bind fun q3 =>
(if pv_z q3.1 = true then
some (q3.1, q3.2)
  else none))
  else
(if x1 = (5 : Int32) then
  ((f_Md_isTooMuch σ x2).bind fun q4 =>
(if pv_z q4.1 = true then
some (q4.1, q4.2)
  else none))
  else
  ((f_Md_isLooped σ x2).bind fun q5 =>
(if pv_z q5.1 = true then
some (q5.1, q5.2)
  else none))))))
set_option maxHeartbeats 4000000 in
set_option maxRecDepth 100000 in
theorem s_Md_has_0 {p : Program} {l : Launch} {e : Env} {R : Room} {s : State} {m : MethodId} {args : Array Value} {below : List Frame} {meth : Method} {c : Code} {Q : State → Prop} {D : va_G} {q : Nat → ClassId} {a : Nat → Nat} {A : Nat → Prop} (C : pv_C p s m args c prog_9_method_28_code 3 "PatchVoicesModel" pv_TB D pv_cl (pv_ty q) 36 a A (pv_ZM)) (hmv : pv_mv A (pv_ZM)) (hRf : 3 ≤ R.frames) (hRl : 70 ≤ R.locals) {out : (Int32 × pv_S)} (hret : pv_Rz p l e R s m args below meth c prog_9_method_28_code D pv_cl 36 a (pv_FM q a) A Q out) {σ : pv_S} {x1 : Int32} {x2 : Int32} {H : Heap} {locs : List Loc} {ls : Array Slot} (hl : lv_has ls 3 [(0, .ref (a 0)), (1, .int x1), (2, .int x2)]) (hP : pv_W D pv_cl 36 a (pv_FM q a) σ H) (hS : va_S A s.heap H locs) (hf : f_Md_has_0 σ x1 x2 = some out) : W p l e R s m args below meth c H locs 0 0 Q (F0 m 0 ls []) := by
  unfold f_Md_has_0 at hf
  have hx := C.1
  have hb := C.2.1
  refine lv_iload_n hx hb d_Md_has_0 rfl (lv_at hl 1 rfl) ?_
  by_cases h2 : x1 = (2 : Int32)
  · have hf := pv_t hf h2
    refine lv_tableIn (tgt := 52) hx hb d_Md_has_1 (by rw [h2]; decide) (by rw [h2]; decide) (by first | (rw [h2]; done) | (rw [h2]; rfl)) (by decide) ?_
    refine lv_aload_n hx hb d_Md_has_52 rfl (lv_at hl 0 rfl) ?_
    refine lv_iload_n hx hb d_Md_has_53 rfl (lv_at hl 2 rfl) ?_
    obtain ⟨q1, hc, hf⟩ := pv_b hf
    refine pv_callVi C hmv pv_good hP hS (As := [.int x2]) (rest := []) (by decide) (fm_0 _ _ _ _) rfl (c_Md_lacksName C.2.2.2.2.2.2.1 hmv hc) cv_Md_207 ⟨rfl, rfl, Nat.le_trans (Nat.le_of_ble_eq_true rfl) hRf, Nat.le_trans (Nat.le_of_ble_eq_true rfl) hRl⟩ rfl hl.1 rfl (Nat.le_of_ble_eq_true rfl) d_Md_has_54 ⟨Nat.zero_le _, Nat.zero_le _⟩ (fun H locs hP hS => ?_)
    obtain ⟨hg, hf⟩ := pv_g hf
    obtain rfl := Option.some.inj hf
    exact hret _ _ _ _ d_Md_has_57 hg hP hS
  · have hf := pv_f hf h2
    by_cases h3 : x1 = (3 : Int32)
    · have hf := pv_t hf h3
      refine lv_tableIn (tgt := 32) hx hb d_Md_has_1 (by rw [h3]; decide) (by rw [h3]; decide) (by first | (rw [h3]; done) | (rw [h3]; rfl)) (by decide) ?_
      refine lv_aload_n hx hb d_Md_has_32 rfl (lv_at hl 0 rfl) ?_
      refine lv_aload_n hx hb d_Md_has_33 rfl (lv_at hl 0 rfl) ?_
      refine pv_get C hP (v := .ref (a 4)) (j := 6) (by decide) (fm_0 _ _ _ _) fl_Md_19 rfl d_Md_has_34 ?_
      refine lv_iload_n hx hb d_Md_has_37 rfl (lv_at hl 2 rfl) ?_
      obtain ⟨hg, hf⟩ := pv_g hf
      refine pv_iald C hP (t0 := 0) (by decide) (fm_4 _ _ _ _) rfl hg d_Md_has_38 ?_
      obtain ⟨q2, hc, hf⟩ := pv_b hf
      refine pv_callVi C hmv pv_good hP hS (As := [.int (σ.1 4 (x2).toNatClampNeg)]) (rest := []) (by decide) (fm_0 _ _ _ _) rfl (c_Md_moduleOf C.2.2.2.2.2.2.1 hmv hc) cv_Md_200 ⟨rfl, rfl, Nat.le_trans (Nat.le_of_ble_eq_true rfl) hRf, Nat.le_trans (Nat.le_of_ble_eq_true rfl) hRl⟩ rfl hl.1 rfl (Nat.le_of_ble_eq_true rfl) d_Md_has_39 ⟨Nat.zero_le _, Nat.zero_le _⟩ (fun H locs hP hS => ?_)
      refine lv_iload_n hx hb d_Md_has_42 rfl (lv_at hl 2 rfl) ?_
      refine lv_icmp_ge (tgt := 50) hx hb d_Md_has_43 (by decide) (fun h => ?_) (fun h => ?_)
      · have hf := pv_t hf h
        refine lv_iconst (v := (0 : Int32)) hx hb d_Md_has_50 (by decide) ?_
        obtain rfl := Option.some.inj hf
        exact hret _ _ _ _ d_Md_has_51 rfl hP hS
      · have hf := pv_f hf h
        refine lv_iconst (v := (1 : Int32)) hx hb d_Md_has_46 (by decide) ?_
        refine lv_goto (tgt := 51) hx hb d_Md_has_47 (by decide) ?_
        obtain rfl := Option.some.inj hf
        exact hret _ _ _ _ d_Md_has_51 rfl hP hS
    · have hf := pv_f hf h3
      by_cases h4 : x1 = (4 : Int32)
      · have hf := pv_t hf h4
        refine lv_tableIn (tgt := 58) hx hb d_Md_has_1 (by rw [h4]; decide) (by rw [h4]; decide) (by first | (rw [h4]; done) | (rw [h4]; rfl)) (by decide) ?_
        refine lv_aload_n hx hb d_Md_has_58 rfl (lv_at hl 0 rfl) ?_
        refine lv_iload_n hx hb d_Md_has_59 rfl (lv_at hl 2 rfl) ?_
        obtain ⟨q3, hc, hf⟩ := pv_b hf
        refine pv_callVi C hmv pv_good hP hS (As := [.int x2]) (rest := []) (by decide) (fm_0 _ _ _ _) rfl (c_Md_isMisfit C.2.2.2.2.2.2.1 hmv hc) cv_Md_210 ⟨rfl, rfl, Nat.le_trans (Nat.le_of_ble_eq_true rfl) hRf, Nat.le_trans (Nat.le_of_ble_eq_true rfl) hRl⟩ rfl hl.1 rfl (Nat.le_of_ble_eq_true rfl) d_Md_has_60 ⟨Nat.zero_le _, Nat.zero_le _⟩ (fun H locs hP hS => ?_)
        obtain ⟨hg, hf⟩ := pv_g hf
        obtain rfl := Option.some.inj hf
        exact hret _ _ _ _ d_Md_has_63 hg hP hS
      · have hf := pv_f hf h4
        by_cases h5 : x1 = (5 : Int32)
        · have hf := pv_t hf h5
          refine lv_tableIn (tgt := 64) hx hb d_Md_has_1 (by rw [h5]; decide) (by rw [h5]; decide) (by first | (rw [h5]; done) | (rw [h5]; rfl)) (by decide) ?_
          refine lv_aload_n hx hb d_Md_has_64 rfl (lv_at hl 0 rfl) ?_
          refine lv_iload_n hx hb d_Md_has_65 rfl (lv_at hl 2 rfl) ?_
          obtain ⟨q4, hc, hf⟩ := pv_b hf
          refine pv_callVi C hmv pv_good hP hS (As := [.int x2]) (rest := []) (by decide) (fm_0 _ _ _ _) rfl (c_Md_isTooMuch C.2.2.2.2.2.2.1 hmv hc) cv_Md_213 ⟨rfl, rfl, Nat.le_trans (Nat.le_of_ble_eq_true rfl) hRf, Nat.le_trans (Nat.le_of_ble_eq_true rfl) hRl⟩ rfl hl.1 rfl (Nat.le_of_ble_eq_true rfl) d_Md_has_66 ⟨Nat.zero_le _, Nat.zero_le _⟩ (fun H locs hP hS => ?_)
          obtain ⟨hg, hf⟩ := pv_g hf
          obtain rfl := Option.some.inj hf
          exact hret _ _ _ _ d_Md_has_69 hg hP hS
        · have hf := pv_f hf h5
          refine lv_tableOut (tgt := 70) hx hb d_Md_has_1 (by have z0 := lv_neT h2 (a := 2) (by decide); have z1 := lv_neT h3 (a := 3) (by decide); have z2 := lv_neT h4 (a := 4) (by decide); have z3 := lv_neT h5 (a := 5) (by decide); omega) (by decide) ?_
          refine lv_aload_n hx hb d_Md_has_70 rfl (lv_at hl 0 rfl) ?_
          refine lv_iload_n hx hb d_Md_has_71 rfl (lv_at hl 2 rfl) ?_
          obtain ⟨q5, hc, hf⟩ := pv_b hf
          refine pv_callVi C hmv pv_good hP hS (As := [.int x2]) (rest := []) (by decide) (fm_0 _ _ _ _) rfl (c_Md_isLooped C.2.2.2.2.2.2.1 hmv hc) cv_Md_216 ⟨rfl, rfl, Nat.le_trans (Nat.le_of_ble_eq_true rfl) hRf, Nat.le_trans (Nat.le_of_ble_eq_true rfl) hRl⟩ rfl hl.1 rfl (Nat.le_of_ble_eq_true rfl) d_Md_has_72 ⟨Nat.zero_le _, Nat.zero_le _⟩ (fun H locs hP hS => ?_)
          obtain ⟨hg, hf⟩ := pv_g hf
          obtain rfl := Option.some.inj hf
          exact hret _ _ _ _ d_Md_has_75 hg hP hS
def f_Md_has (σ : pv_S) (x1 : Int32) (x2 : Int32) : Option (Int32 × pv_S) := f_Md_has_0 σ x1 x2
def rm_Md_has : Room := { frames := 3, cells := 0, slots := 0, locals := 70 }
theorem c_Md_has {l : Launch} {D : va_G} {q : Nat → ClassId} {a : Nat → Nat} {A : Nat → Prop} (hD : pv_D 36 a A) (hmv : pv_mv A (pv_ZM)) {σ : pv_S} {x1 : Int32} {x2 : Int32} {out : (Int32 × pv_S)} (hf : f_Md_has σ x1 x2 = some out) : pv_Mi l y_Md_has (Cond.code y_Md_has prog_9_method_28_code 3 (some .boolean) :: pv_TB) rm_Md_has D pv_cl (pv_ty q) 36 a (pv_FM q a) A (pv_ZM) [.ref (a 0), .int x1, .int x2] σ out :=
  pv_ofZ (by decide) (Nat.le_of_ble_eq_true rfl) hD (fun p e s m args below meth c Q ls C hret hl hP => s_Md_has_0 C hmv (Nat.le_refl _) (Nat.le_refl _) hret hl hP va_S.rf hf)
theorem d_Md_faultOf_0 : decode prog_9_method_29_code 0 = .ok (.iconst 0, 1) := by decide +kernel
theorem d_Md_faultOf_1 : decode prog_9_method_29_code 1 = .ok (.istore_n 1, 1) := by decide +kernel
theorem d_Md_faultOf_2 : decode prog_9_method_29_code 2 = .ok (.iload_n 1, 1) := by decide +kernel
theorem d_Md_faultOf_3 : decode prog_9_method_29_code 3 = .ok (.iconst 5, 1) := by decide +kernel
theorem d_Md_faultOf_4 : decode prog_9_method_29_code 4 = .ok (.if_icmp .ge 78, 3) := by decide +kernel
theorem d_Md_faultOf_7 : decode prog_9_method_29_code 7 = .ok (.iload_n 1, 1) := by decide +kernel
theorem d_Md_faultOf_8 : decode prog_9_method_29_code 8 = .ok (.ifCond .ne 7, 3) := by decide +kernel
theorem d_Md_faultOf_11 : decode prog_9_method_29_code 11 = .ok (.iconst 3, 1) := by decide +kernel
theorem d_Md_faultOf_12 : decode prog_9_method_29_code 12 = .ok (.goto 31, 3) := by decide +kernel
theorem d_Md_faultOf_15 : decode prog_9_method_29_code 15 = .ok (.iload_n 1, 1) := by decide +kernel
theorem d_Md_faultOf_16 : decode prog_9_method_29_code 16 = .ok (.iconst 1, 1) := by decide +kernel
theorem d_Md_faultOf_17 : decode prog_9_method_29_code 17 = .ok (.if_icmp .ne 7, 3) := by decide +kernel
theorem d_Md_faultOf_20 : decode prog_9_method_29_code 20 = .ok (.iconst 2, 1) := by decide +kernel
theorem d_Md_faultOf_21 : decode prog_9_method_29_code 21 = .ok (.goto 22, 3) := by decide +kernel
theorem d_Md_faultOf_24 : decode prog_9_method_29_code 24 = .ok (.iload_n 1, 1) := by decide +kernel
theorem d_Md_faultOf_25 : decode prog_9_method_29_code 25 = .ok (.iconst 2, 1) := by decide +kernel
theorem d_Md_faultOf_26 : decode prog_9_method_29_code 26 = .ok (.if_icmp .ne 7, 3) := by decide +kernel
theorem d_Md_faultOf_29 : decode prog_9_method_29_code 29 = .ok (.iconst 4, 1) := by decide +kernel
theorem d_Md_faultOf_30 : decode prog_9_method_29_code 30 = .ok (.goto 13, 3) := by decide +kernel
theorem d_Md_faultOf_33 : decode prog_9_method_29_code 33 = .ok (.iload_n 1, 1) := by decide +kernel
theorem d_Md_faultOf_34 : decode prog_9_method_29_code 34 = .ok (.iconst 3, 1) := by decide +kernel
theorem d_Md_faultOf_35 : decode prog_9_method_29_code 35 = .ok (.if_icmp .ne 7, 3) := by decide +kernel
theorem d_Md_faultOf_38 : decode prog_9_method_29_code 38 = .ok (.iconst 5, 1) := by decide +kernel
theorem d_Md_faultOf_39 : decode prog_9_method_29_code 39 = .ok (.goto 4, 3) := by decide +kernel
theorem d_Md_faultOf_42 : decode prog_9_method_29_code 42 = .ok (.iconst 1, 1) := by decide +kernel
theorem d_Md_faultOf_43 : decode prog_9_method_29_code 43 = .ok (.istore_n 2, 1) := by decide +kernel
theorem d_Md_faultOf_44 : decode prog_9_method_29_code 44 = .ok (.iconst 0, 1) := by decide +kernel
theorem d_Md_faultOf_45 : decode prog_9_method_29_code 45 = .ok (.istore_n 3, 1) := by decide +kernel
theorem d_Md_faultOf_46 : decode prog_9_method_29_code 46 = .ok (.iload_n 3, 1) := by decide +kernel
theorem d_Md_faultOf_47 : decode prog_9_method_29_code 47 = .ok (.aload_n 0, 1) := by decide +kernel
theorem d_Md_faultOf_48 : decode prog_9_method_29_code 48 = .ok (.getfield 144, 3) := by decide +kernel
theorem d_Md_faultOf_51 : decode prog_9_method_29_code 51 = .ok (.if_icmp .ge 25, 3) := by decide +kernel
theorem d_Md_faultOf_54 : decode prog_9_method_29_code 54 = .ok (.aload_n 0, 1) := by decide +kernel
theorem d_Md_faultOf_55 : decode prog_9_method_29_code 55 = .ok (.iload_n 2, 1) := by decide +kernel
theorem d_Md_faultOf_56 : decode prog_9_method_29_code 56 = .ok (.iload_n 3, 1) := by decide +kernel
theorem d_Md_faultOf_57 : decode prog_9_method_29_code 57 = .ok (.invokevirtual 219, 3) := by decide +kernel
theorem d_Md_faultOf_60 : decode prog_9_method_29_code 60 = .ok (.ifCond .eq 10, 3) := by decide +kernel
theorem d_Md_faultOf_63 : decode prog_9_method_29_code 63 = .ok (.aload_n 0, 1) := by decide +kernel
theorem d_Md_faultOf_64 : decode prog_9_method_29_code 64 = .ok (.iload_n 3, 1) := by decide +kernel
theorem d_Md_faultOf_65 : decode prog_9_method_29_code 65 = .ok (.putfield 34, 3) := by decide +kernel
theorem d_Md_faultOf_68 : decode prog_9_method_29_code 68 = .ok (.iload_n 2, 1) := by decide +kernel
theorem d_Md_faultOf_69 : decode prog_9_method_29_code 69 = .ok (.ireturn, 1) := by decide +kernel
theorem d_Md_faultOf_70 : decode prog_9_method_29_code 70 = .ok (.iinc 3 1, 3) := by decide +kernel
theorem d_Md_faultOf_73 : decode prog_9_method_29_code 73 = .ok (.goto (-27), 3) := by decide +kernel
theorem d_Md_faultOf_76 : decode prog_9_method_29_code 76 = .ok (.iinc 1 1, 3) := by decide +kernel
theorem d_Md_faultOf_79 : decode prog_9_method_29_code 79 = .ok (.goto (-77), 3) := by decide +kernel
theorem d_Md_faultOf_82 : decode prog_9_method_29_code 82 = .ok (.iconst 0, 1) := by decide +kernel
theorem d_Md_faultOf_83 : decode prog_9_method_29_code 83 = .ok (.ireturn, 1) := by decide +kernel
def f_Md_faultOf_46b (k_2 : pv_S → Int32 → Option (Int32 × pv_S)) (k_46 : pv_S → Int32 → Int32 → Int32 → Option (Int32 × pv_S)) (σ : pv_S) (x1 : Int32) (x2 : Int32) (x3 : Int32) : Option (Int32 × pv_S) :=
  (if (σ.1 0 5) ≤ x3 then
  k_2 σ (x1 + (1 : Int32))
  else
  ((f_Md_has σ x2 x3).bind fun q1 =>
(if q1.1 = 0 then
  k_46 q1.2 x1 x2 (x3 + (1 : Int32))
  else
  some (x2, (pv_uI q1.2 0 15 x3)))))
set_option maxHeartbeats 4000000 in
set_option maxRecDepth 100000 in
theorem s_Md_faultOf_46b {p : Program} {l : Launch} {e : Env} {R : Room} {s : State} {m : MethodId} {args : Array Value} {below : List Frame} {meth : Method} {c : Code} {Q : State → Prop} {D : va_G} {q : Nat → ClassId} {a : Nat → Nat} {A : Nat → Prop} (C : pv_C p s m args c prog_9_method_29_code 4 "PatchVoicesModel" pv_TB D pv_cl (pv_ty q) 36 a A (pv_ZM)) (hmv : pv_mv A (pv_ZM)) (hRf : 4 ≤ R.frames) (hRl : 92 ≤ R.locals) {out : (Int32 × pv_S)} (hret : pv_Ri p l e R s m args below meth c prog_9_method_29_code D pv_cl 36 a (pv_FM q a) A Q out) {k_2 : pv_S → Int32 → Option (Int32 × pv_S)} (hk_2 : ∀ (σ : pv_S) (x1 : Int32) (H : Heap) (locs : List Loc) (ls : Array Slot), k_2 σ x1 = some out → lv_has ls 4 [(0, .ref (a 0)), (1, .int x1)] → pv_W D pv_cl 36 a (pv_FM q a) σ H → va_S A s.heap H locs → W p l e R s m args below meth c H locs 0 0 Q (F0 m 2 ls [])) {k_46 : pv_S → Int32 → Int32 → Int32 → Option (Int32 × pv_S)} (hk_46 : ∀ (σ : pv_S) (x1 : Int32) (x2 : Int32) (x3 : Int32) (H : Heap) (locs : List Loc) (ls : Array Slot), k_46 σ x1 x2 x3 = some out → lv_has ls 4 [(0, .ref (a 0)), (1, .int x1), (2, .int x2), (3, .int x3)] → pv_W D pv_cl 36 a (pv_FM q a) σ H → va_S A s.heap H locs → W p l e R s m args below meth c H locs 0 0 Q (F0 m 46 ls [])) {σ : pv_S} {x1 : Int32} {x2 : Int32} {x3 : Int32} {H : Heap} {locs : List Loc} {ls : Array Slot} (hl : lv_has ls 4 [(0, .ref (a 0)), (1, .int x1), (2, .int x2), (3, .int x3)]) (hP : pv_W D pv_cl 36 a (pv_FM q a) σ H) (hS : va_S A s.heap H locs) (hf : f_Md_faultOf_46b k_2 k_46 σ x1 x2 x3 = some out) : W p l e R s m args below meth c H locs 0 0 Q (F0 m 46 ls []) := by
  unfold f_Md_faultOf_46b at hf
  have hx := C.1
  have hb := C.2.1
  refine lv_iload_n hx hb d_Md_faultOf_46 rfl (lv_at hl 3 rfl) ?_
  refine lv_aload_n hx hb d_Md_faultOf_47 rfl (lv_at hl 0 rfl) ?_
  refine pv_get C hP (v := .int (σ.1 0 5)) (j := 5) (by decide) (fm_0 _ _ _ _) fl_Md_144 rfl d_Md_faultOf_48 ?_
  refine lv_icmp_ge (tgt := 76) hx hb d_Md_faultOf_51 (by decide) (fun h => ?_) (fun h => ?_)
  · have hf := pv_t hf h
    refine lv_iinc (k := 1) (v := (x1 + (1 : Int32))) (lv' := [(1, .int (x1 + (1 : Int32))), (0, .ref (a 0)), (2, .int x2), (3, .int x3)]) hx hb d_Md_faultOf_76 hl rfl (pv_inc (by decide)) (by decide) rfl (fun ls hl => ?_)
    refine lv_goto (tgt := 2) hx hb d_Md_faultOf_79 (by decide) ?_
    exact hk_2 _ _ _ _ _ hf (lv_sub hl [1, 0] rfl) hP hS
  · have hf := pv_f hf h
    refine lv_aload_n hx hb d_Md_faultOf_54 rfl (lv_at hl 0 rfl) ?_
    refine lv_iload_n hx hb d_Md_faultOf_55 rfl (lv_at hl 2 rfl) ?_
    refine lv_iload_n hx hb d_Md_faultOf_56 rfl (lv_at hl 3 rfl) ?_
    obtain ⟨q1, hc, hf⟩ := pv_b hf
    refine pv_callVi C hmv pv_good hP hS (As := [.int x2, .int x3]) (rest := []) (by decide) (fm_0 _ _ _ _) rfl (c_Md_has C.2.2.2.2.2.2.1 hmv hc) cv_Md_219 ⟨rfl, rfl, Nat.le_trans (Nat.le_of_ble_eq_true rfl) hRf, Nat.le_trans (Nat.le_of_ble_eq_true rfl) hRl⟩ rfl hl.1 rfl (Nat.le_of_ble_eq_true rfl) d_Md_faultOf_57 ⟨Nat.zero_le _, Nat.zero_le _⟩ (fun H locs hP hS => ?_)
    refine lv_if_eq (tgt := 70) hx hb d_Md_faultOf_60 (by decide) (fun h => ?_) (fun h => ?_)
    · have hf := pv_t hf h
      refine lv_iinc (k := 3) (v := (x3 + (1 : Int32))) (lv' := [(3, .int (x3 + (1 : Int32))), (0, .ref (a 0)), (1, .int x1), (2, .int x2)]) hx hb d_Md_faultOf_70 hl rfl (pv_inc (by decide)) (by decide) rfl (fun ls hl => ?_)
      refine lv_goto (tgt := 46) hx hb d_Md_faultOf_73 (by decide) ?_
      exact hk_46 _ _ _ _ _ _ _ hf (lv_sub hl [1, 2, 3, 0] rfl) hP hS
    · have hf := pv_f hf h
      refine lv_aload_n hx hb d_Md_faultOf_63 rfl (lv_at hl 0 rfl) ?_
      refine lv_iload_n hx hb d_Md_faultOf_64 rfl (lv_at hl 3 rfl) ?_
      refine pv_putI C hP hS (x := x3) (by decide) (fm_0 _ _ _ _) fw_Md_34 rfl rfl (Nat.le_of_ble_eq_true rfl) (fms_0_15 _ _ _ _ _) d_Md_faultOf_65 (fun H locs hP hS => ?_)
      refine lv_iload_n hx hb d_Md_faultOf_68 rfl (lv_at hl 2 rfl) ?_
      obtain rfl := Option.some.inj hf
      exact hret _ _ _ _ d_Md_faultOf_69 hP hS
def f_Md_faultOf_46 (k_2 : pv_S → Int32 → Option (Int32 × pv_S)) : Nat → pv_S → Int32 → Int32 → Int32 → Option (Int32 × pv_S)
  | 0 => fun _ _ _ _ => none
  | n + 1 => f_Md_faultOf_46b k_2 (f_Md_faultOf_46 k_2 n)
set_option maxHeartbeats 4000000 in
theorem s_Md_faultOf_46 {p : Program} {l : Launch} {e : Env} {R : Room} {s : State} {m : MethodId} {args : Array Value} {below : List Frame} {meth : Method} {c : Code} {Q : State → Prop} {D : va_G} {q : Nat → ClassId} {a : Nat → Nat} {A : Nat → Prop} (C : pv_C p s m args c prog_9_method_29_code 4 "PatchVoicesModel" pv_TB D pv_cl (pv_ty q) 36 a A (pv_ZM)) (hmv : pv_mv A (pv_ZM)) (hRf : 4 ≤ R.frames) (hRl : 92 ≤ R.locals) {out : (Int32 × pv_S)} (hret : pv_Ri p l e R s m args below meth c prog_9_method_29_code D pv_cl 36 a (pv_FM q a) A Q out) {k_2 : pv_S → Int32 → Option (Int32 × pv_S)} (hk_2 : ∀ (σ : pv_S) (x1 : Int32) (H : Heap) (locs : List Loc) (ls : Array Slot), k_2 σ x1 = some out → lv_has ls 4 [(0, .ref (a 0)), (1, .int x1)] → pv_W D pv_cl 36 a (pv_FM q a) σ H → va_S A s.heap H locs → W p l e R s m args below meth c H locs 0 0 Q (F0 m 2 ls [])) (n : Nat) : ∀ {σ : pv_S} {x1 : Int32} {x2 : Int32} {x3 : Int32} {H : Heap} {locs : List Loc} {ls : Array Slot}, lv_has ls 4 [(0, .ref (a 0)), (1, .int x1), (2, .int x2), (3, .int x3)] → pv_W D pv_cl 36 a (pv_FM q a) σ H → va_S A s.heap H locs → f_Md_faultOf_46 k_2 n σ x1 x2 x3 = some out → W p l e R s m args below meth c H locs 0 0 Q (F0 m 46 ls []) := by
  induction n with
  | zero => intro σ x1 x2 x3 H locs ls hl hP hS hf; cases hf
  | succ n ih => intro σ x1 x2 x3 H locs ls hl hP hS hf; exact s_Md_faultOf_46b C hmv hRf hRl hret hk_2 (fun σ x1 x2 x3 H locs ls hf hl hP hS => ih hl hP hS hf) hl hP hS hf
def f_Md_faultOf_43 (k_2 : pv_S → Int32 → Option (Int32 × pv_S)) (σ : pv_S) (x1 : Int32) (s0 : Int32) : Option (Int32 × pv_S) :=
  f_Md_faultOf_46 k_2 pv_fu σ x1 s0 (0 : Int32)
set_option maxHeartbeats 4000000 in
set_option maxRecDepth 100000 in
theorem s_Md_faultOf_43 {p : Program} {l : Launch} {e : Env} {R : Room} {s : State} {m : MethodId} {args : Array Value} {below : List Frame} {meth : Method} {c : Code} {Q : State → Prop} {D : va_G} {q : Nat → ClassId} {a : Nat → Nat} {A : Nat → Prop} (C : pv_C p s m args c prog_9_method_29_code 4 "PatchVoicesModel" pv_TB D pv_cl (pv_ty q) 36 a A (pv_ZM)) (hmv : pv_mv A (pv_ZM)) (hRf : 4 ≤ R.frames) (hRl : 92 ≤ R.locals) {out : (Int32 × pv_S)} (hret : pv_Ri p l e R s m args below meth c prog_9_method_29_code D pv_cl 36 a (pv_FM q a) A Q out) {k_2 : pv_S → Int32 → Option (Int32 × pv_S)} (hk_2 : ∀ (σ : pv_S) (x1 : Int32) (H : Heap) (locs : List Loc) (ls : Array Slot), k_2 σ x1 = some out → lv_has ls 4 [(0, .ref (a 0)), (1, .int x1)] → pv_W D pv_cl 36 a (pv_FM q a) σ H → va_S A s.heap H locs → W p l e R s m args below meth c H locs 0 0 Q (F0 m 2 ls [])) {σ : pv_S} {x1 : Int32} {s0 : Int32} {H : Heap} {locs : List Loc} {ls : Array Slot} (hl : lv_has ls 4 [(0, .ref (a 0)), (1, .int x1)]) (hP : pv_W D pv_cl 36 a (pv_FM q a) σ H) (hS : va_S A s.heap H locs) (hf : f_Md_faultOf_43 k_2 σ x1 s0 = some out) : W p l e R s m args below meth c H locs 0 0 Q (F0 m 43 ls [.int s0]) := by
  unfold f_Md_faultOf_43 at hf
  have hx := C.1
  have hb := C.2.1
  refine lv_istore_n (lv' := [(2, .int s0), (0, .ref (a 0)), (1, .int x1)]) hx hb d_Md_faultOf_43 rfl hl (by decide) rfl (fun ls hl => ?_)
  refine lv_iconst (v := (0 : Int32)) hx hb d_Md_faultOf_44 (by decide) ?_
  refine lv_istore_n (lv' := [(3, .int (0 : Int32)), (2, .int s0), (0, .ref (a 0)), (1, .int x1)]) hx hb d_Md_faultOf_45 rfl hl (by decide) rfl (fun ls hl => ?_)
  exact s_Md_faultOf_46 C hmv hRf hRl hret hk_2 pv_fu (lv_sub hl [2, 3, 1, 0] rfl) hP hS hf
def f_Md_faultOf_2b (k_2 : pv_S → Int32 → Option (Int32 × pv_S)) (σ : pv_S) (x1 : Int32) : Option (Int32 × pv_S) :=
  (if (5 : Int32) ≤ x1 then
  some ((0 : Int32), σ)
  else
  (if x1 = 0 then
  f_Md_faultOf_43 k_2 σ x1 (3 : Int32)
  else
  (if x1 = (1 : Int32) then
  f_Md_faultOf_43 k_2 σ x1 (2 : Int32)
  else
  (if x1 = (2 : Int32) then
  f_Md_faultOf_43 k_2 σ x1 (4 : Int32)
  else
  (if x1 = (3 : Int32) then
  f_Md_faultOf_43 k_2 σ x1 (5 : Int32)
  else
  f_Md_faultOf_43 k_2 σ x1 (1 : Int32))))))
set_option maxHeartbeats 4000000 in
set_option maxRecDepth 100000 in
theorem s_Md_faultOf_2b {p : Program} {l : Launch} {e : Env} {R : Room} {s : State} {m : MethodId} {args : Array Value} {below : List Frame} {meth : Method} {c : Code} {Q : State → Prop} {D : va_G} {q : Nat → ClassId} {a : Nat → Nat} {A : Nat → Prop} (C : pv_C p s m args c prog_9_method_29_code 4 "PatchVoicesModel" pv_TB D pv_cl (pv_ty q) 36 a A (pv_ZM)) (hmv : pv_mv A (pv_ZM)) (hRf : 4 ≤ R.frames) (hRl : 92 ≤ R.locals) {out : (Int32 × pv_S)} (hret : pv_Ri p l e R s m args below meth c prog_9_method_29_code D pv_cl 36 a (pv_FM q a) A Q out) {k_2 : pv_S → Int32 → Option (Int32 × pv_S)} (hk_2 : ∀ (σ : pv_S) (x1 : Int32) (H : Heap) (locs : List Loc) (ls : Array Slot), k_2 σ x1 = some out → lv_has ls 4 [(0, .ref (a 0)), (1, .int x1)] → pv_W D pv_cl 36 a (pv_FM q a) σ H → va_S A s.heap H locs → W p l e R s m args below meth c H locs 0 0 Q (F0 m 2 ls [])) {σ : pv_S} {x1 : Int32} {H : Heap} {locs : List Loc} {ls : Array Slot} (hl : lv_has ls 4 [(0, .ref (a 0)), (1, .int x1)]) (hP : pv_W D pv_cl 36 a (pv_FM q a) σ H) (hS : va_S A s.heap H locs) (hf : f_Md_faultOf_2b k_2 σ x1 = some out) : W p l e R s m args below meth c H locs 0 0 Q (F0 m 2 ls []) := by
  unfold f_Md_faultOf_2b at hf
  have hx := C.1
  have hb := C.2.1
  refine lv_iload_n hx hb d_Md_faultOf_2 rfl (lv_at hl 1 rfl) ?_
  refine lv_iconst (v := (5 : Int32)) hx hb d_Md_faultOf_3 (by decide) ?_
  refine lv_icmp_ge (tgt := 82) hx hb d_Md_faultOf_4 (by decide) (fun h => ?_) (fun h => ?_)
  · have hf := pv_t hf h
    refine lv_iconst (v := (0 : Int32)) hx hb d_Md_faultOf_82 (by decide) ?_
    obtain rfl := Option.some.inj hf
    exact hret _ _ _ _ d_Md_faultOf_83 hP hS
  · have hf := pv_f hf h
    refine lv_iload_n hx hb d_Md_faultOf_7 rfl (lv_at hl 1 rfl) ?_
    refine lv_if_ne (tgt := 15) hx hb d_Md_faultOf_8 (by decide) (fun h => ?_) (fun h => ?_)
    · have hf := pv_f hf h
      refine lv_iload_n hx hb d_Md_faultOf_15 rfl (lv_at hl 1 rfl) ?_
      refine lv_iconst (v := (1 : Int32)) hx hb d_Md_faultOf_16 (by decide) ?_
      refine lv_icmp_ne (tgt := 24) hx hb d_Md_faultOf_17 (by decide) (fun h => ?_) (fun h => ?_)
      · have hf := pv_f hf h
        refine lv_iload_n hx hb d_Md_faultOf_24 rfl (lv_at hl 1 rfl) ?_
        refine lv_iconst (v := (2 : Int32)) hx hb d_Md_faultOf_25 (by decide) ?_
        refine lv_icmp_ne (tgt := 33) hx hb d_Md_faultOf_26 (by decide) (fun h => ?_) (fun h => ?_)
        · have hf := pv_f hf h
          refine lv_iload_n hx hb d_Md_faultOf_33 rfl (lv_at hl 1 rfl) ?_
          refine lv_iconst (v := (3 : Int32)) hx hb d_Md_faultOf_34 (by decide) ?_
          refine lv_icmp_ne (tgt := 42) hx hb d_Md_faultOf_35 (by decide) (fun h => ?_) (fun h => ?_)
          · have hf := pv_f hf h
            refine lv_iconst (v := (1 : Int32)) hx hb d_Md_faultOf_42 (by decide) ?_
            exact s_Md_faultOf_43 C hmv hRf hRl hret hk_2 (lv_sub hl [0, 1] rfl) hP hS hf
          · have hf := pv_t hf h
            refine lv_iconst (v := (5 : Int32)) hx hb d_Md_faultOf_38 (by decide) ?_
            refine lv_goto (tgt := 43) hx hb d_Md_faultOf_39 (by decide) ?_
            exact s_Md_faultOf_43 C hmv hRf hRl hret hk_2 (lv_sub hl [0, 1] rfl) hP hS hf
        · have hf := pv_t hf h
          refine lv_iconst (v := (4 : Int32)) hx hb d_Md_faultOf_29 (by decide) ?_
          refine lv_goto (tgt := 43) hx hb d_Md_faultOf_30 (by decide) ?_
          exact s_Md_faultOf_43 C hmv hRf hRl hret hk_2 (lv_sub hl [0, 1] rfl) hP hS hf
      · have hf := pv_t hf h
        refine lv_iconst (v := (2 : Int32)) hx hb d_Md_faultOf_20 (by decide) ?_
        refine lv_goto (tgt := 43) hx hb d_Md_faultOf_21 (by decide) ?_
        exact s_Md_faultOf_43 C hmv hRf hRl hret hk_2 (lv_sub hl [0, 1] rfl) hP hS hf
    · have hf := pv_t hf h
      refine lv_iconst (v := (3 : Int32)) hx hb d_Md_faultOf_11 (by decide) ?_
      refine lv_goto (tgt := 43) hx hb d_Md_faultOf_12 (by decide) ?_
      exact s_Md_faultOf_43 C hmv hRf hRl hret hk_2 (lv_sub hl [0, 1] rfl) hP hS hf
def f_Md_faultOf_2 : Nat → pv_S → Int32 → Option (Int32 × pv_S)
  | 0 => fun _ _ => none
  | n + 1 => f_Md_faultOf_2b (f_Md_faultOf_2 n)
set_option maxHeartbeats 4000000 in
theorem s_Md_faultOf_2 {p : Program} {l : Launch} {e : Env} {R : Room} {s : State} {m : MethodId} {args : Array Value} {below : List Frame} {meth : Method} {c : Code} {Q : State → Prop} {D : va_G} {q : Nat → ClassId} {a : Nat → Nat} {A : Nat → Prop} (C : pv_C p s m args c prog_9_method_29_code 4 "PatchVoicesModel" pv_TB D pv_cl (pv_ty q) 36 a A (pv_ZM)) (hmv : pv_mv A (pv_ZM)) (hRf : 4 ≤ R.frames) (hRl : 92 ≤ R.locals) {out : (Int32 × pv_S)} (hret : pv_Ri p l e R s m args below meth c prog_9_method_29_code D pv_cl 36 a (pv_FM q a) A Q out) (n : Nat) : ∀ {σ : pv_S} {x1 : Int32} {H : Heap} {locs : List Loc} {ls : Array Slot}, lv_has ls 4 [(0, .ref (a 0)), (1, .int x1)] → pv_W D pv_cl 36 a (pv_FM q a) σ H → va_S A s.heap H locs → f_Md_faultOf_2 n σ x1 = some out → W p l e R s m args below meth c H locs 0 0 Q (F0 m 2 ls []) := by
  induction n with
  | zero => intro σ x1 H locs ls hl hP hS hf; cases hf
  | succ n ih => intro σ x1 H locs ls hl hP hS hf; exact s_Md_faultOf_2b C hmv hRf hRl hret (fun σ x1 H locs ls hf hl hP hS => ih hl hP hS hf) hl hP hS hf
def f_Md_faultOf_0 (σ : pv_S) : Option (Int32 × pv_S) :=
  f_Md_faultOf_2 pv_fu σ (0 : Int32)
set_option maxHeartbeats 4000000 in
set_option maxRecDepth 100000 in
theorem s_Md_faultOf_0 {p : Program} {l : Launch} {e : Env} {R : Room} {s : State} {m : MethodId} {args : Array Value} {below : List Frame} {meth : Method} {c : Code} {Q : State → Prop} {D : va_G} {q : Nat → ClassId} {a : Nat → Nat} {A : Nat → Prop} (C : pv_C p s m args c prog_9_method_29_code 4 "PatchVoicesModel" pv_TB D pv_cl (pv_ty q) 36 a A (pv_ZM)) (hmv : pv_mv A (pv_ZM)) (hRf : 4 ≤ R.frames) (hRl : 92 ≤ R.locals) {out : (Int32 × pv_S)} (hret : pv_Ri p l e R s m args below meth c prog_9_method_29_code D pv_cl 36 a (pv_FM q a) A Q out) {σ : pv_S} {H : Heap} {locs : List Loc} {ls : Array Slot} (hl : lv_has ls 4 [(0, .ref (a 0))]) (hP : pv_W D pv_cl 36 a (pv_FM q a) σ H) (hS : va_S A s.heap H locs) (hf : f_Md_faultOf_0 σ = some out) : W p l e R s m args below meth c H locs 0 0 Q (F0 m 0 ls []) := by
  unfold f_Md_faultOf_0 at hf
  have hx := C.1
  have hb := C.2.1
  refine lv_iconst (v := (0 : Int32)) hx hb d_Md_faultOf_0 (by decide) ?_
  refine lv_istore_n (lv' := [(1, .int (0 : Int32)), (0, .ref (a 0))]) hx hb d_Md_faultOf_1 rfl hl (by decide) rfl (fun ls hl => ?_)
  exact s_Md_faultOf_2 C hmv hRf hRl hret pv_fu (lv_sub hl [1, 0] rfl) hP hS hf
def f_Md_faultOf (σ : pv_S) : Option (Int32 × pv_S) := f_Md_faultOf_0 σ
def rm_Md_faultOf : Room := { frames := 4, cells := 0, slots := 0, locals := 92 }
theorem c_Md_faultOf {l : Launch} {D : va_G} {q : Nat → ClassId} {a : Nat → Nat} {A : Nat → Prop} (hD : pv_D 36 a A) (hmv : pv_mv A (pv_ZM)) {σ : pv_S} {out : (Int32 × pv_S)} (hf : f_Md_faultOf σ = some out) : pv_Mi l y_Md_faultOf (Cond.code y_Md_faultOf prog_9_method_29_code 4 (some .int) :: pv_TB) rm_Md_faultOf D pv_cl (pv_ty q) 36 a (pv_FM q a) A (pv_ZM) [.ref (a 0)] σ out :=
  pv_ofI (by decide) (Nat.le_of_ble_eq_true rfl) hD (fun p e s m args below meth c Q ls C hret hl hP => s_Md_faultOf_0 C hmv (Nat.le_refl _) (Nat.le_refl _) hret hl hP va_S.rf hf)
theorem d_Md_take_0 : decode prog_9_method_33_code 0 = .ok (.aload_n 0, 1) := by decide +kernel
theorem d_Md_take_1 : decode prog_9_method_33_code 1 = .ok (.aload_n 0, 1) := by decide +kernel
theorem d_Md_take_2 : decode prog_9_method_33_code 2 = .ok (.getfield 144, 3) := by decide +kernel
theorem d_Md_take_5 : decode prog_9_method_33_code 5 = .ok (.putfield 253, 3) := by decide +kernel
theorem d_Md_take_8 : decode prog_9_method_33_code 8 = .ok (.iconst 0, 1) := by decide +kernel
theorem d_Md_take_9 : decode prog_9_method_33_code 9 = .ok (.istore_n 1, 1) := by decide +kernel
theorem d_Md_take_10 : decode prog_9_method_33_code 10 = .ok (.iconst 0, 1) := by decide +kernel
theorem d_Md_take_11 : decode prog_9_method_33_code 11 = .ok (.istore_n 2, 1) := by decide +kernel
theorem d_Md_take_12 : decode prog_9_method_33_code 12 = .ok (.iload_n 2, 1) := by decide +kernel
theorem d_Md_take_13 : decode prog_9_method_33_code 13 = .ok (.aload_n 0, 1) := by decide +kernel
theorem d_Md_take_14 : decode prog_9_method_33_code 14 = .ok (.getfield 253, 3) := by decide +kernel
theorem d_Md_take_17 : decode prog_9_method_33_code 17 = .ok (.if_icmp .ge 172, 3) := by decide +kernel
theorem d_Md_take_20 : decode prog_9_method_33_code 20 = .ok (.aload_n 0, 1) := by decide +kernel
theorem d_Md_take_21 : decode prog_9_method_33_code 21 = .ok (.getfield 38, 3) := by decide +kernel
theorem d_Md_take_24 : decode prog_9_method_33_code 24 = .ok (.iload_n 2, 1) := by decide +kernel
theorem d_Md_take_25 : decode prog_9_method_33_code 25 = .ok (.aload_n 0, 1) := by decide +kernel
theorem d_Md_take_26 : decode prog_9_method_33_code 26 = .ok (.getfield 22, 3) := by decide +kernel
theorem d_Md_take_29 : decode prog_9_method_33_code 29 = .ok (.iload_n 2, 1) := by decide +kernel
theorem d_Md_take_30 : decode prog_9_method_33_code 30 = .ok (.iaload, 1) := by decide +kernel
theorem d_Md_take_31 : decode prog_9_method_33_code 31 = .ok (.iastore, 1) := by decide +kernel
theorem d_Md_take_32 : decode prog_9_method_33_code 32 = .ok (.aload_n 0, 1) := by decide +kernel
theorem d_Md_take_33 : decode prog_9_method_33_code 33 = .ok (.getfield 41, 3) := by decide +kernel
theorem d_Md_take_36 : decode prog_9_method_33_code 36 = .ok (.iload_n 2, 1) := by decide +kernel
theorem d_Md_take_37 : decode prog_9_method_33_code 37 = .ok (.aload_n 0, 1) := by decide +kernel
theorem d_Md_take_38 : decode prog_9_method_33_code 38 = .ok (.getfield 25, 3) := by decide +kernel
theorem d_Md_take_41 : decode prog_9_method_33_code 41 = .ok (.iload_n 2, 1) := by decide +kernel
theorem d_Md_take_42 : decode prog_9_method_33_code 42 = .ok (.iaload, 1) := by decide +kernel
theorem d_Md_take_43 : decode prog_9_method_33_code 43 = .ok (.iastore, 1) := by decide +kernel
theorem d_Md_take_44 : decode prog_9_method_33_code 44 = .ok (.iconst 4, 1) := by decide +kernel
theorem d_Md_take_45 : decode prog_9_method_33_code 45 = .ok (.iload_n 2, 1) := by decide +kernel
theorem d_Md_take_46 : decode prog_9_method_33_code 46 = .ok (.imul, 1) := by decide +kernel
theorem d_Md_take_47 : decode prog_9_method_33_code 47 = .ok (.istore_n 3, 1) := by decide +kernel
theorem d_Md_take_48 : decode prog_9_method_33_code 48 = .ok (.iload_n 3, 1) := by decide +kernel
theorem d_Md_take_49 : decode prog_9_method_33_code 49 = .ok (.iconst 4, 1) := by decide +kernel
theorem d_Md_take_50 : decode prog_9_method_33_code 50 = .ok (.iload_n 2, 1) := by decide +kernel
theorem d_Md_take_51 : decode prog_9_method_33_code 51 = .ok (.imul, 1) := by decide +kernel
theorem d_Md_take_52 : decode prog_9_method_33_code 52 = .ok (.iconst 4, 1) := by decide +kernel
theorem d_Md_take_53 : decode prog_9_method_33_code 53 = .ok (.iadd, 1) := by decide +kernel
theorem d_Md_take_54 : decode prog_9_method_33_code 54 = .ok (.if_icmp .ge 94, 3) := by decide +kernel
theorem d_Md_take_57 : decode prog_9_method_33_code 57 = .ok (.iload_n 3, 1) := by decide +kernel
theorem d_Md_take_58 : decode prog_9_method_33_code 58 = .ok (.iconst 4, 1) := by decide +kernel
theorem d_Md_take_59 : decode prog_9_method_33_code 59 = .ok (.iload_n 2, 1) := by decide +kernel
theorem d_Md_take_60 : decode prog_9_method_33_code 60 = .ok (.imul, 1) := by decide +kernel
theorem d_Md_take_61 : decode prog_9_method_33_code 61 = .ok (.aload_n 0, 1) := by decide +kernel
theorem d_Md_take_62 : decode prog_9_method_33_code 62 = .ok (.getfield 25, 3) := by decide +kernel
theorem d_Md_take_65 : decode prog_9_method_33_code 65 = .ok (.iload_n 2, 1) := by decide +kernel
theorem d_Md_take_66 : decode prog_9_method_33_code 66 = .ok (.iaload, 1) := by decide +kernel
theorem d_Md_take_67 : decode prog_9_method_33_code 67 = .ok (.iadd, 1) := by decide +kernel
theorem d_Md_take_68 : decode prog_9_method_33_code 68 = .ok (.if_icmp .ge 7, 3) := by decide +kernel
theorem d_Md_take_71 : decode prog_9_method_33_code 71 = .ok (.iconst 1, 1) := by decide +kernel
theorem d_Md_take_72 : decode prog_9_method_33_code 72 = .ok (.goto 4, 3) := by decide +kernel
theorem d_Md_take_75 : decode prog_9_method_33_code 75 = .ok (.iconst 0, 1) := by decide +kernel
theorem d_Md_take_76 : decode prog_9_method_33_code 76 = .ok (.istore 4, 2) := by decide +kernel
theorem d_Md_take_78 : decode prog_9_method_33_code 78 = .ok (.aload_n 0, 1) := by decide +kernel
theorem d_Md_take_79 : decode prog_9_method_33_code 79 = .ok (.getfield 44, 3) := by decide +kernel
theorem d_Md_take_82 : decode prog_9_method_33_code 82 = .ok (.iload_n 3, 1) := by decide +kernel
theorem d_Md_take_83 : decode prog_9_method_33_code 83 = .ok (.iload 4, 2) := by decide +kernel
theorem d_Md_take_85 : decode prog_9_method_33_code 85 = .ok (.ifCond .eq 25, 3) := by decide +kernel
theorem d_Md_take_88 : decode prog_9_method_33_code 88 = .ok (.aload_n 0, 1) := by decide +kernel
theorem d_Md_take_89 : decode prog_9_method_33_code 89 = .ok (.getfield 28, 3) := by decide +kernel
theorem d_Md_take_92 : decode prog_9_method_33_code 92 = .ok (.iload_n 3, 1) := by decide +kernel
theorem d_Md_take_93 : decode prog_9_method_33_code 93 = .ok (.iaload, 1) := by decide +kernel
theorem d_Md_take_94 : decode prog_9_method_33_code 94 = .ok (.ifCond .eq 16, 3) := by decide +kernel
theorem d_Md_take_97 : decode prog_9_method_33_code 97 = .ok (.aload_n 0, 1) := by decide +kernel
theorem d_Md_take_98 : decode prog_9_method_33_code 98 = .ok (.aload_n 0, 1) := by decide +kernel
theorem d_Md_take_99 : decode prog_9_method_33_code 99 = .ok (.getfield 28, 3) := by decide +kernel
theorem d_Md_take_102 : decode prog_9_method_33_code 102 = .ok (.iload_n 3, 1) := by decide +kernel
theorem d_Md_take_103 : decode prog_9_method_33_code 103 = .ok (.iaload, 1) := by decide +kernel
theorem d_Md_take_104 : decode prog_9_method_33_code 104 = .ok (.invokevirtual 200, 3) := by decide +kernel
theorem d_Md_take_107 : decode prog_9_method_33_code 107 = .ok (.goto 4, 3) := by decide +kernel
theorem d_Md_take_110 : decode prog_9_method_33_code 110 = .ok (.iconst (-1), 1) := by decide +kernel
theorem d_Md_take_111 : decode prog_9_method_33_code 111 = .ok (.iastore, 1) := by decide +kernel
theorem d_Md_take_112 : decode prog_9_method_33_code 112 = .ok (.aload_n 0, 1) := by decide +kernel
theorem d_Md_take_113 : decode prog_9_method_33_code 113 = .ok (.getfield 47, 3) := by decide +kernel
theorem d_Md_take_116 : decode prog_9_method_33_code 116 = .ok (.iload_n 3, 1) := by decide +kernel
theorem d_Md_take_117 : decode prog_9_method_33_code 117 = .ok (.iload 4, 2) := by decide +kernel
theorem d_Md_take_119 : decode prog_9_method_33_code 119 = .ok (.ifCond .eq 21, 3) := by decide +kernel
theorem d_Md_take_122 : decode prog_9_method_33_code 122 = .ok (.aload_n 0, 1) := by decide +kernel
theorem d_Md_take_123 : decode prog_9_method_33_code 123 = .ok (.getfield 28, 3) := by decide +kernel
theorem d_Md_take_126 : decode prog_9_method_33_code 126 = .ok (.iload_n 3, 1) := by decide +kernel
theorem d_Md_take_127 : decode prog_9_method_33_code 127 = .ok (.iaload, 1) := by decide +kernel
theorem d_Md_take_128 : decode prog_9_method_33_code 128 = .ok (.ifCond .ne 12, 3) := by decide +kernel
theorem d_Md_take_131 : decode prog_9_method_33_code 131 = .ok (.aload_n 0, 1) := by decide +kernel
theorem d_Md_take_132 : decode prog_9_method_33_code 132 = .ok (.getfield 31, 3) := by decide +kernel
theorem d_Md_take_135 : decode prog_9_method_33_code 135 = .ok (.iload_n 3, 1) := by decide +kernel
theorem d_Md_take_136 : decode prog_9_method_33_code 136 = .ok (.iaload, 1) := by decide +kernel
theorem d_Md_take_137 : decode prog_9_method_33_code 137 = .ok (.goto 4, 3) := by decide +kernel
theorem d_Md_take_140 : decode prog_9_method_33_code 140 = .ok (.iconst 0, 1) := by decide +kernel
theorem d_Md_take_141 : decode prog_9_method_33_code 141 = .ok (.iastore, 1) := by decide +kernel
theorem d_Md_take_142 : decode prog_9_method_33_code 142 = .ok (.iinc 3 1, 3) := by decide +kernel
theorem d_Md_take_145 : decode prog_9_method_33_code 145 = .ok (.goto (-97), 3) := by decide +kernel
theorem d_Md_take_148 : decode prog_9_method_33_code 148 = .ok (.aload_n 0, 1) := by decide +kernel
theorem d_Md_take_149 : decode prog_9_method_33_code 149 = .ok (.getfield 53, 3) := by decide +kernel
theorem d_Md_take_152 : decode prog_9_method_33_code 152 = .ok (.iload_n 2, 1) := by decide +kernel
theorem d_Md_take_153 : decode prog_9_method_33_code 153 = .ok (.iload_n 1, 1) := by decide +kernel
theorem d_Md_take_154 : decode prog_9_method_33_code 154 = .ok (.iastore, 1) := by decide +kernel
theorem d_Md_take_155 : decode prog_9_method_33_code 155 = .ok (.aload_n 0, 1) := by decide +kernel
theorem d_Md_take_156 : decode prog_9_method_33_code 156 = .ok (.getfield 38, 3) := by decide +kernel
theorem d_Md_take_159 : decode prog_9_method_33_code 159 = .ok (.iload_n 2, 1) := by decide +kernel
theorem d_Md_take_160 : decode prog_9_method_33_code 160 = .ok (.iaload, 1) := by decide +kernel
theorem d_Md_take_161 : decode prog_9_method_33_code 161 = .ok (.bipush 18, 2) := by decide +kernel
theorem d_Md_take_163 : decode prog_9_method_33_code 163 = .ok (.if_icmp .ne 18, 3) := by decide +kernel
theorem d_Md_take_166 : decode prog_9_method_33_code 166 = .ok (.iload_n 1, 1) := by decide +kernel
theorem d_Md_take_167 : decode prog_9_method_33_code 167 = .ok (.aload_n 0, 1) := by decide +kernel
theorem d_Md_take_168 : decode prog_9_method_33_code 168 = .ok (.getfield 47, 3) := by decide +kernel
theorem d_Md_take_171 : decode prog_9_method_33_code 171 = .ok (.iconst 4, 1) := by decide +kernel
theorem d_Md_take_172 : decode prog_9_method_33_code 172 = .ok (.iload_n 2, 1) := by decide +kernel
theorem d_Md_take_173 : decode prog_9_method_33_code 173 = .ok (.imul, 1) := by decide +kernel
theorem d_Md_take_174 : decode prog_9_method_33_code 174 = .ok (.iconst 1, 1) := by decide +kernel
theorem d_Md_take_175 : decode prog_9_method_33_code 175 = .ok (.iadd, 1) := by decide +kernel
theorem d_Md_take_176 : decode prog_9_method_33_code 176 = .ok (.iaload, 1) := by decide +kernel
theorem d_Md_take_177 : decode prog_9_method_33_code 177 = .ok (.iadd, 1) := by decide +kernel
theorem d_Md_take_178 : decode prog_9_method_33_code 178 = .ok (.goto 4, 3) := by decide +kernel
theorem d_Md_take_181 : decode prog_9_method_33_code 181 = .ok (.iload_n 1, 1) := by decide +kernel
theorem d_Md_take_182 : decode prog_9_method_33_code 182 = .ok (.istore_n 1, 1) := by decide +kernel
theorem d_Md_take_183 : decode prog_9_method_33_code 183 = .ok (.iinc 2 1, 3) := by decide +kernel
theorem d_Md_take_186 : decode prog_9_method_33_code 186 = .ok (.goto (-174), 3) := by decide +kernel
theorem d_Md_take_189 : decode prog_9_method_33_code 189 = .ok (.return_, 1) := by decide +kernel
def f_Md_take_182 (k_12 : pv_S → Int32 → Int32 → Option pv_S) (σ : pv_S) (x2 : Int32) (s0 : Int32) : Option pv_S :=
  k_12 σ s0 (x2 + (1 : Int32))
set_option maxHeartbeats 4000000 in
set_option maxRecDepth 100000 in
theorem s_Md_take_182 {p : Program} {l : Launch} {e : Env} {R : Room} {s : State} {m : MethodId} {args : Array Value} {below : List Frame} {meth : Method} {c : Code} {Q : State → Prop} {D : va_G} {q : Nat → ClassId} {a : Nat → Nat} {A : Nat → Prop} (C : pv_C p s m args c prog_9_method_33_code 5 "PatchVoicesModel" pv_TB D pv_cl (pv_ty q) 36 a A (pv_ZM)) (hmv : pv_mv A (pv_ZM)) (hRf : 1 ≤ R.frames) (hRl : 23 ≤ R.locals) {out : pv_S} (hret : pv_Rv p l e R s m args below meth c prog_9_method_33_code D pv_cl 36 a (pv_FM q a) A Q out) {k_12 : pv_S → Int32 → Int32 → Option pv_S} (hk_12 : ∀ (σ : pv_S) (x1 : Int32) (x2 : Int32) (H : Heap) (locs : List Loc) (ls : Array Slot), k_12 σ x1 x2 = some out → lv_has ls 5 [(0, .ref (a 0)), (1, .int x1), (2, .int x2)] → pv_W D pv_cl 36 a (pv_FM q a) σ H → va_S A s.heap H locs → W p l e R s m args below meth c H locs 0 0 Q (F0 m 12 ls [])) {σ : pv_S} {x2 : Int32} {s0 : Int32} {H : Heap} {locs : List Loc} {ls : Array Slot} (hl : lv_has ls 5 [(0, .ref (a 0)), (2, .int x2)]) (hP : pv_W D pv_cl 36 a (pv_FM q a) σ H) (hS : va_S A s.heap H locs) (hf : f_Md_take_182 k_12 σ x2 s0 = some out) : W p l e R s m args below meth c H locs 0 0 Q (F0 m 182 ls [.int s0]) := by
  unfold f_Md_take_182 at hf
  have hx := C.1
  have hb := C.2.1
  refine lv_istore_n (lv' := [(1, .int s0), (0, .ref (a 0)), (2, .int x2)]) hx hb d_Md_take_182 rfl hl (by decide) rfl (fun ls hl => ?_)
  refine lv_iinc (k := 2) (v := (x2 + (1 : Int32))) (lv' := [(2, .int (x2 + (1 : Int32))), (1, .int s0), (0, .ref (a 0))]) hx hb d_Md_take_183 hl rfl (pv_inc (by decide)) (by decide) rfl (fun ls hl => ?_)
  refine lv_goto (tgt := 12) hx hb d_Md_take_186 (by decide) ?_
  exact hk_12 _ _ _ _ _ _ hf (lv_sub hl [2, 1, 0] rfl) hP hS
def f_Md_take_141 (k_12 : pv_S → Int32 → Int32 → Option pv_S) (k_48 : pv_S → Int32 → Int32 → Int32 → Option pv_S) (σ : pv_S) (x1 : Int32) (x2 : Int32) (x3 : Int32) (s0 : Int32) (s1 : Int32) : Option pv_S :=
  (if pv_in s1 96 = true then
k_48 (pv_uI σ 12 (s1).toNatClampNeg s0) x1 x2 (x3 + (1 : Int32))
  else none)
set_option maxHeartbeats 4000000 in
set_option maxRecDepth 100000 in
theorem s_Md_take_141 {p : Program} {l : Launch} {e : Env} {R : Room} {s : State} {m : MethodId} {args : Array Value} {below : List Frame} {meth : Method} {c : Code} {Q : State → Prop} {D : va_G} {q : Nat → ClassId} {a : Nat → Nat} {A : Nat → Prop} (C : pv_C p s m args c prog_9_method_33_code 5 "PatchVoicesModel" pv_TB D pv_cl (pv_ty q) 36 a A (pv_ZM)) (hmv : pv_mv A (pv_ZM)) (hRf : 1 ≤ R.frames) (hRl : 23 ≤ R.locals) {out : pv_S} (hret : pv_Rv p l e R s m args below meth c prog_9_method_33_code D pv_cl 36 a (pv_FM q a) A Q out) {k_12 : pv_S → Int32 → Int32 → Option pv_S} (hk_12 : ∀ (σ : pv_S) (x1 : Int32) (x2 : Int32) (H : Heap) (locs : List Loc) (ls : Array Slot), k_12 σ x1 x2 = some out → lv_has ls 5 [(0, .ref (a 0)), (1, .int x1), (2, .int x2)] → pv_W D pv_cl 36 a (pv_FM q a) σ H → va_S A s.heap H locs → W p l e R s m args below meth c H locs 0 0 Q (F0 m 12 ls [])) {k_48 : pv_S → Int32 → Int32 → Int32 → Option pv_S} (hk_48 : ∀ (σ : pv_S) (x1 : Int32) (x2 : Int32) (x3 : Int32) (H : Heap) (locs : List Loc) (ls : Array Slot), k_48 σ x1 x2 x3 = some out → lv_has ls 5 [(0, .ref (a 0)), (1, .int x1), (2, .int x2), (3, .int x3)] → pv_W D pv_cl 36 a (pv_FM q a) σ H → va_S A s.heap H locs → W p l e R s m args below meth c H locs 0 0 Q (F0 m 48 ls [])) {σ : pv_S} {x1 : Int32} {x2 : Int32} {x3 : Int32} {s0 : Int32} {s1 : Int32} {H : Heap} {locs : List Loc} {ls : Array Slot} (hl : lv_has ls 5 [(0, .ref (a 0)), (1, .int x1), (2, .int x2), (3, .int x3)]) (hP : pv_W D pv_cl 36 a (pv_FM q a) σ H) (hS : va_S A s.heap H locs) (hf : f_Md_take_141 k_12 k_48 σ x1 x2 x3 s0 s1 = some out) : W p l e R s m args below meth c H locs 0 0 Q (F0 m 141 ls [.int s0, .int s1, .ref (a 12)]) := by
  unfold f_Md_take_141 at hf
  have hx := C.1
  have hb := C.2.1
  obtain ⟨hg, hf⟩ := pv_g hf
  refine pv_iast C hP hS (t0 := 0) (x := s0) (by decide) (fun f g => (fm_12 _ _ f g)) rfl hg d_Md_take_141 (fun H locs hP hS => ?_)
  refine lv_iinc (k := 3) (v := (x3 + (1 : Int32))) (lv' := [(3, .int (x3 + (1 : Int32))), (0, .ref (a 0)), (1, .int x1), (2, .int x2)]) hx hb d_Md_take_142 hl rfl (pv_inc (by decide)) (by decide) rfl (fun ls hl => ?_)
  refine lv_goto (tgt := 48) hx hb d_Md_take_145 (by decide) ?_
  exact hk_48 _ _ _ _ _ _ _ hf (lv_sub hl [1, 2, 3, 0] rfl) hP hS
def f_Md_take_140 (k_12 : pv_S → Int32 → Int32 → Option pv_S) (k_48 : pv_S → Int32 → Int32 → Int32 → Option pv_S) (σ : pv_S) (x1 : Int32) (x2 : Int32) (x3 : Int32) (s0 : Int32) : Option pv_S :=
  f_Md_take_141 k_12 k_48 σ x1 x2 x3 (0 : Int32) s0
set_option maxHeartbeats 4000000 in
set_option maxRecDepth 100000 in
theorem s_Md_take_140 {p : Program} {l : Launch} {e : Env} {R : Room} {s : State} {m : MethodId} {args : Array Value} {below : List Frame} {meth : Method} {c : Code} {Q : State → Prop} {D : va_G} {q : Nat → ClassId} {a : Nat → Nat} {A : Nat → Prop} (C : pv_C p s m args c prog_9_method_33_code 5 "PatchVoicesModel" pv_TB D pv_cl (pv_ty q) 36 a A (pv_ZM)) (hmv : pv_mv A (pv_ZM)) (hRf : 1 ≤ R.frames) (hRl : 23 ≤ R.locals) {out : pv_S} (hret : pv_Rv p l e R s m args below meth c prog_9_method_33_code D pv_cl 36 a (pv_FM q a) A Q out) {k_12 : pv_S → Int32 → Int32 → Option pv_S} (hk_12 : ∀ (σ : pv_S) (x1 : Int32) (x2 : Int32) (H : Heap) (locs : List Loc) (ls : Array Slot), k_12 σ x1 x2 = some out → lv_has ls 5 [(0, .ref (a 0)), (1, .int x1), (2, .int x2)] → pv_W D pv_cl 36 a (pv_FM q a) σ H → va_S A s.heap H locs → W p l e R s m args below meth c H locs 0 0 Q (F0 m 12 ls [])) {k_48 : pv_S → Int32 → Int32 → Int32 → Option pv_S} (hk_48 : ∀ (σ : pv_S) (x1 : Int32) (x2 : Int32) (x3 : Int32) (H : Heap) (locs : List Loc) (ls : Array Slot), k_48 σ x1 x2 x3 = some out → lv_has ls 5 [(0, .ref (a 0)), (1, .int x1), (2, .int x2), (3, .int x3)] → pv_W D pv_cl 36 a (pv_FM q a) σ H → va_S A s.heap H locs → W p l e R s m args below meth c H locs 0 0 Q (F0 m 48 ls [])) {σ : pv_S} {x1 : Int32} {x2 : Int32} {x3 : Int32} {s0 : Int32} {H : Heap} {locs : List Loc} {ls : Array Slot} (hl : lv_has ls 5 [(0, .ref (a 0)), (1, .int x1), (2, .int x2), (3, .int x3)]) (hP : pv_W D pv_cl 36 a (pv_FM q a) σ H) (hS : va_S A s.heap H locs) (hf : f_Md_take_140 k_12 k_48 σ x1 x2 x3 s0 = some out) : W p l e R s m args below meth c H locs 0 0 Q (F0 m 140 ls [.int s0, .ref (a 12)]) := by
  unfold f_Md_take_140 at hf
  have hx := C.1
  have hb := C.2.1
  refine lv_iconst (v := (0 : Int32)) hx hb d_Md_take_140 (by decide) ?_
  exact s_Md_take_141 C hmv hRf hRl hret hk_12 hk_48 (lv_sub hl [0, 1, 2, 3] rfl) hP hS hf
def f_Md_take_111 (k_12 : pv_S → Int32 → Int32 → Option pv_S) (k_48 : pv_S → Int32 → Int32 → Int32 → Option pv_S) (σ : pv_S) (x1 : Int32) (x2 : Int32) (x3 : Int32) (x4 : Int32) (s0 : Int32) (s1 : Int32) : Option pv_S :=
  (if pv_in s1 96 = true then
(if x4 = 0 then
  f_Md_take_140 k_12 k_48 (pv_uI σ 11 (s1).toNatClampNeg s0) x1 x2 x3 x3
  else
  (if pv_in x3 160 = true then
(if ((pv_uI σ 11 (s1).toNatClampNeg s0).1 7 (x3).toNatClampNeg) = 0 then
  (if pv_in x3 160 = true then
f_Md_take_141 k_12 k_48 (pv_uI σ 11 (s1).toNatClampNeg s0) x1 x2 x3 ((pv_uI σ 11 (s1).toNatClampNeg s0).1 8 (x3).toNatClampNeg) x3
  else none)
  else
  f_Md_take_140 k_12 k_48 (pv_uI σ 11 (s1).toNatClampNeg s0) x1 x2 x3 x3)
  else none))
  else none)
set_option maxHeartbeats 4000000 in
set_option maxRecDepth 100000 in
theorem s_Md_take_111 {p : Program} {l : Launch} {e : Env} {R : Room} {s : State} {m : MethodId} {args : Array Value} {below : List Frame} {meth : Method} {c : Code} {Q : State → Prop} {D : va_G} {q : Nat → ClassId} {a : Nat → Nat} {A : Nat → Prop} (C : pv_C p s m args c prog_9_method_33_code 5 "PatchVoicesModel" pv_TB D pv_cl (pv_ty q) 36 a A (pv_ZM)) (hmv : pv_mv A (pv_ZM)) (hRf : 1 ≤ R.frames) (hRl : 23 ≤ R.locals) {out : pv_S} (hret : pv_Rv p l e R s m args below meth c prog_9_method_33_code D pv_cl 36 a (pv_FM q a) A Q out) {k_12 : pv_S → Int32 → Int32 → Option pv_S} (hk_12 : ∀ (σ : pv_S) (x1 : Int32) (x2 : Int32) (H : Heap) (locs : List Loc) (ls : Array Slot), k_12 σ x1 x2 = some out → lv_has ls 5 [(0, .ref (a 0)), (1, .int x1), (2, .int x2)] → pv_W D pv_cl 36 a (pv_FM q a) σ H → va_S A s.heap H locs → W p l e R s m args below meth c H locs 0 0 Q (F0 m 12 ls [])) {k_48 : pv_S → Int32 → Int32 → Int32 → Option pv_S} (hk_48 : ∀ (σ : pv_S) (x1 : Int32) (x2 : Int32) (x3 : Int32) (H : Heap) (locs : List Loc) (ls : Array Slot), k_48 σ x1 x2 x3 = some out → lv_has ls 5 [(0, .ref (a 0)), (1, .int x1), (2, .int x2), (3, .int x3)] → pv_W D pv_cl 36 a (pv_FM q a) σ H → va_S A s.heap H locs → W p l e R s m args below meth c H locs 0 0 Q (F0 m 48 ls [])) {σ : pv_S} {x1 : Int32} {x2 : Int32} {x3 : Int32} {x4 : Int32} {s0 : Int32} {s1 : Int32} {H : Heap} {locs : List Loc} {ls : Array Slot} (hl : lv_has ls 5 [(0, .ref (a 0)), (1, .int x1), (2, .int x2), (3, .int x3), (4, .int x4)]) (hP : pv_W D pv_cl 36 a (pv_FM q a) σ H) (hS : va_S A s.heap H locs) (hf : f_Md_take_111 k_12 k_48 σ x1 x2 x3 x4 s0 s1 = some out) : W p l e R s m args below meth c H locs 0 0 Q (F0 m 111 ls [.int s0, .int s1, .ref (a 11)]) := by
  unfold f_Md_take_111 at hf
  have hx := C.1
  have hb := C.2.1
  obtain ⟨hg, hf⟩ := pv_g hf
  refine pv_iast C hP hS (t0 := 0) (x := s0) (by decide) (fun f g => (fm_11 _ _ f g)) rfl hg d_Md_take_111 (fun H locs hP hS => ?_)
  refine lv_aload_n hx hb d_Md_take_112 rfl (lv_at hl 0 rfl) ?_
  refine pv_get C hP (v := .ref (a 12)) (j := 22) (by decide) (fm_0 _ _ _ _) fl_Md_47 rfl d_Md_take_113 ?_
  refine lv_iload_n hx hb d_Md_take_116 rfl (lv_at hl 3 rfl) ?_
  refine lv_iload hx hb d_Md_take_117 (lv_at hl 4 rfl) ?_
  refine lv_if_eq (tgt := 140) hx hb d_Md_take_119 (by decide) (fun h => ?_) (fun h => ?_)
  · have hf := pv_t hf h
    exact s_Md_take_140 C hmv hRf hRl hret hk_12 hk_48 (lv_sub hl [0, 1, 2, 3] rfl) hP hS hf
  · have hf := pv_f hf h
    refine lv_aload_n hx hb d_Md_take_122 rfl (lv_at hl 0 rfl) ?_
    refine pv_get C hP (v := .ref (a 7)) (j := 9) (by decide) (fm_0 _ _ _ _) fl_Md_28 rfl d_Md_take_123 ?_
    refine lv_iload_n hx hb d_Md_take_126 rfl (lv_at hl 3 rfl) ?_
    obtain ⟨hg, hf⟩ := pv_g hf
    refine pv_iald C hP (t0 := 0) (by decide) (fm_7 _ _ _ _) rfl hg d_Md_take_127 ?_
    refine lv_if_ne (tgt := 140) hx hb d_Md_take_128 (by decide) (fun h => ?_) (fun h => ?_)
    · have hf := pv_f hf h
      exact s_Md_take_140 C hmv hRf hRl hret hk_12 hk_48 (lv_sub hl [0, 1, 2, 3] rfl) hP hS hf
    · have hf := pv_t hf h
      refine lv_aload_n hx hb d_Md_take_131 rfl (lv_at hl 0 rfl) ?_
      refine pv_get C hP (v := .ref (a 8)) (j := 10) (by decide) (fm_0 _ _ _ _) fl_Md_31 rfl d_Md_take_132 ?_
      refine lv_iload_n hx hb d_Md_take_135 rfl (lv_at hl 3 rfl) ?_
      obtain ⟨hg, hf⟩ := pv_g hf
      refine pv_iald C hP (t0 := 0) (by decide) (fm_8 _ _ _ _) rfl hg d_Md_take_136 ?_
      refine lv_goto (tgt := 141) hx hb d_Md_take_137 (by decide) ?_
      exact s_Md_take_141 C hmv hRf hRl hret hk_12 hk_48 (lv_sub hl [0, 1, 2, 3] rfl) hP hS hf
def f_Md_take_110 (k_12 : pv_S → Int32 → Int32 → Option pv_S) (k_48 : pv_S → Int32 → Int32 → Int32 → Option pv_S) (σ : pv_S) (x1 : Int32) (x2 : Int32) (x3 : Int32) (x4 : Int32) (s0 : Int32) : Option pv_S :=
  f_Md_take_111 k_12 k_48 σ x1 x2 x3 x4 (-1 : Int32) s0
set_option maxHeartbeats 4000000 in
set_option maxRecDepth 100000 in
theorem s_Md_take_110 {p : Program} {l : Launch} {e : Env} {R : Room} {s : State} {m : MethodId} {args : Array Value} {below : List Frame} {meth : Method} {c : Code} {Q : State → Prop} {D : va_G} {q : Nat → ClassId} {a : Nat → Nat} {A : Nat → Prop} (C : pv_C p s m args c prog_9_method_33_code 5 "PatchVoicesModel" pv_TB D pv_cl (pv_ty q) 36 a A (pv_ZM)) (hmv : pv_mv A (pv_ZM)) (hRf : 1 ≤ R.frames) (hRl : 23 ≤ R.locals) {out : pv_S} (hret : pv_Rv p l e R s m args below meth c prog_9_method_33_code D pv_cl 36 a (pv_FM q a) A Q out) {k_12 : pv_S → Int32 → Int32 → Option pv_S} (hk_12 : ∀ (σ : pv_S) (x1 : Int32) (x2 : Int32) (H : Heap) (locs : List Loc) (ls : Array Slot), k_12 σ x1 x2 = some out → lv_has ls 5 [(0, .ref (a 0)), (1, .int x1), (2, .int x2)] → pv_W D pv_cl 36 a (pv_FM q a) σ H → va_S A s.heap H locs → W p l e R s m args below meth c H locs 0 0 Q (F0 m 12 ls [])) {k_48 : pv_S → Int32 → Int32 → Int32 → Option pv_S} (hk_48 : ∀ (σ : pv_S) (x1 : Int32) (x2 : Int32) (x3 : Int32) (H : Heap) (locs : List Loc) (ls : Array Slot), k_48 σ x1 x2 x3 = some out → lv_has ls 5 [(0, .ref (a 0)), (1, .int x1), (2, .int x2), (3, .int x3)] → pv_W D pv_cl 36 a (pv_FM q a) σ H → va_S A s.heap H locs → W p l e R s m args below meth c H locs 0 0 Q (F0 m 48 ls [])) {σ : pv_S} {x1 : Int32} {x2 : Int32} {x3 : Int32} {x4 : Int32} {s0 : Int32} {H : Heap} {locs : List Loc} {ls : Array Slot} (hl : lv_has ls 5 [(0, .ref (a 0)), (1, .int x1), (2, .int x2), (3, .int x3), (4, .int x4)]) (hP : pv_W D pv_cl 36 a (pv_FM q a) σ H) (hS : va_S A s.heap H locs) (hf : f_Md_take_110 k_12 k_48 σ x1 x2 x3 x4 s0 = some out) : W p l e R s m args below meth c H locs 0 0 Q (F0 m 110 ls [.int s0, .ref (a 11)]) := by
  unfold f_Md_take_110 at hf
  have hx := C.1
  have hb := C.2.1
  refine lv_iconst (v := (-1 : Int32)) hx hb d_Md_take_110 (by decide) ?_
  exact s_Md_take_111 C hmv hRf hRl hret hk_12 hk_48 (lv_sub hl [0, 1, 2, 3, 4] rfl) hP hS hf
def f_Md_take_76 (k_12 : pv_S → Int32 → Int32 → Option pv_S) (k_48 : pv_S → Int32 → Int32 → Int32 → Option pv_S) (σ : pv_S) (x1 : Int32) (x2 : Int32) (x3 : Int32) (s0 : Int32) : Option pv_S :=
  (if s0 = 0 then
  f_Md_take_110 k_12 k_48 σ x1 x2 x3 s0 x3
  else
  (if pv_in x3 160 = true then
(if (σ.1 7 (x3).toNatClampNeg) = 0 then
  f_Md_take_110 k_12 k_48 σ x1 x2 x3 s0 x3
  else
  (if pv_in x3 160 = true then
((f_Md_moduleOf σ (σ.1 7 (x3).toNatClampNeg)).bind fun q1 =>
f_Md_take_111 k_12 k_48 q1.2 x1 x2 x3 s0 q1.1 x3)
  else none))
  else none))
set_option maxHeartbeats 4000000 in
set_option maxRecDepth 100000 in
theorem s_Md_take_76 {p : Program} {l : Launch} {e : Env} {R : Room} {s : State} {m : MethodId} {args : Array Value} {below : List Frame} {meth : Method} {c : Code} {Q : State → Prop} {D : va_G} {q : Nat → ClassId} {a : Nat → Nat} {A : Nat → Prop} (C : pv_C p s m args c prog_9_method_33_code 5 "PatchVoicesModel" pv_TB D pv_cl (pv_ty q) 36 a A (pv_ZM)) (hmv : pv_mv A (pv_ZM)) (hRf : 1 ≤ R.frames) (hRl : 23 ≤ R.locals) {out : pv_S} (hret : pv_Rv p l e R s m args below meth c prog_9_method_33_code D pv_cl 36 a (pv_FM q a) A Q out) {k_12 : pv_S → Int32 → Int32 → Option pv_S} (hk_12 : ∀ (σ : pv_S) (x1 : Int32) (x2 : Int32) (H : Heap) (locs : List Loc) (ls : Array Slot), k_12 σ x1 x2 = some out → lv_has ls 5 [(0, .ref (a 0)), (1, .int x1), (2, .int x2)] → pv_W D pv_cl 36 a (pv_FM q a) σ H → va_S A s.heap H locs → W p l e R s m args below meth c H locs 0 0 Q (F0 m 12 ls [])) {k_48 : pv_S → Int32 → Int32 → Int32 → Option pv_S} (hk_48 : ∀ (σ : pv_S) (x1 : Int32) (x2 : Int32) (x3 : Int32) (H : Heap) (locs : List Loc) (ls : Array Slot), k_48 σ x1 x2 x3 = some out → lv_has ls 5 [(0, .ref (a 0)), (1, .int x1), (2, .int x2), (3, .int x3)] → pv_W D pv_cl 36 a (pv_FM q a) σ H → va_S A s.heap H locs → W p l e R s m args below meth c H locs 0 0 Q (F0 m 48 ls [])) {σ : pv_S} {x1 : Int32} {x2 : Int32} {x3 : Int32} {s0 : Int32} {H : Heap} {locs : List Loc} {ls : Array Slot} (hl : lv_has ls 5 [(0, .ref (a 0)), (1, .int x1), (2, .int x2), (3, .int x3)]) (hP : pv_W D pv_cl 36 a (pv_FM q a) σ H) (hS : va_S A s.heap H locs) (hf : f_Md_take_76 k_12 k_48 σ x1 x2 x3 s0 = some out) : W p l e R s m args below meth c H locs 0 0 Q (F0 m 76 ls [.int s0]) := by
  unfold f_Md_take_76 at hf
  have hx := C.1
  have hb := C.2.1
  refine lv_istore (lv' := [(4, .int s0), (0, .ref (a 0)), (1, .int x1), (2, .int x2), (3, .int x3)]) hx hb d_Md_take_76 hl (by decide) rfl (fun ls hl => ?_)
  refine lv_aload_n hx hb d_Md_take_78 rfl (lv_at hl 1 rfl) ?_
  refine pv_get C hP (v := .ref (a 11)) (j := 21) (by decide) (fm_0 _ _ _ _) fl_Md_44 rfl d_Md_take_79 ?_
  refine lv_iload_n hx hb d_Md_take_82 rfl (lv_at hl 4 rfl) ?_
  refine lv_iload hx hb d_Md_take_83 (lv_at hl 0 rfl) ?_
  refine lv_if_eq (tgt := 110) hx hb d_Md_take_85 (by decide) (fun h => ?_) (fun h => ?_)
  · have hf := pv_t hf h
    exact s_Md_take_110 C hmv hRf hRl hret hk_12 hk_48 (lv_sub hl [1, 2, 3, 4, 0] rfl) hP hS hf
  · have hf := pv_f hf h
    refine lv_aload_n hx hb d_Md_take_88 rfl (lv_at hl 1 rfl) ?_
    refine pv_get C hP (v := .ref (a 7)) (j := 9) (by decide) (fm_0 _ _ _ _) fl_Md_28 rfl d_Md_take_89 ?_
    refine lv_iload_n hx hb d_Md_take_92 rfl (lv_at hl 4 rfl) ?_
    obtain ⟨hg, hf⟩ := pv_g hf
    refine pv_iald C hP (t0 := 0) (by decide) (fm_7 _ _ _ _) rfl hg d_Md_take_93 ?_
    refine lv_if_eq (tgt := 110) hx hb d_Md_take_94 (by decide) (fun h => ?_) (fun h => ?_)
    · have hf := pv_t hf h
      exact s_Md_take_110 C hmv hRf hRl hret hk_12 hk_48 (lv_sub hl [1, 2, 3, 4, 0] rfl) hP hS hf
    · have hf := pv_f hf h
      refine lv_aload_n hx hb d_Md_take_97 rfl (lv_at hl 1 rfl) ?_
      refine lv_aload_n hx hb d_Md_take_98 rfl (lv_at hl 1 rfl) ?_
      refine pv_get C hP (v := .ref (a 7)) (j := 9) (by decide) (fm_0 _ _ _ _) fl_Md_28 rfl d_Md_take_99 ?_
      refine lv_iload_n hx hb d_Md_take_102 rfl (lv_at hl 4 rfl) ?_
      obtain ⟨hg, hf⟩ := pv_g hf
      refine pv_iald C hP (t0 := 0) (by decide) (fm_7 _ _ _ _) rfl hg d_Md_take_103 ?_
      obtain ⟨q1, hc, hf⟩ := pv_b hf
      refine pv_callVi C hmv pv_good hP hS (As := [.int (σ.1 7 (x3).toNatClampNeg)]) (rest := [.int x3, .ref (a 11)]) (by decide) (fm_0 _ _ _ _) rfl (c_Md_moduleOf C.2.2.2.2.2.2.1 hmv hc) cv_Md_200 ⟨rfl, rfl, Nat.le_trans (Nat.le_of_ble_eq_true rfl) hRf, Nat.le_trans (Nat.le_of_ble_eq_true rfl) hRl⟩ rfl hl.1 rfl (Nat.le_of_ble_eq_true rfl) d_Md_take_104 ⟨Nat.zero_le _, Nat.zero_le _⟩ (fun H locs hP hS => ?_)
      refine lv_goto (tgt := 111) hx hb d_Md_take_107 (by decide) ?_
      exact s_Md_take_111 C hmv hRf hRl hret hk_12 hk_48 (lv_sub hl [1, 2, 3, 4, 0] rfl) hP hS hf
def f_Md_take_48b (k_12 : pv_S → Int32 → Int32 → Option pv_S) (k_48 : pv_S → Int32 → Int32 → Int32 → Option pv_S) (σ : pv_S) (x1 : Int32) (x2 : Int32) (x3 : Int32) : Option pv_S :=
  (if (((4 : Int32) * x2) + (4 : Int32)) ≤ x3 then
  (if pv_in x2 24 = true then
(if pv_in x2 24 = true then
(if ((pv_uI σ 14 (x2).toNatClampNeg x1).1 9 (x2).toNatClampNeg) = (18 : Int32) then
  (if pv_in (((4 : Int32) * x2) + (1 : Int32)) 96 = true then
f_Md_take_182 k_12 (pv_uI σ 14 (x2).toNatClampNeg x1) x2 (x1 + ((pv_uI σ 14 (x2).toNatClampNeg x1).1 12 ((((4 : Int32) * x2) + (1 : Int32))).toNatClampNeg))
  else none)
  else
  f_Md_take_182 k_12 (pv_uI σ 14 (x2).toNatClampNeg x1) x2 x1)
  else none)
  else none)
  else
  (if pv_in x2 40 = true then
(if (((4 : Int32) * x2) + (σ.1 6 (x2).toNatClampNeg)) ≤ x3 then
  f_Md_take_76 k_12 k_48 σ x1 x2 x3 (0 : Int32)
  else
  f_Md_take_76 k_12 k_48 σ x1 x2 x3 (1 : Int32))
  else none))
set_option maxHeartbeats 4000000 in
set_option maxRecDepth 100000 in
theorem s_Md_take_48b {p : Program} {l : Launch} {e : Env} {R : Room} {s : State} {m : MethodId} {args : Array Value} {below : List Frame} {meth : Method} {c : Code} {Q : State → Prop} {D : va_G} {q : Nat → ClassId} {a : Nat → Nat} {A : Nat → Prop} (C : pv_C p s m args c prog_9_method_33_code 5 "PatchVoicesModel" pv_TB D pv_cl (pv_ty q) 36 a A (pv_ZM)) (hmv : pv_mv A (pv_ZM)) (hRf : 1 ≤ R.frames) (hRl : 23 ≤ R.locals) {out : pv_S} (hret : pv_Rv p l e R s m args below meth c prog_9_method_33_code D pv_cl 36 a (pv_FM q a) A Q out) {k_12 : pv_S → Int32 → Int32 → Option pv_S} (hk_12 : ∀ (σ : pv_S) (x1 : Int32) (x2 : Int32) (H : Heap) (locs : List Loc) (ls : Array Slot), k_12 σ x1 x2 = some out → lv_has ls 5 [(0, .ref (a 0)), (1, .int x1), (2, .int x2)] → pv_W D pv_cl 36 a (pv_FM q a) σ H → va_S A s.heap H locs → W p l e R s m args below meth c H locs 0 0 Q (F0 m 12 ls [])) {k_48 : pv_S → Int32 → Int32 → Int32 → Option pv_S} (hk_48 : ∀ (σ : pv_S) (x1 : Int32) (x2 : Int32) (x3 : Int32) (H : Heap) (locs : List Loc) (ls : Array Slot), k_48 σ x1 x2 x3 = some out → lv_has ls 5 [(0, .ref (a 0)), (1, .int x1), (2, .int x2), (3, .int x3)] → pv_W D pv_cl 36 a (pv_FM q a) σ H → va_S A s.heap H locs → W p l e R s m args below meth c H locs 0 0 Q (F0 m 48 ls [])) {σ : pv_S} {x1 : Int32} {x2 : Int32} {x3 : Int32} {H : Heap} {locs : List Loc} {ls : Array Slot} (hl : lv_has ls 5 [(0, .ref (a 0)), (1, .int x1), (2, .int x2), (3, .int x3)]) (hP : pv_W D pv_cl 36 a (pv_FM q a) σ H) (hS : va_S A s.heap H locs) (hf : f_Md_take_48b k_12 k_48 σ x1 x2 x3 = some out) : W p l e R s m args below meth c H locs 0 0 Q (F0 m 48 ls []) := by
  unfold f_Md_take_48b at hf
  have hx := C.1
  have hb := C.2.1
  refine lv_iload_n hx hb d_Md_take_48 rfl (lv_at hl 3 rfl) ?_
  refine lv_iconst (v := (4 : Int32)) hx hb d_Md_take_49 (by decide) ?_
  refine lv_iload_n hx hb d_Md_take_50 rfl (lv_at hl 2 rfl) ?_
  refine lv_imul hx hb d_Md_take_51 ?_
  refine lv_iconst (v := (4 : Int32)) hx hb d_Md_take_52 (by decide) ?_
  refine lv_iadd hx hb d_Md_take_53 ?_
  refine lv_icmp_ge (tgt := 148) hx hb d_Md_take_54 (by decide) (fun h => ?_) (fun h => ?_)
  · have hf := pv_t hf h
    refine lv_aload_n hx hb d_Md_take_148 rfl (lv_at hl 0 rfl) ?_
    refine pv_get C hP (v := .ref (a 14)) (j := 24) (by decide) (fm_0 _ _ _ _) fl_Md_53 rfl d_Md_take_149 ?_
    refine lv_iload_n hx hb d_Md_take_152 rfl (lv_at hl 2 rfl) ?_
    refine lv_iload_n hx hb d_Md_take_153 rfl (lv_at hl 1 rfl) ?_
    obtain ⟨hg, hf⟩ := pv_g hf
    refine pv_iast C hP hS (t0 := 0) (x := x1) (by decide) (fun f g => (fm_14 _ _ f g)) rfl hg d_Md_take_154 (fun H locs hP hS => ?_)
    refine lv_aload_n hx hb d_Md_take_155 rfl (lv_at hl 0 rfl) ?_
    refine pv_get C hP (v := .ref (a 9)) (j := 19) (by decide) (fm_0 _ _ _ _) fl_Md_38 rfl d_Md_take_156 ?_
    refine lv_iload_n hx hb d_Md_take_159 rfl (lv_at hl 2 rfl) ?_
    obtain ⟨hg, hf⟩ := pv_g hf
    refine pv_iald C hP (t0 := 0) (by decide) (fm_9 _ _ _ _) rfl hg d_Md_take_160 ?_
    refine lv_bipush (v := (18 : Int32)) hx hb d_Md_take_161 (by decide) ?_
    refine lv_icmp_ne (tgt := 181) hx hb d_Md_take_163 (by decide) (fun h => ?_) (fun h => ?_)
    · have hf := pv_f hf h
      refine lv_iload_n hx hb d_Md_take_181 rfl (lv_at hl 1 rfl) ?_
      exact s_Md_take_182 C hmv hRf hRl hret hk_12 (lv_sub hl [0, 2] rfl) hP hS hf
    · have hf := pv_t hf h
      refine lv_iload_n hx hb d_Md_take_166 rfl (lv_at hl 1 rfl) ?_
      refine lv_aload_n hx hb d_Md_take_167 rfl (lv_at hl 0 rfl) ?_
      refine pv_get C hP (v := .ref (a 12)) (j := 22) (by decide) (fm_0 _ _ _ _) fl_Md_47 rfl d_Md_take_168 ?_
      refine lv_iconst (v := (4 : Int32)) hx hb d_Md_take_171 (by decide) ?_
      refine lv_iload_n hx hb d_Md_take_172 rfl (lv_at hl 2 rfl) ?_
      refine lv_imul hx hb d_Md_take_173 ?_
      refine lv_iconst (v := (1 : Int32)) hx hb d_Md_take_174 (by decide) ?_
      refine lv_iadd hx hb d_Md_take_175 ?_
      obtain ⟨hg, hf⟩ := pv_g hf
      refine pv_iald C hP (t0 := 0) (by decide) (fm_12 _ _ _ _) rfl hg d_Md_take_176 ?_
      refine lv_iadd hx hb d_Md_take_177 ?_
      refine lv_goto (tgt := 182) hx hb d_Md_take_178 (by decide) ?_
      exact s_Md_take_182 C hmv hRf hRl hret hk_12 (lv_sub hl [0, 2] rfl) hP hS hf
  · have hf := pv_f hf h
    refine lv_iload_n hx hb d_Md_take_57 rfl (lv_at hl 3 rfl) ?_
    refine lv_iconst (v := (4 : Int32)) hx hb d_Md_take_58 (by decide) ?_
    refine lv_iload_n hx hb d_Md_take_59 rfl (lv_at hl 2 rfl) ?_
    refine lv_imul hx hb d_Md_take_60 ?_
    refine lv_aload_n hx hb d_Md_take_61 rfl (lv_at hl 0 rfl) ?_
    refine pv_get C hP (v := .ref (a 6)) (j := 8) (by decide) (fm_0 _ _ _ _) fl_Md_25 rfl d_Md_take_62 ?_
    refine lv_iload_n hx hb d_Md_take_65 rfl (lv_at hl 2 rfl) ?_
    obtain ⟨hg, hf⟩ := pv_g hf
    refine pv_iald C hP (t0 := 0) (by decide) (fm_6 _ _ _ _) rfl hg d_Md_take_66 ?_
    refine lv_iadd hx hb d_Md_take_67 ?_
    refine lv_icmp_ge (tgt := 75) hx hb d_Md_take_68 (by decide) (fun h => ?_) (fun h => ?_)
    · have hf := pv_t hf h
      refine lv_iconst (v := (0 : Int32)) hx hb d_Md_take_75 (by decide) ?_
      exact s_Md_take_76 C hmv hRf hRl hret hk_12 hk_48 (lv_sub hl [0, 1, 2, 3] rfl) hP hS hf
    · have hf := pv_f hf h
      refine lv_iconst (v := (1 : Int32)) hx hb d_Md_take_71 (by decide) ?_
      refine lv_goto (tgt := 76) hx hb d_Md_take_72 (by decide) ?_
      exact s_Md_take_76 C hmv hRf hRl hret hk_12 hk_48 (lv_sub hl [0, 1, 2, 3] rfl) hP hS hf
def f_Md_take_48 (k_12 : pv_S → Int32 → Int32 → Option pv_S) : Nat → pv_S → Int32 → Int32 → Int32 → Option pv_S
  | 0 => fun _ _ _ _ => none
  | n + 1 => f_Md_take_48b k_12 (f_Md_take_48 k_12 n)
set_option maxHeartbeats 4000000 in
theorem s_Md_take_48 {p : Program} {l : Launch} {e : Env} {R : Room} {s : State} {m : MethodId} {args : Array Value} {below : List Frame} {meth : Method} {c : Code} {Q : State → Prop} {D : va_G} {q : Nat → ClassId} {a : Nat → Nat} {A : Nat → Prop} (C : pv_C p s m args c prog_9_method_33_code 5 "PatchVoicesModel" pv_TB D pv_cl (pv_ty q) 36 a A (pv_ZM)) (hmv : pv_mv A (pv_ZM)) (hRf : 1 ≤ R.frames) (hRl : 23 ≤ R.locals) {out : pv_S} (hret : pv_Rv p l e R s m args below meth c prog_9_method_33_code D pv_cl 36 a (pv_FM q a) A Q out) {k_12 : pv_S → Int32 → Int32 → Option pv_S} (hk_12 : ∀ (σ : pv_S) (x1 : Int32) (x2 : Int32) (H : Heap) (locs : List Loc) (ls : Array Slot), k_12 σ x1 x2 = some out → lv_has ls 5 [(0, .ref (a 0)), (1, .int x1), (2, .int x2)] → pv_W D pv_cl 36 a (pv_FM q a) σ H → va_S A s.heap H locs → W p l e R s m args below meth c H locs 0 0 Q (F0 m 12 ls [])) (n : Nat) : ∀ {σ : pv_S} {x1 : Int32} {x2 : Int32} {x3 : Int32} {H : Heap} {locs : List Loc} {ls : Array Slot}, lv_has ls 5 [(0, .ref (a 0)), (1, .int x1), (2, .int x2), (3, .int x3)] → pv_W D pv_cl 36 a (pv_FM q a) σ H → va_S A s.heap H locs → f_Md_take_48 k_12 n σ x1 x2 x3 = some out → W p l e R s m args below meth c H locs 0 0 Q (F0 m 48 ls []) := by
  induction n with
  | zero => intro σ x1 x2 x3 H locs ls hl hP hS hf; cases hf
  | succ n ih => intro σ x1 x2 x3 H locs ls hl hP hS hf; exact s_Md_take_48b C hmv hRf hRl hret hk_12 (fun σ x1 x2 x3 H locs ls hf hl hP hS => ih hl hP hS hf) hl hP hS hf
def f_Md_take_12b (k_12 : pv_S → Int32 → Int32 → Option pv_S) (σ : pv_S) (x1 : Int32) (x2 : Int32) : Option pv_S :=
  (if (σ.1 0 18) ≤ x2 then
  some σ
  else
  (if pv_in x2 40 = true then
(if pv_in x2 24 = true then
(if pv_in x2 40 = true then
(if pv_in x2 24 = true then
f_Md_take_48 k_12 pv_fu (pv_uI (pv_uI σ 9 (x2).toNatClampNeg (σ.1 5 (x2).toNatClampNeg)) 10 (x2).toNatClampNeg ((pv_uI σ 9 (x2).toNatClampNeg (σ.1 5 (x2).toNatClampNeg)).1 6 (x2).toNatClampNeg)) x1 x2 ((4 : Int32) * x2)
  else none)
  else none)
  else none)
  else none))
set_option maxHeartbeats 4000000 in
set_option maxRecDepth 100000 in
theorem s_Md_take_12b {p : Program} {l : Launch} {e : Env} {R : Room} {s : State} {m : MethodId} {args : Array Value} {below : List Frame} {meth : Method} {c : Code} {Q : State → Prop} {D : va_G} {q : Nat → ClassId} {a : Nat → Nat} {A : Nat → Prop} (C : pv_C p s m args c prog_9_method_33_code 5 "PatchVoicesModel" pv_TB D pv_cl (pv_ty q) 36 a A (pv_ZM)) (hmv : pv_mv A (pv_ZM)) (hRf : 1 ≤ R.frames) (hRl : 23 ≤ R.locals) {out : pv_S} (hret : pv_Rv p l e R s m args below meth c prog_9_method_33_code D pv_cl 36 a (pv_FM q a) A Q out) {k_12 : pv_S → Int32 → Int32 → Option pv_S} (hk_12 : ∀ (σ : pv_S) (x1 : Int32) (x2 : Int32) (H : Heap) (locs : List Loc) (ls : Array Slot), k_12 σ x1 x2 = some out → lv_has ls 5 [(0, .ref (a 0)), (1, .int x1), (2, .int x2)] → pv_W D pv_cl 36 a (pv_FM q a) σ H → va_S A s.heap H locs → W p l e R s m args below meth c H locs 0 0 Q (F0 m 12 ls [])) {σ : pv_S} {x1 : Int32} {x2 : Int32} {H : Heap} {locs : List Loc} {ls : Array Slot} (hl : lv_has ls 5 [(0, .ref (a 0)), (1, .int x1), (2, .int x2)]) (hP : pv_W D pv_cl 36 a (pv_FM q a) σ H) (hS : va_S A s.heap H locs) (hf : f_Md_take_12b k_12 σ x1 x2 = some out) : W p l e R s m args below meth c H locs 0 0 Q (F0 m 12 ls []) := by
  unfold f_Md_take_12b at hf
  have hx := C.1
  have hb := C.2.1
  refine lv_iload_n hx hb d_Md_take_12 rfl (lv_at hl 2 rfl) ?_
  refine lv_aload_n hx hb d_Md_take_13 rfl (lv_at hl 0 rfl) ?_
  refine pv_get C hP (v := .int (σ.1 0 18)) (j := 18) (by decide) (fm_0 _ _ _ _) fl_Md_253 rfl d_Md_take_14 ?_
  refine lv_icmp_ge (tgt := 189) hx hb d_Md_take_17 (by decide) (fun h => ?_) (fun h => ?_)
  · have hf := pv_t hf h
    obtain rfl := Option.some.inj hf
    exact hret _ _ _ _ d_Md_take_189 hP hS
  · have hf := pv_f hf h
    refine lv_aload_n hx hb d_Md_take_20 rfl (lv_at hl 0 rfl) ?_
    refine pv_get C hP (v := .ref (a 9)) (j := 19) (by decide) (fm_0 _ _ _ _) fl_Md_38 rfl d_Md_take_21 ?_
    refine lv_iload_n hx hb d_Md_take_24 rfl (lv_at hl 2 rfl) ?_
    refine lv_aload_n hx hb d_Md_take_25 rfl (lv_at hl 0 rfl) ?_
    refine pv_get C hP (v := .ref (a 5)) (j := 7) (by decide) (fm_0 _ _ _ _) fl_Md_22 rfl d_Md_take_26 ?_
    refine lv_iload_n hx hb d_Md_take_29 rfl (lv_at hl 2 rfl) ?_
    obtain ⟨hg, hf⟩ := pv_g hf
    refine pv_iald C hP (t0 := 0) (by decide) (fm_5 _ _ _ _) rfl hg d_Md_take_30 ?_
    obtain ⟨hg, hf⟩ := pv_g hf
    refine pv_iast C hP hS (t0 := 0) (x := (σ.1 5 (x2).toNatClampNeg)) (by decide) (fun f g => (fm_9 _ _ f g)) rfl hg d_Md_take_31 (fun H locs hP hS => ?_)
    refine lv_aload_n hx hb d_Md_take_32 rfl (lv_at hl 0 rfl) ?_
    refine pv_get C hP (v := .ref (a 10)) (j := 20) (by decide) (fm_0 _ _ _ _) fl_Md_41 rfl d_Md_take_33 ?_
    refine lv_iload_n hx hb d_Md_take_36 rfl (lv_at hl 2 rfl) ?_
    refine lv_aload_n hx hb d_Md_take_37 rfl (lv_at hl 0 rfl) ?_
    refine pv_get C hP (v := .ref (a 6)) (j := 8) (by decide) (fm_0 _ _ _ _) fl_Md_25 rfl d_Md_take_38 ?_
    refine lv_iload_n hx hb d_Md_take_41 rfl (lv_at hl 2 rfl) ?_
    obtain ⟨hg, hf⟩ := pv_g hf
    refine pv_iald C hP (t0 := 0) (by decide) (fm_6 _ _ _ _) rfl hg d_Md_take_42 ?_
    obtain ⟨hg, hf⟩ := pv_g hf
    refine pv_iast C hP hS (t0 := 0) (x := ((pv_uI σ 9 (x2).toNatClampNeg (σ.1 5 (x2).toNatClampNeg)).1 6 (x2).toNatClampNeg)) (by decide) (fun f g => (fm_10 _ _ f g)) rfl hg d_Md_take_43 (fun H locs hP hS => ?_)
    refine lv_iconst (v := (4 : Int32)) hx hb d_Md_take_44 (by decide) ?_
    refine lv_iload_n hx hb d_Md_take_45 rfl (lv_at hl 2 rfl) ?_
    refine lv_imul hx hb d_Md_take_46 ?_
    refine lv_istore_n (lv' := [(3, .int ((4 : Int32) * x2)), (0, .ref (a 0)), (1, .int x1), (2, .int x2)]) hx hb d_Md_take_47 rfl hl (by decide) rfl (fun ls hl => ?_)
    exact s_Md_take_48 C hmv hRf hRl hret hk_12 pv_fu (lv_sub hl [1, 2, 3, 0] rfl) hP hS hf
def f_Md_take_12 : Nat → pv_S → Int32 → Int32 → Option pv_S
  | 0 => fun _ _ _ => none
  | n + 1 => f_Md_take_12b (f_Md_take_12 n)
set_option maxHeartbeats 4000000 in
theorem s_Md_take_12 {p : Program} {l : Launch} {e : Env} {R : Room} {s : State} {m : MethodId} {args : Array Value} {below : List Frame} {meth : Method} {c : Code} {Q : State → Prop} {D : va_G} {q : Nat → ClassId} {a : Nat → Nat} {A : Nat → Prop} (C : pv_C p s m args c prog_9_method_33_code 5 "PatchVoicesModel" pv_TB D pv_cl (pv_ty q) 36 a A (pv_ZM)) (hmv : pv_mv A (pv_ZM)) (hRf : 1 ≤ R.frames) (hRl : 23 ≤ R.locals) {out : pv_S} (hret : pv_Rv p l e R s m args below meth c prog_9_method_33_code D pv_cl 36 a (pv_FM q a) A Q out) (n : Nat) : ∀ {σ : pv_S} {x1 : Int32} {x2 : Int32} {H : Heap} {locs : List Loc} {ls : Array Slot}, lv_has ls 5 [(0, .ref (a 0)), (1, .int x1), (2, .int x2)] → pv_W D pv_cl 36 a (pv_FM q a) σ H → va_S A s.heap H locs → f_Md_take_12 n σ x1 x2 = some out → W p l e R s m args below meth c H locs 0 0 Q (F0 m 12 ls []) := by
  induction n with
  | zero => intro σ x1 x2 H locs ls hl hP hS hf; cases hf
  | succ n ih => intro σ x1 x2 H locs ls hl hP hS hf; exact s_Md_take_12b C hmv hRf hRl hret (fun σ x1 x2 H locs ls hf hl hP hS => ih hl hP hS hf) hl hP hS hf
def f_Md_take_0 (σ : pv_S) : Option pv_S :=
  f_Md_take_12 pv_fu (pv_uI σ 0 18 (σ.1 0 5)) (0 : Int32) (0 : Int32)
set_option maxHeartbeats 4000000 in
set_option maxRecDepth 100000 in
theorem s_Md_take_0 {p : Program} {l : Launch} {e : Env} {R : Room} {s : State} {m : MethodId} {args : Array Value} {below : List Frame} {meth : Method} {c : Code} {Q : State → Prop} {D : va_G} {q : Nat → ClassId} {a : Nat → Nat} {A : Nat → Prop} (C : pv_C p s m args c prog_9_method_33_code 5 "PatchVoicesModel" pv_TB D pv_cl (pv_ty q) 36 a A (pv_ZM)) (hmv : pv_mv A (pv_ZM)) (hRf : 1 ≤ R.frames) (hRl : 23 ≤ R.locals) {out : pv_S} (hret : pv_Rv p l e R s m args below meth c prog_9_method_33_code D pv_cl 36 a (pv_FM q a) A Q out) {σ : pv_S} {H : Heap} {locs : List Loc} {ls : Array Slot} (hl : lv_has ls 5 [(0, .ref (a 0))]) (hP : pv_W D pv_cl 36 a (pv_FM q a) σ H) (hS : va_S A s.heap H locs) (hf : f_Md_take_0 σ = some out) : W p l e R s m args below meth c H locs 0 0 Q (F0 m 0 ls []) := by
  unfold f_Md_take_0 at hf
  have hx := C.1
  have hb := C.2.1
  refine lv_aload_n hx hb d_Md_take_0 rfl (lv_at hl 0 rfl) ?_
  refine lv_aload_n hx hb d_Md_take_1 rfl (lv_at hl 0 rfl) ?_
  refine pv_get C hP (v := .int (σ.1 0 5)) (j := 5) (by decide) (fm_0 _ _ _ _) fl_Md_144 rfl d_Md_take_2 ?_
  refine pv_putI C hP hS (x := (σ.1 0 5)) (by decide) (fm_0 _ _ _ _) fw_Md_253 rfl rfl (Nat.le_of_ble_eq_true rfl) (fms_0_18 _ _ _ _ _) d_Md_take_5 (fun H locs hP hS => ?_)
  refine lv_iconst (v := (0 : Int32)) hx hb d_Md_take_8 (by decide) ?_
  refine lv_istore_n (lv' := [(1, .int (0 : Int32)), (0, .ref (a 0))]) hx hb d_Md_take_9 rfl hl (by decide) rfl (fun ls hl => ?_)
  refine lv_iconst (v := (0 : Int32)) hx hb d_Md_take_10 (by decide) ?_
  refine lv_istore_n (lv' := [(2, .int (0 : Int32)), (1, .int (0 : Int32)), (0, .ref (a 0))]) hx hb d_Md_take_11 rfl hl (by decide) rfl (fun ls hl => ?_)
  exact s_Md_take_12 C hmv hRf hRl hret pv_fu (lv_sub hl [2, 1, 0] rfl) hP hS hf
def f_Md_take (σ : pv_S) : Option pv_S := f_Md_take_0 σ
def rm_Md_take : Room := { frames := 1, cells := 0, slots := 0, locals := 23 }
theorem c_Md_take {l : Launch} {D : va_G} {q : Nat → ClassId} {a : Nat → Nat} {A : Nat → Prop} (hD : pv_D 36 a A) (hmv : pv_mv A (pv_ZM)) {σ : pv_S} {out : pv_S} (hf : f_Md_take σ = some out) : pv_Mv l y_Md_take (Cond.code y_Md_take prog_9_method_33_code 5 none :: pv_TB) rm_Md_take D pv_cl (pv_ty q) 36 a (pv_FM q a) A (pv_ZM) [.ref (a 0)] σ out :=
  pv_ofV (by decide) (Nat.le_of_ble_eq_true rfl) hD (fun p e s m args below meth c Q ls C hret hl hP => s_Md_take_0 C hmv (Nat.le_refl _) (Nat.le_refl _) hret hl hP va_S.rf hf)
theorem d_Md_isReady_0 : decode prog_9_method_34_code 0 = .ok (.iload_n 2, 1) := by decide +kernel
theorem d_Md_isReady_1 : decode prog_9_method_34_code 1 = .ok (.iload_n 1, 1) := by decide +kernel
theorem d_Md_isReady_2 : decode prog_9_method_34_code 2 = .ok (.ishr, 1) := by decide +kernel
theorem d_Md_isReady_3 : decode prog_9_method_34_code 3 = .ok (.iconst 1, 1) := by decide +kernel
theorem d_Md_isReady_4 : decode prog_9_method_34_code 4 = .ok (.iand, 1) := by decide +kernel
theorem d_Md_isReady_5 : decode prog_9_method_34_code 5 = .ok (.ifCond .ne 7, 3) := by decide +kernel
theorem d_Md_isReady_8 : decode prog_9_method_34_code 8 = .ok (.iconst 1, 1) := by decide +kernel
theorem d_Md_isReady_9 : decode prog_9_method_34_code 9 = .ok (.goto 4, 3) := by decide +kernel
theorem d_Md_isReady_12 : decode prog_9_method_34_code 12 = .ok (.iconst 0, 1) := by decide +kernel
theorem d_Md_isReady_13 : decode prog_9_method_34_code 13 = .ok (.istore_n 3, 1) := by decide +kernel
theorem d_Md_isReady_14 : decode prog_9_method_34_code 14 = .ok (.iconst 4, 1) := by decide +kernel
theorem d_Md_isReady_15 : decode prog_9_method_34_code 15 = .ok (.iload_n 1, 1) := by decide +kernel
theorem d_Md_isReady_16 : decode prog_9_method_34_code 16 = .ok (.imul, 1) := by decide +kernel
theorem d_Md_isReady_17 : decode prog_9_method_34_code 17 = .ok (.istore 4, 2) := by decide +kernel
theorem d_Md_isReady_19 : decode prog_9_method_34_code 19 = .ok (.iload 4, 2) := by decide +kernel
theorem d_Md_isReady_21 : decode prog_9_method_34_code 21 = .ok (.iconst 4, 1) := by decide +kernel
theorem d_Md_isReady_22 : decode prog_9_method_34_code 22 = .ok (.iload_n 1, 1) := by decide +kernel
theorem d_Md_isReady_23 : decode prog_9_method_34_code 23 = .ok (.imul, 1) := by decide +kernel
theorem d_Md_isReady_24 : decode prog_9_method_34_code 24 = .ok (.iconst 4, 1) := by decide +kernel
theorem d_Md_isReady_25 : decode prog_9_method_34_code 25 = .ok (.iadd, 1) := by decide +kernel
theorem d_Md_isReady_26 : decode prog_9_method_34_code 26 = .ok (.if_icmp .ge 55, 3) := by decide +kernel
theorem d_Md_isReady_29 : decode prog_9_method_34_code 29 = .ok (.aload_n 0, 1) := by decide +kernel
theorem d_Md_isReady_30 : decode prog_9_method_34_code 30 = .ok (.getfield 38, 3) := by decide +kernel
theorem d_Md_isReady_33 : decode prog_9_method_34_code 33 = .ok (.iload_n 1, 1) := by decide +kernel
theorem d_Md_isReady_34 : decode prog_9_method_34_code 34 = .ok (.iaload, 1) := by decide +kernel
theorem d_Md_isReady_35 : decode prog_9_method_34_code 35 = .ok (.bipush 18, 2) := by decide +kernel
theorem d_Md_isReady_37 : decode prog_9_method_34_code 37 = .ok (.if_icmp .eq 44, 3) := by decide +kernel
theorem d_Md_isReady_40 : decode prog_9_method_34_code 40 = .ok (.iload_n 3, 1) := by decide +kernel
theorem d_Md_isReady_41 : decode prog_9_method_34_code 41 = .ok (.ifCond .eq 32, 3) := by decide +kernel
theorem d_Md_isReady_44 : decode prog_9_method_34_code 44 = .ok (.aload_n 0, 1) := by decide +kernel
theorem d_Md_isReady_45 : decode prog_9_method_34_code 45 = .ok (.getfield 44, 3) := by decide +kernel
theorem d_Md_isReady_48 : decode prog_9_method_34_code 48 = .ok (.iload 4, 2) := by decide +kernel
theorem d_Md_isReady_50 : decode prog_9_method_34_code 50 = .ok (.iaload, 1) := by decide +kernel
theorem d_Md_isReady_51 : decode prog_9_method_34_code 51 = .ok (.ifCond .lt 18, 3) := by decide +kernel
theorem d_Md_isReady_54 : decode prog_9_method_34_code 54 = .ok (.iload_n 2, 1) := by decide +kernel
theorem d_Md_isReady_55 : decode prog_9_method_34_code 55 = .ok (.aload_n 0, 1) := by decide +kernel
theorem d_Md_isReady_56 : decode prog_9_method_34_code 56 = .ok (.getfield 44, 3) := by decide +kernel
theorem d_Md_isReady_59 : decode prog_9_method_34_code 59 = .ok (.iload 4, 2) := by decide +kernel
theorem d_Md_isReady_61 : decode prog_9_method_34_code 61 = .ok (.iaload, 1) := by decide +kernel
theorem d_Md_isReady_62 : decode prog_9_method_34_code 62 = .ok (.ishr, 1) := by decide +kernel
theorem d_Md_isReady_63 : decode prog_9_method_34_code 63 = .ok (.iconst 1, 1) := by decide +kernel
theorem d_Md_isReady_64 : decode prog_9_method_34_code 64 = .ok (.iand, 1) := by decide +kernel
theorem d_Md_isReady_65 : decode prog_9_method_34_code 65 = .ok (.iconst 1, 1) := by decide +kernel
theorem d_Md_isReady_66 : decode prog_9_method_34_code 66 = .ok (.if_icmp .ne 7, 3) := by decide +kernel
theorem d_Md_isReady_69 : decode prog_9_method_34_code 69 = .ok (.iconst 1, 1) := by decide +kernel
theorem d_Md_isReady_70 : decode prog_9_method_34_code 70 = .ok (.goto 4, 3) := by decide +kernel
theorem d_Md_isReady_73 : decode prog_9_method_34_code 73 = .ok (.iconst 0, 1) := by decide +kernel
theorem d_Md_isReady_74 : decode prog_9_method_34_code 74 = .ok (.istore_n 3, 1) := by decide +kernel
theorem d_Md_isReady_75 : decode prog_9_method_34_code 75 = .ok (.iinc 4 1, 3) := by decide +kernel
theorem d_Md_isReady_78 : decode prog_9_method_34_code 78 = .ok (.goto (-59), 3) := by decide +kernel
theorem d_Md_isReady_81 : decode prog_9_method_34_code 81 = .ok (.iload_n 3, 1) := by decide +kernel
theorem d_Md_isReady_82 : decode prog_9_method_34_code 82 = .ok (.ireturn, 1) := by decide +kernel
def f_Md_isReady_74 (k_19 : pv_S → Int32 → Int32 → Int32 → Int32 → Option (Int32 × pv_S)) (σ : pv_S) (x1 : Int32) (x2 : Int32) (x4 : Int32) (s0 : Int32) : Option (Int32 × pv_S) :=
  k_19 σ x1 x2 s0 (x4 + (1 : Int32))
set_option maxHeartbeats 4000000 in
set_option maxRecDepth 100000 in
theorem s_Md_isReady_74 {p : Program} {l : Launch} {e : Env} {R : Room} {s : State} {m : MethodId} {args : Array Value} {below : List Frame} {meth : Method} {c : Code} {Q : State → Prop} {D : va_G} {q : Nat → ClassId} {a : Nat → Nat} {A : Nat → Prop} (C : pv_C p s m args c prog_9_method_34_code 5 "PatchVoicesModel" pv_TB D pv_cl (pv_ty q) 36 a A (pv_ZM)) (hmv : pv_mv A (pv_ZM)) (hRf : 0 ≤ R.frames) (hRl : 0 ≤ R.locals) {out : (Int32 × pv_S)} (hret : pv_Rz p l e R s m args below meth c prog_9_method_34_code D pv_cl 36 a (pv_FM q a) A Q out) {k_19 : pv_S → Int32 → Int32 → Int32 → Int32 → Option (Int32 × pv_S)} (hk_19 : ∀ (σ : pv_S) (x1 : Int32) (x2 : Int32) (x3 : Int32) (x4 : Int32) (H : Heap) (locs : List Loc) (ls : Array Slot), k_19 σ x1 x2 x3 x4 = some out → lv_has ls 5 [(0, .ref (a 0)), (1, .int x1), (2, .int x2), (3, .int x3), (4, .int x4)] → pv_W D pv_cl 36 a (pv_FM q a) σ H → va_S A s.heap H locs → W p l e R s m args below meth c H locs 0 0 Q (F0 m 19 ls [])) {σ : pv_S} {x1 : Int32} {x2 : Int32} {x4 : Int32} {s0 : Int32} {H : Heap} {locs : List Loc} {ls : Array Slot} (hl : lv_has ls 5 [(0, .ref (a 0)), (1, .int x1), (2, .int x2), (4, .int x4)]) (hP : pv_W D pv_cl 36 a (pv_FM q a) σ H) (hS : va_S A s.heap H locs) (hf : f_Md_isReady_74 k_19 σ x1 x2 x4 s0 = some out) : W p l e R s m args below meth c H locs 0 0 Q (F0 m 74 ls [.int s0]) := by
  unfold f_Md_isReady_74 at hf
  have hx := C.1
  have hb := C.2.1
  refine lv_istore_n (lv' := [(3, .int s0), (0, .ref (a 0)), (1, .int x1), (2, .int x2), (4, .int x4)]) hx hb d_Md_isReady_74 rfl hl (by decide) rfl (fun ls hl => ?_)
  refine lv_iinc (k := 4) (v := (x4 + (1 : Int32))) (lv' := [(4, .int (x4 + (1 : Int32))), (3, .int s0), (0, .ref (a 0)), (1, .int x1), (2, .int x2)]) hx hb d_Md_isReady_75 hl rfl (pv_inc (by decide)) (by decide) rfl (fun ls hl => ?_)
  refine lv_goto (tgt := 19) hx hb d_Md_isReady_78 (by decide) ?_
  exact hk_19 _ _ _ _ _ _ _ _ hf (lv_sub hl [2, 3, 4, 1, 0] rfl) hP hS
def f_Md_isReady_73 (k_19 : pv_S → Int32 → Int32 → Int32 → Int32 → Option (Int32 × pv_S)) (σ : pv_S) (x1 : Int32) (x2 : Int32) (x4 : Int32) : Option (Int32 × pv_S) :=
  f_Md_isReady_74 k_19 σ x1 x2 x4 (0 : Int32)
set_option maxHeartbeats 4000000 in
set_option maxRecDepth 100000 in
theorem s_Md_isReady_73 {p : Program} {l : Launch} {e : Env} {R : Room} {s : State} {m : MethodId} {args : Array Value} {below : List Frame} {meth : Method} {c : Code} {Q : State → Prop} {D : va_G} {q : Nat → ClassId} {a : Nat → Nat} {A : Nat → Prop} (C : pv_C p s m args c prog_9_method_34_code 5 "PatchVoicesModel" pv_TB D pv_cl (pv_ty q) 36 a A (pv_ZM)) (hmv : pv_mv A (pv_ZM)) (hRf : 0 ≤ R.frames) (hRl : 0 ≤ R.locals) {out : (Int32 × pv_S)} (hret : pv_Rz p l e R s m args below meth c prog_9_method_34_code D pv_cl 36 a (pv_FM q a) A Q out) {k_19 : pv_S → Int32 → Int32 → Int32 → Int32 → Option (Int32 × pv_S)} (hk_19 : ∀ (σ : pv_S) (x1 : Int32) (x2 : Int32) (x3 : Int32) (x4 : Int32) (H : Heap) (locs : List Loc) (ls : Array Slot), k_19 σ x1 x2 x3 x4 = some out → lv_has ls 5 [(0, .ref (a 0)), (1, .int x1), (2, .int x2), (3, .int x3), (4, .int x4)] → pv_W D pv_cl 36 a (pv_FM q a) σ H → va_S A s.heap H locs → W p l e R s m args below meth c H locs 0 0 Q (F0 m 19 ls [])) {σ : pv_S} {x1 : Int32} {x2 : Int32} {x4 : Int32} {H : Heap} {locs : List Loc} {ls : Array Slot} (hl : lv_has ls 5 [(0, .ref (a 0)), (1, .int x1), (2, .int x2), (4, .int x4)]) (hP : pv_W D pv_cl 36 a (pv_FM q a) σ H) (hS : va_S A s.heap H locs) (hf : f_Md_isReady_73 k_19 σ x1 x2 x4 = some out) : W p l e R s m args below meth c H locs 0 0 Q (F0 m 73 ls []) := by
  unfold f_Md_isReady_73 at hf
  have hx := C.1
  have hb := C.2.1
  refine lv_iconst (v := (0 : Int32)) hx hb d_Md_isReady_73 (by decide) ?_
  exact s_Md_isReady_74 C hmv hRf hRl hret hk_19 (lv_sub hl [0, 1, 2, 3] rfl) hP hS hf
def f_Md_isReady_69 (k_19 : pv_S → Int32 → Int32 → Int32 → Int32 → Option (Int32 × pv_S)) (σ : pv_S) (x1 : Int32) (x2 : Int32) (x4 : Int32) : Option (Int32 × pv_S) :=
  f_Md_isReady_74 k_19 σ x1 x2 x4 (1 : Int32)
set_option maxHeartbeats 4000000 in
set_option maxRecDepth 100000 in
theorem s_Md_isReady_69 {p : Program} {l : Launch} {e : Env} {R : Room} {s : State} {m : MethodId} {args : Array Value} {below : List Frame} {meth : Method} {c : Code} {Q : State → Prop} {D : va_G} {q : Nat → ClassId} {a : Nat → Nat} {A : Nat → Prop} (C : pv_C p s m args c prog_9_method_34_code 5 "PatchVoicesModel" pv_TB D pv_cl (pv_ty q) 36 a A (pv_ZM)) (hmv : pv_mv A (pv_ZM)) (hRf : 0 ≤ R.frames) (hRl : 0 ≤ R.locals) {out : (Int32 × pv_S)} (hret : pv_Rz p l e R s m args below meth c prog_9_method_34_code D pv_cl 36 a (pv_FM q a) A Q out) {k_19 : pv_S → Int32 → Int32 → Int32 → Int32 → Option (Int32 × pv_S)} (hk_19 : ∀ (σ : pv_S) (x1 : Int32) (x2 : Int32) (x3 : Int32) (x4 : Int32) (H : Heap) (locs : List Loc) (ls : Array Slot), k_19 σ x1 x2 x3 x4 = some out → lv_has ls 5 [(0, .ref (a 0)), (1, .int x1), (2, .int x2), (3, .int x3), (4, .int x4)] → pv_W D pv_cl 36 a (pv_FM q a) σ H → va_S A s.heap H locs → W p l e R s m args below meth c H locs 0 0 Q (F0 m 19 ls [])) {σ : pv_S} {x1 : Int32} {x2 : Int32} {x4 : Int32} {H : Heap} {locs : List Loc} {ls : Array Slot} (hl : lv_has ls 5 [(0, .ref (a 0)), (1, .int x1), (2, .int x2), (4, .int x4)]) (hP : pv_W D pv_cl 36 a (pv_FM q a) σ H) (hS : va_S A s.heap H locs) (hf : f_Md_isReady_69 k_19 σ x1 x2 x4 = some out) : W p l e R s m args below meth c H locs 0 0 Q (F0 m 69 ls []) := by
  unfold f_Md_isReady_69 at hf
  have hx := C.1
  have hb := C.2.1
  refine lv_iconst (v := (1 : Int32)) hx hb d_Md_isReady_69 (by decide) ?_
  refine lv_goto (tgt := 74) hx hb d_Md_isReady_70 (by decide) ?_
  exact s_Md_isReady_74 C hmv hRf hRl hret hk_19 (lv_sub hl [0, 1, 2, 3] rfl) hP hS hf
def f_Md_isReady_19b (k_19 : pv_S → Int32 → Int32 → Int32 → Int32 → Option (Int32 × pv_S)) (σ : pv_S) (x1 : Int32) (x2 : Int32) (x3 : Int32) (x4 : Int32) : Option (Int32 × pv_S) :=
  (if (((4 : Int32) * x1) + (4 : Int32)) ≤ x4 then
  (if pv_z x3 = true then
some (x3, σ)
  else none)
  else
  (if pv_in x1 24 = true then
(if (σ.1 9 (x1).toNatClampNeg) = (18 : Int32) then
  (if pv_z x3 = true then
some (x3, σ)
  else none)
  else
  (if x3 = 0 then
  f_Md_isReady_73 k_19 σ x1 x2 x4
  else
  (if pv_in x4 96 = true then
(if (σ.1 11 (x4).toNatClampNeg) < 0 then
  f_Md_isReady_69 k_19 σ x1 x2 x4
  else
  (if pv_in x4 96 = true then
(if ((x2 >>> ((σ.1 11 (x4).toNatClampNeg) &&& 31)) &&& (1 : Int32)) = (1 : Int32) then
  f_Md_isReady_69 k_19 σ x1 x2 x4
  else
  f_Md_isReady_73 k_19 σ x1 x2 x4)
  else none))
  else none)))
  else none))
set_option maxHeartbeats 4000000 in
set_option maxRecDepth 100000 in
theorem s_Md_isReady_19b {p : Program} {l : Launch} {e : Env} {R : Room} {s : State} {m : MethodId} {args : Array Value} {below : List Frame} {meth : Method} {c : Code} {Q : State → Prop} {D : va_G} {q : Nat → ClassId} {a : Nat → Nat} {A : Nat → Prop} (C : pv_C p s m args c prog_9_method_34_code 5 "PatchVoicesModel" pv_TB D pv_cl (pv_ty q) 36 a A (pv_ZM)) (hmv : pv_mv A (pv_ZM)) (hRf : 0 ≤ R.frames) (hRl : 0 ≤ R.locals) {out : (Int32 × pv_S)} (hret : pv_Rz p l e R s m args below meth c prog_9_method_34_code D pv_cl 36 a (pv_FM q a) A Q out) {k_19 : pv_S → Int32 → Int32 → Int32 → Int32 → Option (Int32 × pv_S)} (hk_19 : ∀ (σ : pv_S) (x1 : Int32) (x2 : Int32) (x3 : Int32) (x4 : Int32) (H : Heap) (locs : List Loc) (ls : Array Slot), k_19 σ x1 x2 x3 x4 = some out → lv_has ls 5 [(0, .ref (a 0)), (1, .int x1), (2, .int x2), (3, .int x3), (4, .int x4)] → pv_W D pv_cl 36 a (pv_FM q a) σ H → va_S A s.heap H locs → W p l e R s m args below meth c H locs 0 0 Q (F0 m 19 ls [])) {σ : pv_S} {x1 : Int32} {x2 : Int32} {x3 : Int32} {x4 : Int32} {H : Heap} {locs : List Loc} {ls : Array Slot} (hl : lv_has ls 5 [(0, .ref (a 0)), (1, .int x1), (2, .int x2), (3, .int x3), (4, .int x4)]) (hP : pv_W D pv_cl 36 a (pv_FM q a) σ H) (hS : va_S A s.heap H locs) (hf : f_Md_isReady_19b k_19 σ x1 x2 x3 x4 = some out) : W p l e R s m args below meth c H locs 0 0 Q (F0 m 19 ls []) := by
  unfold f_Md_isReady_19b at hf
  have hx := C.1
  have hb := C.2.1
  refine lv_iload hx hb d_Md_isReady_19 (lv_at hl 4 rfl) ?_
  refine lv_iconst (v := (4 : Int32)) hx hb d_Md_isReady_21 (by decide) ?_
  refine lv_iload_n hx hb d_Md_isReady_22 rfl (lv_at hl 1 rfl) ?_
  refine lv_imul hx hb d_Md_isReady_23 ?_
  refine lv_iconst (v := (4 : Int32)) hx hb d_Md_isReady_24 (by decide) ?_
  refine lv_iadd hx hb d_Md_isReady_25 ?_
  refine lv_icmp_ge (tgt := 81) hx hb d_Md_isReady_26 (by decide) (fun h => ?_) (fun h => ?_)
  · have hf := pv_t hf h
    refine lv_iload_n hx hb d_Md_isReady_81 rfl (lv_at hl 3 rfl) ?_
    obtain ⟨hg, hf⟩ := pv_g hf
    obtain rfl := Option.some.inj hf
    exact hret _ _ _ _ d_Md_isReady_82 hg hP hS
  · have hf := pv_f hf h
    refine lv_aload_n hx hb d_Md_isReady_29 rfl (lv_at hl 0 rfl) ?_
    refine pv_get C hP (v := .ref (a 9)) (j := 19) (by decide) (fm_0 _ _ _ _) fl_Md_38 rfl d_Md_isReady_30 ?_
    refine lv_iload_n hx hb d_Md_isReady_33 rfl (lv_at hl 1 rfl) ?_
    obtain ⟨hg, hf⟩ := pv_g hf
    refine pv_iald C hP (t0 := 0) (by decide) (fm_9 _ _ _ _) rfl hg d_Md_isReady_34 ?_
    refine lv_bipush (v := (18 : Int32)) hx hb d_Md_isReady_35 (by decide) ?_
    refine lv_icmp_eq (tgt := 81) hx hb d_Md_isReady_37 (by decide) (fun h => ?_) (fun h => ?_)
    · have hf := pv_t hf h
      refine lv_iload_n hx hb d_Md_isReady_81 rfl (lv_at hl 3 rfl) ?_
      obtain ⟨hg, hf⟩ := pv_g hf
      obtain rfl := Option.some.inj hf
      exact hret _ _ _ _ d_Md_isReady_82 hg hP hS
    · have hf := pv_f hf h
      refine lv_iload_n hx hb d_Md_isReady_40 rfl (lv_at hl 3 rfl) ?_
      refine lv_if_eq (tgt := 73) hx hb d_Md_isReady_41 (by decide) (fun h => ?_) (fun h => ?_)
      · have hf := pv_t hf h
        exact s_Md_isReady_73 C hmv hRf hRl hret hk_19 (lv_sub hl [0, 1, 2, 4] rfl) hP hS hf
      · have hf := pv_f hf h
        refine lv_aload_n hx hb d_Md_isReady_44 rfl (lv_at hl 0 rfl) ?_
        refine pv_get C hP (v := .ref (a 11)) (j := 21) (by decide) (fm_0 _ _ _ _) fl_Md_44 rfl d_Md_isReady_45 ?_
        refine lv_iload hx hb d_Md_isReady_48 (lv_at hl 4 rfl) ?_
        obtain ⟨hg, hf⟩ := pv_g hf
        refine pv_iald C hP (t0 := 0) (by decide) (fm_11 _ _ _ _) rfl hg d_Md_isReady_50 ?_
        refine lv_if_lt (tgt := 69) hx hb d_Md_isReady_51 (by decide) (fun h => ?_) (fun h => ?_)
        · have hf := pv_t hf h
          exact s_Md_isReady_69 C hmv hRf hRl hret hk_19 (lv_sub hl [0, 1, 2, 4] rfl) hP hS hf
        · have hf := pv_f hf h
          refine lv_iload_n hx hb d_Md_isReady_54 rfl (lv_at hl 2 rfl) ?_
          refine lv_aload_n hx hb d_Md_isReady_55 rfl (lv_at hl 0 rfl) ?_
          refine pv_get C hP (v := .ref (a 11)) (j := 21) (by decide) (fm_0 _ _ _ _) fl_Md_44 rfl d_Md_isReady_56 ?_
          refine lv_iload hx hb d_Md_isReady_59 (lv_at hl 4 rfl) ?_
          obtain ⟨hg, hf⟩ := pv_g hf
          refine pv_iald C hP (t0 := 0) (by decide) (fm_11 _ _ _ _) rfl hg d_Md_isReady_61 ?_
          refine lv_ishr hx hb d_Md_isReady_62 ?_
          refine lv_iconst (v := (1 : Int32)) hx hb d_Md_isReady_63 (by decide) ?_
          refine lv_iand hx hb d_Md_isReady_64 ?_
          refine lv_iconst (v := (1 : Int32)) hx hb d_Md_isReady_65 (by decide) ?_
          refine lv_icmp_ne (tgt := 73) hx hb d_Md_isReady_66 (by decide) (fun h => ?_) (fun h => ?_)
          · have hf := pv_f hf h
            exact s_Md_isReady_73 C hmv hRf hRl hret hk_19 (lv_sub hl [0, 1, 2, 4] rfl) hP hS hf
          · have hf := pv_t hf h
            exact s_Md_isReady_69 C hmv hRf hRl hret hk_19 (lv_sub hl [0, 1, 2, 4] rfl) hP hS hf
def f_Md_isReady_19 : Nat → pv_S → Int32 → Int32 → Int32 → Int32 → Option (Int32 × pv_S)
  | 0 => fun _ _ _ _ _ => none
  | n + 1 => f_Md_isReady_19b (f_Md_isReady_19 n)
set_option maxHeartbeats 4000000 in
theorem s_Md_isReady_19 {p : Program} {l : Launch} {e : Env} {R : Room} {s : State} {m : MethodId} {args : Array Value} {below : List Frame} {meth : Method} {c : Code} {Q : State → Prop} {D : va_G} {q : Nat → ClassId} {a : Nat → Nat} {A : Nat → Prop} (C : pv_C p s m args c prog_9_method_34_code 5 "PatchVoicesModel" pv_TB D pv_cl (pv_ty q) 36 a A (pv_ZM)) (hmv : pv_mv A (pv_ZM)) (hRf : 0 ≤ R.frames) (hRl : 0 ≤ R.locals) {out : (Int32 × pv_S)} (hret : pv_Rz p l e R s m args below meth c prog_9_method_34_code D pv_cl 36 a (pv_FM q a) A Q out) (n : Nat) : ∀ {σ : pv_S} {x1 : Int32} {x2 : Int32} {x3 : Int32} {x4 : Int32} {H : Heap} {locs : List Loc} {ls : Array Slot}, lv_has ls 5 [(0, .ref (a 0)), (1, .int x1), (2, .int x2), (3, .int x3), (4, .int x4)] → pv_W D pv_cl 36 a (pv_FM q a) σ H → va_S A s.heap H locs → f_Md_isReady_19 n σ x1 x2 x3 x4 = some out → W p l e R s m args below meth c H locs 0 0 Q (F0 m 19 ls []) := by
  induction n with
  | zero => intro σ x1 x2 x3 x4 H locs ls hl hP hS hf; cases hf
  | succ n ih => intro σ x1 x2 x3 x4 H locs ls hl hP hS hf; exact s_Md_isReady_19b C hmv hRf hRl hret (fun σ x1 x2 x3 x4 H locs ls hf hl hP hS => ih hl hP hS hf) hl hP hS hf
def f_Md_isReady_13 (σ : pv_S) (x1 : Int32) (x2 : Int32) (s0 : Int32) : Option (Int32 × pv_S) :=
  f_Md_isReady_19 pv_fu σ x1 x2 s0 ((4 : Int32) * x1)
set_option maxHeartbeats 4000000 in
set_option maxRecDepth 100000 in
theorem s_Md_isReady_13 {p : Program} {l : Launch} {e : Env} {R : Room} {s : State} {m : MethodId} {args : Array Value} {below : List Frame} {meth : Method} {c : Code} {Q : State → Prop} {D : va_G} {q : Nat → ClassId} {a : Nat → Nat} {A : Nat → Prop} (C : pv_C p s m args c prog_9_method_34_code 5 "PatchVoicesModel" pv_TB D pv_cl (pv_ty q) 36 a A (pv_ZM)) (hmv : pv_mv A (pv_ZM)) (hRf : 0 ≤ R.frames) (hRl : 0 ≤ R.locals) {out : (Int32 × pv_S)} (hret : pv_Rz p l e R s m args below meth c prog_9_method_34_code D pv_cl 36 a (pv_FM q a) A Q out) {σ : pv_S} {x1 : Int32} {x2 : Int32} {s0 : Int32} {H : Heap} {locs : List Loc} {ls : Array Slot} (hl : lv_has ls 5 [(0, .ref (a 0)), (1, .int x1), (2, .int x2)]) (hP : pv_W D pv_cl 36 a (pv_FM q a) σ H) (hS : va_S A s.heap H locs) (hf : f_Md_isReady_13 σ x1 x2 s0 = some out) : W p l e R s m args below meth c H locs 0 0 Q (F0 m 13 ls [.int s0]) := by
  unfold f_Md_isReady_13 at hf
  have hx := C.1
  have hb := C.2.1
  refine lv_istore_n (lv' := [(3, .int s0), (0, .ref (a 0)), (1, .int x1), (2, .int x2)]) hx hb d_Md_isReady_13 rfl hl (by decide) rfl (fun ls hl => ?_)
  refine lv_iconst (v := (4 : Int32)) hx hb d_Md_isReady_14 (by decide) ?_
  refine lv_iload_n hx hb d_Md_isReady_15 rfl (lv_at hl 2 rfl) ?_
  refine lv_imul hx hb d_Md_isReady_16 ?_
  refine lv_istore (lv' := [(4, .int ((4 : Int32) * x1)), (3, .int s0), (0, .ref (a 0)), (1, .int x1), (2, .int x2)]) hx hb d_Md_isReady_17 hl (by decide) rfl (fun ls hl => ?_)
  exact s_Md_isReady_19 C hmv hRf hRl hret pv_fu (lv_sub hl [2, 3, 4, 1, 0] rfl) hP hS hf
def f_Md_isReady_0 (σ : pv_S) (x1 : Int32) (x2 : Int32) : Option (Int32 × pv_S) :=
  (if ((x2 >>> (x1 &&& 31)) &&& (1 : Int32)) = 0 then
  f_Md_isReady_13 σ x1 x2 (1 : Int32)
  else
  f_Md_isReady_13 σ x1 x2 (0 : Int32))
set_option maxHeartbeats 4000000 in
set_option maxRecDepth 100000 in
theorem s_Md_isReady_0 {p : Program} {l : Launch} {e : Env} {R : Room} {s : State} {m : MethodId} {args : Array Value} {below : List Frame} {meth : Method} {c : Code} {Q : State → Prop} {D : va_G} {q : Nat → ClassId} {a : Nat → Nat} {A : Nat → Prop} (C : pv_C p s m args c prog_9_method_34_code 5 "PatchVoicesModel" pv_TB D pv_cl (pv_ty q) 36 a A (pv_ZM)) (hmv : pv_mv A (pv_ZM)) (hRf : 0 ≤ R.frames) (hRl : 0 ≤ R.locals) {out : (Int32 × pv_S)} (hret : pv_Rz p l e R s m args below meth c prog_9_method_34_code D pv_cl 36 a (pv_FM q a) A Q out) {σ : pv_S} {x1 : Int32} {x2 : Int32} {H : Heap} {locs : List Loc} {ls : Array Slot} (hl : lv_has ls 5 [(0, .ref (a 0)), (1, .int x1), (2, .int x2)]) (hP : pv_W D pv_cl 36 a (pv_FM q a) σ H) (hS : va_S A s.heap H locs) (hf : f_Md_isReady_0 σ x1 x2 = some out) : W p l e R s m args below meth c H locs 0 0 Q (F0 m 0 ls []) := by
  unfold f_Md_isReady_0 at hf
  have hx := C.1
  have hb := C.2.1
  refine lv_iload_n hx hb d_Md_isReady_0 rfl (lv_at hl 2 rfl) ?_
  refine lv_iload_n hx hb d_Md_isReady_1 rfl (lv_at hl 1 rfl) ?_
  refine lv_ishr hx hb d_Md_isReady_2 ?_
  refine lv_iconst (v := (1 : Int32)) hx hb d_Md_isReady_3 (by decide) ?_
  refine lv_iand hx hb d_Md_isReady_4 ?_
  refine lv_if_ne (tgt := 12) hx hb d_Md_isReady_5 (by decide) (fun h => ?_) (fun h => ?_)
  · have hf := pv_f hf h
    refine lv_iconst (v := (0 : Int32)) hx hb d_Md_isReady_12 (by decide) ?_
    exact s_Md_isReady_13 C hmv hRf hRl hret (lv_sub hl [0, 1, 2] rfl) hP hS hf
  · have hf := pv_t hf h
    refine lv_iconst (v := (1 : Int32)) hx hb d_Md_isReady_8 (by decide) ?_
    refine lv_goto (tgt := 13) hx hb d_Md_isReady_9 (by decide) ?_
    exact s_Md_isReady_13 C hmv hRf hRl hret (lv_sub hl [0, 1, 2] rfl) hP hS hf
def f_Md_isReady (σ : pv_S) (x1 : Int32) (x2 : Int32) : Option (Int32 × pv_S) := f_Md_isReady_0 σ x1 x2
def rm_Md_isReady : Room := { frames := 0, cells := 0, slots := 0, locals := 0 }
theorem c_Md_isReady {l : Launch} {D : va_G} {q : Nat → ClassId} {a : Nat → Nat} {A : Nat → Prop} (hD : pv_D 36 a A) (hmv : pv_mv A (pv_ZM)) {σ : pv_S} {x1 : Int32} {x2 : Int32} {out : (Int32 × pv_S)} (hf : f_Md_isReady σ x1 x2 = some out) : pv_Mi l y_Md_isReady (Cond.code y_Md_isReady prog_9_method_34_code 5 (some .boolean) :: pv_TB) rm_Md_isReady D pv_cl (pv_ty q) 36 a (pv_FM q a) A (pv_ZM) [.ref (a 0), .int x1, .int x2] σ out :=
  pv_ofZ (by decide) (Nat.le_of_ble_eq_true rfl) hD (fun p e s m args below meth c Q ls C hret hl hP => s_Md_isReady_0 C hmv (Nat.le_refl _) (Nat.le_refl _) hret hl hP va_S.rf hf)
theorem d_Md_arrange_0 : decode prog_9_method_35_code 0 = .ok (.iconst 0, 1) := by decide +kernel
theorem d_Md_arrange_1 : decode prog_9_method_35_code 1 = .ok (.istore_n 1, 1) := by decide +kernel
theorem d_Md_arrange_2 : decode prog_9_method_35_code 2 = .ok (.iconst 0, 1) := by decide +kernel
theorem d_Md_arrange_3 : decode prog_9_method_35_code 3 = .ok (.istore_n 2, 1) := by decide +kernel
theorem d_Md_arrange_4 : decode prog_9_method_35_code 4 = .ok (.iload_n 2, 1) := by decide +kernel
theorem d_Md_arrange_5 : decode prog_9_method_35_code 5 = .ok (.aload_n 0, 1) := by decide +kernel
theorem d_Md_arrange_6 : decode prog_9_method_35_code 6 = .ok (.getfield 253, 3) := by decide +kernel
theorem d_Md_arrange_9 : decode prog_9_method_35_code 9 = .ok (.if_icmp .ge 39, 3) := by decide +kernel
theorem d_Md_arrange_12 : decode prog_9_method_35_code 12 = .ok (.iconst 0, 1) := by decide +kernel
theorem d_Md_arrange_13 : decode prog_9_method_35_code 13 = .ok (.istore_n 3, 1) := by decide +kernel
theorem d_Md_arrange_14 : decode prog_9_method_35_code 14 = .ok (.aload_n 0, 1) := by decide +kernel
theorem d_Md_arrange_15 : decode prog_9_method_35_code 15 = .ok (.iload_n 3, 1) := by decide +kernel
theorem d_Md_arrange_16 : decode prog_9_method_35_code 16 = .ok (.iload_n 1, 1) := by decide +kernel
theorem d_Md_arrange_17 : decode prog_9_method_35_code 17 = .ok (.invokevirtual 256, 3) := by decide +kernel
theorem d_Md_arrange_20 : decode prog_9_method_35_code 20 = .ok (.ifCond .ne 9, 3) := by decide +kernel
theorem d_Md_arrange_23 : decode prog_9_method_35_code 23 = .ok (.iinc 3 1, 3) := by decide +kernel
theorem d_Md_arrange_26 : decode prog_9_method_35_code 26 = .ok (.goto (-12), 3) := by decide +kernel
theorem d_Md_arrange_29 : decode prog_9_method_35_code 29 = .ok (.aload_n 0, 1) := by decide +kernel
theorem d_Md_arrange_30 : decode prog_9_method_35_code 30 = .ok (.getfield 50, 3) := by decide +kernel
theorem d_Md_arrange_33 : decode prog_9_method_35_code 33 = .ok (.iload_n 2, 1) := by decide +kernel
theorem d_Md_arrange_34 : decode prog_9_method_35_code 34 = .ok (.iload_n 3, 1) := by decide +kernel
theorem d_Md_arrange_35 : decode prog_9_method_35_code 35 = .ok (.iastore, 1) := by decide +kernel
theorem d_Md_arrange_36 : decode prog_9_method_35_code 36 = .ok (.iload_n 1, 1) := by decide +kernel
theorem d_Md_arrange_37 : decode prog_9_method_35_code 37 = .ok (.iconst 1, 1) := by decide +kernel
theorem d_Md_arrange_38 : decode prog_9_method_35_code 38 = .ok (.iload_n 3, 1) := by decide +kernel
theorem d_Md_arrange_39 : decode prog_9_method_35_code 39 = .ok (.ishl, 1) := by decide +kernel
theorem d_Md_arrange_40 : decode prog_9_method_35_code 40 = .ok (.ior, 1) := by decide +kernel
theorem d_Md_arrange_41 : decode prog_9_method_35_code 41 = .ok (.istore_n 1, 1) := by decide +kernel
theorem d_Md_arrange_42 : decode prog_9_method_35_code 42 = .ok (.iinc 2 1, 3) := by decide +kernel
theorem d_Md_arrange_45 : decode prog_9_method_35_code 45 = .ok (.goto (-41), 3) := by decide +kernel
theorem d_Md_arrange_48 : decode prog_9_method_35_code 48 = .ok (.return_, 1) := by decide +kernel
def f_Md_arrange_14b (k_4 : pv_S → Int32 → Int32 → Option pv_S) (k_14 : pv_S → Int32 → Int32 → Int32 → Option pv_S) (σ : pv_S) (x1 : Int32) (x2 : Int32) (x3 : Int32) : Option pv_S :=
  ((f_Md_isReady σ x3 x1).bind fun q1 =>
(if q1.1 = 0 then
  k_14 q1.2 x1 x2 (x3 + (1 : Int32))
  else
  (if pv_in x2 24 = true then
k_4 (pv_uI q1.2 13 (x2).toNatClampNeg x3) (x1 ||| ((1 : Int32) <<< (x3 &&& 31))) (x2 + (1 : Int32))
  else none)))
set_option maxHeartbeats 4000000 in
set_option maxRecDepth 100000 in
theorem s_Md_arrange_14b {p : Program} {l : Launch} {e : Env} {R : Room} {s : State} {m : MethodId} {args : Array Value} {below : List Frame} {meth : Method} {c : Code} {Q : State → Prop} {D : va_G} {q : Nat → ClassId} {a : Nat → Nat} {A : Nat → Prop} (C : pv_C p s m args c prog_9_method_35_code 4 "PatchVoicesModel" pv_TB D pv_cl (pv_ty q) 36 a A (pv_ZM)) (hmv : pv_mv A (pv_ZM)) (hRf : 1 ≤ R.frames) (hRl : 24 ≤ R.locals) {out : pv_S} (hret : pv_Rv p l e R s m args below meth c prog_9_method_35_code D pv_cl 36 a (pv_FM q a) A Q out) {k_4 : pv_S → Int32 → Int32 → Option pv_S} (hk_4 : ∀ (σ : pv_S) (x1 : Int32) (x2 : Int32) (H : Heap) (locs : List Loc) (ls : Array Slot), k_4 σ x1 x2 = some out → lv_has ls 4 [(0, .ref (a 0)), (1, .int x1), (2, .int x2)] → pv_W D pv_cl 36 a (pv_FM q a) σ H → va_S A s.heap H locs → W p l e R s m args below meth c H locs 0 0 Q (F0 m 4 ls [])) {k_14 : pv_S → Int32 → Int32 → Int32 → Option pv_S} (hk_14 : ∀ (σ : pv_S) (x1 : Int32) (x2 : Int32) (x3 : Int32) (H : Heap) (locs : List Loc) (ls : Array Slot), k_14 σ x1 x2 x3 = some out → lv_has ls 4 [(0, .ref (a 0)), (1, .int x1), (2, .int x2), (3, .int x3)] → pv_W D pv_cl 36 a (pv_FM q a) σ H → va_S A s.heap H locs → W p l e R s m args below meth c H locs 0 0 Q (F0 m 14 ls [])) {σ : pv_S} {x1 : Int32} {x2 : Int32} {x3 : Int32} {H : Heap} {locs : List Loc} {ls : Array Slot} (hl : lv_has ls 4 [(0, .ref (a 0)), (1, .int x1), (2, .int x2), (3, .int x3)]) (hP : pv_W D pv_cl 36 a (pv_FM q a) σ H) (hS : va_S A s.heap H locs) (hf : f_Md_arrange_14b k_4 k_14 σ x1 x2 x3 = some out) : W p l e R s m args below meth c H locs 0 0 Q (F0 m 14 ls []) := by
  unfold f_Md_arrange_14b at hf
  have hx := C.1
  have hb := C.2.1
  refine lv_aload_n hx hb d_Md_arrange_14 rfl (lv_at hl 0 rfl) ?_
  refine lv_iload_n hx hb d_Md_arrange_15 rfl (lv_at hl 3 rfl) ?_
  refine lv_iload_n hx hb d_Md_arrange_16 rfl (lv_at hl 1 rfl) ?_
  obtain ⟨q1, hc, hf⟩ := pv_b hf
  refine pv_callVi C hmv pv_good hP hS (As := [.int x3, .int x1]) (rest := []) (by decide) (fm_0 _ _ _ _) rfl (c_Md_isReady C.2.2.2.2.2.2.1 hmv hc) cv_Md_256 ⟨rfl, rfl, Nat.le_trans (Nat.le_of_ble_eq_true rfl) hRf, Nat.le_trans (Nat.le_of_ble_eq_true rfl) hRl⟩ rfl hl.1 rfl (Nat.le_of_ble_eq_true rfl) d_Md_arrange_17 ⟨Nat.zero_le _, Nat.zero_le _⟩ (fun H locs hP hS => ?_)
  refine lv_if_ne (tgt := 29) hx hb d_Md_arrange_20 (by decide) (fun h => ?_) (fun h => ?_)
  · have hf := pv_f hf h
    refine lv_aload_n hx hb d_Md_arrange_29 rfl (lv_at hl 0 rfl) ?_
    refine pv_get C hP (v := .ref (a 13)) (j := 23) (by decide) (fm_0 _ _ _ _) fl_Md_50 rfl d_Md_arrange_30 ?_
    refine lv_iload_n hx hb d_Md_arrange_33 rfl (lv_at hl 2 rfl) ?_
    refine lv_iload_n hx hb d_Md_arrange_34 rfl (lv_at hl 3 rfl) ?_
    obtain ⟨hg, hf⟩ := pv_g hf
    refine pv_iast C hP hS (t0 := 0) (x := x3) (by decide) (fun f g => (fm_13 _ _ f g)) rfl hg d_Md_arrange_35 (fun H locs hP hS => ?_)
    refine lv_iload_n hx hb d_Md_arrange_36 rfl (lv_at hl 1 rfl) ?_
    refine lv_iconst (v := (1 : Int32)) hx hb d_Md_arrange_37 (by decide) ?_
    refine lv_iload_n hx hb d_Md_arrange_38 rfl (lv_at hl 3 rfl) ?_
    refine lv_ishl hx hb d_Md_arrange_39 ?_
    refine lv_ior hx hb d_Md_arrange_40 ?_
    refine lv_istore_n (lv' := [(1, .int (x1 ||| ((1 : Int32) <<< (x3 &&& 31)))), (0, .ref (a 0)), (2, .int x2), (3, .int x3)]) hx hb d_Md_arrange_41 rfl hl (by decide) rfl (fun ls hl => ?_)
    refine lv_iinc (k := 2) (v := (x2 + (1 : Int32))) (lv' := [(2, .int (x2 + (1 : Int32))), (1, .int (x1 ||| ((1 : Int32) <<< (x3 &&& 31)))), (0, .ref (a 0)), (3, .int x3)]) hx hb d_Md_arrange_42 hl rfl (pv_inc (by decide)) (by decide) rfl (fun ls hl => ?_)
    refine lv_goto (tgt := 4) hx hb d_Md_arrange_45 (by decide) ?_
    exact hk_4 _ _ _ _ _ _ hf (lv_sub hl [2, 1, 0] rfl) hP hS
  · have hf := pv_t hf h
    refine lv_iinc (k := 3) (v := (x3 + (1 : Int32))) (lv' := [(3, .int (x3 + (1 : Int32))), (0, .ref (a 0)), (1, .int x1), (2, .int x2)]) hx hb d_Md_arrange_23 hl rfl (pv_inc (by decide)) (by decide) rfl (fun ls hl => ?_)
    refine lv_goto (tgt := 14) hx hb d_Md_arrange_26 (by decide) ?_
    exact hk_14 _ _ _ _ _ _ _ hf (lv_sub hl [1, 2, 3, 0] rfl) hP hS
def f_Md_arrange_14 (k_4 : pv_S → Int32 → Int32 → Option pv_S) : Nat → pv_S → Int32 → Int32 → Int32 → Option pv_S
  | 0 => fun _ _ _ _ => none
  | n + 1 => f_Md_arrange_14b k_4 (f_Md_arrange_14 k_4 n)
set_option maxHeartbeats 4000000 in
theorem s_Md_arrange_14 {p : Program} {l : Launch} {e : Env} {R : Room} {s : State} {m : MethodId} {args : Array Value} {below : List Frame} {meth : Method} {c : Code} {Q : State → Prop} {D : va_G} {q : Nat → ClassId} {a : Nat → Nat} {A : Nat → Prop} (C : pv_C p s m args c prog_9_method_35_code 4 "PatchVoicesModel" pv_TB D pv_cl (pv_ty q) 36 a A (pv_ZM)) (hmv : pv_mv A (pv_ZM)) (hRf : 1 ≤ R.frames) (hRl : 24 ≤ R.locals) {out : pv_S} (hret : pv_Rv p l e R s m args below meth c prog_9_method_35_code D pv_cl 36 a (pv_FM q a) A Q out) {k_4 : pv_S → Int32 → Int32 → Option pv_S} (hk_4 : ∀ (σ : pv_S) (x1 : Int32) (x2 : Int32) (H : Heap) (locs : List Loc) (ls : Array Slot), k_4 σ x1 x2 = some out → lv_has ls 4 [(0, .ref (a 0)), (1, .int x1), (2, .int x2)] → pv_W D pv_cl 36 a (pv_FM q a) σ H → va_S A s.heap H locs → W p l e R s m args below meth c H locs 0 0 Q (F0 m 4 ls [])) (n : Nat) : ∀ {σ : pv_S} {x1 : Int32} {x2 : Int32} {x3 : Int32} {H : Heap} {locs : List Loc} {ls : Array Slot}, lv_has ls 4 [(0, .ref (a 0)), (1, .int x1), (2, .int x2), (3, .int x3)] → pv_W D pv_cl 36 a (pv_FM q a) σ H → va_S A s.heap H locs → f_Md_arrange_14 k_4 n σ x1 x2 x3 = some out → W p l e R s m args below meth c H locs 0 0 Q (F0 m 14 ls []) := by
  induction n with
  | zero => intro σ x1 x2 x3 H locs ls hl hP hS hf; cases hf
  | succ n ih => intro σ x1 x2 x3 H locs ls hl hP hS hf; exact s_Md_arrange_14b C hmv hRf hRl hret hk_4 (fun σ x1 x2 x3 H locs ls hf hl hP hS => ih hl hP hS hf) hl hP hS hf
def f_Md_arrange_4b (k_4 : pv_S → Int32 → Int32 → Option pv_S) (σ : pv_S) (x1 : Int32) (x2 : Int32) : Option pv_S :=
  (if (σ.1 0 18) ≤ x2 then
  some σ
  else
  f_Md_arrange_14 k_4 pv_fu σ x1 x2 (0 : Int32))
set_option maxHeartbeats 4000000 in
set_option maxRecDepth 100000 in
theorem s_Md_arrange_4b {p : Program} {l : Launch} {e : Env} {R : Room} {s : State} {m : MethodId} {args : Array Value} {below : List Frame} {meth : Method} {c : Code} {Q : State → Prop} {D : va_G} {q : Nat → ClassId} {a : Nat → Nat} {A : Nat → Prop} (C : pv_C p s m args c prog_9_method_35_code 4 "PatchVoicesModel" pv_TB D pv_cl (pv_ty q) 36 a A (pv_ZM)) (hmv : pv_mv A (pv_ZM)) (hRf : 1 ≤ R.frames) (hRl : 24 ≤ R.locals) {out : pv_S} (hret : pv_Rv p l e R s m args below meth c prog_9_method_35_code D pv_cl 36 a (pv_FM q a) A Q out) {k_4 : pv_S → Int32 → Int32 → Option pv_S} (hk_4 : ∀ (σ : pv_S) (x1 : Int32) (x2 : Int32) (H : Heap) (locs : List Loc) (ls : Array Slot), k_4 σ x1 x2 = some out → lv_has ls 4 [(0, .ref (a 0)), (1, .int x1), (2, .int x2)] → pv_W D pv_cl 36 a (pv_FM q a) σ H → va_S A s.heap H locs → W p l e R s m args below meth c H locs 0 0 Q (F0 m 4 ls [])) {σ : pv_S} {x1 : Int32} {x2 : Int32} {H : Heap} {locs : List Loc} {ls : Array Slot} (hl : lv_has ls 4 [(0, .ref (a 0)), (1, .int x1), (2, .int x2)]) (hP : pv_W D pv_cl 36 a (pv_FM q a) σ H) (hS : va_S A s.heap H locs) (hf : f_Md_arrange_4b k_4 σ x1 x2 = some out) : W p l e R s m args below meth c H locs 0 0 Q (F0 m 4 ls []) := by
  unfold f_Md_arrange_4b at hf
  have hx := C.1
  have hb := C.2.1
  refine lv_iload_n hx hb d_Md_arrange_4 rfl (lv_at hl 2 rfl) ?_
  refine lv_aload_n hx hb d_Md_arrange_5 rfl (lv_at hl 0 rfl) ?_
  refine pv_get C hP (v := .int (σ.1 0 18)) (j := 18) (by decide) (fm_0 _ _ _ _) fl_Md_253 rfl d_Md_arrange_6 ?_
  refine lv_icmp_ge (tgt := 48) hx hb d_Md_arrange_9 (by decide) (fun h => ?_) (fun h => ?_)
  · have hf := pv_t hf h
    obtain rfl := Option.some.inj hf
    exact hret _ _ _ _ d_Md_arrange_48 hP hS
  · have hf := pv_f hf h
    refine lv_iconst (v := (0 : Int32)) hx hb d_Md_arrange_12 (by decide) ?_
    refine lv_istore_n (lv' := [(3, .int (0 : Int32)), (0, .ref (a 0)), (1, .int x1), (2, .int x2)]) hx hb d_Md_arrange_13 rfl hl (by decide) rfl (fun ls hl => ?_)
    exact s_Md_arrange_14 C hmv hRf hRl hret hk_4 pv_fu (lv_sub hl [1, 2, 3, 0] rfl) hP hS hf
def f_Md_arrange_4 : Nat → pv_S → Int32 → Int32 → Option pv_S
  | 0 => fun _ _ _ => none
  | n + 1 => f_Md_arrange_4b (f_Md_arrange_4 n)
set_option maxHeartbeats 4000000 in
theorem s_Md_arrange_4 {p : Program} {l : Launch} {e : Env} {R : Room} {s : State} {m : MethodId} {args : Array Value} {below : List Frame} {meth : Method} {c : Code} {Q : State → Prop} {D : va_G} {q : Nat → ClassId} {a : Nat → Nat} {A : Nat → Prop} (C : pv_C p s m args c prog_9_method_35_code 4 "PatchVoicesModel" pv_TB D pv_cl (pv_ty q) 36 a A (pv_ZM)) (hmv : pv_mv A (pv_ZM)) (hRf : 1 ≤ R.frames) (hRl : 24 ≤ R.locals) {out : pv_S} (hret : pv_Rv p l e R s m args below meth c prog_9_method_35_code D pv_cl 36 a (pv_FM q a) A Q out) (n : Nat) : ∀ {σ : pv_S} {x1 : Int32} {x2 : Int32} {H : Heap} {locs : List Loc} {ls : Array Slot}, lv_has ls 4 [(0, .ref (a 0)), (1, .int x1), (2, .int x2)] → pv_W D pv_cl 36 a (pv_FM q a) σ H → va_S A s.heap H locs → f_Md_arrange_4 n σ x1 x2 = some out → W p l e R s m args below meth c H locs 0 0 Q (F0 m 4 ls []) := by
  induction n with
  | zero => intro σ x1 x2 H locs ls hl hP hS hf; cases hf
  | succ n ih => intro σ x1 x2 H locs ls hl hP hS hf; exact s_Md_arrange_4b C hmv hRf hRl hret (fun σ x1 x2 H locs ls hf hl hP hS => ih hl hP hS hf) hl hP hS hf
def f_Md_arrange_0 (σ : pv_S) : Option pv_S :=
  f_Md_arrange_4 pv_fu σ (0 : Int32) (0 : Int32)
set_option maxHeartbeats 4000000 in
set_option maxRecDepth 100000 in
theorem s_Md_arrange_0 {p : Program} {l : Launch} {e : Env} {R : Room} {s : State} {m : MethodId} {args : Array Value} {below : List Frame} {meth : Method} {c : Code} {Q : State → Prop} {D : va_G} {q : Nat → ClassId} {a : Nat → Nat} {A : Nat → Prop} (C : pv_C p s m args c prog_9_method_35_code 4 "PatchVoicesModel" pv_TB D pv_cl (pv_ty q) 36 a A (pv_ZM)) (hmv : pv_mv A (pv_ZM)) (hRf : 1 ≤ R.frames) (hRl : 24 ≤ R.locals) {out : pv_S} (hret : pv_Rv p l e R s m args below meth c prog_9_method_35_code D pv_cl 36 a (pv_FM q a) A Q out) {σ : pv_S} {H : Heap} {locs : List Loc} {ls : Array Slot} (hl : lv_has ls 4 [(0, .ref (a 0))]) (hP : pv_W D pv_cl 36 a (pv_FM q a) σ H) (hS : va_S A s.heap H locs) (hf : f_Md_arrange_0 σ = some out) : W p l e R s m args below meth c H locs 0 0 Q (F0 m 0 ls []) := by
  unfold f_Md_arrange_0 at hf
  have hx := C.1
  have hb := C.2.1
  refine lv_iconst (v := (0 : Int32)) hx hb d_Md_arrange_0 (by decide) ?_
  refine lv_istore_n (lv' := [(1, .int (0 : Int32)), (0, .ref (a 0))]) hx hb d_Md_arrange_1 rfl hl (by decide) rfl (fun ls hl => ?_)
  refine lv_iconst (v := (0 : Int32)) hx hb d_Md_arrange_2 (by decide) ?_
  refine lv_istore_n (lv' := [(2, .int (0 : Int32)), (1, .int (0 : Int32)), (0, .ref (a 0))]) hx hb d_Md_arrange_3 rfl hl (by decide) rfl (fun ls hl => ?_)
  exact s_Md_arrange_4 C hmv hRf hRl hret pv_fu (lv_sub hl [2, 1, 0] rfl) hP hS hf
def f_Md_arrange (σ : pv_S) : Option pv_S := f_Md_arrange_0 σ
def rm_Md_arrange : Room := { frames := 1, cells := 0, slots := 0, locals := 24 }
theorem c_Md_arrange {l : Launch} {D : va_G} {q : Nat → ClassId} {a : Nat → Nat} {A : Nat → Prop} (hD : pv_D 36 a A) (hmv : pv_mv A (pv_ZM)) {σ : pv_S} {out : pv_S} (hf : f_Md_arrange σ = some out) : pv_Mv l y_Md_arrange (Cond.code y_Md_arrange prog_9_method_35_code 4 none :: pv_TB) rm_Md_arrange D pv_cl (pv_ty q) 36 a (pv_FM q a) A (pv_ZM) [.ref (a 0)] σ out :=
  pv_ofV (by decide) (Nat.le_of_ble_eq_true rfl) hD (fun p e s m args below meth c Q ls C hret hl hP => s_Md_arrange_0 C hmv (Nat.le_refl _) (Nat.le_refl _) hret hl hP va_S.rf hf)
theorem d_Md_source_0 : decode prog_9_method_36_code 0 = .ok (.aload_n 0, 1) := by decide +kernel
theorem d_Md_source_1 : decode prog_9_method_36_code 1 = .ok (.getfield 44, 3) := by decide +kernel
theorem d_Md_source_4 : decode prog_9_method_36_code 4 = .ok (.iload_n 1, 1) := by decide +kernel
theorem d_Md_source_5 : decode prog_9_method_36_code 5 = .ok (.iaload, 1) := by decide +kernel
theorem d_Md_source_6 : decode prog_9_method_36_code 6 = .ok (.ifCond .ge 7, 3) := by decide +kernel
theorem d_Md_source_9 : decode prog_9_method_36_code 9 = .ok (.iconst (-1), 1) := by decide +kernel
theorem d_Md_source_10 : decode prog_9_method_36_code 10 = .ok (.goto 14, 3) := by decide +kernel
theorem d_Md_source_13 : decode prog_9_method_36_code 13 = .ok (.aload_n 0, 1) := by decide +kernel
theorem d_Md_source_14 : decode prog_9_method_36_code 14 = .ok (.getfield 56, 3) := by decide +kernel
theorem d_Md_source_17 : decode prog_9_method_36_code 17 = .ok (.aload_n 0, 1) := by decide +kernel
theorem d_Md_source_18 : decode prog_9_method_36_code 18 = .ok (.getfield 44, 3) := by decide +kernel
theorem d_Md_source_21 : decode prog_9_method_36_code 21 = .ok (.iload_n 1, 1) := by decide +kernel
theorem d_Md_source_22 : decode prog_9_method_36_code 22 = .ok (.iaload, 1) := by decide +kernel
theorem d_Md_source_23 : decode prog_9_method_36_code 23 = .ok (.iaload, 1) := by decide +kernel
theorem d_Md_source_24 : decode prog_9_method_36_code 24 = .ok (.ireturn, 1) := by decide +kernel
def f_Md_source_0 (σ : pv_S) (x1 : Int32) : Option (Int32 × pv_S) :=
  (if pv_in x1 96 = true then
(if 0 ≤ (σ.1 11 (x1).toNatClampNeg) then
  (if pv_in x1 96 = true then
(if pv_in (σ.1 11 (x1).toNatClampNeg) 24 = true then
some ((σ.1 15 ((σ.1 11 (x1).toNatClampNeg)).toNatClampNeg), σ)
  else none)
  else none)
  else
  some ((-1 : Int32), σ))
  else none)
set_option maxHeartbeats 4000000 in
set_option maxRecDepth 100000 in
theorem s_Md_source_0 {p : Program} {l : Launch} {e : Env} {R : Room} {s : State} {m : MethodId} {args : Array Value} {below : List Frame} {meth : Method} {c : Code} {Q : State → Prop} {D : va_G} {q : Nat → ClassId} {a : Nat → Nat} {A : Nat → Prop} (C : pv_C p s m args c prog_9_method_36_code 2 "PatchVoicesModel" pv_TB D pv_cl (pv_ty q) 36 a A (pv_ZM)) (hmv : pv_mv A (pv_ZM)) (hRf : 0 ≤ R.frames) (hRl : 0 ≤ R.locals) {out : (Int32 × pv_S)} (hret : pv_Ri p l e R s m args below meth c prog_9_method_36_code D pv_cl 36 a (pv_FM q a) A Q out) {σ : pv_S} {x1 : Int32} {H : Heap} {locs : List Loc} {ls : Array Slot} (hl : lv_has ls 2 [(0, .ref (a 0)), (1, .int x1)]) (hP : pv_W D pv_cl 36 a (pv_FM q a) σ H) (hS : va_S A s.heap H locs) (hf : f_Md_source_0 σ x1 = some out) : W p l e R s m args below meth c H locs 0 0 Q (F0 m 0 ls []) := by
  unfold f_Md_source_0 at hf
  have hx := C.1
  have hb := C.2.1
  refine lv_aload_n hx hb d_Md_source_0 rfl (lv_at hl 0 rfl) ?_
  refine pv_get C hP (v := .ref (a 11)) (j := 21) (by decide) (fm_0 _ _ _ _) fl_Md_44 rfl d_Md_source_1 ?_
  refine lv_iload_n hx hb d_Md_source_4 rfl (lv_at hl 1 rfl) ?_
  obtain ⟨hg, hf⟩ := pv_g hf
  refine pv_iald C hP (t0 := 0) (by decide) (fm_11 _ _ _ _) rfl hg d_Md_source_5 ?_
  refine lv_if_ge (tgt := 13) hx hb d_Md_source_6 (by decide) (fun h => ?_) (fun h => ?_)
  · have hf := pv_t hf h
    refine lv_aload_n hx hb d_Md_source_13 rfl (lv_at hl 0 rfl) ?_
    refine pv_get C hP (v := .ref (a 15)) (j := 25) (by decide) (fm_0 _ _ _ _) fl_Md_56 rfl d_Md_source_14 ?_
    refine lv_aload_n hx hb d_Md_source_17 rfl (lv_at hl 0 rfl) ?_
    refine pv_get C hP (v := .ref (a 11)) (j := 21) (by decide) (fm_0 _ _ _ _) fl_Md_44 rfl d_Md_source_18 ?_
    refine lv_iload_n hx hb d_Md_source_21 rfl (lv_at hl 1 rfl) ?_
    obtain ⟨hg, hf⟩ := pv_g hf
    refine pv_iald C hP (t0 := 0) (by decide) (fm_11 _ _ _ _) rfl hg d_Md_source_22 ?_
    obtain ⟨hg, hf⟩ := pv_g hf
    refine pv_iald C hP (t0 := 0) (by decide) (fm_15 _ _ _ _) rfl hg d_Md_source_23 ?_
    obtain rfl := Option.some.inj hf
    exact hret _ _ _ _ d_Md_source_24 hP hS
  · have hf := pv_f hf h
    refine lv_iconst (v := (-1 : Int32)) hx hb d_Md_source_9 (by decide) ?_
    refine lv_goto (tgt := 24) hx hb d_Md_source_10 (by decide) ?_
    obtain rfl := Option.some.inj hf
    exact hret _ _ _ _ d_Md_source_24 hP hS
def f_Md_source (σ : pv_S) (x1 : Int32) : Option (Int32 × pv_S) := f_Md_source_0 σ x1
def rm_Md_source : Room := { frames := 0, cells := 0, slots := 0, locals := 0 }
theorem c_Md_source {l : Launch} {D : va_G} {q : Nat → ClassId} {a : Nat → Nat} {A : Nat → Prop} (hD : pv_D 36 a A) (hmv : pv_mv A (pv_ZM)) {σ : pv_S} {x1 : Int32} {out : (Int32 × pv_S)} (hf : f_Md_source σ x1 = some out) : pv_Mi l y_Md_source (Cond.code y_Md_source prog_9_method_36_code 2 (some .int) :: pv_TB) rm_Md_source D pv_cl (pv_ty q) 36 a (pv_FM q a) A (pv_ZM) [.ref (a 0), .int x1] σ out :=
  pv_ofI (by decide) (Nat.le_of_ble_eq_true rfl) hD (fun p e s m args below meth c Q ls C hret hl hP => s_Md_source_0 C hmv (Nat.le_refl _) (Nat.le_refl _) hret hl hP va_S.rf hf)
theorem d_Md_amount_0 : decode prog_9_method_37_code 0 = .ok (.aload_n 0, 1) := by decide +kernel
theorem d_Md_amount_1 : decode prog_9_method_37_code 1 = .ok (.getfield 44, 3) := by decide +kernel
theorem d_Md_amount_4 : decode prog_9_method_37_code 4 = .ok (.iload_n 1, 1) := by decide +kernel
theorem d_Md_amount_5 : decode prog_9_method_37_code 5 = .ok (.iaload, 1) := by decide +kernel
theorem d_Md_amount_6 : decode prog_9_method_37_code 6 = .ok (.ifCond .ge 12, 3) := by decide +kernel
theorem d_Md_amount_9 : decode prog_9_method_37_code 9 = .ok (.aload_n 0, 1) := by decide +kernel
theorem d_Md_amount_10 : decode prog_9_method_37_code 10 = .ok (.getfield 47, 3) := by decide +kernel
theorem d_Md_amount_13 : decode prog_9_method_37_code 13 = .ok (.iload_n 1, 1) := by decide +kernel
theorem d_Md_amount_14 : decode prog_9_method_37_code 14 = .ok (.iaload, 1) := by decide +kernel
theorem d_Md_amount_15 : decode prog_9_method_37_code 15 = .ok (.goto 32, 3) := by decide +kernel
theorem d_Md_amount_18 : decode prog_9_method_37_code 18 = .ok (.aload_n 0, 1) := by decide +kernel
theorem d_Md_amount_19 : decode prog_9_method_37_code 19 = .ok (.getfield 56, 3) := by decide +kernel
theorem d_Md_amount_22 : decode prog_9_method_37_code 22 = .ok (.aload_n 0, 1) := by decide +kernel
theorem d_Md_amount_23 : decode prog_9_method_37_code 23 = .ok (.getfield 44, 3) := by decide +kernel
theorem d_Md_amount_26 : decode prog_9_method_37_code 26 = .ok (.iload_n 1, 1) := by decide +kernel
theorem d_Md_amount_27 : decode prog_9_method_37_code 27 = .ok (.iaload, 1) := by decide +kernel
theorem d_Md_amount_28 : decode prog_9_method_37_code 28 = .ok (.iaload, 1) := by decide +kernel
theorem d_Md_amount_29 : decode prog_9_method_37_code 29 = .ok (.ifCond .ge 17, 3) := by decide +kernel
theorem d_Md_amount_32 : decode prog_9_method_37_code 32 = .ok (.aload_n 0, 1) := by decide +kernel
theorem d_Md_amount_33 : decode prog_9_method_37_code 33 = .ok (.getfield 59, 3) := by decide +kernel
theorem d_Md_amount_36 : decode prog_9_method_37_code 36 = .ok (.aload_n 0, 1) := by decide +kernel
theorem d_Md_amount_37 : decode prog_9_method_37_code 37 = .ok (.getfield 44, 3) := by decide +kernel
theorem d_Md_amount_40 : decode prog_9_method_37_code 40 = .ok (.iload_n 1, 1) := by decide +kernel
theorem d_Md_amount_41 : decode prog_9_method_37_code 41 = .ok (.iaload, 1) := by decide +kernel
theorem d_Md_amount_42 : decode prog_9_method_37_code 42 = .ok (.iaload, 1) := by decide +kernel
theorem d_Md_amount_43 : decode prog_9_method_37_code 43 = .ok (.goto 4, 3) := by decide +kernel
theorem d_Md_amount_46 : decode prog_9_method_37_code 46 = .ok (.iconst 0, 1) := by decide +kernel
theorem d_Md_amount_47 : decode prog_9_method_37_code 47 = .ok (.ireturn, 1) := by decide +kernel
def f_Md_amount_0 (σ : pv_S) (x1 : Int32) : Option (Int32 × pv_S) :=
  (if pv_in x1 96 = true then
(if 0 ≤ (σ.1 11 (x1).toNatClampNeg) then
  (if pv_in x1 96 = true then
(if pv_in (σ.1 11 (x1).toNatClampNeg) 24 = true then
(if 0 ≤ (σ.1 15 ((σ.1 11 (x1).toNatClampNeg)).toNatClampNeg) then
  some ((0 : Int32), σ)
  else
  (if pv_in x1 96 = true then
(if pv_in (σ.1 11 (x1).toNatClampNeg) 24 = true then
some ((σ.1 16 ((σ.1 11 (x1).toNatClampNeg)).toNatClampNeg), σ)
  else none)
  else none))
  else none)
  else none)
  else
  (if pv_in x1 96 = true then
some ((σ.1 12 (x1).toNatClampNeg), σ)
  else none))
  else none)
set_option maxHeartbeats 4000000 in
set_option maxRecDepth 100000 in
theorem s_Md_amount_0 {p : Program} {l : Launch} {e : Env} {R : Room} {s : State} {m : MethodId} {args : Array Value} {below : List Frame} {meth : Method} {c : Code} {Q : State → Prop} {D : va_G} {q : Nat → ClassId} {a : Nat → Nat} {A : Nat → Prop} (C : pv_C p s m args c prog_9_method_37_code 2 "PatchVoicesModel" pv_TB D pv_cl (pv_ty q) 36 a A (pv_ZM)) (hmv : pv_mv A (pv_ZM)) (hRf : 0 ≤ R.frames) (hRl : 0 ≤ R.locals) {out : (Int32 × pv_S)} (hret : pv_Ri p l e R s m args below meth c prog_9_method_37_code D pv_cl 36 a (pv_FM q a) A Q out) {σ : pv_S} {x1 : Int32} {H : Heap} {locs : List Loc} {ls : Array Slot} (hl : lv_has ls 2 [(0, .ref (a 0)), (1, .int x1)]) (hP : pv_W D pv_cl 36 a (pv_FM q a) σ H) (hS : va_S A s.heap H locs) (hf : f_Md_amount_0 σ x1 = some out) : W p l e R s m args below meth c H locs 0 0 Q (F0 m 0 ls []) := by
  unfold f_Md_amount_0 at hf
  have hx := C.1
  have hb := C.2.1
  refine lv_aload_n hx hb d_Md_amount_0 rfl (lv_at hl 0 rfl) ?_
  refine pv_get C hP (v := .ref (a 11)) (j := 21) (by decide) (fm_0 _ _ _ _) fl_Md_44 rfl d_Md_amount_1 ?_
  refine lv_iload_n hx hb d_Md_amount_4 rfl (lv_at hl 1 rfl) ?_
  obtain ⟨hg, hf⟩ := pv_g hf
  refine pv_iald C hP (t0 := 0) (by decide) (fm_11 _ _ _ _) rfl hg d_Md_amount_5 ?_
  refine lv_if_ge (tgt := 18) hx hb d_Md_amount_6 (by decide) (fun h => ?_) (fun h => ?_)
  · have hf := pv_t hf h
    refine lv_aload_n hx hb d_Md_amount_18 rfl (lv_at hl 0 rfl) ?_
    refine pv_get C hP (v := .ref (a 15)) (j := 25) (by decide) (fm_0 _ _ _ _) fl_Md_56 rfl d_Md_amount_19 ?_
    refine lv_aload_n hx hb d_Md_amount_22 rfl (lv_at hl 0 rfl) ?_
    refine pv_get C hP (v := .ref (a 11)) (j := 21) (by decide) (fm_0 _ _ _ _) fl_Md_44 rfl d_Md_amount_23 ?_
    refine lv_iload_n hx hb d_Md_amount_26 rfl (lv_at hl 1 rfl) ?_
    obtain ⟨hg, hf⟩ := pv_g hf
    refine pv_iald C hP (t0 := 0) (by decide) (fm_11 _ _ _ _) rfl hg d_Md_amount_27 ?_
    obtain ⟨hg, hf⟩ := pv_g hf
    refine pv_iald C hP (t0 := 0) (by decide) (fm_15 _ _ _ _) rfl hg d_Md_amount_28 ?_
    refine lv_if_ge (tgt := 46) hx hb d_Md_amount_29 (by decide) (fun h => ?_) (fun h => ?_)
    · have hf := pv_t hf h
      refine lv_iconst (v := (0 : Int32)) hx hb d_Md_amount_46 (by decide) ?_
      obtain rfl := Option.some.inj hf
      exact hret _ _ _ _ d_Md_amount_47 hP hS
    · have hf := pv_f hf h
      refine lv_aload_n hx hb d_Md_amount_32 rfl (lv_at hl 0 rfl) ?_
      refine pv_get C hP (v := .ref (a 16)) (j := 26) (by decide) (fm_0 _ _ _ _) fl_Md_59 rfl d_Md_amount_33 ?_
      refine lv_aload_n hx hb d_Md_amount_36 rfl (lv_at hl 0 rfl) ?_
      refine pv_get C hP (v := .ref (a 11)) (j := 21) (by decide) (fm_0 _ _ _ _) fl_Md_44 rfl d_Md_amount_37 ?_
      refine lv_iload_n hx hb d_Md_amount_40 rfl (lv_at hl 1 rfl) ?_
      obtain ⟨hg, hf⟩ := pv_g hf
      refine pv_iald C hP (t0 := 0) (by decide) (fm_11 _ _ _ _) rfl hg d_Md_amount_41 ?_
      obtain ⟨hg, hf⟩ := pv_g hf
      refine pv_iald C hP (t0 := 0) (by decide) (fm_16 _ _ _ _) rfl hg d_Md_amount_42 ?_
      refine lv_goto (tgt := 47) hx hb d_Md_amount_43 (by decide) ?_
      obtain rfl := Option.some.inj hf
      exact hret _ _ _ _ d_Md_amount_47 hP hS
  · have hf := pv_f hf h
    refine lv_aload_n hx hb d_Md_amount_9 rfl (lv_at hl 0 rfl) ?_
    refine pv_get C hP (v := .ref (a 12)) (j := 22) (by decide) (fm_0 _ _ _ _) fl_Md_47 rfl d_Md_amount_10 ?_
    refine lv_iload_n hx hb d_Md_amount_13 rfl (lv_at hl 1 rfl) ?_
    obtain ⟨hg, hf⟩ := pv_g hf
    refine pv_iald C hP (t0 := 0) (by decide) (fm_12 _ _ _ _) rfl hg d_Md_amount_14 ?_
    refine lv_goto (tgt := 47) hx hb d_Md_amount_15 (by decide) ?_
    obtain rfl := Option.some.inj hf
    exact hret _ _ _ _ d_Md_amount_47 hP hS
def f_Md_amount (σ : pv_S) (x1 : Int32) : Option (Int32 × pv_S) := f_Md_amount_0 σ x1
def rm_Md_amount : Room := { frames := 0, cells := 0, slots := 0, locals := 0 }
theorem c_Md_amount {l : Launch} {D : va_G} {q : Nat → ClassId} {a : Nat → Nat} {A : Nat → Prop} (hD : pv_D 36 a A) (hmv : pv_mv A (pv_ZM)) {σ : pv_S} {x1 : Int32} {out : (Int32 × pv_S)} (hf : f_Md_amount σ x1 = some out) : pv_Mi l y_Md_amount (Cond.code y_Md_amount prog_9_method_37_code 2 (some .int) :: pv_TB) rm_Md_amount D pv_cl (pv_ty q) 36 a (pv_FM q a) A (pv_ZM) [.ref (a 0), .int x1] σ out :=
  pv_ofI (by decide) (Nat.le_of_ble_eq_true rfl) hD (fun p e s m args below meth c Q ls C hret hl hP => s_Md_amount_0 C hmv (Nat.le_refl _) (Nat.le_refl _) hret hl hP va_S.rf hf)
theorem d_Md_stop_0 : decode prog_9_method_50_code 0 = .ok (.lload_n 0, 1) := by decide +kernel
theorem d_Md_stop_1 : decode prog_9_method_50_code 1 = .ok (.ldc2_w 291, 3) := by decide +kernel
theorem d_Md_stop_4 : decode prog_9_method_50_code 4 = .ok (.lcmp, 1) := by decide +kernel
theorem d_Md_stop_5 : decode prog_9_method_50_code 5 = .ok (.ifCond .ge 9, 3) := by decide +kernel
theorem d_Md_stop_8 : decode prog_9_method_50_code 8 = .ok (.ldc_w 293, 3) := by decide +kernel
theorem d_Md_stop_11 : decode prog_9_method_50_code 11 = .ok (.goto 19, 3) := by decide +kernel
theorem d_Md_stop_14 : decode prog_9_method_50_code 14 = .ok (.lload_n 0, 1) := by decide +kernel
theorem d_Md_stop_15 : decode prog_9_method_50_code 15 = .ok (.ldc2_w 294, 3) := by decide +kernel
theorem d_Md_stop_18 : decode prog_9_method_50_code 18 = .ok (.lcmp, 1) := by decide +kernel
theorem d_Md_stop_19 : decode prog_9_method_50_code 19 = .ok (.ifCond .le 9, 3) := by decide +kernel
theorem d_Md_stop_22 : decode prog_9_method_50_code 22 = .ok (.ldc_w 296, 3) := by decide +kernel
theorem d_Md_stop_25 : decode prog_9_method_50_code 25 = .ok (.goto 5, 3) := by decide +kernel
theorem d_Md_stop_28 : decode prog_9_method_50_code 28 = .ok (.lload_n 0, 1) := by decide +kernel
theorem d_Md_stop_29 : decode prog_9_method_50_code 29 = .ok (.l2i, 1) := by decide +kernel
theorem d_Md_stop_30 : decode prog_9_method_50_code 30 = .ok (.ireturn, 1) := by decide +kernel
def f_Md_stop_0 (σ : pv_S) (x0 : Int64) : Option (Int32 × pv_S) :=
  (if 0 ≤ (lg_cmp x0 (-2147483648 : Int64)) then
  (if (lg_cmp x0 (2147483647 : Int64)) ≤ 0 then
  some (((x0).toInt32), σ)
  else
  some ((2147483647 : Int32), σ))
  else
  some ((-2147483648 : Int32), σ))
set_option maxHeartbeats 4000000 in
set_option maxRecDepth 100000 in
theorem s_Md_stop_0 {p : Program} {l : Launch} {e : Env} {R : Room} {s : State} {m : MethodId} {args : Array Value} {below : List Frame} {meth : Method} {c : Code} {Q : State → Prop} {D : va_G} {q : Nat → ClassId} {a : Nat → Nat} {A : Nat → Prop} (C : pv_C p s m args c prog_9_method_50_code 2 "PatchVoicesModel" pv_TB D pv_cl (pv_ty q) 36 a A (pv_ZM)) (hmv : pv_mv A (pv_ZM)) (hRf : 0 ≤ R.frames) (hRl : 0 ≤ R.locals) {out : (Int32 × pv_S)} (hret : pv_Ri p l e R s m args below meth c prog_9_method_50_code D pv_cl 36 a (pv_FM q a) A Q out) {σ : pv_S} {x0 : Int64} {H : Heap} {locs : List Loc} {ls : Array Slot} (hl : lv_has ls 2 [(0, .long x0)]) (hP : pv_W D pv_cl 36 a (pv_FM q a) σ H) (hS : va_S A s.heap H locs) (hf : f_Md_stop_0 σ x0 = some out) : W p l e R s m args below meth c H locs 0 0 Q (F0 m 0 ls []) := by
  unfold f_Md_stop_0 at hf
  have hx := C.1
  have hb := C.2.1
  refine lv_lload_n hx hb d_Md_stop_0 rfl (lv_at hl 0 rfl) ?_
  refine lv_ldc2 (v := (-2147483648 : Int64)) hx hb C.2.2.2.1 (C.2.2.2.2.1 _ w_1369) d_Md_stop_1 ?_
  refine W.lcmp hx hb d_Md_stop_4 ?_
  refine lv_if_ge (tgt := 14) hx hb d_Md_stop_5 (by decide) (fun h => ?_) (fun h => ?_)
  · have hf := pv_t hf h
    refine lv_lload_n hx hb d_Md_stop_14 rfl (lv_at hl 0 rfl) ?_
    refine lv_ldc2 (v := (2147483647 : Int64)) hx hb C.2.2.2.1 (C.2.2.2.2.1 _ w_1371) d_Md_stop_15 ?_
    refine W.lcmp hx hb d_Md_stop_18 ?_
    refine lv_if_le (tgt := 28) hx hb d_Md_stop_19 (by decide) (fun h => ?_) (fun h => ?_)
    · have hf := pv_t hf h
      refine lv_lload_n hx hb d_Md_stop_28 rfl (lv_at hl 0 rfl) ?_
      refine lv_l2i (v := (x0).toInt32) hx hb d_Md_stop_29 rfl ?_
      obtain rfl := Option.some.inj hf
      exact hret _ _ _ _ d_Md_stop_30 hP hS
    · have hf := pv_f hf h
      refine lv_ldcw (v := (2147483647 : Int32)) hx hb C.2.2.2.1 (C.2.2.2.2.1 _ w_1372) d_Md_stop_22 ?_
      refine lv_goto (tgt := 30) hx hb d_Md_stop_25 (by decide) ?_
      obtain rfl := Option.some.inj hf
      exact hret _ _ _ _ d_Md_stop_30 hP hS
  · have hf := pv_f hf h
    refine lv_ldcw (v := (-2147483648 : Int32)) hx hb C.2.2.2.1 (C.2.2.2.2.1 _ w_1370) d_Md_stop_8 ?_
    refine lv_goto (tgt := 30) hx hb d_Md_stop_11 (by decide) ?_
    obtain rfl := Option.some.inj hf
    exact hret _ _ _ _ d_Md_stop_30 hP hS
def f_Md_stop (σ : pv_S) (x0 : Int64) : Option (Int32 × pv_S) := f_Md_stop_0 σ x0
def rm_Md_stop : Room := { frames := 0, cells := 0, slots := 0, locals := 0 }
theorem c_Md_stop {l : Launch} {D : va_G} {q : Nat → ClassId} {a : Nat → Nat} {A : Nat → Prop} (hD : pv_D 36 a A) (hmv : pv_mv A (pv_ZM)) {σ : pv_S} {x0 : Int64} {out : (Int32 × pv_S)} (hf : f_Md_stop σ x0 = some out) : pv_Mi l y_Md_stop (Cond.code y_Md_stop prog_9_method_50_code 2 (some .int) :: pv_TB) rm_Md_stop D pv_cl (pv_ty q) 36 a (pv_FM q a) A (pv_ZM) [.long x0] σ out :=
  pv_ofI (by decide) (Nat.le_of_ble_eq_true rfl) hD (fun p e s m args below meth c Q ls C hret hl hP => s_Md_stop_0 C hmv (Nat.le_refl _) (Nat.le_refl _) hret hl hP va_S.rf hf)
theorem d_Md_plain_0 : decode prog_9_method_51_code 0 = .ok (.iload_n 0, 1) := by decide +kernel
theorem d_Md_plain_1 : decode prog_9_method_51_code 1 = .ok (.tableswitch 120 (0) (5) #[39, 48, 57, 69, 87, 107], 39) := by decide +kernel
theorem d_Md_plain_40 : decode prog_9_method_51_code 40 = .ok (.iload_n 1, 1) := by decide +kernel
theorem d_Md_plain_41 : decode prog_9_method_51_code 41 = .ok (.i2l, 1) := by decide +kernel
theorem d_Md_plain_42 : decode prog_9_method_51_code 42 = .ok (.iload_n 2, 1) := by decide +kernel
theorem d_Md_plain_43 : decode prog_9_method_51_code 43 = .ok (.i2l, 1) := by decide +kernel
theorem d_Md_plain_44 : decode prog_9_method_51_code 44 = .ok (.ladd, 1) := by decide +kernel
theorem d_Md_plain_45 : decode prog_9_method_51_code 45 = .ok (.invokestatic 297, 3) := by decide +kernel
theorem d_Md_plain_48 : decode prog_9_method_51_code 48 = .ok (.ireturn, 1) := by decide +kernel
theorem d_Md_plain_49 : decode prog_9_method_51_code 49 = .ok (.iload_n 1, 1) := by decide +kernel
theorem d_Md_plain_50 : decode prog_9_method_51_code 50 = .ok (.i2l, 1) := by decide +kernel
theorem d_Md_plain_51 : decode prog_9_method_51_code 51 = .ok (.iload_n 2, 1) := by decide +kernel
theorem d_Md_plain_52 : decode prog_9_method_51_code 52 = .ok (.i2l, 1) := by decide +kernel
theorem d_Md_plain_53 : decode prog_9_method_51_code 53 = .ok (.lsub, 1) := by decide +kernel
theorem d_Md_plain_54 : decode prog_9_method_51_code 54 = .ok (.invokestatic 297, 3) := by decide +kernel
theorem d_Md_plain_57 : decode prog_9_method_51_code 57 = .ok (.ireturn, 1) := by decide +kernel
theorem d_Md_plain_58 : decode prog_9_method_51_code 58 = .ok (.iload_n 1, 1) := by decide +kernel
theorem d_Md_plain_59 : decode prog_9_method_51_code 59 = .ok (.i2l, 1) := by decide +kernel
theorem d_Md_plain_60 : decode prog_9_method_51_code 60 = .ok (.iload_n 2, 1) := by decide +kernel
theorem d_Md_plain_61 : decode prog_9_method_51_code 61 = .ok (.i2l, 1) := by decide +kernel
theorem d_Md_plain_62 : decode prog_9_method_51_code 62 = .ok (.lmul, 1) := by decide +kernel
theorem d_Md_plain_63 : decode prog_9_method_51_code 63 = .ok (.bipush 16, 2) := by decide +kernel
theorem d_Md_plain_65 : decode prog_9_method_51_code 65 = .ok (.lshr, 1) := by decide +kernel
theorem d_Md_plain_66 : decode prog_9_method_51_code 66 = .ok (.invokestatic 297, 3) := by decide +kernel
theorem d_Md_plain_69 : decode prog_9_method_51_code 69 = .ok (.ireturn, 1) := by decide +kernel
theorem d_Md_plain_70 : decode prog_9_method_51_code 70 = .ok (.iload_n 1, 1) := by decide +kernel
theorem d_Md_plain_71 : decode prog_9_method_51_code 71 = .ok (.i2l, 1) := by decide +kernel
theorem d_Md_plain_72 : decode prog_9_method_51_code 72 = .ok (.iload_n 2, 1) := by decide +kernel
theorem d_Md_plain_73 : decode prog_9_method_51_code 73 = .ok (.i2l, 1) := by decide +kernel
theorem d_Md_plain_74 : decode prog_9_method_51_code 74 = .ok (.iload_n 1, 1) := by decide +kernel
theorem d_Md_plain_75 : decode prog_9_method_51_code 75 = .ok (.i2l, 1) := by decide +kernel
theorem d_Md_plain_76 : decode prog_9_method_51_code 76 = .ok (.lsub, 1) := by decide +kernel
theorem d_Md_plain_77 : decode prog_9_method_51_code 77 = .ok (.iload_n 3, 1) := by decide +kernel
theorem d_Md_plain_78 : decode prog_9_method_51_code 78 = .ok (.i2l, 1) := by decide +kernel
theorem d_Md_plain_79 : decode prog_9_method_51_code 79 = .ok (.lmul, 1) := by decide +kernel
theorem d_Md_plain_80 : decode prog_9_method_51_code 80 = .ok (.bipush 16, 2) := by decide +kernel
theorem d_Md_plain_82 : decode prog_9_method_51_code 82 = .ok (.lshr, 1) := by decide +kernel
theorem d_Md_plain_83 : decode prog_9_method_51_code 83 = .ok (.ladd, 1) := by decide +kernel
theorem d_Md_plain_84 : decode prog_9_method_51_code 84 = .ok (.invokestatic 297, 3) := by decide +kernel
theorem d_Md_plain_87 : decode prog_9_method_51_code 87 = .ok (.ireturn, 1) := by decide +kernel
theorem d_Md_plain_88 : decode prog_9_method_51_code 88 = .ok (.iload_n 1, 1) := by decide +kernel
theorem d_Md_plain_89 : decode prog_9_method_51_code 89 = .ok (.iload_n 2, 1) := by decide +kernel
theorem d_Md_plain_90 : decode prog_9_method_51_code 90 = .ok (.if_icmp .ge 7, 3) := by decide +kernel
theorem d_Md_plain_93 : decode prog_9_method_51_code 93 = .ok (.iload_n 2, 1) := by decide +kernel
theorem d_Md_plain_94 : decode prog_9_method_51_code 94 = .ok (.goto 13, 3) := by decide +kernel
theorem d_Md_plain_97 : decode prog_9_method_51_code 97 = .ok (.iload_n 1, 1) := by decide +kernel
theorem d_Md_plain_98 : decode prog_9_method_51_code 98 = .ok (.iload_n 3, 1) := by decide +kernel
theorem d_Md_plain_99 : decode prog_9_method_51_code 99 = .ok (.if_icmp .le 7, 3) := by decide +kernel
theorem d_Md_plain_102 : decode prog_9_method_51_code 102 = .ok (.iload_n 3, 1) := by decide +kernel
theorem d_Md_plain_103 : decode prog_9_method_51_code 103 = .ok (.goto 4, 3) := by decide +kernel
theorem d_Md_plain_106 : decode prog_9_method_51_code 106 = .ok (.iload_n 1, 1) := by decide +kernel
theorem d_Md_plain_107 : decode prog_9_method_51_code 107 = .ok (.ireturn, 1) := by decide +kernel
theorem d_Md_plain_108 : decode prog_9_method_51_code 108 = .ok (.iload_n 1, 1) := by decide +kernel
theorem d_Md_plain_109 : decode prog_9_method_51_code 109 = .ok (.iload_n 2, 1) := by decide +kernel
theorem d_Md_plain_110 : decode prog_9_method_51_code 110 = .ok (.if_icmp .le 9, 3) := by decide +kernel
theorem d_Md_plain_113 : decode prog_9_method_51_code 113 = .ok (.ldc_w 301, 3) := by decide +kernel
theorem d_Md_plain_116 : decode prog_9_method_51_code 116 = .ok (.goto 4, 3) := by decide +kernel
theorem d_Md_plain_119 : decode prog_9_method_51_code 119 = .ok (.iconst 0, 1) := by decide +kernel
theorem d_Md_plain_120 : decode prog_9_method_51_code 120 = .ok (.ireturn, 1) := by decide +kernel
theorem d_Md_plain_121 : decode prog_9_method_51_code 121 = .ok (.iload_n 1, 1) := by decide +kernel
theorem d_Md_plain_122 : decode prog_9_method_51_code 122 = .ok (.ifCond .le 7, 3) := by decide +kernel
theorem d_Md_plain_125 : decode prog_9_method_51_code 125 = .ok (.iload_n 2, 1) := by decide +kernel
theorem d_Md_plain_126 : decode prog_9_method_51_code 126 = .ok (.goto 4, 3) := by decide +kernel
theorem d_Md_plain_129 : decode prog_9_method_51_code 129 = .ok (.iload_n 3, 1) := by decide +kernel
theorem d_Md_plain_130 : decode prog_9_method_51_code 130 = .ok (.ireturn, 1) := by decide +kernel
def f_Md_plain_0 (σ : pv_S) (x0 : Int32) (x1 : Int32) (x2 : Int32) (x3 : Int32) : Option (Int32 × pv_S) :=
  (if x0 = (0 : Int32) then
  ((f_Md_stop σ (((x1).toInt64) + ((x2).toInt64))).bind fun q1 =>
some (q1.1, q1.2))
  else
(if x0 = (1 : Int32) then
  ((f_Md_stop σ (((x1).toInt64) - ((x2).toInt64))).bind fun q2 =>
some (q2.1, q2.2))
  else
(if x0 = (2 : Int32) then
  ((f_Md_stop σ ((((x1).toInt64) * ((x2).toInt64)) >>> (((16 : Int32)).toInt64 &&& 63))).bind fun q3 =>
some (q3.1, q3.2))
  else
(if x0 = (3 : Int32) then
  ((f_Md_stop σ (((x1).toInt64) + (((((x2).toInt64) - ((x1).toInt64)) * ((x3).toInt64)) >>> (((16 : Int32)).toInt64 &&& 63)))).bind fun q4 =>
some (q4.1, q4.2))
  else
(if x0 = (4 : Int32) then
  (if x2 ≤ x1 then
  (if x1 ≤ x3 then
  some (x1, σ)
  else
  some (x3, σ))
  else
  some (x2, σ))
  else
(if x0 = (5 : Int32) then
  (if x1 ≤ x2 then
  some ((0 : Int32), σ)
  else
  some ((65536 : Int32), σ))
  else
  (if x1 ≤ 0 then
  some (x3, σ)
  else
  some (x2, σ))))))))
set_option maxHeartbeats 4000000 in
set_option maxRecDepth 100000 in
theorem s_Md_plain_0 {p : Program} {l : Launch} {e : Env} {R : Room} {s : State} {m : MethodId} {args : Array Value} {below : List Frame} {meth : Method} {c : Code} {Q : State → Prop} {D : va_G} {q : Nat → ClassId} {a : Nat → Nat} {A : Nat → Prop} (C : pv_C p s m args c prog_9_method_51_code 4 "PatchVoicesModel" pv_TB D pv_cl (pv_ty q) 36 a A (pv_ZM)) (hmv : pv_mv A (pv_ZM)) (hRf : 1 ≤ R.frames) (hRl : 21 ≤ R.locals) {out : (Int32 × pv_S)} (hret : pv_Ri p l e R s m args below meth c prog_9_method_51_code D pv_cl 36 a (pv_FM q a) A Q out) {σ : pv_S} {x0 : Int32} {x1 : Int32} {x2 : Int32} {x3 : Int32} {H : Heap} {locs : List Loc} {ls : Array Slot} (hl : lv_has ls 4 [(0, .int x0), (1, .int x1), (2, .int x2), (3, .int x3)]) (hP : pv_W D pv_cl 36 a (pv_FM q a) σ H) (hS : va_S A s.heap H locs) (hf : f_Md_plain_0 σ x0 x1 x2 x3 = some out) : W p l e R s m args below meth c H locs 0 0 Q (F0 m 0 ls []) := by
  unfold f_Md_plain_0 at hf
  have hx := C.1
  have hb := C.2.1
  refine lv_iload_n hx hb d_Md_plain_0 rfl (lv_at hl 0 rfl) ?_
  by_cases h0 : x0 = (0 : Int32)
  · have hf := pv_t hf h0
    refine lv_tableIn (tgt := 40) hx hb d_Md_plain_1 (by rw [h0]; decide) (by rw [h0]; decide) (by first | (rw [h0]; done) | (rw [h0]; rfl)) (by decide) ?_
    refine lv_iload_n hx hb d_Md_plain_40 rfl (lv_at hl 1 rfl) ?_
    refine lv_i2l (v := (x1).toInt64) hx hb d_Md_plain_41 rfl ?_
    refine lv_iload_n hx hb d_Md_plain_42 rfl (lv_at hl 2 rfl) ?_
    refine lv_i2l (v := (x2).toInt64) hx hb d_Md_plain_43 rfl ?_
    refine lv_ladd hx hb d_Md_plain_44 ?_
    obtain ⟨q1, hc, hf⟩ := pv_b hf
    refine pv_callSi C hmv pv_good hP hS (As := [.long (((x1).toInt64) + ((x2).toInt64))]) (rest := []) (c_Md_stop C.2.2.2.2.2.2.1 hmv hc) cs_Md_297 ⟨rfl, rfl, Nat.le_trans (Nat.le_of_ble_eq_true rfl) hRf, Nat.le_trans (Nat.le_of_ble_eq_true rfl) hRl⟩ rfl hl.1 rfl (Nat.le_of_ble_eq_true rfl) d_Md_plain_45 ⟨Nat.zero_le _, Nat.zero_le _⟩ (fun H locs hP hS => ?_)
    obtain rfl := Option.some.inj hf
    exact hret _ _ _ _ d_Md_plain_48 hP hS
  · have hf := pv_f hf h0
    by_cases h1 : x0 = (1 : Int32)
    · have hf := pv_t hf h1
      refine lv_tableIn (tgt := 49) hx hb d_Md_plain_1 (by rw [h1]; decide) (by rw [h1]; decide) (by first | (rw [h1]; done) | (rw [h1]; rfl)) (by decide) ?_
      refine lv_iload_n hx hb d_Md_plain_49 rfl (lv_at hl 1 rfl) ?_
      refine lv_i2l (v := (x1).toInt64) hx hb d_Md_plain_50 rfl ?_
      refine lv_iload_n hx hb d_Md_plain_51 rfl (lv_at hl 2 rfl) ?_
      refine lv_i2l (v := (x2).toInt64) hx hb d_Md_plain_52 rfl ?_
      refine lv_lsub hx hb d_Md_plain_53 ?_
      obtain ⟨q2, hc, hf⟩ := pv_b hf
      refine pv_callSi C hmv pv_good hP hS (As := [.long (((x1).toInt64) - ((x2).toInt64))]) (rest := []) (c_Md_stop C.2.2.2.2.2.2.1 hmv hc) cs_Md_297 ⟨rfl, rfl, Nat.le_trans (Nat.le_of_ble_eq_true rfl) hRf, Nat.le_trans (Nat.le_of_ble_eq_true rfl) hRl⟩ rfl hl.1 rfl (Nat.le_of_ble_eq_true rfl) d_Md_plain_54 ⟨Nat.zero_le _, Nat.zero_le _⟩ (fun H locs hP hS => ?_)
      obtain rfl := Option.some.inj hf
      exact hret _ _ _ _ d_Md_plain_57 hP hS
    · have hf := pv_f hf h1
      by_cases h2 : x0 = (2 : Int32)
      · have hf := pv_t hf h2
        refine lv_tableIn (tgt := 58) hx hb d_Md_plain_1 (by rw [h2]; decide) (by rw [h2]; decide) (by first | (rw [h2]; done) | (rw [h2]; rfl)) (by decide) ?_
        refine lv_iload_n hx hb d_Md_plain_58 rfl (lv_at hl 1 rfl) ?_
        refine lv_i2l (v := (x1).toInt64) hx hb d_Md_plain_59 rfl ?_
        refine lv_iload_n hx hb d_Md_plain_60 rfl (lv_at hl 2 rfl) ?_
        refine lv_i2l (v := (x2).toInt64) hx hb d_Md_plain_61 rfl ?_
        refine lv_lmul hx hb d_Md_plain_62 ?_
        refine lv_bipush (v := (16 : Int32)) hx hb d_Md_plain_63 (by decide) ?_
        refine lv_lshr (v := (((x1).toInt64) * ((x2).toInt64)) >>> (((16 : Int32)).toInt64 &&& 63)) hx hb d_Md_plain_65 rfl ?_
        obtain ⟨q3, hc, hf⟩ := pv_b hf
        refine pv_callSi C hmv pv_good hP hS (As := [.long ((((x1).toInt64) * ((x2).toInt64)) >>> (((16 : Int32)).toInt64 &&& 63))]) (rest := []) (c_Md_stop C.2.2.2.2.2.2.1 hmv hc) cs_Md_297 ⟨rfl, rfl, Nat.le_trans (Nat.le_of_ble_eq_true rfl) hRf, Nat.le_trans (Nat.le_of_ble_eq_true rfl) hRl⟩ rfl hl.1 rfl (Nat.le_of_ble_eq_true rfl) d_Md_plain_66 ⟨Nat.zero_le _, Nat.zero_le _⟩ (fun H locs hP hS => ?_)
        obtain rfl := Option.some.inj hf
        exact hret _ _ _ _ d_Md_plain_69 hP hS
      · have hf := pv_f hf h2
        by_cases h3 : x0 = (3 : Int32)
        · have hf := pv_t hf h3
          refine lv_tableIn (tgt := 70) hx hb d_Md_plain_1 (by rw [h3]; decide) (by rw [h3]; decide) (by first | (rw [h3]; done) | (rw [h3]; rfl)) (by decide) ?_
          refine lv_iload_n hx hb d_Md_plain_70 rfl (lv_at hl 1 rfl) ?_
          refine lv_i2l (v := (x1).toInt64) hx hb d_Md_plain_71 rfl ?_
          refine lv_iload_n hx hb d_Md_plain_72 rfl (lv_at hl 2 rfl) ?_
          refine lv_i2l (v := (x2).toInt64) hx hb d_Md_plain_73 rfl ?_
          refine lv_iload_n hx hb d_Md_plain_74 rfl (lv_at hl 1 rfl) ?_
          refine lv_i2l (v := (x1).toInt64) hx hb d_Md_plain_75 rfl ?_
          refine lv_lsub hx hb d_Md_plain_76 ?_
          refine lv_iload_n hx hb d_Md_plain_77 rfl (lv_at hl 3 rfl) ?_
          refine lv_i2l (v := (x3).toInt64) hx hb d_Md_plain_78 rfl ?_
          refine lv_lmul hx hb d_Md_plain_79 ?_
          refine lv_bipush (v := (16 : Int32)) hx hb d_Md_plain_80 (by decide) ?_
          refine lv_lshr (v := ((((x2).toInt64) - ((x1).toInt64)) * ((x3).toInt64)) >>> (((16 : Int32)).toInt64 &&& 63)) hx hb d_Md_plain_82 rfl ?_
          refine lv_ladd hx hb d_Md_plain_83 ?_
          obtain ⟨q4, hc, hf⟩ := pv_b hf
          refine pv_callSi C hmv pv_good hP hS (As := [.long (((x1).toInt64) + (((((x2).toInt64) - ((x1).toInt64)) * ((x3).toInt64)) >>> (((16 : Int32)).toInt64 &&& 63)))]) (rest := []) (c_Md_stop C.2.2.2.2.2.2.1 hmv hc) cs_Md_297 ⟨rfl, rfl, Nat.le_trans (Nat.le_of_ble_eq_true rfl) hRf, Nat.le_trans (Nat.le_of_ble_eq_true rfl) hRl⟩ rfl hl.1 rfl (Nat.le_of_ble_eq_true rfl) d_Md_plain_84 ⟨Nat.zero_le _, Nat.zero_le _⟩ (fun H locs hP hS => ?_)
          obtain rfl := Option.some.inj hf
          exact hret _ _ _ _ d_Md_plain_87 hP hS
        · have hf := pv_f hf h3
          by_cases h4 : x0 = (4 : Int32)
          · have hf := pv_t hf h4
            refine lv_tableIn (tgt := 88) hx hb d_Md_plain_1 (by rw [h4]; decide) (by rw [h4]; decide) (by first | (rw [h4]; done) | (rw [h4]; rfl)) (by decide) ?_
            refine lv_iload_n hx hb d_Md_plain_88 rfl (lv_at hl 1 rfl) ?_
            refine lv_iload_n hx hb d_Md_plain_89 rfl (lv_at hl 2 rfl) ?_
            refine lv_icmp_ge (tgt := 97) hx hb d_Md_plain_90 (by decide) (fun h => ?_) (fun h => ?_)
            · have hf := pv_t hf h
              refine lv_iload_n hx hb d_Md_plain_97 rfl (lv_at hl 1 rfl) ?_
              refine lv_iload_n hx hb d_Md_plain_98 rfl (lv_at hl 3 rfl) ?_
              refine lv_icmp_le (tgt := 106) hx hb d_Md_plain_99 (by decide) (fun h => ?_) (fun h => ?_)
              · have hf := pv_t hf h
                refine lv_iload_n hx hb d_Md_plain_106 rfl (lv_at hl 1 rfl) ?_
                obtain rfl := Option.some.inj hf
                exact hret _ _ _ _ d_Md_plain_107 hP hS
              · have hf := pv_f hf h
                refine lv_iload_n hx hb d_Md_plain_102 rfl (lv_at hl 3 rfl) ?_
                refine lv_goto (tgt := 107) hx hb d_Md_plain_103 (by decide) ?_
                obtain rfl := Option.some.inj hf
                exact hret _ _ _ _ d_Md_plain_107 hP hS
            · have hf := pv_f hf h
              refine lv_iload_n hx hb d_Md_plain_93 rfl (lv_at hl 2 rfl) ?_
              refine lv_goto (tgt := 107) hx hb d_Md_plain_94 (by decide) ?_
              obtain rfl := Option.some.inj hf
              exact hret _ _ _ _ d_Md_plain_107 hP hS
          · have hf := pv_f hf h4
            by_cases h5 : x0 = (5 : Int32)
            · have hf := pv_t hf h5
              refine lv_tableIn (tgt := 108) hx hb d_Md_plain_1 (by rw [h5]; decide) (by rw [h5]; decide) (by first | (rw [h5]; done) | (rw [h5]; rfl)) (by decide) ?_
              refine lv_iload_n hx hb d_Md_plain_108 rfl (lv_at hl 1 rfl) ?_
              refine lv_iload_n hx hb d_Md_plain_109 rfl (lv_at hl 2 rfl) ?_
              refine lv_icmp_le (tgt := 119) hx hb d_Md_plain_110 (by decide) (fun h => ?_) (fun h => ?_)
              · have hf := pv_t hf h
                refine lv_iconst (v := (0 : Int32)) hx hb d_Md_plain_119 (by decide) ?_
                obtain rfl := Option.some.inj hf
                exact hret _ _ _ _ d_Md_plain_120 hP hS
              · have hf := pv_f hf h
                refine lv_ldcw (v := (65536 : Int32)) hx hb C.2.2.2.1 (C.2.2.2.2.1 _ w_1373) d_Md_plain_113 ?_
                refine lv_goto (tgt := 120) hx hb d_Md_plain_116 (by decide) ?_
                obtain rfl := Option.some.inj hf
                exact hret _ _ _ _ d_Md_plain_120 hP hS
            · have hf := pv_f hf h5
              refine lv_tableOut (tgt := 121) hx hb d_Md_plain_1 (by have z0 := lv_neT h0 (a := 0) (by decide); have z1 := lv_neT h1 (a := 1) (by decide); have z2 := lv_neT h2 (a := 2) (by decide); have z3 := lv_neT h3 (a := 3) (by decide); have z4 := lv_neT h4 (a := 4) (by decide); have z5 := lv_neT h5 (a := 5) (by decide); omega) (by decide) ?_
              refine lv_iload_n hx hb d_Md_plain_121 rfl (lv_at hl 1 rfl) ?_
              refine lv_if_le (tgt := 129) hx hb d_Md_plain_122 (by decide) (fun h => ?_) (fun h => ?_)
              · have hf := pv_t hf h
                refine lv_iload_n hx hb d_Md_plain_129 rfl (lv_at hl 3 rfl) ?_
                obtain rfl := Option.some.inj hf
                exact hret _ _ _ _ d_Md_plain_130 hP hS
              · have hf := pv_f hf h
                refine lv_iload_n hx hb d_Md_plain_125 rfl (lv_at hl 2 rfl) ?_
                refine lv_goto (tgt := 130) hx hb d_Md_plain_126 (by decide) ?_
                obtain rfl := Option.some.inj hf
                exact hret _ _ _ _ d_Md_plain_130 hP hS
def f_Md_plain (σ : pv_S) (x0 : Int32) (x1 : Int32) (x2 : Int32) (x3 : Int32) : Option (Int32 × pv_S) := f_Md_plain_0 σ x0 x1 x2 x3
def rm_Md_plain : Room := { frames := 1, cells := 0, slots := 0, locals := 21 }
theorem c_Md_plain {l : Launch} {D : va_G} {q : Nat → ClassId} {a : Nat → Nat} {A : Nat → Prop} (hD : pv_D 36 a A) (hmv : pv_mv A (pv_ZM)) {σ : pv_S} {x0 : Int32} {x1 : Int32} {x2 : Int32} {x3 : Int32} {out : (Int32 × pv_S)} (hf : f_Md_plain σ x0 x1 x2 x3 = some out) : pv_Mi l y_Md_plain (Cond.code y_Md_plain prog_9_method_51_code 4 (some .int) :: pv_TB) rm_Md_plain D pv_cl (pv_ty q) 36 a (pv_FM q a) A (pv_ZM) [.int x0, .int x1, .int x2, .int x3] σ out :=
  pv_ofI (by decide) (Nat.le_of_ble_eq_true rfl) hD (fun p e s m args below meth c Q ls C hret hl hP => s_Md_plain_0 C hmv (Nat.le_refl _) (Nat.le_refl _) hret hl hP va_S.rf hf)
theorem d_Md_alike_0 : decode prog_9_method_38_code 0 = .ok (.aload_n 0, 1) := by decide +kernel
theorem d_Md_alike_1 : decode prog_9_method_38_code 1 = .ok (.iload_n 1, 1) := by decide +kernel
theorem d_Md_alike_2 : decode prog_9_method_38_code 2 = .ok (.invokevirtual 259, 3) := by decide +kernel
theorem d_Md_alike_5 : decode prog_9_method_38_code 5 = .ok (.aload_n 0, 1) := by decide +kernel
theorem d_Md_alike_6 : decode prog_9_method_38_code 6 = .ok (.iload_n 2, 1) := by decide +kernel
theorem d_Md_alike_7 : decode prog_9_method_38_code 7 = .ok (.invokevirtual 259, 3) := by decide +kernel
theorem d_Md_alike_10 : decode prog_9_method_38_code 10 = .ok (.if_icmp .ne 20, 3) := by decide +kernel
theorem d_Md_alike_13 : decode prog_9_method_38_code 13 = .ok (.aload_n 0, 1) := by decide +kernel
theorem d_Md_alike_14 : decode prog_9_method_38_code 14 = .ok (.iload_n 1, 1) := by decide +kernel
theorem d_Md_alike_15 : decode prog_9_method_38_code 15 = .ok (.invokevirtual 262, 3) := by decide +kernel
theorem d_Md_alike_18 : decode prog_9_method_38_code 18 = .ok (.aload_n 0, 1) := by decide +kernel
theorem d_Md_alike_19 : decode prog_9_method_38_code 19 = .ok (.iload_n 2, 1) := by decide +kernel
theorem d_Md_alike_20 : decode prog_9_method_38_code 20 = .ok (.invokevirtual 262, 3) := by decide +kernel
theorem d_Md_alike_23 : decode prog_9_method_38_code 23 = .ok (.if_icmp .ne 7, 3) := by decide +kernel
theorem d_Md_alike_26 : decode prog_9_method_38_code 26 = .ok (.iconst 1, 1) := by decide +kernel
theorem d_Md_alike_27 : decode prog_9_method_38_code 27 = .ok (.goto 4, 3) := by decide +kernel
theorem d_Md_alike_30 : decode prog_9_method_38_code 30 = .ok (.iconst 0, 1) := by decide +kernel
theorem d_Md_alike_31 : decode prog_9_method_38_code 31 = .ok (.ireturn, 1) := by decide +kernel
def f_Md_alike_0 (σ : pv_S) (x1 : Int32) (x2 : Int32) : Option (Int32 × pv_S) :=
  ((f_Md_source σ x1).bind fun q1 =>
((f_Md_source q1.2 x2).bind fun q2 =>
(if q1.1 = q2.1 then
  ((f_Md_amount q2.2 x1).bind fun q3 =>
((f_Md_amount q3.2 x2).bind fun q4 =>
(if q3.1 = q4.1 then
  some ((1 : Int32), q4.2)
  else
  some ((0 : Int32), q4.2))))
  else
  some ((0 : Int32), q2.2))))
set_option maxHeartbeats 4000000 in
set_option maxRecDepth 100000 in
theorem s_Md_alike_0 {p : Program} {l : Launch} {e : Env} {R : Room} {s : State} {m : MethodId} {args : Array Value} {below : List Frame} {meth : Method} {c : Code} {Q : State → Prop} {D : va_G} {q : Nat → ClassId} {a : Nat → Nat} {A : Nat → Prop} (C : pv_C p s m args c prog_9_method_38_code 3 "PatchVoicesModel" pv_TB D pv_cl (pv_ty q) 36 a A (pv_ZM)) (hmv : pv_mv A (pv_ZM)) (hRf : 1 ≤ R.frames) (hRl : 21 ≤ R.locals) {out : (Int32 × pv_S)} (hret : pv_Rz p l e R s m args below meth c prog_9_method_38_code D pv_cl 36 a (pv_FM q a) A Q out) {σ : pv_S} {x1 : Int32} {x2 : Int32} {H : Heap} {locs : List Loc} {ls : Array Slot} (hl : lv_has ls 3 [(0, .ref (a 0)), (1, .int x1), (2, .int x2)]) (hP : pv_W D pv_cl 36 a (pv_FM q a) σ H) (hS : va_S A s.heap H locs) (hf : f_Md_alike_0 σ x1 x2 = some out) : W p l e R s m args below meth c H locs 0 0 Q (F0 m 0 ls []) := by
  unfold f_Md_alike_0 at hf
  have hx := C.1
  have hb := C.2.1
  refine lv_aload_n hx hb d_Md_alike_0 rfl (lv_at hl 0 rfl) ?_
  refine lv_iload_n hx hb d_Md_alike_1 rfl (lv_at hl 1 rfl) ?_
  obtain ⟨q1, hc, hf⟩ := pv_b hf
  refine pv_callVi C hmv pv_good hP hS (As := [.int x1]) (rest := []) (by decide) (fm_0 _ _ _ _) rfl (c_Md_source C.2.2.2.2.2.2.1 hmv hc) cv_Md_259 ⟨rfl, rfl, Nat.le_trans (Nat.le_of_ble_eq_true rfl) hRf, Nat.le_trans (Nat.le_of_ble_eq_true rfl) hRl⟩ rfl hl.1 rfl (Nat.le_of_ble_eq_true rfl) d_Md_alike_2 ⟨Nat.zero_le _, Nat.zero_le _⟩ (fun H locs hP hS => ?_)
  refine lv_aload_n hx hb d_Md_alike_5 rfl (lv_at hl 0 rfl) ?_
  refine lv_iload_n hx hb d_Md_alike_6 rfl (lv_at hl 2 rfl) ?_
  obtain ⟨q2, hc, hf⟩ := pv_b hf
  refine pv_callVi C hmv pv_good hP hS (As := [.int x2]) (rest := [.int q1.1]) (by decide) (fm_0 _ _ _ _) rfl (c_Md_source C.2.2.2.2.2.2.1 hmv hc) cv_Md_259 ⟨rfl, rfl, Nat.le_trans (Nat.le_of_ble_eq_true rfl) hRf, Nat.le_trans (Nat.le_of_ble_eq_true rfl) hRl⟩ rfl hl.1 rfl (Nat.le_of_ble_eq_true rfl) d_Md_alike_7 ⟨Nat.zero_le _, Nat.zero_le _⟩ (fun H locs hP hS => ?_)
  refine lv_icmp_ne (tgt := 30) hx hb d_Md_alike_10 (by decide) (fun h => ?_) (fun h => ?_)
  · have hf := pv_f hf h
    refine lv_iconst (v := (0 : Int32)) hx hb d_Md_alike_30 (by decide) ?_
    obtain rfl := Option.some.inj hf
    exact hret _ _ _ _ d_Md_alike_31 rfl hP hS
  · have hf := pv_t hf h
    refine lv_aload_n hx hb d_Md_alike_13 rfl (lv_at hl 0 rfl) ?_
    refine lv_iload_n hx hb d_Md_alike_14 rfl (lv_at hl 1 rfl) ?_
    obtain ⟨q3, hc, hf⟩ := pv_b hf
    refine pv_callVi C hmv pv_good hP hS (As := [.int x1]) (rest := []) (by decide) (fm_0 _ _ _ _) rfl (c_Md_amount C.2.2.2.2.2.2.1 hmv hc) cv_Md_262 ⟨rfl, rfl, Nat.le_trans (Nat.le_of_ble_eq_true rfl) hRf, Nat.le_trans (Nat.le_of_ble_eq_true rfl) hRl⟩ rfl hl.1 rfl (Nat.le_of_ble_eq_true rfl) d_Md_alike_15 ⟨Nat.zero_le _, Nat.zero_le _⟩ (fun H locs hP hS => ?_)
    refine lv_aload_n hx hb d_Md_alike_18 rfl (lv_at hl 0 rfl) ?_
    refine lv_iload_n hx hb d_Md_alike_19 rfl (lv_at hl 2 rfl) ?_
    obtain ⟨q4, hc, hf⟩ := pv_b hf
    refine pv_callVi C hmv pv_good hP hS (As := [.int x2]) (rest := [.int q3.1]) (by decide) (fm_0 _ _ _ _) rfl (c_Md_amount C.2.2.2.2.2.2.1 hmv hc) cv_Md_262 ⟨rfl, rfl, Nat.le_trans (Nat.le_of_ble_eq_true rfl) hRf, Nat.le_trans (Nat.le_of_ble_eq_true rfl) hRl⟩ rfl hl.1 rfl (Nat.le_of_ble_eq_true rfl) d_Md_alike_20 ⟨Nat.zero_le _, Nat.zero_le _⟩ (fun H locs hP hS => ?_)
    refine lv_icmp_ne (tgt := 30) hx hb d_Md_alike_23 (by decide) (fun h => ?_) (fun h => ?_)
    · have hf := pv_f hf h
      refine lv_iconst (v := (0 : Int32)) hx hb d_Md_alike_30 (by decide) ?_
      obtain rfl := Option.some.inj hf
      exact hret _ _ _ _ d_Md_alike_31 rfl hP hS
    · have hf := pv_t hf h
      refine lv_iconst (v := (1 : Int32)) hx hb d_Md_alike_26 (by decide) ?_
      refine lv_goto (tgt := 31) hx hb d_Md_alike_27 (by decide) ?_
      obtain rfl := Option.some.inj hf
      exact hret _ _ _ _ d_Md_alike_31 rfl hP hS
def f_Md_alike (σ : pv_S) (x1 : Int32) (x2 : Int32) : Option (Int32 × pv_S) := f_Md_alike_0 σ x1 x2
def rm_Md_alike : Room := { frames := 1, cells := 0, slots := 0, locals := 21 }
theorem c_Md_alike {l : Launch} {D : va_G} {q : Nat → ClassId} {a : Nat → Nat} {A : Nat → Prop} (hD : pv_D 36 a A) (hmv : pv_mv A (pv_ZM)) {σ : pv_S} {x1 : Int32} {x2 : Int32} {out : (Int32 × pv_S)} (hf : f_Md_alike σ x1 x2 = some out) : pv_Mi l y_Md_alike (Cond.code y_Md_alike prog_9_method_38_code 3 (some .boolean) :: pv_TB) rm_Md_alike D pv_cl (pv_ty q) 36 a (pv_FM q a) A (pv_ZM) [.ref (a 0), .int x1, .int x2] σ out :=
  pv_ofZ (by decide) (Nat.le_of_ble_eq_true rfl) hD (fun p e s m args below meth c Q ls C hret hl hP => s_Md_alike_0 C hmv (Nat.le_refl _) (Nat.le_refl _) hret hl hP va_S.rf hf)
theorem d_Md_isSame_0 : decode prog_9_method_39_code 0 = .ok (.aload_n 0, 1) := by decide +kernel
theorem d_Md_isSame_1 : decode prog_9_method_39_code 1 = .ok (.getfield 38, 3) := by decide +kernel
theorem d_Md_isSame_4 : decode prog_9_method_39_code 4 = .ok (.iload_n 1, 1) := by decide +kernel
theorem d_Md_isSame_5 : decode prog_9_method_39_code 5 = .ok (.iaload, 1) := by decide +kernel
theorem d_Md_isSame_6 : decode prog_9_method_39_code 6 = .ok (.aload_n 0, 1) := by decide +kernel
theorem d_Md_isSame_7 : decode prog_9_method_39_code 7 = .ok (.getfield 38, 3) := by decide +kernel
theorem d_Md_isSame_10 : decode prog_9_method_39_code 10 = .ok (.iload_n 2, 1) := by decide +kernel
theorem d_Md_isSame_11 : decode prog_9_method_39_code 11 = .ok (.iaload, 1) := by decide +kernel
theorem d_Md_isSame_12 : decode prog_9_method_39_code 12 = .ok (.if_icmp .eq 5, 3) := by decide +kernel
theorem d_Md_isSame_15 : decode prog_9_method_39_code 15 = .ok (.iconst 0, 1) := by decide +kernel
theorem d_Md_isSame_16 : decode prog_9_method_39_code 16 = .ok (.ireturn, 1) := by decide +kernel
theorem d_Md_isSame_17 : decode prog_9_method_39_code 17 = .ok (.iconst 1, 1) := by decide +kernel
theorem d_Md_isSame_18 : decode prog_9_method_39_code 18 = .ok (.istore_n 3, 1) := by decide +kernel
theorem d_Md_isSame_19 : decode prog_9_method_39_code 19 = .ok (.iconst 0, 1) := by decide +kernel
theorem d_Md_isSame_20 : decode prog_9_method_39_code 20 = .ok (.istore 4, 2) := by decide +kernel
theorem d_Md_isSame_22 : decode prog_9_method_39_code 22 = .ok (.iload 4, 2) := by decide +kernel
theorem d_Md_isSame_24 : decode prog_9_method_39_code 24 = .ok (.aload_n 0, 1) := by decide +kernel
theorem d_Md_isSame_25 : decode prog_9_method_39_code 25 = .ok (.getfield 41, 3) := by decide +kernel
theorem d_Md_isSame_28 : decode prog_9_method_39_code 28 = .ok (.iload_n 1, 1) := by decide +kernel
theorem d_Md_isSame_29 : decode prog_9_method_39_code 29 = .ok (.iaload, 1) := by decide +kernel
theorem d_Md_isSame_30 : decode prog_9_method_39_code 30 = .ok (.if_icmp .ge 38, 3) := by decide +kernel
theorem d_Md_isSame_33 : decode prog_9_method_39_code 33 = .ok (.iload_n 3, 1) := by decide +kernel
theorem d_Md_isSame_34 : decode prog_9_method_39_code 34 = .ok (.ifCond .eq 26, 3) := by decide +kernel
theorem d_Md_isSame_37 : decode prog_9_method_39_code 37 = .ok (.aload_n 0, 1) := by decide +kernel
theorem d_Md_isSame_38 : decode prog_9_method_39_code 38 = .ok (.iconst 4, 1) := by decide +kernel
theorem d_Md_isSame_39 : decode prog_9_method_39_code 39 = .ok (.iload_n 1, 1) := by decide +kernel
theorem d_Md_isSame_40 : decode prog_9_method_39_code 40 = .ok (.imul, 1) := by decide +kernel
theorem d_Md_isSame_41 : decode prog_9_method_39_code 41 = .ok (.iload 4, 2) := by decide +kernel
theorem d_Md_isSame_43 : decode prog_9_method_39_code 43 = .ok (.iadd, 1) := by decide +kernel
theorem d_Md_isSame_44 : decode prog_9_method_39_code 44 = .ok (.iconst 4, 1) := by decide +kernel
theorem d_Md_isSame_45 : decode prog_9_method_39_code 45 = .ok (.iload_n 2, 1) := by decide +kernel
theorem d_Md_isSame_46 : decode prog_9_method_39_code 46 = .ok (.imul, 1) := by decide +kernel
theorem d_Md_isSame_47 : decode prog_9_method_39_code 47 = .ok (.iload 4, 2) := by decide +kernel
theorem d_Md_isSame_49 : decode prog_9_method_39_code 49 = .ok (.iadd, 1) := by decide +kernel
theorem d_Md_isSame_50 : decode prog_9_method_39_code 50 = .ok (.invokevirtual 265, 3) := by decide +kernel
theorem d_Md_isSame_53 : decode prog_9_method_39_code 53 = .ok (.ifCond .eq 7, 3) := by decide +kernel
theorem d_Md_isSame_56 : decode prog_9_method_39_code 56 = .ok (.iconst 1, 1) := by decide +kernel
theorem d_Md_isSame_57 : decode prog_9_method_39_code 57 = .ok (.goto 4, 3) := by decide +kernel
theorem d_Md_isSame_60 : decode prog_9_method_39_code 60 = .ok (.iconst 0, 1) := by decide +kernel
theorem d_Md_isSame_61 : decode prog_9_method_39_code 61 = .ok (.istore_n 3, 1) := by decide +kernel
theorem d_Md_isSame_62 : decode prog_9_method_39_code 62 = .ok (.iinc 4 1, 3) := by decide +kernel
theorem d_Md_isSame_65 : decode prog_9_method_39_code 65 = .ok (.goto (-43), 3) := by decide +kernel
theorem d_Md_isSame_68 : decode prog_9_method_39_code 68 = .ok (.aload_n 0, 1) := by decide +kernel
theorem d_Md_isSame_69 : decode prog_9_method_39_code 69 = .ok (.getfield 38, 3) := by decide +kernel
theorem d_Md_isSame_72 : decode prog_9_method_39_code 72 = .ok (.iload_n 1, 1) := by decide +kernel
theorem d_Md_isSame_73 : decode prog_9_method_39_code 73 = .ok (.iaload, 1) := by decide +kernel
theorem d_Md_isSame_74 : decode prog_9_method_39_code 74 = .ok (.ifCond .eq 13, 3) := by decide +kernel
theorem d_Md_isSame_77 : decode prog_9_method_39_code 77 = .ok (.aload_n 0, 1) := by decide +kernel
theorem d_Md_isSame_78 : decode prog_9_method_39_code 78 = .ok (.getfield 38, 3) := by decide +kernel
theorem d_Md_isSame_81 : decode prog_9_method_39_code 81 = .ok (.iload_n 1, 1) := by decide +kernel
theorem d_Md_isSame_82 : decode prog_9_method_39_code 82 = .ok (.iaload, 1) := by decide +kernel
theorem d_Md_isSame_83 : decode prog_9_method_39_code 83 = .ok (.iconst 2, 1) := by decide +kernel
theorem d_Md_isSame_84 : decode prog_9_method_39_code 84 = .ok (.if_icmp .ne 37, 3) := by decide +kernel
theorem d_Md_isSame_87 : decode prog_9_method_39_code 87 = .ok (.aload_n 0, 1) := by decide +kernel
theorem d_Md_isSame_88 : decode prog_9_method_39_code 88 = .ok (.iconst 4, 1) := by decide +kernel
theorem d_Md_isSame_89 : decode prog_9_method_39_code 89 = .ok (.iload_n 1, 1) := by decide +kernel
theorem d_Md_isSame_90 : decode prog_9_method_39_code 90 = .ok (.imul, 1) := by decide +kernel
theorem d_Md_isSame_91 : decode prog_9_method_39_code 91 = .ok (.iconst 4, 1) := by decide +kernel
theorem d_Md_isSame_92 : decode prog_9_method_39_code 92 = .ok (.iload_n 2, 1) := by decide +kernel
theorem d_Md_isSame_93 : decode prog_9_method_39_code 93 = .ok (.imul, 1) := by decide +kernel
theorem d_Md_isSame_94 : decode prog_9_method_39_code 94 = .ok (.iconst 1, 1) := by decide +kernel
theorem d_Md_isSame_95 : decode prog_9_method_39_code 95 = .ok (.iadd, 1) := by decide +kernel
theorem d_Md_isSame_96 : decode prog_9_method_39_code 96 = .ok (.invokevirtual 265, 3) := by decide +kernel
theorem d_Md_isSame_99 : decode prog_9_method_39_code 99 = .ok (.ifCond .eq 22, 3) := by decide +kernel
theorem d_Md_isSame_102 : decode prog_9_method_39_code 102 = .ok (.aload_n 0, 1) := by decide +kernel
theorem d_Md_isSame_103 : decode prog_9_method_39_code 103 = .ok (.iconst 4, 1) := by decide +kernel
theorem d_Md_isSame_104 : decode prog_9_method_39_code 104 = .ok (.iload_n 1, 1) := by decide +kernel
theorem d_Md_isSame_105 : decode prog_9_method_39_code 105 = .ok (.imul, 1) := by decide +kernel
theorem d_Md_isSame_106 : decode prog_9_method_39_code 106 = .ok (.iconst 1, 1) := by decide +kernel
theorem d_Md_isSame_107 : decode prog_9_method_39_code 107 = .ok (.iadd, 1) := by decide +kernel
theorem d_Md_isSame_108 : decode prog_9_method_39_code 108 = .ok (.iconst 4, 1) := by decide +kernel
theorem d_Md_isSame_109 : decode prog_9_method_39_code 109 = .ok (.iload_n 2, 1) := by decide +kernel
theorem d_Md_isSame_110 : decode prog_9_method_39_code 110 = .ok (.imul, 1) := by decide +kernel
theorem d_Md_isSame_111 : decode prog_9_method_39_code 111 = .ok (.invokevirtual 265, 3) := by decide +kernel
theorem d_Md_isSame_114 : decode prog_9_method_39_code 114 = .ok (.ifCond .eq 7, 3) := by decide +kernel
theorem d_Md_isSame_117 : decode prog_9_method_39_code 117 = .ok (.iconst 1, 1) := by decide +kernel
theorem d_Md_isSame_118 : decode prog_9_method_39_code 118 = .ok (.goto 4, 3) := by decide +kernel
theorem d_Md_isSame_121 : decode prog_9_method_39_code 121 = .ok (.iconst 0, 1) := by decide +kernel
theorem d_Md_isSame_122 : decode prog_9_method_39_code 122 = .ok (.istore 4, 2) := by decide +kernel
theorem d_Md_isSame_124 : decode prog_9_method_39_code 124 = .ok (.iload_n 3, 1) := by decide +kernel
theorem d_Md_isSame_125 : decode prog_9_method_39_code 125 = .ok (.ifCond .ne 8, 3) := by decide +kernel
theorem d_Md_isSame_128 : decode prog_9_method_39_code 128 = .ok (.iload 4, 2) := by decide +kernel
theorem d_Md_isSame_130 : decode prog_9_method_39_code 130 = .ok (.ifCond .eq 7, 3) := by decide +kernel
theorem d_Md_isSame_133 : decode prog_9_method_39_code 133 = .ok (.iconst 1, 1) := by decide +kernel
theorem d_Md_isSame_134 : decode prog_9_method_39_code 134 = .ok (.goto 4, 3) := by decide +kernel
theorem d_Md_isSame_137 : decode prog_9_method_39_code 137 = .ok (.iconst 0, 1) := by decide +kernel
theorem d_Md_isSame_138 : decode prog_9_method_39_code 138 = .ok (.ireturn, 1) := by decide +kernel
def f_Md_isSame_122 (σ : pv_S) (x3 : Int32) (s0 : Int32) : Option (Int32 × pv_S) :=
  (if x3 = 0 then
  (if s0 = 0 then
  some ((0 : Int32), σ)
  else
  some ((1 : Int32), σ))
  else
  some ((1 : Int32), σ))
set_option maxHeartbeats 4000000 in
set_option maxRecDepth 100000 in
theorem s_Md_isSame_122 {p : Program} {l : Launch} {e : Env} {R : Room} {s : State} {m : MethodId} {args : Array Value} {below : List Frame} {meth : Method} {c : Code} {Q : State → Prop} {D : va_G} {q : Nat → ClassId} {a : Nat → Nat} {A : Nat → Prop} (C : pv_C p s m args c prog_9_method_39_code 5 "PatchVoicesModel" pv_TB D pv_cl (pv_ty q) 36 a A (pv_ZM)) (hmv : pv_mv A (pv_ZM)) (hRf : 2 ≤ R.frames) (hRl : 43 ≤ R.locals) {out : (Int32 × pv_S)} (hret : pv_Rz p l e R s m args below meth c prog_9_method_39_code D pv_cl 36 a (pv_FM q a) A Q out) {σ : pv_S} {x3 : Int32} {s0 : Int32} {H : Heap} {locs : List Loc} {ls : Array Slot} (hl : lv_has ls 5 [(3, .int x3)]) (hP : pv_W D pv_cl 36 a (pv_FM q a) σ H) (hS : va_S A s.heap H locs) (hf : f_Md_isSame_122 σ x3 s0 = some out) : W p l e R s m args below meth c H locs 0 0 Q (F0 m 122 ls [.int s0]) := by
  unfold f_Md_isSame_122 at hf
  have hx := C.1
  have hb := C.2.1
  refine lv_istore (lv' := [(4, .int s0), (3, .int x3)]) hx hb d_Md_isSame_122 hl (by decide) rfl (fun ls hl => ?_)
  refine lv_iload_n hx hb d_Md_isSame_124 rfl (lv_at hl 1 rfl) ?_
  refine lv_if_ne (tgt := 133) hx hb d_Md_isSame_125 (by decide) (fun h => ?_) (fun h => ?_)
  · have hf := pv_f hf h
    refine lv_iconst (v := (1 : Int32)) hx hb d_Md_isSame_133 (by decide) ?_
    refine lv_goto (tgt := 138) hx hb d_Md_isSame_134 (by decide) ?_
    obtain rfl := Option.some.inj hf
    exact hret _ _ _ _ d_Md_isSame_138 rfl hP hS
  · have hf := pv_t hf h
    refine lv_iload hx hb d_Md_isSame_128 (lv_at hl 0 rfl) ?_
    refine lv_if_eq (tgt := 137) hx hb d_Md_isSame_130 (by decide) (fun h => ?_) (fun h => ?_)
    · have hf := pv_t hf h
      refine lv_iconst (v := (0 : Int32)) hx hb d_Md_isSame_137 (by decide) ?_
      obtain rfl := Option.some.inj hf
      exact hret _ _ _ _ d_Md_isSame_138 rfl hP hS
    · have hf := pv_f hf h
      refine lv_iconst (v := (1 : Int32)) hx hb d_Md_isSame_133 (by decide) ?_
      refine lv_goto (tgt := 138) hx hb d_Md_isSame_134 (by decide) ?_
      obtain rfl := Option.some.inj hf
      exact hret _ _ _ _ d_Md_isSame_138 rfl hP hS
def f_Md_isSame_121 (σ : pv_S) (x3 : Int32) : Option (Int32 × pv_S) :=
  f_Md_isSame_122 σ x3 (0 : Int32)
set_option maxHeartbeats 4000000 in
set_option maxRecDepth 100000 in
theorem s_Md_isSame_121 {p : Program} {l : Launch} {e : Env} {R : Room} {s : State} {m : MethodId} {args : Array Value} {below : List Frame} {meth : Method} {c : Code} {Q : State → Prop} {D : va_G} {q : Nat → ClassId} {a : Nat → Nat} {A : Nat → Prop} (C : pv_C p s m args c prog_9_method_39_code 5 "PatchVoicesModel" pv_TB D pv_cl (pv_ty q) 36 a A (pv_ZM)) (hmv : pv_mv A (pv_ZM)) (hRf : 2 ≤ R.frames) (hRl : 43 ≤ R.locals) {out : (Int32 × pv_S)} (hret : pv_Rz p l e R s m args below meth c prog_9_method_39_code D pv_cl 36 a (pv_FM q a) A Q out) {σ : pv_S} {x3 : Int32} {H : Heap} {locs : List Loc} {ls : Array Slot} (hl : lv_has ls 5 [(3, .int x3)]) (hP : pv_W D pv_cl 36 a (pv_FM q a) σ H) (hS : va_S A s.heap H locs) (hf : f_Md_isSame_121 σ x3 = some out) : W p l e R s m args below meth c H locs 0 0 Q (F0 m 121 ls []) := by
  unfold f_Md_isSame_121 at hf
  have hx := C.1
  have hb := C.2.1
  refine lv_iconst (v := (0 : Int32)) hx hb d_Md_isSame_121 (by decide) ?_
  exact s_Md_isSame_122 C hmv hRf hRl hret (lv_sub hl [0] rfl) hP hS hf
def f_Md_isSame_87 (σ : pv_S) (x1 : Int32) (x2 : Int32) (x3 : Int32) : Option (Int32 × pv_S) :=
  ((f_Md_alike σ ((4 : Int32) * x1) (((4 : Int32) * x2) + (1 : Int32))).bind fun q2 =>
(if q2.1 = 0 then
  f_Md_isSame_121 q2.2 x3
  else
  ((f_Md_alike q2.2 (((4 : Int32) * x1) + (1 : Int32)) ((4 : Int32) * x2)).bind fun q3 =>
(if q3.1 = 0 then
  f_Md_isSame_121 q3.2 x3
  else
  f_Md_isSame_122 q3.2 x3 (1 : Int32)))))
set_option maxHeartbeats 4000000 in
set_option maxRecDepth 100000 in
theorem s_Md_isSame_87 {p : Program} {l : Launch} {e : Env} {R : Room} {s : State} {m : MethodId} {args : Array Value} {below : List Frame} {meth : Method} {c : Code} {Q : State → Prop} {D : va_G} {q : Nat → ClassId} {a : Nat → Nat} {A : Nat → Prop} (C : pv_C p s m args c prog_9_method_39_code 5 "PatchVoicesModel" pv_TB D pv_cl (pv_ty q) 36 a A (pv_ZM)) (hmv : pv_mv A (pv_ZM)) (hRf : 2 ≤ R.frames) (hRl : 43 ≤ R.locals) {out : (Int32 × pv_S)} (hret : pv_Rz p l e R s m args below meth c prog_9_method_39_code D pv_cl 36 a (pv_FM q a) A Q out) {σ : pv_S} {x1 : Int32} {x2 : Int32} {x3 : Int32} {H : Heap} {locs : List Loc} {ls : Array Slot} (hl : lv_has ls 5 [(0, .ref (a 0)), (1, .int x1), (2, .int x2), (3, .int x3)]) (hP : pv_W D pv_cl 36 a (pv_FM q a) σ H) (hS : va_S A s.heap H locs) (hf : f_Md_isSame_87 σ x1 x2 x3 = some out) : W p l e R s m args below meth c H locs 0 0 Q (F0 m 87 ls []) := by
  unfold f_Md_isSame_87 at hf
  have hx := C.1
  have hb := C.2.1
  refine lv_aload_n hx hb d_Md_isSame_87 rfl (lv_at hl 0 rfl) ?_
  refine lv_iconst (v := (4 : Int32)) hx hb d_Md_isSame_88 (by decide) ?_
  refine lv_iload_n hx hb d_Md_isSame_89 rfl (lv_at hl 1 rfl) ?_
  refine lv_imul hx hb d_Md_isSame_90 ?_
  refine lv_iconst (v := (4 : Int32)) hx hb d_Md_isSame_91 (by decide) ?_
  refine lv_iload_n hx hb d_Md_isSame_92 rfl (lv_at hl 2 rfl) ?_
  refine lv_imul hx hb d_Md_isSame_93 ?_
  refine lv_iconst (v := (1 : Int32)) hx hb d_Md_isSame_94 (by decide) ?_
  refine lv_iadd hx hb d_Md_isSame_95 ?_
  obtain ⟨q2, hc, hf⟩ := pv_b hf
  refine pv_callVi C hmv pv_good hP hS (As := [.int ((4 : Int32) * x1), .int (((4 : Int32) * x2) + (1 : Int32))]) (rest := []) (by decide) (fm_0 _ _ _ _) rfl (c_Md_alike C.2.2.2.2.2.2.1 hmv hc) cv_Md_265 ⟨rfl, rfl, Nat.le_trans (Nat.le_of_ble_eq_true rfl) hRf, Nat.le_trans (Nat.le_of_ble_eq_true rfl) hRl⟩ rfl hl.1 rfl (Nat.le_of_ble_eq_true rfl) d_Md_isSame_96 ⟨Nat.zero_le _, Nat.zero_le _⟩ (fun H locs hP hS => ?_)
  refine lv_if_eq (tgt := 121) hx hb d_Md_isSame_99 (by decide) (fun h => ?_) (fun h => ?_)
  · have hf := pv_t hf h
    exact s_Md_isSame_121 C hmv hRf hRl hret (lv_sub hl [3] rfl) hP hS hf
  · have hf := pv_f hf h
    refine lv_aload_n hx hb d_Md_isSame_102 rfl (lv_at hl 0 rfl) ?_
    refine lv_iconst (v := (4 : Int32)) hx hb d_Md_isSame_103 (by decide) ?_
    refine lv_iload_n hx hb d_Md_isSame_104 rfl (lv_at hl 1 rfl) ?_
    refine lv_imul hx hb d_Md_isSame_105 ?_
    refine lv_iconst (v := (1 : Int32)) hx hb d_Md_isSame_106 (by decide) ?_
    refine lv_iadd hx hb d_Md_isSame_107 ?_
    refine lv_iconst (v := (4 : Int32)) hx hb d_Md_isSame_108 (by decide) ?_
    refine lv_iload_n hx hb d_Md_isSame_109 rfl (lv_at hl 2 rfl) ?_
    refine lv_imul hx hb d_Md_isSame_110 ?_
    obtain ⟨q3, hc, hf⟩ := pv_b hf
    refine pv_callVi C hmv pv_good hP hS (As := [.int (((4 : Int32) * x1) + (1 : Int32)), .int ((4 : Int32) * x2)]) (rest := []) (by decide) (fm_0 _ _ _ _) rfl (c_Md_alike C.2.2.2.2.2.2.1 hmv hc) cv_Md_265 ⟨rfl, rfl, Nat.le_trans (Nat.le_of_ble_eq_true rfl) hRf, Nat.le_trans (Nat.le_of_ble_eq_true rfl) hRl⟩ rfl hl.1 rfl (Nat.le_of_ble_eq_true rfl) d_Md_isSame_111 ⟨Nat.zero_le _, Nat.zero_le _⟩ (fun H locs hP hS => ?_)
    refine lv_if_eq (tgt := 121) hx hb d_Md_isSame_114 (by decide) (fun h => ?_) (fun h => ?_)
    · have hf := pv_t hf h
      exact s_Md_isSame_121 C hmv hRf hRl hret (lv_sub hl [3] rfl) hP hS hf
    · have hf := pv_f hf h
      refine lv_iconst (v := (1 : Int32)) hx hb d_Md_isSame_117 (by decide) ?_
      refine lv_goto (tgt := 122) hx hb d_Md_isSame_118 (by decide) ?_
      exact s_Md_isSame_122 C hmv hRf hRl hret (lv_sub hl [3] rfl) hP hS hf
def f_Md_isSame_61 (k_22 : pv_S → Int32 → Int32 → Int32 → Int32 → Option (Int32 × pv_S)) (σ : pv_S) (x1 : Int32) (x2 : Int32) (x4 : Int32) (s0 : Int32) : Option (Int32 × pv_S) :=
  k_22 σ x1 x2 s0 (x4 + (1 : Int32))
set_option maxHeartbeats 4000000 in
set_option maxRecDepth 100000 in
theorem s_Md_isSame_61 {p : Program} {l : Launch} {e : Env} {R : Room} {s : State} {m : MethodId} {args : Array Value} {below : List Frame} {meth : Method} {c : Code} {Q : State → Prop} {D : va_G} {q : Nat → ClassId} {a : Nat → Nat} {A : Nat → Prop} (C : pv_C p s m args c prog_9_method_39_code 5 "PatchVoicesModel" pv_TB D pv_cl (pv_ty q) 36 a A (pv_ZM)) (hmv : pv_mv A (pv_ZM)) (hRf : 2 ≤ R.frames) (hRl : 43 ≤ R.locals) {out : (Int32 × pv_S)} (hret : pv_Rz p l e R s m args below meth c prog_9_method_39_code D pv_cl 36 a (pv_FM q a) A Q out) {k_22 : pv_S → Int32 → Int32 → Int32 → Int32 → Option (Int32 × pv_S)} (hk_22 : ∀ (σ : pv_S) (x1 : Int32) (x2 : Int32) (x3 : Int32) (x4 : Int32) (H : Heap) (locs : List Loc) (ls : Array Slot), k_22 σ x1 x2 x3 x4 = some out → lv_has ls 5 [(0, .ref (a 0)), (1, .int x1), (2, .int x2), (3, .int x3), (4, .int x4)] → pv_W D pv_cl 36 a (pv_FM q a) σ H → va_S A s.heap H locs → W p l e R s m args below meth c H locs 0 0 Q (F0 m 22 ls [])) {σ : pv_S} {x1 : Int32} {x2 : Int32} {x4 : Int32} {s0 : Int32} {H : Heap} {locs : List Loc} {ls : Array Slot} (hl : lv_has ls 5 [(0, .ref (a 0)), (1, .int x1), (2, .int x2), (4, .int x4)]) (hP : pv_W D pv_cl 36 a (pv_FM q a) σ H) (hS : va_S A s.heap H locs) (hf : f_Md_isSame_61 k_22 σ x1 x2 x4 s0 = some out) : W p l e R s m args below meth c H locs 0 0 Q (F0 m 61 ls [.int s0]) := by
  unfold f_Md_isSame_61 at hf
  have hx := C.1
  have hb := C.2.1
  refine lv_istore_n (lv' := [(3, .int s0), (0, .ref (a 0)), (1, .int x1), (2, .int x2), (4, .int x4)]) hx hb d_Md_isSame_61 rfl hl (by decide) rfl (fun ls hl => ?_)
  refine lv_iinc (k := 4) (v := (x4 + (1 : Int32))) (lv' := [(4, .int (x4 + (1 : Int32))), (3, .int s0), (0, .ref (a 0)), (1, .int x1), (2, .int x2)]) hx hb d_Md_isSame_62 hl rfl (pv_inc (by decide)) (by decide) rfl (fun ls hl => ?_)
  refine lv_goto (tgt := 22) hx hb d_Md_isSame_65 (by decide) ?_
  exact hk_22 _ _ _ _ _ _ _ _ hf (lv_sub hl [2, 3, 4, 1, 0] rfl) hP hS
def f_Md_isSame_60 (k_22 : pv_S → Int32 → Int32 → Int32 → Int32 → Option (Int32 × pv_S)) (σ : pv_S) (x1 : Int32) (x2 : Int32) (x4 : Int32) : Option (Int32 × pv_S) :=
  f_Md_isSame_61 k_22 σ x1 x2 x4 (0 : Int32)
set_option maxHeartbeats 4000000 in
set_option maxRecDepth 100000 in
theorem s_Md_isSame_60 {p : Program} {l : Launch} {e : Env} {R : Room} {s : State} {m : MethodId} {args : Array Value} {below : List Frame} {meth : Method} {c : Code} {Q : State → Prop} {D : va_G} {q : Nat → ClassId} {a : Nat → Nat} {A : Nat → Prop} (C : pv_C p s m args c prog_9_method_39_code 5 "PatchVoicesModel" pv_TB D pv_cl (pv_ty q) 36 a A (pv_ZM)) (hmv : pv_mv A (pv_ZM)) (hRf : 2 ≤ R.frames) (hRl : 43 ≤ R.locals) {out : (Int32 × pv_S)} (hret : pv_Rz p l e R s m args below meth c prog_9_method_39_code D pv_cl 36 a (pv_FM q a) A Q out) {k_22 : pv_S → Int32 → Int32 → Int32 → Int32 → Option (Int32 × pv_S)} (hk_22 : ∀ (σ : pv_S) (x1 : Int32) (x2 : Int32) (x3 : Int32) (x4 : Int32) (H : Heap) (locs : List Loc) (ls : Array Slot), k_22 σ x1 x2 x3 x4 = some out → lv_has ls 5 [(0, .ref (a 0)), (1, .int x1), (2, .int x2), (3, .int x3), (4, .int x4)] → pv_W D pv_cl 36 a (pv_FM q a) σ H → va_S A s.heap H locs → W p l e R s m args below meth c H locs 0 0 Q (F0 m 22 ls [])) {σ : pv_S} {x1 : Int32} {x2 : Int32} {x4 : Int32} {H : Heap} {locs : List Loc} {ls : Array Slot} (hl : lv_has ls 5 [(0, .ref (a 0)), (1, .int x1), (2, .int x2), (4, .int x4)]) (hP : pv_W D pv_cl 36 a (pv_FM q a) σ H) (hS : va_S A s.heap H locs) (hf : f_Md_isSame_60 k_22 σ x1 x2 x4 = some out) : W p l e R s m args below meth c H locs 0 0 Q (F0 m 60 ls []) := by
  unfold f_Md_isSame_60 at hf
  have hx := C.1
  have hb := C.2.1
  refine lv_iconst (v := (0 : Int32)) hx hb d_Md_isSame_60 (by decide) ?_
  exact s_Md_isSame_61 C hmv hRf hRl hret hk_22 (lv_sub hl [0, 1, 2, 3] rfl) hP hS hf
def f_Md_isSame_22b (k_22 : pv_S → Int32 → Int32 → Int32 → Int32 → Option (Int32 × pv_S)) (σ : pv_S) (x1 : Int32) (x2 : Int32) (x3 : Int32) (x4 : Int32) : Option (Int32 × pv_S) :=
  (if pv_in x1 24 = true then
(if (σ.1 10 (x1).toNatClampNeg) ≤ x4 then
  (if pv_in x1 24 = true then
(if (σ.1 9 (x1).toNatClampNeg) = 0 then
  f_Md_isSame_87 σ x1 x2 x3
  else
  (if pv_in x1 24 = true then
(if (σ.1 9 (x1).toNatClampNeg) = (2 : Int32) then
  f_Md_isSame_87 σ x1 x2 x3
  else
  f_Md_isSame_121 σ x3)
  else none))
  else none)
  else
  (if x3 = 0 then
  f_Md_isSame_60 k_22 σ x1 x2 x4
  else
  ((f_Md_alike σ (((4 : Int32) * x1) + x4) (((4 : Int32) * x2) + x4)).bind fun q1 =>
(if q1.1 = 0 then
  f_Md_isSame_60 k_22 q1.2 x1 x2 x4
  else
  f_Md_isSame_61 k_22 q1.2 x1 x2 x4 (1 : Int32)))))
  else none)
set_option maxHeartbeats 4000000 in
set_option maxRecDepth 100000 in
theorem s_Md_isSame_22b {p : Program} {l : Launch} {e : Env} {R : Room} {s : State} {m : MethodId} {args : Array Value} {below : List Frame} {meth : Method} {c : Code} {Q : State → Prop} {D : va_G} {q : Nat → ClassId} {a : Nat → Nat} {A : Nat → Prop} (C : pv_C p s m args c prog_9_method_39_code 5 "PatchVoicesModel" pv_TB D pv_cl (pv_ty q) 36 a A (pv_ZM)) (hmv : pv_mv A (pv_ZM)) (hRf : 2 ≤ R.frames) (hRl : 43 ≤ R.locals) {out : (Int32 × pv_S)} (hret : pv_Rz p l e R s m args below meth c prog_9_method_39_code D pv_cl 36 a (pv_FM q a) A Q out) {k_22 : pv_S → Int32 → Int32 → Int32 → Int32 → Option (Int32 × pv_S)} (hk_22 : ∀ (σ : pv_S) (x1 : Int32) (x2 : Int32) (x3 : Int32) (x4 : Int32) (H : Heap) (locs : List Loc) (ls : Array Slot), k_22 σ x1 x2 x3 x4 = some out → lv_has ls 5 [(0, .ref (a 0)), (1, .int x1), (2, .int x2), (3, .int x3), (4, .int x4)] → pv_W D pv_cl 36 a (pv_FM q a) σ H → va_S A s.heap H locs → W p l e R s m args below meth c H locs 0 0 Q (F0 m 22 ls [])) {σ : pv_S} {x1 : Int32} {x2 : Int32} {x3 : Int32} {x4 : Int32} {H : Heap} {locs : List Loc} {ls : Array Slot} (hl : lv_has ls 5 [(0, .ref (a 0)), (1, .int x1), (2, .int x2), (3, .int x3), (4, .int x4)]) (hP : pv_W D pv_cl 36 a (pv_FM q a) σ H) (hS : va_S A s.heap H locs) (hf : f_Md_isSame_22b k_22 σ x1 x2 x3 x4 = some out) : W p l e R s m args below meth c H locs 0 0 Q (F0 m 22 ls []) := by
  unfold f_Md_isSame_22b at hf
  have hx := C.1
  have hb := C.2.1
  refine lv_iload hx hb d_Md_isSame_22 (lv_at hl 4 rfl) ?_
  refine lv_aload_n hx hb d_Md_isSame_24 rfl (lv_at hl 0 rfl) ?_
  refine pv_get C hP (v := .ref (a 10)) (j := 20) (by decide) (fm_0 _ _ _ _) fl_Md_41 rfl d_Md_isSame_25 ?_
  refine lv_iload_n hx hb d_Md_isSame_28 rfl (lv_at hl 1 rfl) ?_
  obtain ⟨hg, hf⟩ := pv_g hf
  refine pv_iald C hP (t0 := 0) (by decide) (fm_10 _ _ _ _) rfl hg d_Md_isSame_29 ?_
  refine lv_icmp_ge (tgt := 68) hx hb d_Md_isSame_30 (by decide) (fun h => ?_) (fun h => ?_)
  · have hf := pv_t hf h
    refine lv_aload_n hx hb d_Md_isSame_68 rfl (lv_at hl 0 rfl) ?_
    refine pv_get C hP (v := .ref (a 9)) (j := 19) (by decide) (fm_0 _ _ _ _) fl_Md_38 rfl d_Md_isSame_69 ?_
    refine lv_iload_n hx hb d_Md_isSame_72 rfl (lv_at hl 1 rfl) ?_
    obtain ⟨hg, hf⟩ := pv_g hf
    refine pv_iald C hP (t0 := 0) (by decide) (fm_9 _ _ _ _) rfl hg d_Md_isSame_73 ?_
    refine lv_if_eq (tgt := 87) hx hb d_Md_isSame_74 (by decide) (fun h => ?_) (fun h => ?_)
    · have hf := pv_t hf h
      exact s_Md_isSame_87 C hmv hRf hRl hret (lv_sub hl [0, 1, 2, 3] rfl) hP hS hf
    · have hf := pv_f hf h
      refine lv_aload_n hx hb d_Md_isSame_77 rfl (lv_at hl 0 rfl) ?_
      refine pv_get C hP (v := .ref (a 9)) (j := 19) (by decide) (fm_0 _ _ _ _) fl_Md_38 rfl d_Md_isSame_78 ?_
      refine lv_iload_n hx hb d_Md_isSame_81 rfl (lv_at hl 1 rfl) ?_
      obtain ⟨hg, hf⟩ := pv_g hf
      refine pv_iald C hP (t0 := 0) (by decide) (fm_9 _ _ _ _) rfl hg d_Md_isSame_82 ?_
      refine lv_iconst (v := (2 : Int32)) hx hb d_Md_isSame_83 (by decide) ?_
      refine lv_icmp_ne (tgt := 121) hx hb d_Md_isSame_84 (by decide) (fun h => ?_) (fun h => ?_)
      · have hf := pv_f hf h
        exact s_Md_isSame_121 C hmv hRf hRl hret (lv_sub hl [3] rfl) hP hS hf
      · have hf := pv_t hf h
        exact s_Md_isSame_87 C hmv hRf hRl hret (lv_sub hl [0, 1, 2, 3] rfl) hP hS hf
  · have hf := pv_f hf h
    refine lv_iload_n hx hb d_Md_isSame_33 rfl (lv_at hl 3 rfl) ?_
    refine lv_if_eq (tgt := 60) hx hb d_Md_isSame_34 (by decide) (fun h => ?_) (fun h => ?_)
    · have hf := pv_t hf h
      exact s_Md_isSame_60 C hmv hRf hRl hret hk_22 (lv_sub hl [0, 1, 2, 4] rfl) hP hS hf
    · have hf := pv_f hf h
      refine lv_aload_n hx hb d_Md_isSame_37 rfl (lv_at hl 0 rfl) ?_
      refine lv_iconst (v := (4 : Int32)) hx hb d_Md_isSame_38 (by decide) ?_
      refine lv_iload_n hx hb d_Md_isSame_39 rfl (lv_at hl 1 rfl) ?_
      refine lv_imul hx hb d_Md_isSame_40 ?_
      refine lv_iload hx hb d_Md_isSame_41 (lv_at hl 4 rfl) ?_
      refine lv_iadd hx hb d_Md_isSame_43 ?_
      refine lv_iconst (v := (4 : Int32)) hx hb d_Md_isSame_44 (by decide) ?_
      refine lv_iload_n hx hb d_Md_isSame_45 rfl (lv_at hl 2 rfl) ?_
      refine lv_imul hx hb d_Md_isSame_46 ?_
      refine lv_iload hx hb d_Md_isSame_47 (lv_at hl 4 rfl) ?_
      refine lv_iadd hx hb d_Md_isSame_49 ?_
      obtain ⟨q1, hc, hf⟩ := pv_b hf
      refine pv_callVi C hmv pv_good hP hS (As := [.int (((4 : Int32) * x1) + x4), .int (((4 : Int32) * x2) + x4)]) (rest := []) (by decide) (fm_0 _ _ _ _) rfl (c_Md_alike C.2.2.2.2.2.2.1 hmv hc) cv_Md_265 ⟨rfl, rfl, Nat.le_trans (Nat.le_of_ble_eq_true rfl) hRf, Nat.le_trans (Nat.le_of_ble_eq_true rfl) hRl⟩ rfl hl.1 rfl (Nat.le_of_ble_eq_true rfl) d_Md_isSame_50 ⟨Nat.zero_le _, Nat.zero_le _⟩ (fun H locs hP hS => ?_)
      refine lv_if_eq (tgt := 60) hx hb d_Md_isSame_53 (by decide) (fun h => ?_) (fun h => ?_)
      · have hf := pv_t hf h
        exact s_Md_isSame_60 C hmv hRf hRl hret hk_22 (lv_sub hl [0, 1, 2, 4] rfl) hP hS hf
      · have hf := pv_f hf h
        refine lv_iconst (v := (1 : Int32)) hx hb d_Md_isSame_56 (by decide) ?_
        refine lv_goto (tgt := 61) hx hb d_Md_isSame_57 (by decide) ?_
        exact s_Md_isSame_61 C hmv hRf hRl hret hk_22 (lv_sub hl [0, 1, 2, 4] rfl) hP hS hf
def f_Md_isSame_22 : Nat → pv_S → Int32 → Int32 → Int32 → Int32 → Option (Int32 × pv_S)
  | 0 => fun _ _ _ _ _ => none
  | n + 1 => f_Md_isSame_22b (f_Md_isSame_22 n)
set_option maxHeartbeats 4000000 in
theorem s_Md_isSame_22 {p : Program} {l : Launch} {e : Env} {R : Room} {s : State} {m : MethodId} {args : Array Value} {below : List Frame} {meth : Method} {c : Code} {Q : State → Prop} {D : va_G} {q : Nat → ClassId} {a : Nat → Nat} {A : Nat → Prop} (C : pv_C p s m args c prog_9_method_39_code 5 "PatchVoicesModel" pv_TB D pv_cl (pv_ty q) 36 a A (pv_ZM)) (hmv : pv_mv A (pv_ZM)) (hRf : 2 ≤ R.frames) (hRl : 43 ≤ R.locals) {out : (Int32 × pv_S)} (hret : pv_Rz p l e R s m args below meth c prog_9_method_39_code D pv_cl 36 a (pv_FM q a) A Q out) (n : Nat) : ∀ {σ : pv_S} {x1 : Int32} {x2 : Int32} {x3 : Int32} {x4 : Int32} {H : Heap} {locs : List Loc} {ls : Array Slot}, lv_has ls 5 [(0, .ref (a 0)), (1, .int x1), (2, .int x2), (3, .int x3), (4, .int x4)] → pv_W D pv_cl 36 a (pv_FM q a) σ H → va_S A s.heap H locs → f_Md_isSame_22 n σ x1 x2 x3 x4 = some out → W p l e R s m args below meth c H locs 0 0 Q (F0 m 22 ls []) := by
  induction n with
  | zero => intro σ x1 x2 x3 x4 H locs ls hl hP hS hf; cases hf
  | succ n ih => intro σ x1 x2 x3 x4 H locs ls hl hP hS hf; exact s_Md_isSame_22b C hmv hRf hRl hret (fun σ x1 x2 x3 x4 H locs ls hf hl hP hS => ih hl hP hS hf) hl hP hS hf
def f_Md_isSame_0 (σ : pv_S) (x1 : Int32) (x2 : Int32) : Option (Int32 × pv_S) :=
  (if pv_in x1 24 = true then
(if pv_in x2 24 = true then
(if (σ.1 9 (x1).toNatClampNeg) = (σ.1 9 (x2).toNatClampNeg) then
  f_Md_isSame_22 pv_fu σ x1 x2 (1 : Int32) (0 : Int32)
  else
  some ((0 : Int32), σ))
  else none)
  else none)
set_option maxHeartbeats 4000000 in
set_option maxRecDepth 100000 in
theorem s_Md_isSame_0 {p : Program} {l : Launch} {e : Env} {R : Room} {s : State} {m : MethodId} {args : Array Value} {below : List Frame} {meth : Method} {c : Code} {Q : State → Prop} {D : va_G} {q : Nat → ClassId} {a : Nat → Nat} {A : Nat → Prop} (C : pv_C p s m args c prog_9_method_39_code 5 "PatchVoicesModel" pv_TB D pv_cl (pv_ty q) 36 a A (pv_ZM)) (hmv : pv_mv A (pv_ZM)) (hRf : 2 ≤ R.frames) (hRl : 43 ≤ R.locals) {out : (Int32 × pv_S)} (hret : pv_Rz p l e R s m args below meth c prog_9_method_39_code D pv_cl 36 a (pv_FM q a) A Q out) {σ : pv_S} {x1 : Int32} {x2 : Int32} {H : Heap} {locs : List Loc} {ls : Array Slot} (hl : lv_has ls 5 [(0, .ref (a 0)), (1, .int x1), (2, .int x2)]) (hP : pv_W D pv_cl 36 a (pv_FM q a) σ H) (hS : va_S A s.heap H locs) (hf : f_Md_isSame_0 σ x1 x2 = some out) : W p l e R s m args below meth c H locs 0 0 Q (F0 m 0 ls []) := by
  unfold f_Md_isSame_0 at hf
  have hx := C.1
  have hb := C.2.1
  refine lv_aload_n hx hb d_Md_isSame_0 rfl (lv_at hl 0 rfl) ?_
  refine pv_get C hP (v := .ref (a 9)) (j := 19) (by decide) (fm_0 _ _ _ _) fl_Md_38 rfl d_Md_isSame_1 ?_
  refine lv_iload_n hx hb d_Md_isSame_4 rfl (lv_at hl 1 rfl) ?_
  obtain ⟨hg, hf⟩ := pv_g hf
  refine pv_iald C hP (t0 := 0) (by decide) (fm_9 _ _ _ _) rfl hg d_Md_isSame_5 ?_
  refine lv_aload_n hx hb d_Md_isSame_6 rfl (lv_at hl 0 rfl) ?_
  refine pv_get C hP (v := .ref (a 9)) (j := 19) (by decide) (fm_0 _ _ _ _) fl_Md_38 rfl d_Md_isSame_7 ?_
  refine lv_iload_n hx hb d_Md_isSame_10 rfl (lv_at hl 2 rfl) ?_
  obtain ⟨hg, hf⟩ := pv_g hf
  refine pv_iald C hP (t0 := 0) (by decide) (fm_9 _ _ _ _) rfl hg d_Md_isSame_11 ?_
  refine lv_icmp_eq (tgt := 17) hx hb d_Md_isSame_12 (by decide) (fun h => ?_) (fun h => ?_)
  · have hf := pv_t hf h
    refine lv_iconst (v := (1 : Int32)) hx hb d_Md_isSame_17 (by decide) ?_
    refine lv_istore_n (lv' := [(3, .int (1 : Int32)), (0, .ref (a 0)), (1, .int x1), (2, .int x2)]) hx hb d_Md_isSame_18 rfl hl (by decide) rfl (fun ls hl => ?_)
    refine lv_iconst (v := (0 : Int32)) hx hb d_Md_isSame_19 (by decide) ?_
    refine lv_istore (lv' := [(4, .int (0 : Int32)), (3, .int (1 : Int32)), (0, .ref (a 0)), (1, .int x1), (2, .int x2)]) hx hb d_Md_isSame_20 hl (by decide) rfl (fun ls hl => ?_)
    exact s_Md_isSame_22 C hmv hRf hRl hret pv_fu (lv_sub hl [2, 3, 4, 1, 0] rfl) hP hS hf
  · have hf := pv_f hf h
    refine lv_iconst (v := (0 : Int32)) hx hb d_Md_isSame_15 (by decide) ?_
    obtain rfl := Option.some.inj hf
    exact hret _ _ _ _ d_Md_isSame_16 rfl hP hS
def f_Md_isSame (σ : pv_S) (x1 : Int32) (x2 : Int32) : Option (Int32 × pv_S) := f_Md_isSame_0 σ x1 x2
def rm_Md_isSame : Room := { frames := 2, cells := 0, slots := 0, locals := 43 }
theorem c_Md_isSame {l : Launch} {D : va_G} {q : Nat → ClassId} {a : Nat → Nat} {A : Nat → Prop} (hD : pv_D 36 a A) (hmv : pv_mv A (pv_ZM)) {σ : pv_S} {x1 : Int32} {x2 : Int32} {out : (Int32 × pv_S)} (hf : f_Md_isSame σ x1 x2 = some out) : pv_Mi l y_Md_isSame (Cond.code y_Md_isSame prog_9_method_39_code 5 (some .boolean) :: pv_TB) rm_Md_isSame D pv_cl (pv_ty q) 36 a (pv_FM q a) A (pv_ZM) [.ref (a 0), .int x1, .int x2] σ out :=
  pv_ofZ (by decide) (Nat.le_of_ble_eq_true rfl) hD (fun p e s m args below meth c Q ls C hret hl hP => s_Md_isSame_0 C hmv (Nat.le_refl _) (Nat.le_refl _) hret hl hP va_S.rf hf)
theorem d_Md_judge_0 : decode prog_9_method_40_code 0 = .ok (.aload_n 0, 1) := by decide +kernel
theorem d_Md_judge_1 : decode prog_9_method_40_code 1 = .ok (.getfield 50, 3) := by decide +kernel
theorem d_Md_judge_4 : decode prog_9_method_40_code 4 = .ok (.iload_n 1, 1) := by decide +kernel
theorem d_Md_judge_5 : decode prog_9_method_40_code 5 = .ok (.iaload, 1) := by decide +kernel
theorem d_Md_judge_6 : decode prog_9_method_40_code 6 = .ok (.istore_n 2, 1) := by decide +kernel
theorem d_Md_judge_7 : decode prog_9_method_40_code 7 = .ok (.aload_n 0, 1) := by decide +kernel
theorem d_Md_judge_8 : decode prog_9_method_40_code 8 = .ok (.getfield 38, 3) := by decide +kernel
theorem d_Md_judge_11 : decode prog_9_method_40_code 11 = .ok (.iload_n 2, 1) := by decide +kernel
theorem d_Md_judge_12 : decode prog_9_method_40_code 12 = .ok (.iaload, 1) := by decide +kernel
theorem d_Md_judge_13 : decode prog_9_method_40_code 13 = .ok (.bipush 7, 2) := by decide +kernel
theorem d_Md_judge_15 : decode prog_9_method_40_code 15 = .ok (.if_icmp .ge 7, 3) := by decide +kernel
theorem d_Md_judge_18 : decode prog_9_method_40_code 18 = .ok (.iconst 1, 1) := by decide +kernel
theorem d_Md_judge_19 : decode prog_9_method_40_code 19 = .ok (.goto 4, 3) := by decide +kernel
theorem d_Md_judge_22 : decode prog_9_method_40_code 22 = .ok (.iconst 0, 1) := by decide +kernel
theorem d_Md_judge_23 : decode prog_9_method_40_code 23 = .ok (.istore_n 3, 1) := by decide +kernel
theorem d_Md_judge_24 : decode prog_9_method_40_code 24 = .ok (.iconst 0, 1) := by decide +kernel
theorem d_Md_judge_25 : decode prog_9_method_40_code 25 = .ok (.istore 4, 2) := by decide +kernel
theorem d_Md_judge_27 : decode prog_9_method_40_code 27 = .ok (.iload 4, 2) := by decide +kernel
theorem d_Md_judge_29 : decode prog_9_method_40_code 29 = .ok (.aload_n 0, 1) := by decide +kernel
theorem d_Md_judge_30 : decode prog_9_method_40_code 30 = .ok (.getfield 41, 3) := by decide +kernel
theorem d_Md_judge_33 : decode prog_9_method_40_code 33 = .ok (.iload_n 2, 1) := by decide +kernel
theorem d_Md_judge_34 : decode prog_9_method_40_code 34 = .ok (.iaload, 1) := by decide +kernel
theorem d_Md_judge_35 : decode prog_9_method_40_code 35 = .ok (.if_icmp .ge 32, 3) := by decide +kernel
theorem d_Md_judge_38 : decode prog_9_method_40_code 38 = .ok (.iload_n 3, 1) := by decide +kernel
theorem d_Md_judge_39 : decode prog_9_method_40_code 39 = .ok (.ifCond .eq 20, 3) := by decide +kernel
theorem d_Md_judge_42 : decode prog_9_method_40_code 42 = .ok (.aload_n 0, 1) := by decide +kernel
theorem d_Md_judge_43 : decode prog_9_method_40_code 43 = .ok (.iconst 4, 1) := by decide +kernel
theorem d_Md_judge_44 : decode prog_9_method_40_code 44 = .ok (.iload_n 2, 1) := by decide +kernel
theorem d_Md_judge_45 : decode prog_9_method_40_code 45 = .ok (.imul, 1) := by decide +kernel
theorem d_Md_judge_46 : decode prog_9_method_40_code 46 = .ok (.iload 4, 2) := by decide +kernel
theorem d_Md_judge_48 : decode prog_9_method_40_code 48 = .ok (.iadd, 1) := by decide +kernel
theorem d_Md_judge_49 : decode prog_9_method_40_code 49 = .ok (.invokevirtual 259, 3) := by decide +kernel
theorem d_Md_judge_52 : decode prog_9_method_40_code 52 = .ok (.ifCond .ge 7, 3) := by decide +kernel
theorem d_Md_judge_55 : decode prog_9_method_40_code 55 = .ok (.iconst 1, 1) := by decide +kernel
theorem d_Md_judge_56 : decode prog_9_method_40_code 56 = .ok (.goto 4, 3) := by decide +kernel
theorem d_Md_judge_59 : decode prog_9_method_40_code 59 = .ok (.iconst 0, 1) := by decide +kernel
theorem d_Md_judge_60 : decode prog_9_method_40_code 60 = .ok (.istore_n 3, 1) := by decide +kernel
theorem d_Md_judge_61 : decode prog_9_method_40_code 61 = .ok (.iinc 4 1, 3) := by decide +kernel
theorem d_Md_judge_64 : decode prog_9_method_40_code 64 = .ok (.goto (-37), 3) := by decide +kernel
theorem d_Md_judge_67 : decode prog_9_method_40_code 67 = .ok (.iload_n 3, 1) := by decide +kernel
theorem d_Md_judge_68 : decode prog_9_method_40_code 68 = .ok (.ifCond .eq 51, 3) := by decide +kernel
theorem d_Md_judge_71 : decode prog_9_method_40_code 71 = .ok (.aload_n 0, 1) := by decide +kernel
theorem d_Md_judge_72 : decode prog_9_method_40_code 72 = .ok (.getfield 56, 3) := by decide +kernel
theorem d_Md_judge_75 : decode prog_9_method_40_code 75 = .ok (.iload_n 2, 1) := by decide +kernel
theorem d_Md_judge_76 : decode prog_9_method_40_code 76 = .ok (.iconst (-1), 1) := by decide +kernel
theorem d_Md_judge_77 : decode prog_9_method_40_code 77 = .ok (.iastore, 1) := by decide +kernel
theorem d_Md_judge_78 : decode prog_9_method_40_code 78 = .ok (.aload_n 0, 1) := by decide +kernel
theorem d_Md_judge_79 : decode prog_9_method_40_code 79 = .ok (.getfield 59, 3) := by decide +kernel
theorem d_Md_judge_82 : decode prog_9_method_40_code 82 = .ok (.iload_n 2, 1) := by decide +kernel
theorem d_Md_judge_83 : decode prog_9_method_40_code 83 = .ok (.aload_n 0, 1) := by decide +kernel
theorem d_Md_judge_84 : decode prog_9_method_40_code 84 = .ok (.getfield 38, 3) := by decide +kernel
theorem d_Md_judge_87 : decode prog_9_method_40_code 87 = .ok (.iload_n 2, 1) := by decide +kernel
theorem d_Md_judge_88 : decode prog_9_method_40_code 88 = .ok (.iaload, 1) := by decide +kernel
theorem d_Md_judge_89 : decode prog_9_method_40_code 89 = .ok (.aload_n 0, 1) := by decide +kernel
theorem d_Md_judge_90 : decode prog_9_method_40_code 90 = .ok (.iconst 4, 1) := by decide +kernel
theorem d_Md_judge_91 : decode prog_9_method_40_code 91 = .ok (.iload_n 2, 1) := by decide +kernel
theorem d_Md_judge_92 : decode prog_9_method_40_code 92 = .ok (.imul, 1) := by decide +kernel
theorem d_Md_judge_93 : decode prog_9_method_40_code 93 = .ok (.invokevirtual 262, 3) := by decide +kernel
theorem d_Md_judge_96 : decode prog_9_method_40_code 96 = .ok (.aload_n 0, 1) := by decide +kernel
theorem d_Md_judge_97 : decode prog_9_method_40_code 97 = .ok (.iconst 4, 1) := by decide +kernel
theorem d_Md_judge_98 : decode prog_9_method_40_code 98 = .ok (.iload_n 2, 1) := by decide +kernel
theorem d_Md_judge_99 : decode prog_9_method_40_code 99 = .ok (.imul, 1) := by decide +kernel
theorem d_Md_judge_100 : decode prog_9_method_40_code 100 = .ok (.iconst 1, 1) := by decide +kernel
theorem d_Md_judge_101 : decode prog_9_method_40_code 101 = .ok (.iadd, 1) := by decide +kernel
theorem d_Md_judge_102 : decode prog_9_method_40_code 102 = .ok (.invokevirtual 262, 3) := by decide +kernel
theorem d_Md_judge_105 : decode prog_9_method_40_code 105 = .ok (.aload_n 0, 1) := by decide +kernel
theorem d_Md_judge_106 : decode prog_9_method_40_code 106 = .ok (.iconst 4, 1) := by decide +kernel
theorem d_Md_judge_107 : decode prog_9_method_40_code 107 = .ok (.iload_n 2, 1) := by decide +kernel
theorem d_Md_judge_108 : decode prog_9_method_40_code 108 = .ok (.imul, 1) := by decide +kernel
theorem d_Md_judge_109 : decode prog_9_method_40_code 109 = .ok (.iconst 2, 1) := by decide +kernel
theorem d_Md_judge_110 : decode prog_9_method_40_code 110 = .ok (.iadd, 1) := by decide +kernel
theorem d_Md_judge_111 : decode prog_9_method_40_code 111 = .ok (.invokevirtual 262, 3) := by decide +kernel
theorem d_Md_judge_114 : decode prog_9_method_40_code 114 = .ok (.invokestatic 268, 3) := by decide +kernel
theorem d_Md_judge_117 : decode prog_9_method_40_code 117 = .ok (.iastore, 1) := by decide +kernel
theorem d_Md_judge_118 : decode prog_9_method_40_code 118 = .ok (.return_, 1) := by decide +kernel
theorem d_Md_judge_119 : decode prog_9_method_40_code 119 = .ok (.iload_n 1, 1) := by decide +kernel
theorem d_Md_judge_120 : decode prog_9_method_40_code 120 = .ok (.iconst 1, 1) := by decide +kernel
theorem d_Md_judge_121 : decode prog_9_method_40_code 121 = .ok (.isub, 1) := by decide +kernel
theorem d_Md_judge_122 : decode prog_9_method_40_code 122 = .ok (.istore 4, 2) := by decide +kernel
theorem d_Md_judge_124 : decode prog_9_method_40_code 124 = .ok (.iload 4, 2) := by decide +kernel
theorem d_Md_judge_126 : decode prog_9_method_40_code 126 = .ok (.ifCond .lt 79, 3) := by decide +kernel
theorem d_Md_judge_129 : decode prog_9_method_40_code 129 = .ok (.aload_n 0, 1) := by decide +kernel
theorem d_Md_judge_130 : decode prog_9_method_40_code 130 = .ok (.getfield 38, 3) := by decide +kernel
theorem d_Md_judge_133 : decode prog_9_method_40_code 133 = .ok (.iload_n 2, 1) := by decide +kernel
theorem d_Md_judge_134 : decode prog_9_method_40_code 134 = .ok (.iaload, 1) := by decide +kernel
theorem d_Md_judge_135 : decode prog_9_method_40_code 135 = .ok (.bipush 11, 2) := by decide +kernel
theorem d_Md_judge_137 : decode prog_9_method_40_code 137 = .ok (.if_icmp .ge 68, 3) := by decide +kernel
theorem d_Md_judge_140 : decode prog_9_method_40_code 140 = .ok (.aload_n 0, 1) := by decide +kernel
theorem d_Md_judge_141 : decode prog_9_method_40_code 141 = .ok (.getfield 56, 3) := by decide +kernel
theorem d_Md_judge_144 : decode prog_9_method_40_code 144 = .ok (.iload_n 2, 1) := by decide +kernel
theorem d_Md_judge_145 : decode prog_9_method_40_code 145 = .ok (.aload_n 0, 1) := by decide +kernel
theorem d_Md_judge_146 : decode prog_9_method_40_code 146 = .ok (.getfield 56, 3) := by decide +kernel
theorem d_Md_judge_149 : decode prog_9_method_40_code 149 = .ok (.aload_n 0, 1) := by decide +kernel
theorem d_Md_judge_150 : decode prog_9_method_40_code 150 = .ok (.getfield 50, 3) := by decide +kernel
theorem d_Md_judge_153 : decode prog_9_method_40_code 153 = .ok (.iload 4, 2) := by decide +kernel
theorem d_Md_judge_155 : decode prog_9_method_40_code 155 = .ok (.iaload, 1) := by decide +kernel
theorem d_Md_judge_156 : decode prog_9_method_40_code 156 = .ok (.iaload, 1) := by decide +kernel
theorem d_Md_judge_157 : decode prog_9_method_40_code 157 = .ok (.aload_n 0, 1) := by decide +kernel
theorem d_Md_judge_158 : decode prog_9_method_40_code 158 = .ok (.getfield 50, 3) := by decide +kernel
theorem d_Md_judge_161 : decode prog_9_method_40_code 161 = .ok (.iload 4, 2) := by decide +kernel
theorem d_Md_judge_163 : decode prog_9_method_40_code 163 = .ok (.iaload, 1) := by decide +kernel
theorem d_Md_judge_164 : decode prog_9_method_40_code 164 = .ok (.if_icmp .ne 28, 3) := by decide +kernel
theorem d_Md_judge_167 : decode prog_9_method_40_code 167 = .ok (.aload_n 0, 1) := by decide +kernel
theorem d_Md_judge_168 : decode prog_9_method_40_code 168 = .ok (.aload_n 0, 1) := by decide +kernel
theorem d_Md_judge_169 : decode prog_9_method_40_code 169 = .ok (.getfield 50, 3) := by decide +kernel
theorem d_Md_judge_172 : decode prog_9_method_40_code 172 = .ok (.iload 4, 2) := by decide +kernel
theorem d_Md_judge_174 : decode prog_9_method_40_code 174 = .ok (.iaload, 1) := by decide +kernel
theorem d_Md_judge_175 : decode prog_9_method_40_code 175 = .ok (.iload_n 2, 1) := by decide +kernel
theorem d_Md_judge_176 : decode prog_9_method_40_code 176 = .ok (.invokevirtual 272, 3) := by decide +kernel
theorem d_Md_judge_179 : decode prog_9_method_40_code 179 = .ok (.ifCond .eq 13, 3) := by decide +kernel
theorem d_Md_judge_182 : decode prog_9_method_40_code 182 = .ok (.aload_n 0, 1) := by decide +kernel
theorem d_Md_judge_183 : decode prog_9_method_40_code 183 = .ok (.getfield 50, 3) := by decide +kernel
theorem d_Md_judge_186 : decode prog_9_method_40_code 186 = .ok (.iload 4, 2) := by decide +kernel
theorem d_Md_judge_188 : decode prog_9_method_40_code 188 = .ok (.iaload, 1) := by decide +kernel
theorem d_Md_judge_189 : decode prog_9_method_40_code 189 = .ok (.goto 9, 3) := by decide +kernel
theorem d_Md_judge_192 : decode prog_9_method_40_code 192 = .ok (.aload_n 0, 1) := by decide +kernel
theorem d_Md_judge_193 : decode prog_9_method_40_code 193 = .ok (.getfield 56, 3) := by decide +kernel
theorem d_Md_judge_196 : decode prog_9_method_40_code 196 = .ok (.iload_n 2, 1) := by decide +kernel
theorem d_Md_judge_197 : decode prog_9_method_40_code 197 = .ok (.iaload, 1) := by decide +kernel
theorem d_Md_judge_198 : decode prog_9_method_40_code 198 = .ok (.iastore, 1) := by decide +kernel
theorem d_Md_judge_199 : decode prog_9_method_40_code 199 = .ok (.iinc 4 (-1), 3) := by decide +kernel
theorem d_Md_judge_202 : decode prog_9_method_40_code 202 = .ok (.goto (-78), 3) := by decide +kernel
theorem d_Md_judge_205 : decode prog_9_method_40_code 205 = .ok (.return_, 1) := by decide +kernel
def f_Md_judge_198 (k_124 : pv_S → Int32 → Int32 → Option pv_S) (σ : pv_S) (x2 : Int32) (x4 : Int32) (s0 : Int32) (s1 : Int32) : Option pv_S :=
  (if pv_in s1 24 = true then
k_124 (pv_uI σ 15 (s1).toNatClampNeg s0) x2 (x4 + (-1 : Int32))
  else none)
set_option maxHeartbeats 4000000 in
set_option maxRecDepth 100000 in
theorem s_Md_judge_198 {p : Program} {l : Launch} {e : Env} {R : Room} {s : State} {m : MethodId} {args : Array Value} {below : List Frame} {meth : Method} {c : Code} {Q : State → Prop} {D : va_G} {q : Nat → ClassId} {a : Nat → Nat} {A : Nat → Prop} (C : pv_C p s m args c prog_9_method_40_code 5 "PatchVoicesModel" pv_TB D pv_cl (pv_ty q) 36 a A (pv_ZM)) (hmv : pv_mv A (pv_ZM)) (hRf : 3 ≤ R.frames) (hRl : 67 ≤ R.locals) {out : pv_S} (hret : pv_Rv p l e R s m args below meth c prog_9_method_40_code D pv_cl 36 a (pv_FM q a) A Q out) {k_124 : pv_S → Int32 → Int32 → Option pv_S} (hk_124 : ∀ (σ : pv_S) (x2 : Int32) (x4 : Int32) (H : Heap) (locs : List Loc) (ls : Array Slot), k_124 σ x2 x4 = some out → lv_has ls 5 [(0, .ref (a 0)), (2, .int x2), (4, .int x4)] → pv_W D pv_cl 36 a (pv_FM q a) σ H → va_S A s.heap H locs → W p l e R s m args below meth c H locs 0 0 Q (F0 m 124 ls [])) {σ : pv_S} {x2 : Int32} {x4 : Int32} {s0 : Int32} {s1 : Int32} {H : Heap} {locs : List Loc} {ls : Array Slot} (hl : lv_has ls 5 [(0, .ref (a 0)), (2, .int x2), (4, .int x4)]) (hP : pv_W D pv_cl 36 a (pv_FM q a) σ H) (hS : va_S A s.heap H locs) (hf : f_Md_judge_198 k_124 σ x2 x4 s0 s1 = some out) : W p l e R s m args below meth c H locs 0 0 Q (F0 m 198 ls [.int s0, .int s1, .ref (a 15)]) := by
  unfold f_Md_judge_198 at hf
  have hx := C.1
  have hb := C.2.1
  obtain ⟨hg, hf⟩ := pv_g hf
  refine pv_iast C hP hS (t0 := 0) (x := s0) (by decide) (fun f g => (fm_15 _ _ f g)) rfl hg d_Md_judge_198 (fun H locs hP hS => ?_)
  refine lv_iinc (k := 2) (v := (x4 + (-1 : Int32))) (lv' := [(4, .int (x4 + (-1 : Int32))), (0, .ref (a 0)), (2, .int x2)]) hx hb d_Md_judge_199 hl rfl (pv_inc (by decide)) (by decide) rfl (fun ls hl => ?_)
  refine lv_goto (tgt := 124) hx hb d_Md_judge_202 (by decide) ?_
  exact hk_124 _ _ _ _ _ _ hf (lv_sub hl [1, 2, 0] rfl) hP hS
def f_Md_judge_192 (k_124 : pv_S → Int32 → Int32 → Option pv_S) (σ : pv_S) (x2 : Int32) (x4 : Int32) (s0 : Int32) : Option pv_S :=
  (if pv_in x2 24 = true then
f_Md_judge_198 k_124 σ x2 x4 (σ.1 15 (x2).toNatClampNeg) s0
  else none)
set_option maxHeartbeats 4000000 in
set_option maxRecDepth 100000 in
theorem s_Md_judge_192 {p : Program} {l : Launch} {e : Env} {R : Room} {s : State} {m : MethodId} {args : Array Value} {below : List Frame} {meth : Method} {c : Code} {Q : State → Prop} {D : va_G} {q : Nat → ClassId} {a : Nat → Nat} {A : Nat → Prop} (C : pv_C p s m args c prog_9_method_40_code 5 "PatchVoicesModel" pv_TB D pv_cl (pv_ty q) 36 a A (pv_ZM)) (hmv : pv_mv A (pv_ZM)) (hRf : 3 ≤ R.frames) (hRl : 67 ≤ R.locals) {out : pv_S} (hret : pv_Rv p l e R s m args below meth c prog_9_method_40_code D pv_cl 36 a (pv_FM q a) A Q out) {k_124 : pv_S → Int32 → Int32 → Option pv_S} (hk_124 : ∀ (σ : pv_S) (x2 : Int32) (x4 : Int32) (H : Heap) (locs : List Loc) (ls : Array Slot), k_124 σ x2 x4 = some out → lv_has ls 5 [(0, .ref (a 0)), (2, .int x2), (4, .int x4)] → pv_W D pv_cl 36 a (pv_FM q a) σ H → va_S A s.heap H locs → W p l e R s m args below meth c H locs 0 0 Q (F0 m 124 ls [])) {σ : pv_S} {x2 : Int32} {x4 : Int32} {s0 : Int32} {H : Heap} {locs : List Loc} {ls : Array Slot} (hl : lv_has ls 5 [(0, .ref (a 0)), (2, .int x2), (4, .int x4)]) (hP : pv_W D pv_cl 36 a (pv_FM q a) σ H) (hS : va_S A s.heap H locs) (hf : f_Md_judge_192 k_124 σ x2 x4 s0 = some out) : W p l e R s m args below meth c H locs 0 0 Q (F0 m 192 ls [.int s0, .ref (a 15)]) := by
  unfold f_Md_judge_192 at hf
  have hx := C.1
  have hb := C.2.1
  refine lv_aload_n hx hb d_Md_judge_192 rfl (lv_at hl 0 rfl) ?_
  refine pv_get C hP (v := .ref (a 15)) (j := 25) (by decide) (fm_0 _ _ _ _) fl_Md_56 rfl d_Md_judge_193 ?_
  refine lv_iload_n hx hb d_Md_judge_196 rfl (lv_at hl 1 rfl) ?_
  obtain ⟨hg, hf⟩ := pv_g hf
  refine pv_iald C hP (t0 := 0) (by decide) (fm_15 _ _ _ _) rfl hg d_Md_judge_197 ?_
  exact s_Md_judge_198 C hmv hRf hRl hret hk_124 (lv_sub hl [0, 1, 2] rfl) hP hS hf
def f_Md_judge_124b (k_124 : pv_S → Int32 → Int32 → Option pv_S) (σ : pv_S) (x2 : Int32) (x4 : Int32) : Option pv_S :=
  (if x4 < 0 then
  some σ
  else
  (if pv_in x2 24 = true then
(if (11 : Int32) ≤ (σ.1 9 (x2).toNatClampNeg) then
  some σ
  else
  (if pv_in x4 24 = true then
(if pv_in (σ.1 13 (x4).toNatClampNeg) 24 = true then
(if pv_in x4 24 = true then
(if (σ.1 15 ((σ.1 13 (x4).toNatClampNeg)).toNatClampNeg) = (σ.1 13 (x4).toNatClampNeg) then
  (if pv_in x4 24 = true then
((f_Md_isSame σ (σ.1 13 (x4).toNatClampNeg) x2).bind fun q6 =>
(if q6.1 = 0 then
  f_Md_judge_192 k_124 q6.2 x2 x4 x2
  else
  (if pv_in x4 24 = true then
f_Md_judge_198 k_124 q6.2 x2 x4 (q6.2.1 13 (x4).toNatClampNeg) x2
  else none)))
  else none)
  else
  f_Md_judge_192 k_124 σ x2 x4 x2)
  else none)
  else none)
  else none))
  else none))
set_option maxHeartbeats 4000000 in
set_option maxRecDepth 100000 in
theorem s_Md_judge_124b {p : Program} {l : Launch} {e : Env} {R : Room} {s : State} {m : MethodId} {args : Array Value} {below : List Frame} {meth : Method} {c : Code} {Q : State → Prop} {D : va_G} {q : Nat → ClassId} {a : Nat → Nat} {A : Nat → Prop} (C : pv_C p s m args c prog_9_method_40_code 5 "PatchVoicesModel" pv_TB D pv_cl (pv_ty q) 36 a A (pv_ZM)) (hmv : pv_mv A (pv_ZM)) (hRf : 3 ≤ R.frames) (hRl : 67 ≤ R.locals) {out : pv_S} (hret : pv_Rv p l e R s m args below meth c prog_9_method_40_code D pv_cl 36 a (pv_FM q a) A Q out) {k_124 : pv_S → Int32 → Int32 → Option pv_S} (hk_124 : ∀ (σ : pv_S) (x2 : Int32) (x4 : Int32) (H : Heap) (locs : List Loc) (ls : Array Slot), k_124 σ x2 x4 = some out → lv_has ls 5 [(0, .ref (a 0)), (2, .int x2), (4, .int x4)] → pv_W D pv_cl 36 a (pv_FM q a) σ H → va_S A s.heap H locs → W p l e R s m args below meth c H locs 0 0 Q (F0 m 124 ls [])) {σ : pv_S} {x2 : Int32} {x4 : Int32} {H : Heap} {locs : List Loc} {ls : Array Slot} (hl : lv_has ls 5 [(0, .ref (a 0)), (2, .int x2), (4, .int x4)]) (hP : pv_W D pv_cl 36 a (pv_FM q a) σ H) (hS : va_S A s.heap H locs) (hf : f_Md_judge_124b k_124 σ x2 x4 = some out) : W p l e R s m args below meth c H locs 0 0 Q (F0 m 124 ls []) := by
  unfold f_Md_judge_124b at hf
  have hx := C.1
  have hb := C.2.1
  refine lv_iload hx hb d_Md_judge_124 (lv_at hl 2 rfl) ?_
  refine lv_if_lt (tgt := 205) hx hb d_Md_judge_126 (by decide) (fun h => ?_) (fun h => ?_)
  · have hf := pv_t hf h
    obtain rfl := Option.some.inj hf
    exact hret _ _ _ _ d_Md_judge_205 hP hS
  · have hf := pv_f hf h
    refine lv_aload_n hx hb d_Md_judge_129 rfl (lv_at hl 0 rfl) ?_
    refine pv_get C hP (v := .ref (a 9)) (j := 19) (by decide) (fm_0 _ _ _ _) fl_Md_38 rfl d_Md_judge_130 ?_
    refine lv_iload_n hx hb d_Md_judge_133 rfl (lv_at hl 1 rfl) ?_
    obtain ⟨hg, hf⟩ := pv_g hf
    refine pv_iald C hP (t0 := 0) (by decide) (fm_9 _ _ _ _) rfl hg d_Md_judge_134 ?_
    refine lv_bipush (v := (11 : Int32)) hx hb d_Md_judge_135 (by decide) ?_
    refine lv_icmp_ge (tgt := 205) hx hb d_Md_judge_137 (by decide) (fun h => ?_) (fun h => ?_)
    · have hf := pv_t hf h
      obtain rfl := Option.some.inj hf
      exact hret _ _ _ _ d_Md_judge_205 hP hS
    · have hf := pv_f hf h
      refine lv_aload_n hx hb d_Md_judge_140 rfl (lv_at hl 0 rfl) ?_
      refine pv_get C hP (v := .ref (a 15)) (j := 25) (by decide) (fm_0 _ _ _ _) fl_Md_56 rfl d_Md_judge_141 ?_
      refine lv_iload_n hx hb d_Md_judge_144 rfl (lv_at hl 1 rfl) ?_
      refine lv_aload_n hx hb d_Md_judge_145 rfl (lv_at hl 0 rfl) ?_
      refine pv_get C hP (v := .ref (a 15)) (j := 25) (by decide) (fm_0 _ _ _ _) fl_Md_56 rfl d_Md_judge_146 ?_
      refine lv_aload_n hx hb d_Md_judge_149 rfl (lv_at hl 0 rfl) ?_
      refine pv_get C hP (v := .ref (a 13)) (j := 23) (by decide) (fm_0 _ _ _ _) fl_Md_50 rfl d_Md_judge_150 ?_
      refine lv_iload hx hb d_Md_judge_153 (lv_at hl 2 rfl) ?_
      obtain ⟨hg, hf⟩ := pv_g hf
      refine pv_iald C hP (t0 := 0) (by decide) (fm_13 _ _ _ _) rfl hg d_Md_judge_155 ?_
      obtain ⟨hg, hf⟩ := pv_g hf
      refine pv_iald C hP (t0 := 0) (by decide) (fm_15 _ _ _ _) rfl hg d_Md_judge_156 ?_
      refine lv_aload_n hx hb d_Md_judge_157 rfl (lv_at hl 0 rfl) ?_
      refine pv_get C hP (v := .ref (a 13)) (j := 23) (by decide) (fm_0 _ _ _ _) fl_Md_50 rfl d_Md_judge_158 ?_
      refine lv_iload hx hb d_Md_judge_161 (lv_at hl 2 rfl) ?_
      obtain ⟨hg, hf⟩ := pv_g hf
      refine pv_iald C hP (t0 := 0) (by decide) (fm_13 _ _ _ _) rfl hg d_Md_judge_163 ?_
      refine lv_icmp_ne (tgt := 192) hx hb d_Md_judge_164 (by decide) (fun h => ?_) (fun h => ?_)
      · have hf := pv_f hf h
        exact s_Md_judge_192 C hmv hRf hRl hret hk_124 (lv_sub hl [0, 1, 2] rfl) hP hS hf
      · have hf := pv_t hf h
        refine lv_aload_n hx hb d_Md_judge_167 rfl (lv_at hl 0 rfl) ?_
        refine lv_aload_n hx hb d_Md_judge_168 rfl (lv_at hl 0 rfl) ?_
        refine pv_get C hP (v := .ref (a 13)) (j := 23) (by decide) (fm_0 _ _ _ _) fl_Md_50 rfl d_Md_judge_169 ?_
        refine lv_iload hx hb d_Md_judge_172 (lv_at hl 2 rfl) ?_
        obtain ⟨hg, hf⟩ := pv_g hf
        refine pv_iald C hP (t0 := 0) (by decide) (fm_13 _ _ _ _) rfl hg d_Md_judge_174 ?_
        refine lv_iload_n hx hb d_Md_judge_175 rfl (lv_at hl 1 rfl) ?_
        obtain ⟨q6, hc, hf⟩ := pv_b hf
        refine pv_callVi C hmv pv_good hP hS (As := [.int (σ.1 13 (x4).toNatClampNeg), .int x2]) (rest := [.int x2, .ref (a 15)]) (by decide) (fm_0 _ _ _ _) rfl (c_Md_isSame C.2.2.2.2.2.2.1 hmv hc) cv_Md_272 ⟨rfl, rfl, Nat.le_trans (Nat.le_of_ble_eq_true rfl) hRf, Nat.le_trans (Nat.le_of_ble_eq_true rfl) hRl⟩ rfl hl.1 rfl (Nat.le_of_ble_eq_true rfl) d_Md_judge_176 ⟨Nat.zero_le _, Nat.zero_le _⟩ (fun H locs hP hS => ?_)
        refine lv_if_eq (tgt := 192) hx hb d_Md_judge_179 (by decide) (fun h => ?_) (fun h => ?_)
        · have hf := pv_t hf h
          exact s_Md_judge_192 C hmv hRf hRl hret hk_124 (lv_sub hl [0, 1, 2] rfl) hP hS hf
        · have hf := pv_f hf h
          refine lv_aload_n hx hb d_Md_judge_182 rfl (lv_at hl 0 rfl) ?_
          refine pv_get C hP (v := .ref (a 13)) (j := 23) (by decide) (fm_0 _ _ _ _) fl_Md_50 rfl d_Md_judge_183 ?_
          refine lv_iload hx hb d_Md_judge_186 (lv_at hl 2 rfl) ?_
          obtain ⟨hg, hf⟩ := pv_g hf
          refine pv_iald C hP (t0 := 0) (by decide) (fm_13 _ _ _ _) rfl hg d_Md_judge_188 ?_
          refine lv_goto (tgt := 198) hx hb d_Md_judge_189 (by decide) ?_
          exact s_Md_judge_198 C hmv hRf hRl hret hk_124 (lv_sub hl [0, 1, 2] rfl) hP hS hf
def f_Md_judge_124 : Nat → pv_S → Int32 → Int32 → Option pv_S
  | 0 => fun _ _ _ => none
  | n + 1 => f_Md_judge_124b (f_Md_judge_124 n)
set_option maxHeartbeats 4000000 in
theorem s_Md_judge_124 {p : Program} {l : Launch} {e : Env} {R : Room} {s : State} {m : MethodId} {args : Array Value} {below : List Frame} {meth : Method} {c : Code} {Q : State → Prop} {D : va_G} {q : Nat → ClassId} {a : Nat → Nat} {A : Nat → Prop} (C : pv_C p s m args c prog_9_method_40_code 5 "PatchVoicesModel" pv_TB D pv_cl (pv_ty q) 36 a A (pv_ZM)) (hmv : pv_mv A (pv_ZM)) (hRf : 3 ≤ R.frames) (hRl : 67 ≤ R.locals) {out : pv_S} (hret : pv_Rv p l e R s m args below meth c prog_9_method_40_code D pv_cl 36 a (pv_FM q a) A Q out) (n : Nat) : ∀ {σ : pv_S} {x2 : Int32} {x4 : Int32} {H : Heap} {locs : List Loc} {ls : Array Slot}, lv_has ls 5 [(0, .ref (a 0)), (2, .int x2), (4, .int x4)] → pv_W D pv_cl 36 a (pv_FM q a) σ H → va_S A s.heap H locs → f_Md_judge_124 n σ x2 x4 = some out → W p l e R s m args below meth c H locs 0 0 Q (F0 m 124 ls []) := by
  induction n with
  | zero => intro σ x2 x4 H locs ls hl hP hS hf; cases hf
  | succ n ih => intro σ x2 x4 H locs ls hl hP hS hf; exact s_Md_judge_124b C hmv hRf hRl hret (fun σ x2 x4 H locs ls hf hl hP hS => ih hl hP hS hf) hl hP hS hf
def f_Md_judge_60 (k_27 : pv_S → Int32 → Int32 → Int32 → Int32 → Option pv_S) (σ : pv_S) (x1 : Int32) (x2 : Int32) (x4 : Int32) (s0 : Int32) : Option pv_S :=
  k_27 σ x1 x2 s0 (x4 + (1 : Int32))
set_option maxHeartbeats 4000000 in
set_option maxRecDepth 100000 in
theorem s_Md_judge_60 {p : Program} {l : Launch} {e : Env} {R : Room} {s : State} {m : MethodId} {args : Array Value} {below : List Frame} {meth : Method} {c : Code} {Q : State → Prop} {D : va_G} {q : Nat → ClassId} {a : Nat → Nat} {A : Nat → Prop} (C : pv_C p s m args c prog_9_method_40_code 5 "PatchVoicesModel" pv_TB D pv_cl (pv_ty q) 36 a A (pv_ZM)) (hmv : pv_mv A (pv_ZM)) (hRf : 3 ≤ R.frames) (hRl : 67 ≤ R.locals) {out : pv_S} (hret : pv_Rv p l e R s m args below meth c prog_9_method_40_code D pv_cl 36 a (pv_FM q a) A Q out) {k_27 : pv_S → Int32 → Int32 → Int32 → Int32 → Option pv_S} (hk_27 : ∀ (σ : pv_S) (x1 : Int32) (x2 : Int32) (x3 : Int32) (x4 : Int32) (H : Heap) (locs : List Loc) (ls : Array Slot), k_27 σ x1 x2 x3 x4 = some out → lv_has ls 5 [(0, .ref (a 0)), (1, .int x1), (2, .int x2), (3, .int x3), (4, .int x4)] → pv_W D pv_cl 36 a (pv_FM q a) σ H → va_S A s.heap H locs → W p l e R s m args below meth c H locs 0 0 Q (F0 m 27 ls [])) {σ : pv_S} {x1 : Int32} {x2 : Int32} {x4 : Int32} {s0 : Int32} {H : Heap} {locs : List Loc} {ls : Array Slot} (hl : lv_has ls 5 [(0, .ref (a 0)), (1, .int x1), (2, .int x2), (4, .int x4)]) (hP : pv_W D pv_cl 36 a (pv_FM q a) σ H) (hS : va_S A s.heap H locs) (hf : f_Md_judge_60 k_27 σ x1 x2 x4 s0 = some out) : W p l e R s m args below meth c H locs 0 0 Q (F0 m 60 ls [.int s0]) := by
  unfold f_Md_judge_60 at hf
  have hx := C.1
  have hb := C.2.1
  refine lv_istore_n (lv' := [(3, .int s0), (0, .ref (a 0)), (1, .int x1), (2, .int x2), (4, .int x4)]) hx hb d_Md_judge_60 rfl hl (by decide) rfl (fun ls hl => ?_)
  refine lv_iinc (k := 4) (v := (x4 + (1 : Int32))) (lv' := [(4, .int (x4 + (1 : Int32))), (3, .int s0), (0, .ref (a 0)), (1, .int x1), (2, .int x2)]) hx hb d_Md_judge_61 hl rfl (pv_inc (by decide)) (by decide) rfl (fun ls hl => ?_)
  refine lv_goto (tgt := 27) hx hb d_Md_judge_64 (by decide) ?_
  exact hk_27 _ _ _ _ _ _ _ _ hf (lv_sub hl [2, 3, 4, 1, 0] rfl) hP hS
def f_Md_judge_59 (k_27 : pv_S → Int32 → Int32 → Int32 → Int32 → Option pv_S) (σ : pv_S) (x1 : Int32) (x2 : Int32) (x4 : Int32) : Option pv_S :=
  f_Md_judge_60 k_27 σ x1 x2 x4 (0 : Int32)
set_option maxHeartbeats 4000000 in
set_option maxRecDepth 100000 in
theorem s_Md_judge_59 {p : Program} {l : Launch} {e : Env} {R : Room} {s : State} {m : MethodId} {args : Array Value} {below : List Frame} {meth : Method} {c : Code} {Q : State → Prop} {D : va_G} {q : Nat → ClassId} {a : Nat → Nat} {A : Nat → Prop} (C : pv_C p s m args c prog_9_method_40_code 5 "PatchVoicesModel" pv_TB D pv_cl (pv_ty q) 36 a A (pv_ZM)) (hmv : pv_mv A (pv_ZM)) (hRf : 3 ≤ R.frames) (hRl : 67 ≤ R.locals) {out : pv_S} (hret : pv_Rv p l e R s m args below meth c prog_9_method_40_code D pv_cl 36 a (pv_FM q a) A Q out) {k_27 : pv_S → Int32 → Int32 → Int32 → Int32 → Option pv_S} (hk_27 : ∀ (σ : pv_S) (x1 : Int32) (x2 : Int32) (x3 : Int32) (x4 : Int32) (H : Heap) (locs : List Loc) (ls : Array Slot), k_27 σ x1 x2 x3 x4 = some out → lv_has ls 5 [(0, .ref (a 0)), (1, .int x1), (2, .int x2), (3, .int x3), (4, .int x4)] → pv_W D pv_cl 36 a (pv_FM q a) σ H → va_S A s.heap H locs → W p l e R s m args below meth c H locs 0 0 Q (F0 m 27 ls [])) {σ : pv_S} {x1 : Int32} {x2 : Int32} {x4 : Int32} {H : Heap} {locs : List Loc} {ls : Array Slot} (hl : lv_has ls 5 [(0, .ref (a 0)), (1, .int x1), (2, .int x2), (4, .int x4)]) (hP : pv_W D pv_cl 36 a (pv_FM q a) σ H) (hS : va_S A s.heap H locs) (hf : f_Md_judge_59 k_27 σ x1 x2 x4 = some out) : W p l e R s m args below meth c H locs 0 0 Q (F0 m 59 ls []) := by
  unfold f_Md_judge_59 at hf
  have hx := C.1
  have hb := C.2.1
  refine lv_iconst (v := (0 : Int32)) hx hb d_Md_judge_59 (by decide) ?_
  exact s_Md_judge_60 C hmv hRf hRl hret hk_27 (lv_sub hl [0, 1, 2, 3] rfl) hP hS hf
def f_Md_judge_27b (k_27 : pv_S → Int32 → Int32 → Int32 → Int32 → Option pv_S) (σ : pv_S) (x1 : Int32) (x2 : Int32) (x3 : Int32) (x4 : Int32) : Option pv_S :=
  (if pv_in x2 24 = true then
(if (σ.1 10 (x2).toNatClampNeg) ≤ x4 then
  (if x3 = 0 then
  f_Md_judge_124 pv_fu σ x2 (x1 - (1 : Int32))
  else
  (if pv_in x2 24 = true then
(if pv_in x2 24 = true then
((f_Md_amount (pv_uI σ 15 (x2).toNatClampNeg (-1 : Int32)) ((4 : Int32) * x2)).bind fun q1 =>
((f_Md_amount q1.2 (((4 : Int32) * x2) + (1 : Int32))).bind fun q2 =>
((f_Md_amount q2.2 (((4 : Int32) * x2) + (2 : Int32))).bind fun q3 =>
((f_Md_plain q3.2 ((pv_uI σ 15 (x2).toNatClampNeg (-1 : Int32)).1 9 (x2).toNatClampNeg) q1.1 q2.1 q3.1).bind fun q4 =>
(if pv_in x2 24 = true then
some (pv_uI q4.2 16 (x2).toNatClampNeg q4.1)
  else none)))))
  else none)
  else none))
  else
  (if x3 = 0 then
  f_Md_judge_59 k_27 σ x1 x2 x4
  else
  ((f_Md_source σ (((4 : Int32) * x2) + x4)).bind fun q5 =>
(if 0 ≤ q5.1 then
  f_Md_judge_59 k_27 q5.2 x1 x2 x4
  else
  f_Md_judge_60 k_27 q5.2 x1 x2 x4 (1 : Int32)))))
  else none)
set_option maxHeartbeats 4000000 in
set_option maxRecDepth 100000 in
theorem s_Md_judge_27b {p : Program} {l : Launch} {e : Env} {R : Room} {s : State} {m : MethodId} {args : Array Value} {below : List Frame} {meth : Method} {c : Code} {Q : State → Prop} {D : va_G} {q : Nat → ClassId} {a : Nat → Nat} {A : Nat → Prop} (C : pv_C p s m args c prog_9_method_40_code 5 "PatchVoicesModel" pv_TB D pv_cl (pv_ty q) 36 a A (pv_ZM)) (hmv : pv_mv A (pv_ZM)) (hRf : 3 ≤ R.frames) (hRl : 67 ≤ R.locals) {out : pv_S} (hret : pv_Rv p l e R s m args below meth c prog_9_method_40_code D pv_cl 36 a (pv_FM q a) A Q out) {k_27 : pv_S → Int32 → Int32 → Int32 → Int32 → Option pv_S} (hk_27 : ∀ (σ : pv_S) (x1 : Int32) (x2 : Int32) (x3 : Int32) (x4 : Int32) (H : Heap) (locs : List Loc) (ls : Array Slot), k_27 σ x1 x2 x3 x4 = some out → lv_has ls 5 [(0, .ref (a 0)), (1, .int x1), (2, .int x2), (3, .int x3), (4, .int x4)] → pv_W D pv_cl 36 a (pv_FM q a) σ H → va_S A s.heap H locs → W p l e R s m args below meth c H locs 0 0 Q (F0 m 27 ls [])) {σ : pv_S} {x1 : Int32} {x2 : Int32} {x3 : Int32} {x4 : Int32} {H : Heap} {locs : List Loc} {ls : Array Slot} (hl : lv_has ls 5 [(0, .ref (a 0)), (1, .int x1), (2, .int x2), (3, .int x3), (4, .int x4)]) (hP : pv_W D pv_cl 36 a (pv_FM q a) σ H) (hS : va_S A s.heap H locs) (hf : f_Md_judge_27b k_27 σ x1 x2 x3 x4 = some out) : W p l e R s m args below meth c H locs 0 0 Q (F0 m 27 ls []) := by
  unfold f_Md_judge_27b at hf
  have hx := C.1
  have hb := C.2.1
  refine lv_iload hx hb d_Md_judge_27 (lv_at hl 4 rfl) ?_
  refine lv_aload_n hx hb d_Md_judge_29 rfl (lv_at hl 0 rfl) ?_
  refine pv_get C hP (v := .ref (a 10)) (j := 20) (by decide) (fm_0 _ _ _ _) fl_Md_41 rfl d_Md_judge_30 ?_
  refine lv_iload_n hx hb d_Md_judge_33 rfl (lv_at hl 2 rfl) ?_
  obtain ⟨hg, hf⟩ := pv_g hf
  refine pv_iald C hP (t0 := 0) (by decide) (fm_10 _ _ _ _) rfl hg d_Md_judge_34 ?_
  refine lv_icmp_ge (tgt := 67) hx hb d_Md_judge_35 (by decide) (fun h => ?_) (fun h => ?_)
  · have hf := pv_t hf h
    refine lv_iload_n hx hb d_Md_judge_67 rfl (lv_at hl 3 rfl) ?_
    refine lv_if_eq (tgt := 119) hx hb d_Md_judge_68 (by decide) (fun h => ?_) (fun h => ?_)
    · have hf := pv_t hf h
      refine lv_iload_n hx hb d_Md_judge_119 rfl (lv_at hl 1 rfl) ?_
      refine lv_iconst (v := (1 : Int32)) hx hb d_Md_judge_120 (by decide) ?_
      refine lv_isub hx hb d_Md_judge_121 ?_
      refine lv_istore (lv' := [(4, .int (x1 - (1 : Int32))), (0, .ref (a 0)), (1, .int x1), (2, .int x2), (3, .int x3)]) hx hb d_Md_judge_122 hl (by decide) rfl (fun ls hl => ?_)
      exact s_Md_judge_124 C hmv hRf hRl hret pv_fu (lv_sub hl [1, 3, 0] rfl) hP hS hf
    · have hf := pv_f hf h
      refine lv_aload_n hx hb d_Md_judge_71 rfl (lv_at hl 0 rfl) ?_
      refine pv_get C hP (v := .ref (a 15)) (j := 25) (by decide) (fm_0 _ _ _ _) fl_Md_56 rfl d_Md_judge_72 ?_
      refine lv_iload_n hx hb d_Md_judge_75 rfl (lv_at hl 2 rfl) ?_
      refine lv_iconst (v := (-1 : Int32)) hx hb d_Md_judge_76 (by decide) ?_
      obtain ⟨hg, hf⟩ := pv_g hf
      refine pv_iast C hP hS (t0 := 0) (x := (-1 : Int32)) (by decide) (fun f g => (fm_15 _ _ f g)) rfl hg d_Md_judge_77 (fun H locs hP hS => ?_)
      refine lv_aload_n hx hb d_Md_judge_78 rfl (lv_at hl 0 rfl) ?_
      refine pv_get C hP (v := .ref (a 16)) (j := 26) (by decide) (fm_0 _ _ _ _) fl_Md_59 rfl d_Md_judge_79 ?_
      refine lv_iload_n hx hb d_Md_judge_82 rfl (lv_at hl 2 rfl) ?_
      refine lv_aload_n hx hb d_Md_judge_83 rfl (lv_at hl 0 rfl) ?_
      refine pv_get C hP (v := .ref (a 9)) (j := 19) (by decide) (fm_0 _ _ _ _) fl_Md_38 rfl d_Md_judge_84 ?_
      refine lv_iload_n hx hb d_Md_judge_87 rfl (lv_at hl 2 rfl) ?_
      obtain ⟨hg, hf⟩ := pv_g hf
      refine pv_iald C hP (t0 := 0) (by decide) (fm_9 _ _ _ _) rfl hg d_Md_judge_88 ?_
      refine lv_aload_n hx hb d_Md_judge_89 rfl (lv_at hl 0 rfl) ?_
      refine lv_iconst (v := (4 : Int32)) hx hb d_Md_judge_90 (by decide) ?_
      refine lv_iload_n hx hb d_Md_judge_91 rfl (lv_at hl 2 rfl) ?_
      refine lv_imul hx hb d_Md_judge_92 ?_
      obtain ⟨q1, hc, hf⟩ := pv_b hf
      refine pv_callVi C hmv pv_good hP hS (As := [.int ((4 : Int32) * x2)]) (rest := [.int ((pv_uI σ 15 (x2).toNatClampNeg (-1 : Int32)).1 9 (x2).toNatClampNeg), .int x2, .ref (a 16)]) (by decide) (fm_0 _ _ _ _) rfl (c_Md_amount C.2.2.2.2.2.2.1 hmv hc) cv_Md_262 ⟨rfl, rfl, Nat.le_trans (Nat.le_of_ble_eq_true rfl) hRf, Nat.le_trans (Nat.le_of_ble_eq_true rfl) hRl⟩ rfl hl.1 rfl (Nat.le_of_ble_eq_true rfl) d_Md_judge_93 ⟨Nat.zero_le _, Nat.zero_le _⟩ (fun H locs hP hS => ?_)
      refine lv_aload_n hx hb d_Md_judge_96 rfl (lv_at hl 0 rfl) ?_
      refine lv_iconst (v := (4 : Int32)) hx hb d_Md_judge_97 (by decide) ?_
      refine lv_iload_n hx hb d_Md_judge_98 rfl (lv_at hl 2 rfl) ?_
      refine lv_imul hx hb d_Md_judge_99 ?_
      refine lv_iconst (v := (1 : Int32)) hx hb d_Md_judge_100 (by decide) ?_
      refine lv_iadd hx hb d_Md_judge_101 ?_
      obtain ⟨q2, hc, hf⟩ := pv_b hf
      refine pv_callVi C hmv pv_good hP hS (As := [.int (((4 : Int32) * x2) + (1 : Int32))]) (rest := [.int q1.1, .int ((pv_uI σ 15 (x2).toNatClampNeg (-1 : Int32)).1 9 (x2).toNatClampNeg), .int x2, .ref (a 16)]) (by decide) (fm_0 _ _ _ _) rfl (c_Md_amount C.2.2.2.2.2.2.1 hmv hc) cv_Md_262 ⟨rfl, rfl, Nat.le_trans (Nat.le_of_ble_eq_true rfl) hRf, Nat.le_trans (Nat.le_of_ble_eq_true rfl) hRl⟩ rfl hl.1 rfl (Nat.le_of_ble_eq_true rfl) d_Md_judge_102 ⟨Nat.zero_le _, Nat.zero_le _⟩ (fun H locs hP hS => ?_)
      refine lv_aload_n hx hb d_Md_judge_105 rfl (lv_at hl 0 rfl) ?_
      refine lv_iconst (v := (4 : Int32)) hx hb d_Md_judge_106 (by decide) ?_
      refine lv_iload_n hx hb d_Md_judge_107 rfl (lv_at hl 2 rfl) ?_
      refine lv_imul hx hb d_Md_judge_108 ?_
      refine lv_iconst (v := (2 : Int32)) hx hb d_Md_judge_109 (by decide) ?_
      refine lv_iadd hx hb d_Md_judge_110 ?_
      obtain ⟨q3, hc, hf⟩ := pv_b hf
      refine pv_callVi C hmv pv_good hP hS (As := [.int (((4 : Int32) * x2) + (2 : Int32))]) (rest := [.int q2.1, .int q1.1, .int ((pv_uI σ 15 (x2).toNatClampNeg (-1 : Int32)).1 9 (x2).toNatClampNeg), .int x2, .ref (a 16)]) (by decide) (fm_0 _ _ _ _) rfl (c_Md_amount C.2.2.2.2.2.2.1 hmv hc) cv_Md_262 ⟨rfl, rfl, Nat.le_trans (Nat.le_of_ble_eq_true rfl) hRf, Nat.le_trans (Nat.le_of_ble_eq_true rfl) hRl⟩ rfl hl.1 rfl (Nat.le_of_ble_eq_true rfl) d_Md_judge_111 ⟨Nat.zero_le _, Nat.zero_le _⟩ (fun H locs hP hS => ?_)
      obtain ⟨q4, hc, hf⟩ := pv_b hf
      refine pv_callSi C hmv pv_good hP hS (As := [.int ((pv_uI σ 15 (x2).toNatClampNeg (-1 : Int32)).1 9 (x2).toNatClampNeg), .int q1.1, .int q2.1, .int q3.1]) (rest := [.int x2, .ref (a 16)]) (c_Md_plain C.2.2.2.2.2.2.1 hmv hc) cs_Md_268 ⟨rfl, rfl, Nat.le_trans (Nat.le_of_ble_eq_true rfl) hRf, Nat.le_trans (Nat.le_of_ble_eq_true rfl) hRl⟩ rfl hl.1 rfl (Nat.le_of_ble_eq_true rfl) d_Md_judge_114 ⟨Nat.zero_le _, Nat.zero_le _⟩ (fun H locs hP hS => ?_)
      obtain ⟨hg, hf⟩ := pv_g hf
      refine pv_iast C hP hS (t0 := 0) (x := q4.1) (by decide) (fun f g => (fm_16 _ _ f g)) rfl hg d_Md_judge_117 (fun H locs hP hS => ?_)
      obtain rfl := Option.some.inj hf
      exact hret _ _ _ _ d_Md_judge_118 hP hS
  · have hf := pv_f hf h
    refine lv_iload_n hx hb d_Md_judge_38 rfl (lv_at hl 3 rfl) ?_
    refine lv_if_eq (tgt := 59) hx hb d_Md_judge_39 (by decide) (fun h => ?_) (fun h => ?_)
    · have hf := pv_t hf h
      exact s_Md_judge_59 C hmv hRf hRl hret hk_27 (lv_sub hl [0, 1, 2, 4] rfl) hP hS hf
    · have hf := pv_f hf h
      refine lv_aload_n hx hb d_Md_judge_42 rfl (lv_at hl 0 rfl) ?_
      refine lv_iconst (v := (4 : Int32)) hx hb d_Md_judge_43 (by decide) ?_
      refine lv_iload_n hx hb d_Md_judge_44 rfl (lv_at hl 2 rfl) ?_
      refine lv_imul hx hb d_Md_judge_45 ?_
      refine lv_iload hx hb d_Md_judge_46 (lv_at hl 4 rfl) ?_
      refine lv_iadd hx hb d_Md_judge_48 ?_
      obtain ⟨q5, hc, hf⟩ := pv_b hf
      refine pv_callVi C hmv pv_good hP hS (As := [.int (((4 : Int32) * x2) + x4)]) (rest := []) (by decide) (fm_0 _ _ _ _) rfl (c_Md_source C.2.2.2.2.2.2.1 hmv hc) cv_Md_259 ⟨rfl, rfl, Nat.le_trans (Nat.le_of_ble_eq_true rfl) hRf, Nat.le_trans (Nat.le_of_ble_eq_true rfl) hRl⟩ rfl hl.1 rfl (Nat.le_of_ble_eq_true rfl) d_Md_judge_49 ⟨Nat.zero_le _, Nat.zero_le _⟩ (fun H locs hP hS => ?_)
      refine lv_if_ge (tgt := 59) hx hb d_Md_judge_52 (by decide) (fun h => ?_) (fun h => ?_)
      · have hf := pv_t hf h
        exact s_Md_judge_59 C hmv hRf hRl hret hk_27 (lv_sub hl [0, 1, 2, 4] rfl) hP hS hf
      · have hf := pv_f hf h
        refine lv_iconst (v := (1 : Int32)) hx hb d_Md_judge_55 (by decide) ?_
        refine lv_goto (tgt := 60) hx hb d_Md_judge_56 (by decide) ?_
        exact s_Md_judge_60 C hmv hRf hRl hret hk_27 (lv_sub hl [0, 1, 2, 4] rfl) hP hS hf
def f_Md_judge_27 : Nat → pv_S → Int32 → Int32 → Int32 → Int32 → Option pv_S
  | 0 => fun _ _ _ _ _ => none
  | n + 1 => f_Md_judge_27b (f_Md_judge_27 n)
set_option maxHeartbeats 4000000 in
theorem s_Md_judge_27 {p : Program} {l : Launch} {e : Env} {R : Room} {s : State} {m : MethodId} {args : Array Value} {below : List Frame} {meth : Method} {c : Code} {Q : State → Prop} {D : va_G} {q : Nat → ClassId} {a : Nat → Nat} {A : Nat → Prop} (C : pv_C p s m args c prog_9_method_40_code 5 "PatchVoicesModel" pv_TB D pv_cl (pv_ty q) 36 a A (pv_ZM)) (hmv : pv_mv A (pv_ZM)) (hRf : 3 ≤ R.frames) (hRl : 67 ≤ R.locals) {out : pv_S} (hret : pv_Rv p l e R s m args below meth c prog_9_method_40_code D pv_cl 36 a (pv_FM q a) A Q out) (n : Nat) : ∀ {σ : pv_S} {x1 : Int32} {x2 : Int32} {x3 : Int32} {x4 : Int32} {H : Heap} {locs : List Loc} {ls : Array Slot}, lv_has ls 5 [(0, .ref (a 0)), (1, .int x1), (2, .int x2), (3, .int x3), (4, .int x4)] → pv_W D pv_cl 36 a (pv_FM q a) σ H → va_S A s.heap H locs → f_Md_judge_27 n σ x1 x2 x3 x4 = some out → W p l e R s m args below meth c H locs 0 0 Q (F0 m 27 ls []) := by
  induction n with
  | zero => intro σ x1 x2 x3 x4 H locs ls hl hP hS hf; cases hf
  | succ n ih => intro σ x1 x2 x3 x4 H locs ls hl hP hS hf; exact s_Md_judge_27b C hmv hRf hRl hret (fun σ x1 x2 x3 x4 H locs ls hf hl hP hS => ih hl hP hS hf) hl hP hS hf
def f_Md_judge_23 (σ : pv_S) (x1 : Int32) (x2 : Int32) (s0 : Int32) : Option pv_S :=
  f_Md_judge_27 pv_fu σ x1 x2 s0 (0 : Int32)
set_option maxHeartbeats 4000000 in
set_option maxRecDepth 100000 in
theorem s_Md_judge_23 {p : Program} {l : Launch} {e : Env} {R : Room} {s : State} {m : MethodId} {args : Array Value} {below : List Frame} {meth : Method} {c : Code} {Q : State → Prop} {D : va_G} {q : Nat → ClassId} {a : Nat → Nat} {A : Nat → Prop} (C : pv_C p s m args c prog_9_method_40_code 5 "PatchVoicesModel" pv_TB D pv_cl (pv_ty q) 36 a A (pv_ZM)) (hmv : pv_mv A (pv_ZM)) (hRf : 3 ≤ R.frames) (hRl : 67 ≤ R.locals) {out : pv_S} (hret : pv_Rv p l e R s m args below meth c prog_9_method_40_code D pv_cl 36 a (pv_FM q a) A Q out) {σ : pv_S} {x1 : Int32} {x2 : Int32} {s0 : Int32} {H : Heap} {locs : List Loc} {ls : Array Slot} (hl : lv_has ls 5 [(0, .ref (a 0)), (1, .int x1), (2, .int x2)]) (hP : pv_W D pv_cl 36 a (pv_FM q a) σ H) (hS : va_S A s.heap H locs) (hf : f_Md_judge_23 σ x1 x2 s0 = some out) : W p l e R s m args below meth c H locs 0 0 Q (F0 m 23 ls [.int s0]) := by
  unfold f_Md_judge_23 at hf
  have hx := C.1
  have hb := C.2.1
  refine lv_istore_n (lv' := [(3, .int s0), (0, .ref (a 0)), (1, .int x1), (2, .int x2)]) hx hb d_Md_judge_23 rfl hl (by decide) rfl (fun ls hl => ?_)
  refine lv_iconst (v := (0 : Int32)) hx hb d_Md_judge_24 (by decide) ?_
  refine lv_istore (lv' := [(4, .int (0 : Int32)), (3, .int s0), (0, .ref (a 0)), (1, .int x1), (2, .int x2)]) hx hb d_Md_judge_25 hl (by decide) rfl (fun ls hl => ?_)
  exact s_Md_judge_27 C hmv hRf hRl hret pv_fu (lv_sub hl [2, 3, 4, 1, 0] rfl) hP hS hf
def f_Md_judge_0 (σ : pv_S) (x1 : Int32) : Option pv_S :=
  (if pv_in x1 24 = true then
(if pv_in (σ.1 13 (x1).toNatClampNeg) 24 = true then
(if (7 : Int32) ≤ (σ.1 9 ((σ.1 13 (x1).toNatClampNeg)).toNatClampNeg) then
  f_Md_judge_23 σ x1 (σ.1 13 (x1).toNatClampNeg) (0 : Int32)
  else
  f_Md_judge_23 σ x1 (σ.1 13 (x1).toNatClampNeg) (1 : Int32))
  else none)
  else none)
set_option maxHeartbeats 4000000 in
set_option maxRecDepth 100000 in
theorem s_Md_judge_0 {p : Program} {l : Launch} {e : Env} {R : Room} {s : State} {m : MethodId} {args : Array Value} {below : List Frame} {meth : Method} {c : Code} {Q : State → Prop} {D : va_G} {q : Nat → ClassId} {a : Nat → Nat} {A : Nat → Prop} (C : pv_C p s m args c prog_9_method_40_code 5 "PatchVoicesModel" pv_TB D pv_cl (pv_ty q) 36 a A (pv_ZM)) (hmv : pv_mv A (pv_ZM)) (hRf : 3 ≤ R.frames) (hRl : 67 ≤ R.locals) {out : pv_S} (hret : pv_Rv p l e R s m args below meth c prog_9_method_40_code D pv_cl 36 a (pv_FM q a) A Q out) {σ : pv_S} {x1 : Int32} {H : Heap} {locs : List Loc} {ls : Array Slot} (hl : lv_has ls 5 [(0, .ref (a 0)), (1, .int x1)]) (hP : pv_W D pv_cl 36 a (pv_FM q a) σ H) (hS : va_S A s.heap H locs) (hf : f_Md_judge_0 σ x1 = some out) : W p l e R s m args below meth c H locs 0 0 Q (F0 m 0 ls []) := by
  unfold f_Md_judge_0 at hf
  have hx := C.1
  have hb := C.2.1
  refine lv_aload_n hx hb d_Md_judge_0 rfl (lv_at hl 0 rfl) ?_
  refine pv_get C hP (v := .ref (a 13)) (j := 23) (by decide) (fm_0 _ _ _ _) fl_Md_50 rfl d_Md_judge_1 ?_
  refine lv_iload_n hx hb d_Md_judge_4 rfl (lv_at hl 1 rfl) ?_
  obtain ⟨hg, hf⟩ := pv_g hf
  refine pv_iald C hP (t0 := 0) (by decide) (fm_13 _ _ _ _) rfl hg d_Md_judge_5 ?_
  refine lv_istore_n (lv' := [(2, .int (σ.1 13 (x1).toNatClampNeg)), (0, .ref (a 0)), (1, .int x1)]) hx hb d_Md_judge_6 rfl hl (by decide) rfl (fun ls hl => ?_)
  refine lv_aload_n hx hb d_Md_judge_7 rfl (lv_at hl 1 rfl) ?_
  refine pv_get C hP (v := .ref (a 9)) (j := 19) (by decide) (fm_0 _ _ _ _) fl_Md_38 rfl d_Md_judge_8 ?_
  refine lv_iload_n hx hb d_Md_judge_11 rfl (lv_at hl 0 rfl) ?_
  obtain ⟨hg, hf⟩ := pv_g hf
  refine pv_iald C hP (t0 := 0) (by decide) (fm_9 _ _ _ _) rfl hg d_Md_judge_12 ?_
  refine lv_bipush (v := (7 : Int32)) hx hb d_Md_judge_13 (by decide) ?_
  refine lv_icmp_ge (tgt := 22) hx hb d_Md_judge_15 (by decide) (fun h => ?_) (fun h => ?_)
  · have hf := pv_t hf h
    refine lv_iconst (v := (0 : Int32)) hx hb d_Md_judge_22 (by decide) ?_
    exact s_Md_judge_23 C hmv hRf hRl hret (lv_sub hl [1, 2, 0] rfl) hP hS hf
  · have hf := pv_f hf h
    refine lv_iconst (v := (1 : Int32)) hx hb d_Md_judge_18 (by decide) ?_
    refine lv_goto (tgt := 23) hx hb d_Md_judge_19 (by decide) ?_
    exact s_Md_judge_23 C hmv hRf hRl hret (lv_sub hl [1, 2, 0] rfl) hP hS hf
def f_Md_judge (σ : pv_S) (x1 : Int32) : Option pv_S := f_Md_judge_0 σ x1
def rm_Md_judge : Room := { frames := 3, cells := 0, slots := 0, locals := 67 }
theorem c_Md_judge {l : Launch} {D : va_G} {q : Nat → ClassId} {a : Nat → Nat} {A : Nat → Prop} (hD : pv_D 36 a A) (hmv : pv_mv A (pv_ZM)) {σ : pv_S} {x1 : Int32} {out : pv_S} (hf : f_Md_judge σ x1 = some out) : pv_Mv l y_Md_judge (Cond.code y_Md_judge prog_9_method_40_code 5 none :: pv_TB) rm_Md_judge D pv_cl (pv_ty q) 36 a (pv_FM q a) A (pv_ZM) [.ref (a 0), .int x1] σ out :=
  pv_ofV (by decide) (Nat.le_of_ble_eq_true rfl) hD (fun p e s m args below meth c Q ls C hret hl hP => s_Md_judge_0 C hmv (Nat.le_refl _) (Nat.le_refl _) hret hl hP va_S.rf hf)
theorem d_Md_settle_0 : decode prog_9_method_41_code 0 = .ok (.iconst 0, 1) := by decide +kernel
theorem d_Md_settle_1 : decode prog_9_method_41_code 1 = .ok (.istore_n 1, 1) := by decide +kernel
theorem d_Md_settle_2 : decode prog_9_method_41_code 2 = .ok (.iload_n 1, 1) := by decide +kernel
theorem d_Md_settle_3 : decode prog_9_method_41_code 3 = .ok (.aload_n 0, 1) := by decide +kernel
theorem d_Md_settle_4 : decode prog_9_method_41_code 4 = .ok (.getfield 253, 3) := by decide +kernel
theorem d_Md_settle_7 : decode prog_9_method_41_code 7 = .ok (.if_icmp .ge 16, 3) := by decide +kernel
theorem d_Md_settle_10 : decode prog_9_method_41_code 10 = .ok (.aload_n 0, 1) := by decide +kernel
theorem d_Md_settle_11 : decode prog_9_method_41_code 11 = .ok (.getfield 56, 3) := by decide +kernel
theorem d_Md_settle_14 : decode prog_9_method_41_code 14 = .ok (.iload_n 1, 1) := by decide +kernel
theorem d_Md_settle_15 : decode prog_9_method_41_code 15 = .ok (.iload_n 1, 1) := by decide +kernel
theorem d_Md_settle_16 : decode prog_9_method_41_code 16 = .ok (.iastore, 1) := by decide +kernel
theorem d_Md_settle_17 : decode prog_9_method_41_code 17 = .ok (.iinc 1 1, 3) := by decide +kernel
theorem d_Md_settle_20 : decode prog_9_method_41_code 20 = .ok (.goto (-18), 3) := by decide +kernel
theorem d_Md_settle_23 : decode prog_9_method_41_code 23 = .ok (.iconst 0, 1) := by decide +kernel
theorem d_Md_settle_24 : decode prog_9_method_41_code 24 = .ok (.istore_n 1, 1) := by decide +kernel
theorem d_Md_settle_25 : decode prog_9_method_41_code 25 = .ok (.iload_n 1, 1) := by decide +kernel
theorem d_Md_settle_26 : decode prog_9_method_41_code 26 = .ok (.aload_n 0, 1) := by decide +kernel
theorem d_Md_settle_27 : decode prog_9_method_41_code 27 = .ok (.getfield 253, 3) := by decide +kernel
theorem d_Md_settle_30 : decode prog_9_method_41_code 30 = .ok (.if_icmp .ge 21, 3) := by decide +kernel
theorem d_Md_settle_33 : decode prog_9_method_41_code 33 = .ok (.aload_n 0, 1) := by decide +kernel
theorem d_Md_settle_34 : decode prog_9_method_41_code 34 = .ok (.getfield 250, 3) := by decide +kernel
theorem d_Md_settle_37 : decode prog_9_method_41_code 37 = .ok (.ifCond .eq 14, 3) := by decide +kernel
theorem d_Md_settle_40 : decode prog_9_method_41_code 40 = .ok (.aload_n 0, 1) := by decide +kernel
theorem d_Md_settle_41 : decode prog_9_method_41_code 41 = .ok (.iload_n 1, 1) := by decide +kernel
theorem d_Md_settle_42 : decode prog_9_method_41_code 42 = .ok (.invokevirtual 275, 3) := by decide +kernel
theorem d_Md_settle_45 : decode prog_9_method_41_code 45 = .ok (.iinc 1 1, 3) := by decide +kernel
theorem d_Md_settle_48 : decode prog_9_method_41_code 48 = .ok (.goto (-23), 3) := by decide +kernel
theorem d_Md_settle_51 : decode prog_9_method_41_code 51 = .ok (.return_, 1) := by decide +kernel
def f_Md_settle_25b (k_25 : pv_S → Int32 → Option pv_S) (σ : pv_S) (x1 : Int32) : Option pv_S :=
  (if (σ.1 0 18) ≤ x1 then
  some σ
  else
  (if (σ.1 0 17) = 0 then
  some σ
  else
  ((f_Md_judge σ x1).bind fun q1 =>
k_25 q1 (x1 + (1 : Int32)))))
set_option maxHeartbeats 4000000 in
set_option maxRecDepth 100000 in
theorem s_Md_settle_25b {p : Program} {l : Launch} {e : Env} {R : Room} {s : State} {m : MethodId} {args : Array Value} {below : List Frame} {meth : Method} {c : Code} {Q : State → Prop} {D : va_G} {q : Nat → ClassId} {a : Nat → Nat} {A : Nat → Prop} (C : pv_C p s m args c prog_9_method_41_code 2 "PatchVoicesModel" pv_TB D pv_cl (pv_ty q) 36 a A (pv_ZM)) (hmv : pv_mv A (pv_ZM)) (hRf : 4 ≤ R.frames) (hRl : 91 ≤ R.locals) {out : pv_S} (hret : pv_Rv p l e R s m args below meth c prog_9_method_41_code D pv_cl 36 a (pv_FM q a) A Q out) {k_25 : pv_S → Int32 → Option pv_S} (hk_25 : ∀ (σ : pv_S) (x1 : Int32) (H : Heap) (locs : List Loc) (ls : Array Slot), k_25 σ x1 = some out → lv_has ls 2 [(0, .ref (a 0)), (1, .int x1)] → pv_W D pv_cl 36 a (pv_FM q a) σ H → va_S A s.heap H locs → W p l e R s m args below meth c H locs 0 0 Q (F0 m 25 ls [])) {σ : pv_S} {x1 : Int32} {H : Heap} {locs : List Loc} {ls : Array Slot} (hl : lv_has ls 2 [(0, .ref (a 0)), (1, .int x1)]) (hP : pv_W D pv_cl 36 a (pv_FM q a) σ H) (hS : va_S A s.heap H locs) (hf : f_Md_settle_25b k_25 σ x1 = some out) : W p l e R s m args below meth c H locs 0 0 Q (F0 m 25 ls []) := by
  unfold f_Md_settle_25b at hf
  have hx := C.1
  have hb := C.2.1
  refine lv_iload_n hx hb d_Md_settle_25 rfl (lv_at hl 1 rfl) ?_
  refine lv_aload_n hx hb d_Md_settle_26 rfl (lv_at hl 0 rfl) ?_
  refine pv_get C hP (v := .int (σ.1 0 18)) (j := 18) (by decide) (fm_0 _ _ _ _) fl_Md_253 rfl d_Md_settle_27 ?_
  refine lv_icmp_ge (tgt := 51) hx hb d_Md_settle_30 (by decide) (fun h => ?_) (fun h => ?_)
  · have hf := pv_t hf h
    obtain rfl := Option.some.inj hf
    exact hret _ _ _ _ d_Md_settle_51 hP hS
  · have hf := pv_f hf h
    refine lv_aload_n hx hb d_Md_settle_33 rfl (lv_at hl 0 rfl) ?_
    refine pv_get C hP (v := .int (σ.1 0 17)) (j := 17) (by decide) (fm_0 _ _ _ _) fl_Md_250 rfl d_Md_settle_34 ?_
    refine lv_if_eq (tgt := 51) hx hb d_Md_settle_37 (by decide) (fun h => ?_) (fun h => ?_)
    · have hf := pv_t hf h
      obtain rfl := Option.some.inj hf
      exact hret _ _ _ _ d_Md_settle_51 hP hS
    · have hf := pv_f hf h
      refine lv_aload_n hx hb d_Md_settle_40 rfl (lv_at hl 0 rfl) ?_
      refine lv_iload_n hx hb d_Md_settle_41 rfl (lv_at hl 1 rfl) ?_
      obtain ⟨q1, hc, hf⟩ := pv_b hf
      refine pv_callVv C hmv pv_good hP hS (As := [.int x1]) (rest := []) (by decide) (fm_0 _ _ _ _) rfl (c_Md_judge C.2.2.2.2.2.2.1 hmv hc) cv_Md_275 ⟨rfl, rfl, Nat.le_trans (Nat.le_of_ble_eq_true rfl) hRf, Nat.le_trans (Nat.le_of_ble_eq_true rfl) hRl⟩ rfl hl.1 rfl (Nat.le_of_ble_eq_true rfl) d_Md_settle_42 ⟨Nat.zero_le _, Nat.zero_le _⟩ (fun H locs hP hS => ?_)
      refine lv_iinc (k := 1) (v := (x1 + (1 : Int32))) (lv' := [(1, .int (x1 + (1 : Int32))), (0, .ref (a 0))]) hx hb d_Md_settle_45 hl rfl (pv_inc (by decide)) (by decide) rfl (fun ls hl => ?_)
      refine lv_goto (tgt := 25) hx hb d_Md_settle_48 (by decide) ?_
      exact hk_25 _ _ _ _ _ hf (lv_sub hl [1, 0] rfl) hP hS
def f_Md_settle_25 : Nat → pv_S → Int32 → Option pv_S
  | 0 => fun _ _ => none
  | n + 1 => f_Md_settle_25b (f_Md_settle_25 n)
set_option maxHeartbeats 4000000 in
theorem s_Md_settle_25 {p : Program} {l : Launch} {e : Env} {R : Room} {s : State} {m : MethodId} {args : Array Value} {below : List Frame} {meth : Method} {c : Code} {Q : State → Prop} {D : va_G} {q : Nat → ClassId} {a : Nat → Nat} {A : Nat → Prop} (C : pv_C p s m args c prog_9_method_41_code 2 "PatchVoicesModel" pv_TB D pv_cl (pv_ty q) 36 a A (pv_ZM)) (hmv : pv_mv A (pv_ZM)) (hRf : 4 ≤ R.frames) (hRl : 91 ≤ R.locals) {out : pv_S} (hret : pv_Rv p l e R s m args below meth c prog_9_method_41_code D pv_cl 36 a (pv_FM q a) A Q out) (n : Nat) : ∀ {σ : pv_S} {x1 : Int32} {H : Heap} {locs : List Loc} {ls : Array Slot}, lv_has ls 2 [(0, .ref (a 0)), (1, .int x1)] → pv_W D pv_cl 36 a (pv_FM q a) σ H → va_S A s.heap H locs → f_Md_settle_25 n σ x1 = some out → W p l e R s m args below meth c H locs 0 0 Q (F0 m 25 ls []) := by
  induction n with
  | zero => intro σ x1 H locs ls hl hP hS hf; cases hf
  | succ n ih => intro σ x1 H locs ls hl hP hS hf; exact s_Md_settle_25b C hmv hRf hRl hret (fun σ x1 H locs ls hf hl hP hS => ih hl hP hS hf) hl hP hS hf
def f_Md_settle_2b (k_2 : pv_S → Int32 → Option pv_S) (σ : pv_S) (x1 : Int32) : Option pv_S :=
  (if (σ.1 0 18) ≤ x1 then
  f_Md_settle_25 pv_fu σ (0 : Int32)
  else
  (if pv_in x1 24 = true then
k_2 (pv_uI σ 15 (x1).toNatClampNeg x1) (x1 + (1 : Int32))
  else none))
set_option maxHeartbeats 4000000 in
set_option maxRecDepth 100000 in
theorem s_Md_settle_2b {p : Program} {l : Launch} {e : Env} {R : Room} {s : State} {m : MethodId} {args : Array Value} {below : List Frame} {meth : Method} {c : Code} {Q : State → Prop} {D : va_G} {q : Nat → ClassId} {a : Nat → Nat} {A : Nat → Prop} (C : pv_C p s m args c prog_9_method_41_code 2 "PatchVoicesModel" pv_TB D pv_cl (pv_ty q) 36 a A (pv_ZM)) (hmv : pv_mv A (pv_ZM)) (hRf : 4 ≤ R.frames) (hRl : 91 ≤ R.locals) {out : pv_S} (hret : pv_Rv p l e R s m args below meth c prog_9_method_41_code D pv_cl 36 a (pv_FM q a) A Q out) {k_2 : pv_S → Int32 → Option pv_S} (hk_2 : ∀ (σ : pv_S) (x1 : Int32) (H : Heap) (locs : List Loc) (ls : Array Slot), k_2 σ x1 = some out → lv_has ls 2 [(0, .ref (a 0)), (1, .int x1)] → pv_W D pv_cl 36 a (pv_FM q a) σ H → va_S A s.heap H locs → W p l e R s m args below meth c H locs 0 0 Q (F0 m 2 ls [])) {σ : pv_S} {x1 : Int32} {H : Heap} {locs : List Loc} {ls : Array Slot} (hl : lv_has ls 2 [(0, .ref (a 0)), (1, .int x1)]) (hP : pv_W D pv_cl 36 a (pv_FM q a) σ H) (hS : va_S A s.heap H locs) (hf : f_Md_settle_2b k_2 σ x1 = some out) : W p l e R s m args below meth c H locs 0 0 Q (F0 m 2 ls []) := by
  unfold f_Md_settle_2b at hf
  have hx := C.1
  have hb := C.2.1
  refine lv_iload_n hx hb d_Md_settle_2 rfl (lv_at hl 1 rfl) ?_
  refine lv_aload_n hx hb d_Md_settle_3 rfl (lv_at hl 0 rfl) ?_
  refine pv_get C hP (v := .int (σ.1 0 18)) (j := 18) (by decide) (fm_0 _ _ _ _) fl_Md_253 rfl d_Md_settle_4 ?_
  refine lv_icmp_ge (tgt := 23) hx hb d_Md_settle_7 (by decide) (fun h => ?_) (fun h => ?_)
  · have hf := pv_t hf h
    refine lv_iconst (v := (0 : Int32)) hx hb d_Md_settle_23 (by decide) ?_
    refine lv_istore_n (lv' := [(1, .int (0 : Int32)), (0, .ref (a 0))]) hx hb d_Md_settle_24 rfl hl (by decide) rfl (fun ls hl => ?_)
    exact s_Md_settle_25 C hmv hRf hRl hret pv_fu (lv_sub hl [1, 0] rfl) hP hS hf
  · have hf := pv_f hf h
    refine lv_aload_n hx hb d_Md_settle_10 rfl (lv_at hl 0 rfl) ?_
    refine pv_get C hP (v := .ref (a 15)) (j := 25) (by decide) (fm_0 _ _ _ _) fl_Md_56 rfl d_Md_settle_11 ?_
    refine lv_iload_n hx hb d_Md_settle_14 rfl (lv_at hl 1 rfl) ?_
    refine lv_iload_n hx hb d_Md_settle_15 rfl (lv_at hl 1 rfl) ?_
    obtain ⟨hg, hf⟩ := pv_g hf
    refine pv_iast C hP hS (t0 := 0) (x := x1) (by decide) (fun f g => (fm_15 _ _ f g)) rfl hg d_Md_settle_16 (fun H locs hP hS => ?_)
    refine lv_iinc (k := 1) (v := (x1 + (1 : Int32))) (lv' := [(1, .int (x1 + (1 : Int32))), (0, .ref (a 0))]) hx hb d_Md_settle_17 hl rfl (pv_inc (by decide)) (by decide) rfl (fun ls hl => ?_)
    refine lv_goto (tgt := 2) hx hb d_Md_settle_20 (by decide) ?_
    exact hk_2 _ _ _ _ _ hf (lv_sub hl [1, 0] rfl) hP hS
def f_Md_settle_2 : Nat → pv_S → Int32 → Option pv_S
  | 0 => fun _ _ => none
  | n + 1 => f_Md_settle_2b (f_Md_settle_2 n)
set_option maxHeartbeats 4000000 in
theorem s_Md_settle_2 {p : Program} {l : Launch} {e : Env} {R : Room} {s : State} {m : MethodId} {args : Array Value} {below : List Frame} {meth : Method} {c : Code} {Q : State → Prop} {D : va_G} {q : Nat → ClassId} {a : Nat → Nat} {A : Nat → Prop} (C : pv_C p s m args c prog_9_method_41_code 2 "PatchVoicesModel" pv_TB D pv_cl (pv_ty q) 36 a A (pv_ZM)) (hmv : pv_mv A (pv_ZM)) (hRf : 4 ≤ R.frames) (hRl : 91 ≤ R.locals) {out : pv_S} (hret : pv_Rv p l e R s m args below meth c prog_9_method_41_code D pv_cl 36 a (pv_FM q a) A Q out) (n : Nat) : ∀ {σ : pv_S} {x1 : Int32} {H : Heap} {locs : List Loc} {ls : Array Slot}, lv_has ls 2 [(0, .ref (a 0)), (1, .int x1)] → pv_W D pv_cl 36 a (pv_FM q a) σ H → va_S A s.heap H locs → f_Md_settle_2 n σ x1 = some out → W p l e R s m args below meth c H locs 0 0 Q (F0 m 2 ls []) := by
  induction n with
  | zero => intro σ x1 H locs ls hl hP hS hf; cases hf
  | succ n ih => intro σ x1 H locs ls hl hP hS hf; exact s_Md_settle_2b C hmv hRf hRl hret (fun σ x1 H locs ls hf hl hP hS => ih hl hP hS hf) hl hP hS hf
def f_Md_settle_0 (σ : pv_S) : Option pv_S :=
  f_Md_settle_2 pv_fu σ (0 : Int32)
set_option maxHeartbeats 4000000 in
set_option maxRecDepth 100000 in
theorem s_Md_settle_0 {p : Program} {l : Launch} {e : Env} {R : Room} {s : State} {m : MethodId} {args : Array Value} {below : List Frame} {meth : Method} {c : Code} {Q : State → Prop} {D : va_G} {q : Nat → ClassId} {a : Nat → Nat} {A : Nat → Prop} (C : pv_C p s m args c prog_9_method_41_code 2 "PatchVoicesModel" pv_TB D pv_cl (pv_ty q) 36 a A (pv_ZM)) (hmv : pv_mv A (pv_ZM)) (hRf : 4 ≤ R.frames) (hRl : 91 ≤ R.locals) {out : pv_S} (hret : pv_Rv p l e R s m args below meth c prog_9_method_41_code D pv_cl 36 a (pv_FM q a) A Q out) {σ : pv_S} {H : Heap} {locs : List Loc} {ls : Array Slot} (hl : lv_has ls 2 [(0, .ref (a 0))]) (hP : pv_W D pv_cl 36 a (pv_FM q a) σ H) (hS : va_S A s.heap H locs) (hf : f_Md_settle_0 σ = some out) : W p l e R s m args below meth c H locs 0 0 Q (F0 m 0 ls []) := by
  unfold f_Md_settle_0 at hf
  have hx := C.1
  have hb := C.2.1
  refine lv_iconst (v := (0 : Int32)) hx hb d_Md_settle_0 (by decide) ?_
  refine lv_istore_n (lv' := [(1, .int (0 : Int32)), (0, .ref (a 0))]) hx hb d_Md_settle_1 rfl hl (by decide) rfl (fun ls hl => ?_)
  exact s_Md_settle_2 C hmv hRf hRl hret pv_fu (lv_sub hl [1, 0] rfl) hP hS hf
def f_Md_settle (σ : pv_S) : Option pv_S := f_Md_settle_0 σ
def rm_Md_settle : Room := { frames := 4, cells := 0, slots := 0, locals := 91 }
theorem c_Md_settle {l : Launch} {D : va_G} {q : Nat → ClassId} {a : Nat → Nat} {A : Nat → Prop} (hD : pv_D 36 a A) (hmv : pv_mv A (pv_ZM)) {σ : pv_S} {out : pv_S} (hf : f_Md_settle σ = some out) : pv_Mv l y_Md_settle (Cond.code y_Md_settle prog_9_method_41_code 2 none :: pv_TB) rm_Md_settle D pv_cl (pv_ty q) 36 a (pv_FM q a) A (pv_ZM) [.ref (a 0)] σ out :=
  pv_ofV (by decide) (Nat.le_of_ble_eq_true rfl) hD (fun p e s m args below meth c Q ls C hret hl hP => s_Md_settle_0 C hmv (Nat.le_refl _) (Nat.le_refl _) hret hl hP va_S.rf hf)
