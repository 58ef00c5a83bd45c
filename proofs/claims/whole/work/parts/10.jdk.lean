theorem d_Fill_7_0 : decode prog_22_method_103_code 0 = .ok (.iconst 0, 1) := by decide +kernel
theorem d_Fill_7_1 : decode prog_22_method_103_code 1 = .ok (.istore_n 2, 1) := by decide +kernel
theorem d_Fill_7_2 : decode prog_22_method_103_code 2 = .ok (.aload_n 0, 1) := by decide +kernel
theorem d_Fill_7_3 : decode prog_22_method_103_code 3 = .ok (.arraylength, 1) := by decide +kernel
theorem d_Fill_7_4 : decode prog_22_method_103_code 4 = .ok (.istore_n 3, 1) := by decide +kernel
theorem d_Fill_7_5 : decode prog_22_method_103_code 5 = .ok (.iload_n 2, 1) := by decide +kernel
theorem d_Fill_7_6 : decode prog_22_method_103_code 6 = .ok (.iload_n 3, 1) := by decide +kernel
theorem d_Fill_7_7 : decode prog_22_method_103_code 7 = .ok (.if_icmp .ge 13, 3) := by decide +kernel
theorem d_Fill_7_10 : decode prog_22_method_103_code 10 = .ok (.aload_n 0, 1) := by decide +kernel
theorem d_Fill_7_11 : decode prog_22_method_103_code 11 = .ok (.iload_n 2, 1) := by decide +kernel
theorem d_Fill_7_12 : decode prog_22_method_103_code 12 = .ok (.iload_n 1, 1) := by decide +kernel
theorem d_Fill_7_13 : decode prog_22_method_103_code 13 = .ok (.iastore, 1) := by decide +kernel
theorem d_Fill_7_14 : decode prog_22_method_103_code 14 = .ok (.iinc 2 1, 3) := by decide +kernel
theorem d_Fill_7_17 : decode prog_22_method_103_code 17 = .ok (.goto (-12), 3) := by decide +kernel
theorem d_Fill_7_20 : decode prog_22_method_103_code 20 = .ok (.return_, 1) := by decide +kernel
def f_Fill_7_5b (k_5 : pv_S → Int32 → Int32 → Int32 → Option pv_S) (σ : pv_S) (x1 : Int32) (x2 : Int32) (x3 : Int32) : Option pv_S :=
  (if x3 ≤ x2 then
  some σ
  else
  (if pv_in x2 38 = true then
k_5 (pv_uI σ 7 (x2).toNatClampNeg x1) x1 (x2 + (1 : Int32)) x3
  else none))
set_option maxHeartbeats 4000000 in
set_option maxRecDepth 100000 in
theorem s_Fill_7_5b {p : Program} {l : Launch} {e : Env} {R : Room} {s : State} {m : MethodId} {args : Array Value} {below : List Frame} {meth : Method} {c : Code} {Q : State → Prop} {D : va_G} {q : Nat → ClassId} {a t : Nat → Nat} {A : Nat → Prop} (C : pv_C p s m args c prog_22_method_103_code 4 "java/util/Arrays" pv_TB D pv_cl (pv_ty q) 52 a A (pv_ZX t A)) (hmv : pv_mv A (pv_ZX t A)) (hRf : 0 ≤ R.frames) (hRl : 0 ≤ R.locals) {out : pv_S} (hret : pv_Rv p l e R s m args below meth c prog_22_method_103_code D pv_cl 52 a (pv_FX q a) A Q out) {k_5 : pv_S → Int32 → Int32 → Int32 → Option pv_S} (hk_5 : ∀ (σ : pv_S) (x1 : Int32) (x2 : Int32) (x3 : Int32) (H : Heap) (locs : List Loc) (ls : Array Slot), k_5 σ x1 x2 x3 = some out → lv_has ls 4 [(0, .ref (a 7)), (1, .int x1), (2, .int x2), (3, .int x3)] → pv_W D pv_cl 52 a (pv_FX q a) σ H → va_S A s.heap H locs → W p l e R s m args below meth c H locs 0 0 Q (F0 m 5 ls [])) {σ : pv_S} {x1 : Int32} {x2 : Int32} {x3 : Int32} {H : Heap} {locs : List Loc} {ls : Array Slot} (hl : lv_has ls 4 [(0, .ref (a 7)), (1, .int x1), (2, .int x2), (3, .int x3)]) (hP : pv_W D pv_cl 52 a (pv_FX q a) σ H) (hS : va_S A s.heap H locs) (hf : f_Fill_7_5b k_5 σ x1 x2 x3 = some out) : W p l e R s m args below meth c H locs 0 0 Q (F0 m 5 ls []) := by
  unfold f_Fill_7_5b at hf
  have hx := C.1
  have hb := C.2.1
  refine lv_iload_n hx hb d_Fill_7_5 rfl (lv_at hl 2 rfl) ?_
  refine lv_iload_n hx hb d_Fill_7_6 rfl (lv_at hl 3 rfl) ?_
  refine lv_icmp_ge (tgt := 20) hx hb d_Fill_7_7 (by decide) (fun h => ?_) (fun h => ?_)
  · have hf := pv_t hf h
    obtain rfl := Option.some.inj hf
    exact hret _ _ _ _ d_Fill_7_20 hP hS
  · have hf := pv_f hf h
    refine lv_aload_n hx hb d_Fill_7_10 rfl (lv_at hl 0 rfl) ?_
    refine lv_iload_n hx hb d_Fill_7_11 rfl (lv_at hl 2 rfl) ?_
    refine lv_iload_n hx hb d_Fill_7_12 rfl (lv_at hl 1 rfl) ?_
    obtain ⟨hg, hf⟩ := pv_g hf
    refine pv_iast C hP hS (t0 := 0) (x := x1) (by decide) (fun f g => (fx_7 _ _ f g)) rfl hg d_Fill_7_13 (fun H locs hP hS => ?_)
    refine lv_iinc (k := 2) (v := (x2 + (1 : Int32))) (lv' := [(2, .int (x2 + (1 : Int32))), (0, .ref (a 7)), (1, .int x1), (3, .int x3)]) hx hb d_Fill_7_14 hl rfl (pv_inc (by decide)) (by decide) rfl (fun ls hl => ?_)
    refine lv_goto (tgt := 5) hx hb d_Fill_7_17 (by decide) ?_
    exact hk_5 _ _ _ _ _ _ _ hf (lv_sub hl [1, 2, 0, 3] rfl) hP hS
def f_Fill_7_5 : Nat → pv_S → Int32 → Int32 → Int32 → Option pv_S
  | 0 => fun _ _ _ _ => none
  | n + 1 => f_Fill_7_5b (f_Fill_7_5 n)
set_option maxHeartbeats 4000000 in
theorem s_Fill_7_5 {p : Program} {l : Launch} {e : Env} {R : Room} {s : State} {m : MethodId} {args : Array Value} {below : List Frame} {meth : Method} {c : Code} {Q : State → Prop} {D : va_G} {q : Nat → ClassId} {a t : Nat → Nat} {A : Nat → Prop} (C : pv_C p s m args c prog_22_method_103_code 4 "java/util/Arrays" pv_TB D pv_cl (pv_ty q) 52 a A (pv_ZX t A)) (hmv : pv_mv A (pv_ZX t A)) (hRf : 0 ≤ R.frames) (hRl : 0 ≤ R.locals) {out : pv_S} (hret : pv_Rv p l e R s m args below meth c prog_22_method_103_code D pv_cl 52 a (pv_FX q a) A Q out) (n : Nat) : ∀ {σ : pv_S} {x1 : Int32} {x2 : Int32} {x3 : Int32} {H : Heap} {locs : List Loc} {ls : Array Slot}, lv_has ls 4 [(0, .ref (a 7)), (1, .int x1), (2, .int x2), (3, .int x3)] → pv_W D pv_cl 52 a (pv_FX q a) σ H → va_S A s.heap H locs → f_Fill_7_5 n σ x1 x2 x3 = some out → W p l e R s m args below meth c H locs 0 0 Q (F0 m 5 ls []) := by
  induction n with
  | zero => intro σ x1 x2 x3 H locs ls hl hP hS hf; cases hf
  | succ n ih => intro σ x1 x2 x3 H locs ls hl hP hS hf; exact s_Fill_7_5b C hmv hRf hRl hret (fun σ x1 x2 x3 H locs ls hf hl hP hS => ih hl hP hS hf) hl hP hS hf
def f_Fill_7_0 (σ : pv_S) (x1 : Int32) : Option pv_S :=
  f_Fill_7_5 pv_fu σ x1 (0 : Int32) (38 : Int32)
set_option maxHeartbeats 4000000 in
set_option maxRecDepth 100000 in
theorem s_Fill_7_0 {p : Program} {l : Launch} {e : Env} {R : Room} {s : State} {m : MethodId} {args : Array Value} {below : List Frame} {meth : Method} {c : Code} {Q : State → Prop} {D : va_G} {q : Nat → ClassId} {a t : Nat → Nat} {A : Nat → Prop} (C : pv_C p s m args c prog_22_method_103_code 4 "java/util/Arrays" pv_TB D pv_cl (pv_ty q) 52 a A (pv_ZX t A)) (hmv : pv_mv A (pv_ZX t A)) (hRf : 0 ≤ R.frames) (hRl : 0 ≤ R.locals) {out : pv_S} (hret : pv_Rv p l e R s m args below meth c prog_22_method_103_code D pv_cl 52 a (pv_FX q a) A Q out) {σ : pv_S} {x1 : Int32} {H : Heap} {locs : List Loc} {ls : Array Slot} (hl : lv_has ls 4 [(0, .ref (a 7)), (1, .int x1)]) (hP : pv_W D pv_cl 52 a (pv_FX q a) σ H) (hS : va_S A s.heap H locs) (hf : f_Fill_7_0 σ x1 = some out) : W p l e R s m args below meth c H locs 0 0 Q (F0 m 0 ls []) := by
  unfold f_Fill_7_0 at hf
  have hx := C.1
  have hb := C.2.1
  refine lv_iconst (v := (0 : Int32)) hx hb d_Fill_7_0 (by decide) ?_
  refine lv_istore_n (lv' := [(2, .int (0 : Int32)), (0, .ref (a 7)), (1, .int x1)]) hx hb d_Fill_7_1 rfl hl (by decide) rfl (fun ls hl => ?_)
  refine lv_aload_n hx hb d_Fill_7_2 rfl (lv_at hl 1 rfl) ?_
  refine pv_alen C hP (t0 := 0) (v := (38 : Int32)) (by decide) (fx_7 _ _ _ _) rfl rfl d_Fill_7_3 ?_
  refine lv_istore_n (lv' := [(3, .int (38 : Int32)), (2, .int (0 : Int32)), (0, .ref (a 7)), (1, .int x1)]) hx hb d_Fill_7_4 rfl hl (by decide) rfl (fun ls hl => ?_)
  exact s_Fill_7_5 C hmv hRf hRl hret pv_fu (lv_sub hl [2, 3, 1, 0] rfl) hP hS hf
def f_Fill_7 (σ : pv_S) (x1 : Int32) : Option pv_S := f_Fill_7_0 σ x1
def rm_Fill_7 : Room := { frames := 0, cells := 0, slots := 0, locals := 0 }
theorem c_Fill_7 {l : Launch} {D : va_G} {q : Nat → ClassId} {a t : Nat → Nat} {A : Nat → Prop} (hD : pv_D 52 a A) (hmv : pv_mv A (pv_ZX t A)) {σ : pv_S} {x1 : Int32} {out : pv_S} (hf : f_Fill_7 σ x1 = some out) : pv_Mv l y_Fill_7 (Cond.code y_Fill_7 prog_22_method_103_code 4 none :: pv_TB) rm_Fill_7 D pv_cl (pv_ty q) 52 a (pv_FX q a) A (pv_ZX t A) [.ref (a 7), .int x1] σ out :=
  pv_ofV (by decide) (Nat.le_of_ble_eq_true rfl) hD (fun p e s m args below meth c Q ls C hret hl hP => s_Fill_7_0 C hmv (Nat.le_refl _) (Nat.le_refl _) hret hl hP va_S.rf hf)
theorem d_Fill_4_0 : decode prog_22_method_103_code 0 = .ok (.iconst 0, 1) := by decide +kernel
theorem d_Fill_4_1 : decode prog_22_method_103_code 1 = .ok (.istore_n 2, 1) := by decide +kernel
theorem d_Fill_4_2 : decode prog_22_method_103_code 2 = .ok (.aload_n 0, 1) := by decide +kernel
theorem d_Fill_4_3 : decode prog_22_method_103_code 3 = .ok (.arraylength, 1) := by decide +kernel
theorem d_Fill_4_4 : decode prog_22_method_103_code 4 = .ok (.istore_n 3, 1) := by decide +kernel
theorem d_Fill_4_5 : decode prog_22_method_103_code 5 = .ok (.iload_n 2, 1) := by decide +kernel
theorem d_Fill_4_6 : decode prog_22_method_103_code 6 = .ok (.iload_n 3, 1) := by decide +kernel
theorem d_Fill_4_7 : decode prog_22_method_103_code 7 = .ok (.if_icmp .ge 13, 3) := by decide +kernel
theorem d_Fill_4_10 : decode prog_22_method_103_code 10 = .ok (.aload_n 0, 1) := by decide +kernel
theorem d_Fill_4_11 : decode prog_22_method_103_code 11 = .ok (.iload_n 2, 1) := by decide +kernel
theorem d_Fill_4_12 : decode prog_22_method_103_code 12 = .ok (.iload_n 1, 1) := by decide +kernel
theorem d_Fill_4_13 : decode prog_22_method_103_code 13 = .ok (.iastore, 1) := by decide +kernel
theorem d_Fill_4_14 : decode prog_22_method_103_code 14 = .ok (.iinc 2 1, 3) := by decide +kernel
theorem d_Fill_4_17 : decode prog_22_method_103_code 17 = .ok (.goto (-12), 3) := by decide +kernel
theorem d_Fill_4_20 : decode prog_22_method_103_code 20 = .ok (.return_, 1) := by decide +kernel
def f_Fill_4_5b (k_5 : pv_S → Int32 → Int32 → Int32 → Option pv_S) (σ : pv_S) (x1 : Int32) (x2 : Int32) (x3 : Int32) : Option pv_S :=
  (if x3 ≤ x2 then
  some σ
  else
  (if pv_in x2 38 = true then
k_5 (pv_uI σ 4 (x2).toNatClampNeg x1) x1 (x2 + (1 : Int32)) x3
  else none))
set_option maxHeartbeats 4000000 in
set_option maxRecDepth 100000 in
theorem s_Fill_4_5b {p : Program} {l : Launch} {e : Env} {R : Room} {s : State} {m : MethodId} {args : Array Value} {below : List Frame} {meth : Method} {c : Code} {Q : State → Prop} {D : va_G} {q : Nat → ClassId} {a t : Nat → Nat} {A : Nat → Prop} (C : pv_C p s m args c prog_22_method_103_code 4 "java/util/Arrays" pv_TB D pv_cl (pv_ty q) 52 a A (pv_ZX t A)) (hmv : pv_mv A (pv_ZX t A)) (hRf : 0 ≤ R.frames) (hRl : 0 ≤ R.locals) {out : pv_S} (hret : pv_Rv p l e R s m args below meth c prog_22_method_103_code D pv_cl 52 a (pv_FX q a) A Q out) {k_5 : pv_S → Int32 → Int32 → Int32 → Option pv_S} (hk_5 : ∀ (σ : pv_S) (x1 : Int32) (x2 : Int32) (x3 : Int32) (H : Heap) (locs : List Loc) (ls : Array Slot), k_5 σ x1 x2 x3 = some out → lv_has ls 4 [(0, .ref (a 4)), (1, .int x1), (2, .int x2), (3, .int x3)] → pv_W D pv_cl 52 a (pv_FX q a) σ H → va_S A s.heap H locs → W p l e R s m args below meth c H locs 0 0 Q (F0 m 5 ls [])) {σ : pv_S} {x1 : Int32} {x2 : Int32} {x3 : Int32} {H : Heap} {locs : List Loc} {ls : Array Slot} (hl : lv_has ls 4 [(0, .ref (a 4)), (1, .int x1), (2, .int x2), (3, .int x3)]) (hP : pv_W D pv_cl 52 a (pv_FX q a) σ H) (hS : va_S A s.heap H locs) (hf : f_Fill_4_5b k_5 σ x1 x2 x3 = some out) : W p l e R s m args below meth c H locs 0 0 Q (F0 m 5 ls []) := by
  unfold f_Fill_4_5b at hf
  have hx := C.1
  have hb := C.2.1
  refine lv_iload_n hx hb d_Fill_4_5 rfl (lv_at hl 2 rfl) ?_
  refine lv_iload_n hx hb d_Fill_4_6 rfl (lv_at hl 3 rfl) ?_
  refine lv_icmp_ge (tgt := 20) hx hb d_Fill_4_7 (by decide) (fun h => ?_) (fun h => ?_)
  · have hf := pv_t hf h
    obtain rfl := Option.some.inj hf
    exact hret _ _ _ _ d_Fill_4_20 hP hS
  · have hf := pv_f hf h
    refine lv_aload_n hx hb d_Fill_4_10 rfl (lv_at hl 0 rfl) ?_
    refine lv_iload_n hx hb d_Fill_4_11 rfl (lv_at hl 2 rfl) ?_
    refine lv_iload_n hx hb d_Fill_4_12 rfl (lv_at hl 1 rfl) ?_
    obtain ⟨hg, hf⟩ := pv_g hf
    refine pv_iast C hP hS (t0 := 0) (x := x1) (by decide) (fun f g => (fx_4 _ _ f g)) rfl hg d_Fill_4_13 (fun H locs hP hS => ?_)
    refine lv_iinc (k := 2) (v := (x2 + (1 : Int32))) (lv' := [(2, .int (x2 + (1 : Int32))), (0, .ref (a 4)), (1, .int x1), (3, .int x3)]) hx hb d_Fill_4_14 hl rfl (pv_inc (by decide)) (by decide) rfl (fun ls hl => ?_)
    refine lv_goto (tgt := 5) hx hb d_Fill_4_17 (by decide) ?_
    exact hk_5 _ _ _ _ _ _ _ hf (lv_sub hl [1, 2, 0, 3] rfl) hP hS
def f_Fill_4_5 : Nat → pv_S → Int32 → Int32 → Int32 → Option pv_S
  | 0 => fun _ _ _ _ => none
  | n + 1 => f_Fill_4_5b (f_Fill_4_5 n)
set_option maxHeartbeats 4000000 in
theorem s_Fill_4_5 {p : Program} {l : Launch} {e : Env} {R : Room} {s : State} {m : MethodId} {args : Array Value} {below : List Frame} {meth : Method} {c : Code} {Q : State → Prop} {D : va_G} {q : Nat → ClassId} {a t : Nat → Nat} {A : Nat → Prop} (C : pv_C p s m args c prog_22_method_103_code 4 "java/util/Arrays" pv_TB D pv_cl (pv_ty q) 52 a A (pv_ZX t A)) (hmv : pv_mv A (pv_ZX t A)) (hRf : 0 ≤ R.frames) (hRl : 0 ≤ R.locals) {out : pv_S} (hret : pv_Rv p l e R s m args below meth c prog_22_method_103_code D pv_cl 52 a (pv_FX q a) A Q out) (n : Nat) : ∀ {σ : pv_S} {x1 : Int32} {x2 : Int32} {x3 : Int32} {H : Heap} {locs : List Loc} {ls : Array Slot}, lv_has ls 4 [(0, .ref (a 4)), (1, .int x1), (2, .int x2), (3, .int x3)] → pv_W D pv_cl 52 a (pv_FX q a) σ H → va_S A s.heap H locs → f_Fill_4_5 n σ x1 x2 x3 = some out → W p l e R s m args below meth c H locs 0 0 Q (F0 m 5 ls []) := by
  induction n with
  | zero => intro σ x1 x2 x3 H locs ls hl hP hS hf; cases hf
  | succ n ih => intro σ x1 x2 x3 H locs ls hl hP hS hf; exact s_Fill_4_5b C hmv hRf hRl hret (fun σ x1 x2 x3 H locs ls hf hl hP hS => ih hl hP hS hf) hl hP hS hf
def f_Fill_4_0 (σ : pv_S) (x1 : Int32) : Option pv_S :=
  f_Fill_4_5 pv_fu σ x1 (0 : Int32) (38 : Int32)
set_option maxHeartbeats 4000000 in
set_option maxRecDepth 100000 in
theorem s_Fill_4_0 {p : Program} {l : Launch} {e : Env} {R : Room} {s : State} {m : MethodId} {args : Array Value} {below : List Frame} {meth : Method} {c : Code} {Q : State → Prop} {D : va_G} {q : Nat → ClassId} {a t : Nat → Nat} {A : Nat → Prop} (C : pv_C p s m args c prog_22_method_103_code 4 "java/util/Arrays" pv_TB D pv_cl (pv_ty q) 52 a A (pv_ZX t A)) (hmv : pv_mv A (pv_ZX t A)) (hRf : 0 ≤ R.frames) (hRl : 0 ≤ R.locals) {out : pv_S} (hret : pv_Rv p l e R s m args below meth c prog_22_method_103_code D pv_cl 52 a (pv_FX q a) A Q out) {σ : pv_S} {x1 : Int32} {H : Heap} {locs : List Loc} {ls : Array Slot} (hl : lv_has ls 4 [(0, .ref (a 4)), (1, .int x1)]) (hP : pv_W D pv_cl 52 a (pv_FX q a) σ H) (hS : va_S A s.heap H locs) (hf : f_Fill_4_0 σ x1 = some out) : W p l e R s m args below meth c H locs 0 0 Q (F0 m 0 ls []) := by
  unfold f_Fill_4_0 at hf
  have hx := C.1
  have hb := C.2.1
  refine lv_iconst (v := (0 : Int32)) hx hb d_Fill_4_0 (by decide) ?_
  refine lv_istore_n (lv' := [(2, .int (0 : Int32)), (0, .ref (a 4)), (1, .int x1)]) hx hb d_Fill_4_1 rfl hl (by decide) rfl (fun ls hl => ?_)
  refine lv_aload_n hx hb d_Fill_4_2 rfl (lv_at hl 1 rfl) ?_
  refine pv_alen C hP (t0 := 0) (v := (38 : Int32)) (by decide) (fx_4 _ _ _ _) rfl rfl d_Fill_4_3 ?_
  refine lv_istore_n (lv' := [(3, .int (38 : Int32)), (2, .int (0 : Int32)), (0, .ref (a 4)), (1, .int x1)]) hx hb d_Fill_4_4 rfl hl (by decide) rfl (fun ls hl => ?_)
  exact s_Fill_4_5 C hmv hRf hRl hret pv_fu (lv_sub hl [2, 3, 1, 0] rfl) hP hS hf
def f_Fill_4 (σ : pv_S) (x1 : Int32) : Option pv_S := f_Fill_4_0 σ x1
def rm_Fill_4 : Room := { frames := 0, cells := 0, slots := 0, locals := 0 }
theorem c_Fill_4 {l : Launch} {D : va_G} {q : Nat → ClassId} {a t : Nat → Nat} {A : Nat → Prop} (hD : pv_D 52 a A) (hmv : pv_mv A (pv_ZX t A)) {σ : pv_S} {x1 : Int32} {out : pv_S} (hf : f_Fill_4 σ x1 = some out) : pv_Mv l y_Fill_4 (Cond.code y_Fill_4 prog_22_method_103_code 4 none :: pv_TB) rm_Fill_4 D pv_cl (pv_ty q) 52 a (pv_FX q a) A (pv_ZX t A) [.ref (a 4), .int x1] σ out :=
  pv_ofV (by decide) (Nat.le_of_ble_eq_true rfl) hD (fun p e s m args below meth c Q ls C hret hl hP => s_Fill_4_0 C hmv (Nat.le_refl _) (Nat.le_refl _) hret hl hP va_S.rf hf)
theorem d_Fill_8_0 : decode prog_22_method_103_code 0 = .ok (.iconst 0, 1) := by decide +kernel
theorem d_Fill_8_1 : decode prog_22_method_103_code 1 = .ok (.istore_n 2, 1) := by decide +kernel
theorem d_Fill_8_2 : decode prog_22_method_103_code 2 = .ok (.aload_n 0, 1) := by decide +kernel
theorem d_Fill_8_3 : decode prog_22_method_103_code 3 = .ok (.arraylength, 1) := by decide +kernel
theorem d_Fill_8_4 : decode prog_22_method_103_code 4 = .ok (.istore_n 3, 1) := by decide +kernel
theorem d_Fill_8_5 : decode prog_22_method_103_code 5 = .ok (.iload_n 2, 1) := by decide +kernel
theorem d_Fill_8_6 : decode prog_22_method_103_code 6 = .ok (.iload_n 3, 1) := by decide +kernel
theorem d_Fill_8_7 : decode prog_22_method_103_code 7 = .ok (.if_icmp .ge 13, 3) := by decide +kernel
theorem d_Fill_8_10 : decode prog_22_method_103_code 10 = .ok (.aload_n 0, 1) := by decide +kernel
theorem d_Fill_8_11 : decode prog_22_method_103_code 11 = .ok (.iload_n 2, 1) := by decide +kernel
theorem d_Fill_8_12 : decode prog_22_method_103_code 12 = .ok (.iload_n 1, 1) := by decide +kernel
theorem d_Fill_8_13 : decode prog_22_method_103_code 13 = .ok (.iastore, 1) := by decide +kernel
theorem d_Fill_8_14 : decode prog_22_method_103_code 14 = .ok (.iinc 2 1, 3) := by decide +kernel
theorem d_Fill_8_17 : decode prog_22_method_103_code 17 = .ok (.goto (-12), 3) := by decide +kernel
theorem d_Fill_8_20 : decode prog_22_method_103_code 20 = .ok (.return_, 1) := by decide +kernel
def f_Fill_8_5b (k_5 : pv_S → Int32 → Int32 → Int32 → Option pv_S) (σ : pv_S) (x1 : Int32) (x2 : Int32) (x3 : Int32) : Option pv_S :=
  (if x3 ≤ x2 then
  some σ
  else
  (if pv_in x2 38 = true then
k_5 (pv_uI σ 8 (x2).toNatClampNeg x1) x1 (x2 + (1 : Int32)) x3
  else none))
set_option maxHeartbeats 4000000 in
set_option maxRecDepth 100000 in
theorem s_Fill_8_5b {p : Program} {l : Launch} {e : Env} {R : Room} {s : State} {m : MethodId} {args : Array Value} {below : List Frame} {meth : Method} {c : Code} {Q : State → Prop} {D : va_G} {q : Nat → ClassId} {a t : Nat → Nat} {A : Nat → Prop} (C : pv_C p s m args c prog_22_method_103_code 4 "java/util/Arrays" pv_TB D pv_cl (pv_ty q) 52 a A (pv_ZX t A)) (hmv : pv_mv A (pv_ZX t A)) (hRf : 0 ≤ R.frames) (hRl : 0 ≤ R.locals) {out : pv_S} (hret : pv_Rv p l e R s m args below meth c prog_22_method_103_code D pv_cl 52 a (pv_FX q a) A Q out) {k_5 : pv_S → Int32 → Int32 → Int32 → Option pv_S} (hk_5 : ∀ (σ : pv_S) (x1 : Int32) (x2 : Int32) (x3 : Int32) (H : Heap) (locs : List Loc) (ls : Array Slot), k_5 σ x1 x2 x3 = some out → lv_has ls 4 [(0, .ref (a 8)), (1, .int x1), (2, .int x2), (3, .int x3)] → pv_W D pv_cl 52 a (pv_FX q a) σ H → va_S A s.heap H locs → W p l e R s m args below meth c H locs 0 0 Q (F0 m 5 ls [])) {σ : pv_S} {x1 : Int32} {x2 : Int32} {x3 : Int32} {H : Heap} {locs : List Loc} {ls : Array Slot} (hl : lv_has ls 4 [(0, .ref (a 8)), (1, .int x1), (2, .int x2), (3, .int x3)]) (hP : pv_W D pv_cl 52 a (pv_FX q a) σ H) (hS : va_S A s.heap H locs) (hf : f_Fill_8_5b k_5 σ x1 x2 x3 = some out) : W p l e R s m args below meth c H locs 0 0 Q (F0 m 5 ls []) := by
  unfold f_Fill_8_5b at hf
  have hx := C.1
  have hb := C.2.1
  refine lv_iload_n hx hb d_Fill_8_5 rfl (lv_at hl 2 rfl) ?_
  refine lv_iload_n hx hb d_Fill_8_6 rfl (lv_at hl 3 rfl) ?_
  refine lv_icmp_ge (tgt := 20) hx hb d_Fill_8_7 (by decide) (fun h => ?_) (fun h => ?_)
  · have hf := pv_t hf h
    obtain rfl := Option.some.inj hf
    exact hret _ _ _ _ d_Fill_8_20 hP hS
  · have hf := pv_f hf h
    refine lv_aload_n hx hb d_Fill_8_10 rfl (lv_at hl 0 rfl) ?_
    refine lv_iload_n hx hb d_Fill_8_11 rfl (lv_at hl 2 rfl) ?_
    refine lv_iload_n hx hb d_Fill_8_12 rfl (lv_at hl 1 rfl) ?_
    obtain ⟨hg, hf⟩ := pv_g hf
    refine pv_iast C hP hS (t0 := 0) (x := x1) (by decide) (fun f g => (fx_8 _ _ f g)) rfl hg d_Fill_8_13 (fun H locs hP hS => ?_)
    refine lv_iinc (k := 2) (v := (x2 + (1 : Int32))) (lv' := [(2, .int (x2 + (1 : Int32))), (0, .ref (a 8)), (1, .int x1), (3, .int x3)]) hx hb d_Fill_8_14 hl rfl (pv_inc (by decide)) (by decide) rfl (fun ls hl => ?_)
    refine lv_goto (tgt := 5) hx hb d_Fill_8_17 (by decide) ?_
    exact hk_5 _ _ _ _ _ _ _ hf (lv_sub hl [1, 2, 0, 3] rfl) hP hS
def f_Fill_8_5 : Nat → pv_S → Int32 → Int32 → Int32 → Option pv_S
  | 0 => fun _ _ _ _ => none
  | n + 1 => f_Fill_8_5b (f_Fill_8_5 n)
set_option maxHeartbeats 4000000 in
theorem s_Fill_8_5 {p : Program} {l : Launch} {e : Env} {R : Room} {s : State} {m : MethodId} {args : Array Value} {below : List Frame} {meth : Method} {c : Code} {Q : State → Prop} {D : va_G} {q : Nat → ClassId} {a t : Nat → Nat} {A : Nat → Prop} (C : pv_C p s m args c prog_22_method_103_code 4 "java/util/Arrays" pv_TB D pv_cl (pv_ty q) 52 a A (pv_ZX t A)) (hmv : pv_mv A (pv_ZX t A)) (hRf : 0 ≤ R.frames) (hRl : 0 ≤ R.locals) {out : pv_S} (hret : pv_Rv p l e R s m args below meth c prog_22_method_103_code D pv_cl 52 a (pv_FX q a) A Q out) (n : Nat) : ∀ {σ : pv_S} {x1 : Int32} {x2 : Int32} {x3 : Int32} {H : Heap} {locs : List Loc} {ls : Array Slot}, lv_has ls 4 [(0, .ref (a 8)), (1, .int x1), (2, .int x2), (3, .int x3)] → pv_W D pv_cl 52 a (pv_FX q a) σ H → va_S A s.heap H locs → f_Fill_8_5 n σ x1 x2 x3 = some out → W p l e R s m args below meth c H locs 0 0 Q (F0 m 5 ls []) := by
  induction n with
  | zero => intro σ x1 x2 x3 H locs ls hl hP hS hf; cases hf
  | succ n ih => intro σ x1 x2 x3 H locs ls hl hP hS hf; exact s_Fill_8_5b C hmv hRf hRl hret (fun σ x1 x2 x3 H locs ls hf hl hP hS => ih hl hP hS hf) hl hP hS hf
def f_Fill_8_0 (σ : pv_S) (x1 : Int32) : Option pv_S :=
  f_Fill_8_5 pv_fu σ x1 (0 : Int32) (38 : Int32)
set_option maxHeartbeats 4000000 in
set_option maxRecDepth 100000 in
theorem s_Fill_8_0 {p : Program} {l : Launch} {e : Env} {R : Room} {s : State} {m : MethodId} {args : Array Value} {below : List Frame} {meth : Method} {c : Code} {Q : State → Prop} {D : va_G} {q : Nat → ClassId} {a t : Nat → Nat} {A : Nat → Prop} (C : pv_C p s m args c prog_22_method_103_code 4 "java/util/Arrays" pv_TB D pv_cl (pv_ty q) 52 a A (pv_ZX t A)) (hmv : pv_mv A (pv_ZX t A)) (hRf : 0 ≤ R.frames) (hRl : 0 ≤ R.locals) {out : pv_S} (hret : pv_Rv p l e R s m args below meth c prog_22_method_103_code D pv_cl 52 a (pv_FX q a) A Q out) {σ : pv_S} {x1 : Int32} {H : Heap} {locs : List Loc} {ls : Array Slot} (hl : lv_has ls 4 [(0, .ref (a 8)), (1, .int x1)]) (hP : pv_W D pv_cl 52 a (pv_FX q a) σ H) (hS : va_S A s.heap H locs) (hf : f_Fill_8_0 σ x1 = some out) : W p l e R s m args below meth c H locs 0 0 Q (F0 m 0 ls []) := by
  unfold f_Fill_8_0 at hf
  have hx := C.1
  have hb := C.2.1
  refine lv_iconst (v := (0 : Int32)) hx hb d_Fill_8_0 (by decide) ?_
  refine lv_istore_n (lv' := [(2, .int (0 : Int32)), (0, .ref (a 8)), (1, .int x1)]) hx hb d_Fill_8_1 rfl hl (by decide) rfl (fun ls hl => ?_)
  refine lv_aload_n hx hb d_Fill_8_2 rfl (lv_at hl 1 rfl) ?_
  refine pv_alen C hP (t0 := 0) (v := (38 : Int32)) (by decide) (fx_8 _ _ _ _) rfl rfl d_Fill_8_3 ?_
  refine lv_istore_n (lv' := [(3, .int (38 : Int32)), (2, .int (0 : Int32)), (0, .ref (a 8)), (1, .int x1)]) hx hb d_Fill_8_4 rfl hl (by decide) rfl (fun ls hl => ?_)
  exact s_Fill_8_5 C hmv hRf hRl hret pv_fu (lv_sub hl [2, 3, 1, 0] rfl) hP hS hf
def f_Fill_8 (σ : pv_S) (x1 : Int32) : Option pv_S := f_Fill_8_0 σ x1
def rm_Fill_8 : Room := { frames := 0, cells := 0, slots := 0, locals := 0 }
theorem c_Fill_8 {l : Launch} {D : va_G} {q : Nat → ClassId} {a t : Nat → Nat} {A : Nat → Prop} (hD : pv_D 52 a A) (hmv : pv_mv A (pv_ZX t A)) {σ : pv_S} {x1 : Int32} {out : pv_S} (hf : f_Fill_8 σ x1 = some out) : pv_Mv l y_Fill_8 (Cond.code y_Fill_8 prog_22_method_103_code 4 none :: pv_TB) rm_Fill_8 D pv_cl (pv_ty q) 52 a (pv_FX q a) A (pv_ZX t A) [.ref (a 8), .int x1] σ out :=
  pv_ofV (by decide) (Nat.le_of_ble_eq_true rfl) hD (fun p e s m args below meth c Q ls C hret hl hP => s_Fill_8_0 C hmv (Nat.le_refl _) (Nat.le_refl _) hret hl hP va_S.rf hf)
theorem d_Fill_9_0 : decode prog_22_method_103_code 0 = .ok (.iconst 0, 1) := by decide +kernel
theorem d_Fill_9_1 : decode prog_22_method_103_code 1 = .ok (.istore_n 2, 1) := by decide +kernel
theorem d_Fill_9_2 : decode prog_22_method_103_code 2 = .ok (.aload_n 0, 1) := by decide +kernel
theorem d_Fill_9_3 : decode prog_22_method_103_code 3 = .ok (.arraylength, 1) := by decide +kernel
theorem d_Fill_9_4 : decode prog_22_method_103_code 4 = .ok (.istore_n 3, 1) := by decide +kernel
theorem d_Fill_9_5 : decode prog_22_method_103_code 5 = .ok (.iload_n 2, 1) := by decide +kernel
theorem d_Fill_9_6 : decode prog_22_method_103_code 6 = .ok (.iload_n 3, 1) := by decide +kernel
theorem d_Fill_9_7 : decode prog_22_method_103_code 7 = .ok (.if_icmp .ge 13, 3) := by decide +kernel
theorem d_Fill_9_10 : decode prog_22_method_103_code 10 = .ok (.aload_n 0, 1) := by decide +kernel
theorem d_Fill_9_11 : decode prog_22_method_103_code 11 = .ok (.iload_n 2, 1) := by decide +kernel
theorem d_Fill_9_12 : decode prog_22_method_103_code 12 = .ok (.iload_n 1, 1) := by decide +kernel
theorem d_Fill_9_13 : decode prog_22_method_103_code 13 = .ok (.iastore, 1) := by decide +kernel
theorem d_Fill_9_14 : decode prog_22_method_103_code 14 = .ok (.iinc 2 1, 3) := by decide +kernel
theorem d_Fill_9_17 : decode prog_22_method_103_code 17 = .ok (.goto (-12), 3) := by decide +kernel
theorem d_Fill_9_20 : decode prog_22_method_103_code 20 = .ok (.return_, 1) := by decide +kernel
def f_Fill_9_5b (k_5 : pv_S → Int32 → Int32 → Int32 → Option pv_S) (σ : pv_S) (x1 : Int32) (x2 : Int32) (x3 : Int32) : Option pv_S :=
  (if x3 ≤ x2 then
  some σ
  else
  (if pv_in x2 152 = true then
k_5 (pv_uI σ 9 (x2).toNatClampNeg x1) x1 (x2 + (1 : Int32)) x3
  else none))
set_option maxHeartbeats 4000000 in
set_option maxRecDepth 100000 in
theorem s_Fill_9_5b {p : Program} {l : Launch} {e : Env} {R : Room} {s : State} {m : MethodId} {args : Array Value} {below : List Frame} {meth : Method} {c : Code} {Q : State → Prop} {D : va_G} {q : Nat → ClassId} {a t : Nat → Nat} {A : Nat → Prop} (C : pv_C p s m args c prog_22_method_103_code 4 "java/util/Arrays" pv_TB D pv_cl (pv_ty q) 52 a A (pv_ZX t A)) (hmv : pv_mv A (pv_ZX t A)) (hRf : 0 ≤ R.frames) (hRl : 0 ≤ R.locals) {out : pv_S} (hret : pv_Rv p l e R s m args below meth c prog_22_method_103_code D pv_cl 52 a (pv_FX q a) A Q out) {k_5 : pv_S → Int32 → Int32 → Int32 → Option pv_S} (hk_5 : ∀ (σ : pv_S) (x1 : Int32) (x2 : Int32) (x3 : Int32) (H : Heap) (locs : List Loc) (ls : Array Slot), k_5 σ x1 x2 x3 = some out → lv_has ls 4 [(0, .ref (a 9)), (1, .int x1), (2, .int x2), (3, .int x3)] → pv_W D pv_cl 52 a (pv_FX q a) σ H → va_S A s.heap H locs → W p l e R s m args below meth c H locs 0 0 Q (F0 m 5 ls [])) {σ : pv_S} {x1 : Int32} {x2 : Int32} {x3 : Int32} {H : Heap} {locs : List Loc} {ls : Array Slot} (hl : lv_has ls 4 [(0, .ref (a 9)), (1, .int x1), (2, .int x2), (3, .int x3)]) (hP : pv_W D pv_cl 52 a (pv_FX q a) σ H) (hS : va_S A s.heap H locs) (hf : f_Fill_9_5b k_5 σ x1 x2 x3 = some out) : W p l e R s m args below meth c H locs 0 0 Q (F0 m 5 ls []) := by
  unfold f_Fill_9_5b at hf
  have hx := C.1
  have hb := C.2.1
  refine lv_iload_n hx hb d_Fill_9_5 rfl (lv_at hl 2 rfl) ?_
  refine lv_iload_n hx hb d_Fill_9_6 rfl (lv_at hl 3 rfl) ?_
  refine lv_icmp_ge (tgt := 20) hx hb d_Fill_9_7 (by decide) (fun h => ?_) (fun h => ?_)
  · have hf := pv_t hf h
    obtain rfl := Option.some.inj hf
    exact hret _ _ _ _ d_Fill_9_20 hP hS
  · have hf := pv_f hf h
    refine lv_aload_n hx hb d_Fill_9_10 rfl (lv_at hl 0 rfl) ?_
    refine lv_iload_n hx hb d_Fill_9_11 rfl (lv_at hl 2 rfl) ?_
    refine lv_iload_n hx hb d_Fill_9_12 rfl (lv_at hl 1 rfl) ?_
    obtain ⟨hg, hf⟩ := pv_g hf
    refine pv_iast C hP hS (t0 := 0) (x := x1) (by decide) (fun f g => (fx_9 _ _ f g)) rfl hg d_Fill_9_13 (fun H locs hP hS => ?_)
    refine lv_iinc (k := 2) (v := (x2 + (1 : Int32))) (lv' := [(2, .int (x2 + (1 : Int32))), (0, .ref (a 9)), (1, .int x1), (3, .int x3)]) hx hb d_Fill_9_14 hl rfl (pv_inc (by decide)) (by decide) rfl (fun ls hl => ?_)
    refine lv_goto (tgt := 5) hx hb d_Fill_9_17 (by decide) ?_
    exact hk_5 _ _ _ _ _ _ _ hf (lv_sub hl [1, 2, 0, 3] rfl) hP hS
def f_Fill_9_5 : Nat → pv_S → Int32 → Int32 → Int32 → Option pv_S
  | 0 => fun _ _ _ _ => none
  | n + 1 => f_Fill_9_5b (f_Fill_9_5 n)
set_option maxHeartbeats 4000000 in
theorem s_Fill_9_5 {p : Program} {l : Launch} {e : Env} {R : Room} {s : State} {m : MethodId} {args : Array Value} {below : List Frame} {meth : Method} {c : Code} {Q : State → Prop} {D : va_G} {q : Nat → ClassId} {a t : Nat → Nat} {A : Nat → Prop} (C : pv_C p s m args c prog_22_method_103_code 4 "java/util/Arrays" pv_TB D pv_cl (pv_ty q) 52 a A (pv_ZX t A)) (hmv : pv_mv A (pv_ZX t A)) (hRf : 0 ≤ R.frames) (hRl : 0 ≤ R.locals) {out : pv_S} (hret : pv_Rv p l e R s m args below meth c prog_22_method_103_code D pv_cl 52 a (pv_FX q a) A Q out) (n : Nat) : ∀ {σ : pv_S} {x1 : Int32} {x2 : Int32} {x3 : Int32} {H : Heap} {locs : List Loc} {ls : Array Slot}, lv_has ls 4 [(0, .ref (a 9)), (1, .int x1), (2, .int x2), (3, .int x3)] → pv_W D pv_cl 52 a (pv_FX q a) σ H → va_S A s.heap H locs → f_Fill_9_5 n σ x1 x2 x3 = some out → W p l e R s m args below meth c H locs 0 0 Q (F0 m 5 ls []) := by
  induction n with
  | zero => intro σ x1 x2 x3 H locs ls hl hP hS hf; cases hf
  | succ n ih => intro σ x1 x2 x3 H locs ls hl hP hS hf; exact s_Fill_9_5b C hmv hRf hRl hret (fun σ x1 x2 x3 H locs ls hf hl hP hS => ih hl hP hS hf) hl hP hS hf
def f_Fill_9_0 (σ : pv_S) (x1 : Int32) : Option pv_S :=
  f_Fill_9_5 pv_fu σ x1 (0 : Int32) (152 : Int32)
set_option maxHeartbeats 4000000 in
set_option maxRecDepth 100000 in
theorem s_Fill_9_0 {p : Program} {l : Launch} {e : Env} {R : Room} {s : State} {m : MethodId} {args : Array Value} {below : List Frame} {meth : Method} {c : Code} {Q : State → Prop} {D : va_G} {q : Nat → ClassId} {a t : Nat → Nat} {A : Nat → Prop} (C : pv_C p s m args c prog_22_method_103_code 4 "java/util/Arrays" pv_TB D pv_cl (pv_ty q) 52 a A (pv_ZX t A)) (hmv : pv_mv A (pv_ZX t A)) (hRf : 0 ≤ R.frames) (hRl : 0 ≤ R.locals) {out : pv_S} (hret : pv_Rv p l e R s m args below meth c prog_22_method_103_code D pv_cl 52 a (pv_FX q a) A Q out) {σ : pv_S} {x1 : Int32} {H : Heap} {locs : List Loc} {ls : Array Slot} (hl : lv_has ls 4 [(0, .ref (a 9)), (1, .int x1)]) (hP : pv_W D pv_cl 52 a (pv_FX q a) σ H) (hS : va_S A s.heap H locs) (hf : f_Fill_9_0 σ x1 = some out) : W p l e R s m args below meth c H locs 0 0 Q (F0 m 0 ls []) := by
  unfold f_Fill_9_0 at hf
  have hx := C.1
  have hb := C.2.1
  refine lv_iconst (v := (0 : Int32)) hx hb d_Fill_9_0 (by decide) ?_
  refine lv_istore_n (lv' := [(2, .int (0 : Int32)), (0, .ref (a 9)), (1, .int x1)]) hx hb d_Fill_9_1 rfl hl (by decide) rfl (fun ls hl => ?_)
  refine lv_aload_n hx hb d_Fill_9_2 rfl (lv_at hl 1 rfl) ?_
  refine pv_alen C hP (t0 := 0) (v := (152 : Int32)) (by decide) (fx_9 _ _ _ _) rfl rfl d_Fill_9_3 ?_
  refine lv_istore_n (lv' := [(3, .int (152 : Int32)), (2, .int (0 : Int32)), (0, .ref (a 9)), (1, .int x1)]) hx hb d_Fill_9_4 rfl hl (by decide) rfl (fun ls hl => ?_)
  exact s_Fill_9_5 C hmv hRf hRl hret pv_fu (lv_sub hl [2, 3, 1, 0] rfl) hP hS hf
def f_Fill_9 (σ : pv_S) (x1 : Int32) : Option pv_S := f_Fill_9_0 σ x1
def rm_Fill_9 : Room := { frames := 0, cells := 0, slots := 0, locals := 0 }
theorem c_Fill_9 {l : Launch} {D : va_G} {q : Nat → ClassId} {a t : Nat → Nat} {A : Nat → Prop} (hD : pv_D 52 a A) (hmv : pv_mv A (pv_ZX t A)) {σ : pv_S} {x1 : Int32} {out : pv_S} (hf : f_Fill_9 σ x1 = some out) : pv_Mv l y_Fill_9 (Cond.code y_Fill_9 prog_22_method_103_code 4 none :: pv_TB) rm_Fill_9 D pv_cl (pv_ty q) 52 a (pv_FX q a) A (pv_ZX t A) [.ref (a 9), .int x1] σ out :=
  pv_ofV (by decide) (Nat.le_of_ble_eq_true rfl) hD (fun p e s m args below meth c Q ls C hret hl hP => s_Fill_9_0 C hmv (Nat.le_refl _) (Nat.le_refl _) hret hl hP va_S.rf hf)
theorem d_Fill_6_0 : decode prog_22_method_103_code 0 = .ok (.iconst 0, 1) := by decide +kernel
theorem d_Fill_6_1 : decode prog_22_method_103_code 1 = .ok (.istore_n 2, 1) := by decide +kernel
theorem d_Fill_6_2 : decode prog_22_method_103_code 2 = .ok (.aload_n 0, 1) := by decide +kernel
theorem d_Fill_6_3 : decode prog_22_method_103_code 3 = .ok (.arraylength, 1) := by decide +kernel
theorem d_Fill_6_4 : decode prog_22_method_103_code 4 = .ok (.istore_n 3, 1) := by decide +kernel
theorem d_Fill_6_5 : decode prog_22_method_103_code 5 = .ok (.iload_n 2, 1) := by decide +kernel
theorem d_Fill_6_6 : decode prog_22_method_103_code 6 = .ok (.iload_n 3, 1) := by decide +kernel
theorem d_Fill_6_7 : decode prog_22_method_103_code 7 = .ok (.if_icmp .ge 13, 3) := by decide +kernel
theorem d_Fill_6_10 : decode prog_22_method_103_code 10 = .ok (.aload_n 0, 1) := by decide +kernel
theorem d_Fill_6_11 : decode prog_22_method_103_code 11 = .ok (.iload_n 2, 1) := by decide +kernel
theorem d_Fill_6_12 : decode prog_22_method_103_code 12 = .ok (.iload_n 1, 1) := by decide +kernel
theorem d_Fill_6_13 : decode prog_22_method_103_code 13 = .ok (.iastore, 1) := by decide +kernel
theorem d_Fill_6_14 : decode prog_22_method_103_code 14 = .ok (.iinc 2 1, 3) := by decide +kernel
theorem d_Fill_6_17 : decode prog_22_method_103_code 17 = .ok (.goto (-12), 3) := by decide +kernel
theorem d_Fill_6_20 : decode prog_22_method_103_code 20 = .ok (.return_, 1) := by decide +kernel
def f_Fill_6_5b (k_5 : pv_S → Int32 → Int32 → Int32 → Option pv_S) (σ : pv_S) (x1 : Int32) (x2 : Int32) (x3 : Int32) : Option pv_S :=
  (if x3 ≤ x2 then
  some σ
  else
  (if pv_in x2 152 = true then
k_5 (pv_uI σ 6 (x2).toNatClampNeg x1) x1 (x2 + (1 : Int32)) x3
  else none))
set_option maxHeartbeats 4000000 in
set_option maxRecDepth 100000 in
theorem s_Fill_6_5b {p : Program} {l : Launch} {e : Env} {R : Room} {s : State} {m : MethodId} {args : Array Value} {below : List Frame} {meth : Method} {c : Code} {Q : State → Prop} {D : va_G} {q : Nat → ClassId} {a t : Nat → Nat} {A : Nat → Prop} (C : pv_C p s m args c prog_22_method_103_code 4 "java/util/Arrays" pv_TB D pv_cl (pv_ty q) 52 a A (pv_ZX t A)) (hmv : pv_mv A (pv_ZX t A)) (hRf : 0 ≤ R.frames) (hRl : 0 ≤ R.locals) {out : pv_S} (hret : pv_Rv p l e R s m args below meth c prog_22_method_103_code D pv_cl 52 a (pv_FX q a) A Q out) {k_5 : pv_S → Int32 → Int32 → Int32 → Option pv_S} (hk_5 : ∀ (σ : pv_S) (x1 : Int32) (x2 : Int32) (x3 : Int32) (H : Heap) (locs : List Loc) (ls : Array Slot), k_5 σ x1 x2 x3 = some out → lv_has ls 4 [(0, .ref (a 6)), (1, .int x1), (2, .int x2), (3, .int x3)] → pv_W D pv_cl 52 a (pv_FX q a) σ H → va_S A s.heap H locs → W p l e R s m args below meth c H locs 0 0 Q (F0 m 5 ls [])) {σ : pv_S} {x1 : Int32} {x2 : Int32} {x3 : Int32} {H : Heap} {locs : List Loc} {ls : Array Slot} (hl : lv_has ls 4 [(0, .ref (a 6)), (1, .int x1), (2, .int x2), (3, .int x3)]) (hP : pv_W D pv_cl 52 a (pv_FX q a) σ H) (hS : va_S A s.heap H locs) (hf : f_Fill_6_5b k_5 σ x1 x2 x3 = some out) : W p l e R s m args below meth c H locs 0 0 Q (F0 m 5 ls []) := by
  unfold f_Fill_6_5b at hf
  have hx := C.1
  have hb := C.2.1
  refine lv_iload_n hx hb d_Fill_6_5 rfl (lv_at hl 2 rfl) ?_
  refine lv_iload_n hx hb d_Fill_6_6 rfl (lv_at hl 3 rfl) ?_
  refine lv_icmp_ge (tgt := 20) hx hb d_Fill_6_7 (by decide) (fun h => ?_) (fun h => ?_)
  · have hf := pv_t hf h
    obtain rfl := Option.some.inj hf
    exact hret _ _ _ _ d_Fill_6_20 hP hS
  · have hf := pv_f hf h
    refine lv_aload_n hx hb d_Fill_6_10 rfl (lv_at hl 0 rfl) ?_
    refine lv_iload_n hx hb d_Fill_6_11 rfl (lv_at hl 2 rfl) ?_
    refine lv_iload_n hx hb d_Fill_6_12 rfl (lv_at hl 1 rfl) ?_
    obtain ⟨hg, hf⟩ := pv_g hf
    refine pv_iast C hP hS (t0 := 0) (x := x1) (by decide) (fun f g => (fx_6 _ _ f g)) rfl hg d_Fill_6_13 (fun H locs hP hS => ?_)
    refine lv_iinc (k := 2) (v := (x2 + (1 : Int32))) (lv' := [(2, .int (x2 + (1 : Int32))), (0, .ref (a 6)), (1, .int x1), (3, .int x3)]) hx hb d_Fill_6_14 hl rfl (pv_inc (by decide)) (by decide) rfl (fun ls hl => ?_)
    refine lv_goto (tgt := 5) hx hb d_Fill_6_17 (by decide) ?_
    exact hk_5 _ _ _ _ _ _ _ hf (lv_sub hl [1, 2, 0, 3] rfl) hP hS
def f_Fill_6_5 : Nat → pv_S → Int32 → Int32 → Int32 → Option pv_S
  | 0 => fun _ _ _ _ => none
  | n + 1 => f_Fill_6_5b (f_Fill_6_5 n)
set_option maxHeartbeats 4000000 in
theorem s_Fill_6_5 {p : Program} {l : Launch} {e : Env} {R : Room} {s : State} {m : MethodId} {args : Array Value} {below : List Frame} {meth : Method} {c : Code} {Q : State → Prop} {D : va_G} {q : Nat → ClassId} {a t : Nat → Nat} {A : Nat → Prop} (C : pv_C p s m args c prog_22_method_103_code 4 "java/util/Arrays" pv_TB D pv_cl (pv_ty q) 52 a A (pv_ZX t A)) (hmv : pv_mv A (pv_ZX t A)) (hRf : 0 ≤ R.frames) (hRl : 0 ≤ R.locals) {out : pv_S} (hret : pv_Rv p l e R s m args below meth c prog_22_method_103_code D pv_cl 52 a (pv_FX q a) A Q out) (n : Nat) : ∀ {σ : pv_S} {x1 : Int32} {x2 : Int32} {x3 : Int32} {H : Heap} {locs : List Loc} {ls : Array Slot}, lv_has ls 4 [(0, .ref (a 6)), (1, .int x1), (2, .int x2), (3, .int x3)] → pv_W D pv_cl 52 a (pv_FX q a) σ H → va_S A s.heap H locs → f_Fill_6_5 n σ x1 x2 x3 = some out → W p l e R s m args below meth c H locs 0 0 Q (F0 m 5 ls []) := by
  induction n with
  | zero => intro σ x1 x2 x3 H locs ls hl hP hS hf; cases hf
  | succ n ih => intro σ x1 x2 x3 H locs ls hl hP hS hf; exact s_Fill_6_5b C hmv hRf hRl hret (fun σ x1 x2 x3 H locs ls hf hl hP hS => ih hl hP hS hf) hl hP hS hf
def f_Fill_6_0 (σ : pv_S) (x1 : Int32) : Option pv_S :=
  f_Fill_6_5 pv_fu σ x1 (0 : Int32) (152 : Int32)
set_option maxHeartbeats 4000000 in
set_option maxRecDepth 100000 in
theorem s_Fill_6_0 {p : Program} {l : Launch} {e : Env} {R : Room} {s : State} {m : MethodId} {args : Array Value} {below : List Frame} {meth : Method} {c : Code} {Q : State → Prop} {D : va_G} {q : Nat → ClassId} {a t : Nat → Nat} {A : Nat → Prop} (C : pv_C p s m args c prog_22_method_103_code 4 "java/util/Arrays" pv_TB D pv_cl (pv_ty q) 52 a A (pv_ZX t A)) (hmv : pv_mv A (pv_ZX t A)) (hRf : 0 ≤ R.frames) (hRl : 0 ≤ R.locals) {out : pv_S} (hret : pv_Rv p l e R s m args below meth c prog_22_method_103_code D pv_cl 52 a (pv_FX q a) A Q out) {σ : pv_S} {x1 : Int32} {H : Heap} {locs : List Loc} {ls : Array Slot} (hl : lv_has ls 4 [(0, .ref (a 6)), (1, .int x1)]) (hP : pv_W D pv_cl 52 a (pv_FX q a) σ H) (hS : va_S A s.heap H locs) (hf : f_Fill_6_0 σ x1 = some out) : W p l e R s m args below meth c H locs 0 0 Q (F0 m 0 ls []) := by
  unfold f_Fill_6_0 at hf
  have hx := C.1
  have hb := C.2.1
  refine lv_iconst (v := (0 : Int32)) hx hb d_Fill_6_0 (by decide) ?_
  refine lv_istore_n (lv' := [(2, .int (0 : Int32)), (0, .ref (a 6)), (1, .int x1)]) hx hb d_Fill_6_1 rfl hl (by decide) rfl (fun ls hl => ?_)
  refine lv_aload_n hx hb d_Fill_6_2 rfl (lv_at hl 1 rfl) ?_
  refine pv_alen C hP (t0 := 0) (v := (152 : Int32)) (by decide) (fx_6 _ _ _ _) rfl rfl d_Fill_6_3 ?_
  refine lv_istore_n (lv' := [(3, .int (152 : Int32)), (2, .int (0 : Int32)), (0, .ref (a 6)), (1, .int x1)]) hx hb d_Fill_6_4 rfl hl (by decide) rfl (fun ls hl => ?_)
  exact s_Fill_6_5 C hmv hRf hRl hret pv_fu (lv_sub hl [2, 3, 1, 0] rfl) hP hS hf
def f_Fill_6 (σ : pv_S) (x1 : Int32) : Option pv_S := f_Fill_6_0 σ x1
def rm_Fill_6 : Room := { frames := 0, cells := 0, slots := 0, locals := 0 }
theorem c_Fill_6 {l : Launch} {D : va_G} {q : Nat → ClassId} {a t : Nat → Nat} {A : Nat → Prop} (hD : pv_D 52 a A) (hmv : pv_mv A (pv_ZX t A)) {σ : pv_S} {x1 : Int32} {out : pv_S} (hf : f_Fill_6 σ x1 = some out) : pv_Mv l y_Fill_6 (Cond.code y_Fill_6 prog_22_method_103_code 4 none :: pv_TB) rm_Fill_6 D pv_cl (pv_ty q) 52 a (pv_FX q a) A (pv_ZX t A) [.ref (a 6), .int x1] σ out :=
  pv_ofV (by decide) (Nat.le_of_ble_eq_true rfl) hD (fun p e s m args below meth c Q ls C hret hl hP => s_Fill_6_0 C hmv (Nat.le_refl _) (Nat.le_refl _) hret hl hP va_S.rf hf)
theorem d_Fill_23_0 : decode prog_22_method_103_code 0 = .ok (.iconst 0, 1) := by decide +kernel
theorem d_Fill_23_1 : decode prog_22_method_103_code 1 = .ok (.istore_n 2, 1) := by decide +kernel
theorem d_Fill_23_2 : decode prog_22_method_103_code 2 = .ok (.aload_n 0, 1) := by decide +kernel
theorem d_Fill_23_3 : decode prog_22_method_103_code 3 = .ok (.arraylength, 1) := by decide +kernel
theorem d_Fill_23_4 : decode prog_22_method_103_code 4 = .ok (.istore_n 3, 1) := by decide +kernel
theorem d_Fill_23_5 : decode prog_22_method_103_code 5 = .ok (.iload_n 2, 1) := by decide +kernel
theorem d_Fill_23_6 : decode prog_22_method_103_code 6 = .ok (.iload_n 3, 1) := by decide +kernel
theorem d_Fill_23_7 : decode prog_22_method_103_code 7 = .ok (.if_icmp .ge 13, 3) := by decide +kernel
theorem d_Fill_23_10 : decode prog_22_method_103_code 10 = .ok (.aload_n 0, 1) := by decide +kernel
theorem d_Fill_23_11 : decode prog_22_method_103_code 11 = .ok (.iload_n 2, 1) := by decide +kernel
theorem d_Fill_23_12 : decode prog_22_method_103_code 12 = .ok (.iload_n 1, 1) := by decide +kernel
theorem d_Fill_23_13 : decode prog_22_method_103_code 13 = .ok (.iastore, 1) := by decide +kernel
theorem d_Fill_23_14 : decode prog_22_method_103_code 14 = .ok (.iinc 2 1, 3) := by decide +kernel
theorem d_Fill_23_17 : decode prog_22_method_103_code 17 = .ok (.goto (-12), 3) := by decide +kernel
theorem d_Fill_23_20 : decode prog_22_method_103_code 20 = .ok (.return_, 1) := by decide +kernel
def f_Fill_23_5b (k_5 : pv_S → Int32 → Int32 → Int32 → Option pv_S) (σ : pv_S) (x1 : Int32) (x2 : Int32) (x3 : Int32) : Option pv_S :=
  (if x3 ≤ x2 then
  some σ
  else
  (if pv_in x2 24 = true then
k_5 (pv_uI σ 23 (x2).toNatClampNeg x1) x1 (x2 + (1 : Int32)) x3
  else none))
set_option maxHeartbeats 4000000 in
set_option maxRecDepth 100000 in
theorem s_Fill_23_5b {p : Program} {l : Launch} {e : Env} {R : Room} {s : State} {m : MethodId} {args : Array Value} {below : List Frame} {meth : Method} {c : Code} {Q : State → Prop} {D : va_G} {q : Nat → ClassId} {a t : Nat → Nat} {A : Nat → Prop} (C : pv_C p s m args c prog_22_method_103_code 4 "java/util/Arrays" pv_TB D pv_cl (pv_ty q) 52 a A (pv_ZX t A)) (hmv : pv_mv A (pv_ZX t A)) (hRf : 0 ≤ R.frames) (hRl : 0 ≤ R.locals) {out : pv_S} (hret : pv_Rv p l e R s m args below meth c prog_22_method_103_code D pv_cl 52 a (pv_FX q a) A Q out) {k_5 : pv_S → Int32 → Int32 → Int32 → Option pv_S} (hk_5 : ∀ (σ : pv_S) (x1 : Int32) (x2 : Int32) (x3 : Int32) (H : Heap) (locs : List Loc) (ls : Array Slot), k_5 σ x1 x2 x3 = some out → lv_has ls 4 [(0, .ref (a 23)), (1, .int x1), (2, .int x2), (3, .int x3)] → pv_W D pv_cl 52 a (pv_FX q a) σ H → va_S A s.heap H locs → W p l e R s m args below meth c H locs 0 0 Q (F0 m 5 ls [])) {σ : pv_S} {x1 : Int32} {x2 : Int32} {x3 : Int32} {H : Heap} {locs : List Loc} {ls : Array Slot} (hl : lv_has ls 4 [(0, .ref (a 23)), (1, .int x1), (2, .int x2), (3, .int x3)]) (hP : pv_W D pv_cl 52 a (pv_FX q a) σ H) (hS : va_S A s.heap H locs) (hf : f_Fill_23_5b k_5 σ x1 x2 x3 = some out) : W p l e R s m args below meth c H locs 0 0 Q (F0 m 5 ls []) := by
  unfold f_Fill_23_5b at hf
  have hx := C.1
  have hb := C.2.1
  refine lv_iload_n hx hb d_Fill_23_5 rfl (lv_at hl 2 rfl) ?_
  refine lv_iload_n hx hb d_Fill_23_6 rfl (lv_at hl 3 rfl) ?_
  refine lv_icmp_ge (tgt := 20) hx hb d_Fill_23_7 (by decide) (fun h => ?_) (fun h => ?_)
  · have hf := pv_t hf h
    obtain rfl := Option.some.inj hf
    exact hret _ _ _ _ d_Fill_23_20 hP hS
  · have hf := pv_f hf h
    refine lv_aload_n hx hb d_Fill_23_10 rfl (lv_at hl 0 rfl) ?_
    refine lv_iload_n hx hb d_Fill_23_11 rfl (lv_at hl 2 rfl) ?_
    refine lv_iload_n hx hb d_Fill_23_12 rfl (lv_at hl 1 rfl) ?_
    obtain ⟨hg, hf⟩ := pv_g hf
    refine pv_iast C hP hS (t0 := 0) (x := x1) (by decide) (fun f g => (fx_23 _ _ f g)) rfl hg d_Fill_23_13 (fun H locs hP hS => ?_)
    refine lv_iinc (k := 2) (v := (x2 + (1 : Int32))) (lv' := [(2, .int (x2 + (1 : Int32))), (0, .ref (a 23)), (1, .int x1), (3, .int x3)]) hx hb d_Fill_23_14 hl rfl (pv_inc (by decide)) (by decide) rfl (fun ls hl => ?_)
    refine lv_goto (tgt := 5) hx hb d_Fill_23_17 (by decide) ?_
    exact hk_5 _ _ _ _ _ _ _ hf (lv_sub hl [1, 2, 0, 3] rfl) hP hS
def f_Fill_23_5 : Nat → pv_S → Int32 → Int32 → Int32 → Option pv_S
  | 0 => fun _ _ _ _ => none
  | n + 1 => f_Fill_23_5b (f_Fill_23_5 n)
set_option maxHeartbeats 4000000 in
theorem s_Fill_23_5 {p : Program} {l : Launch} {e : Env} {R : Room} {s : State} {m : MethodId} {args : Array Value} {below : List Frame} {meth : Method} {c : Code} {Q : State → Prop} {D : va_G} {q : Nat → ClassId} {a t : Nat → Nat} {A : Nat → Prop} (C : pv_C p s m args c prog_22_method_103_code 4 "java/util/Arrays" pv_TB D pv_cl (pv_ty q) 52 a A (pv_ZX t A)) (hmv : pv_mv A (pv_ZX t A)) (hRf : 0 ≤ R.frames) (hRl : 0 ≤ R.locals) {out : pv_S} (hret : pv_Rv p l e R s m args below meth c prog_22_method_103_code D pv_cl 52 a (pv_FX q a) A Q out) (n : Nat) : ∀ {σ : pv_S} {x1 : Int32} {x2 : Int32} {x3 : Int32} {H : Heap} {locs : List Loc} {ls : Array Slot}, lv_has ls 4 [(0, .ref (a 23)), (1, .int x1), (2, .int x2), (3, .int x3)] → pv_W D pv_cl 52 a (pv_FX q a) σ H → va_S A s.heap H locs → f_Fill_23_5 n σ x1 x2 x3 = some out → W p l e R s m args below meth c H locs 0 0 Q (F0 m 5 ls []) := by
  induction n with
  | zero => intro σ x1 x2 x3 H locs ls hl hP hS hf; cases hf
  | succ n ih => intro σ x1 x2 x3 H locs ls hl hP hS hf; exact s_Fill_23_5b C hmv hRf hRl hret (fun σ x1 x2 x3 H locs ls hf hl hP hS => ih hl hP hS hf) hl hP hS hf
def f_Fill_23_0 (σ : pv_S) (x1 : Int32) : Option pv_S :=
  f_Fill_23_5 pv_fu σ x1 (0 : Int32) (24 : Int32)
set_option maxHeartbeats 4000000 in
set_option maxRecDepth 100000 in
theorem s_Fill_23_0 {p : Program} {l : Launch} {e : Env} {R : Room} {s : State} {m : MethodId} {args : Array Value} {below : List Frame} {meth : Method} {c : Code} {Q : State → Prop} {D : va_G} {q : Nat → ClassId} {a t : Nat → Nat} {A : Nat → Prop} (C : pv_C p s m args c prog_22_method_103_code 4 "java/util/Arrays" pv_TB D pv_cl (pv_ty q) 52 a A (pv_ZX t A)) (hmv : pv_mv A (pv_ZX t A)) (hRf : 0 ≤ R.frames) (hRl : 0 ≤ R.locals) {out : pv_S} (hret : pv_Rv p l e R s m args below meth c prog_22_method_103_code D pv_cl 52 a (pv_FX q a) A Q out) {σ : pv_S} {x1 : Int32} {H : Heap} {locs : List Loc} {ls : Array Slot} (hl : lv_has ls 4 [(0, .ref (a 23)), (1, .int x1)]) (hP : pv_W D pv_cl 52 a (pv_FX q a) σ H) (hS : va_S A s.heap H locs) (hf : f_Fill_23_0 σ x1 = some out) : W p l e R s m args below meth c H locs 0 0 Q (F0 m 0 ls []) := by
  unfold f_Fill_23_0 at hf
  have hx := C.1
  have hb := C.2.1
  refine lv_iconst (v := (0 : Int32)) hx hb d_Fill_23_0 (by decide) ?_
  refine lv_istore_n (lv' := [(2, .int (0 : Int32)), (0, .ref (a 23)), (1, .int x1)]) hx hb d_Fill_23_1 rfl hl (by decide) rfl (fun ls hl => ?_)
  refine lv_aload_n hx hb d_Fill_23_2 rfl (lv_at hl 1 rfl) ?_
  refine pv_alen C hP (t0 := 0) (v := (24 : Int32)) (by decide) (fx_23 _ _ _ _) rfl rfl d_Fill_23_3 ?_
  refine lv_istore_n (lv' := [(3, .int (24 : Int32)), (2, .int (0 : Int32)), (0, .ref (a 23)), (1, .int x1)]) hx hb d_Fill_23_4 rfl hl (by decide) rfl (fun ls hl => ?_)
  exact s_Fill_23_5 C hmv hRf hRl hret pv_fu (lv_sub hl [2, 3, 1, 0] rfl) hP hS hf
def f_Fill_23 (σ : pv_S) (x1 : Int32) : Option pv_S := f_Fill_23_0 σ x1
def rm_Fill_23 : Room := { frames := 0, cells := 0, slots := 0, locals := 0 }
theorem c_Fill_23 {l : Launch} {D : va_G} {q : Nat → ClassId} {a t : Nat → Nat} {A : Nat → Prop} (hD : pv_D 52 a A) (hmv : pv_mv A (pv_ZX t A)) {σ : pv_S} {x1 : Int32} {out : pv_S} (hf : f_Fill_23 σ x1 = some out) : pv_Mv l y_Fill_23 (Cond.code y_Fill_23 prog_22_method_103_code 4 none :: pv_TB) rm_Fill_23 D pv_cl (pv_ty q) 52 a (pv_FX q a) A (pv_ZX t A) [.ref (a 23), .int x1] σ out :=
  pv_ofV (by decide) (Nat.le_of_ble_eq_true rfl) hD (fun p e s m args below meth c Q ls C hret hl hP => s_Fill_23_0 C hmv (Nat.le_refl _) (Nat.le_refl _) hret hl hP va_S.rf hf)
theorem d_Fill_24_0 : decode prog_22_method_103_code 0 = .ok (.iconst 0, 1) := by decide +kernel
theorem d_Fill_24_1 : decode prog_22_method_103_code 1 = .ok (.istore_n 2, 1) := by decide +kernel
theorem d_Fill_24_2 : decode prog_22_method_103_code 2 = .ok (.aload_n 0, 1) := by decide +kernel
theorem d_Fill_24_3 : decode prog_22_method_103_code 3 = .ok (.arraylength, 1) := by decide +kernel
theorem d_Fill_24_4 : decode prog_22_method_103_code 4 = .ok (.istore_n 3, 1) := by decide +kernel
theorem d_Fill_24_5 : decode prog_22_method_103_code 5 = .ok (.iload_n 2, 1) := by decide +kernel
theorem d_Fill_24_6 : decode prog_22_method_103_code 6 = .ok (.iload_n 3, 1) := by decide +kernel
theorem d_Fill_24_7 : decode prog_22_method_103_code 7 = .ok (.if_icmp .ge 13, 3) := by decide +kernel
theorem d_Fill_24_10 : decode prog_22_method_103_code 10 = .ok (.aload_n 0, 1) := by decide +kernel
theorem d_Fill_24_11 : decode prog_22_method_103_code 11 = .ok (.iload_n 2, 1) := by decide +kernel
theorem d_Fill_24_12 : decode prog_22_method_103_code 12 = .ok (.iload_n 1, 1) := by decide +kernel
theorem d_Fill_24_13 : decode prog_22_method_103_code 13 = .ok (.iastore, 1) := by decide +kernel
theorem d_Fill_24_14 : decode prog_22_method_103_code 14 = .ok (.iinc 2 1, 3) := by decide +kernel
theorem d_Fill_24_17 : decode prog_22_method_103_code 17 = .ok (.goto (-12), 3) := by decide +kernel
theorem d_Fill_24_20 : decode prog_22_method_103_code 20 = .ok (.return_, 1) := by decide +kernel
def f_Fill_24_5b (k_5 : pv_S → Int32 → Int32 → Int32 → Option pv_S) (σ : pv_S) (x1 : Int32) (x2 : Int32) (x3 : Int32) : Option pv_S :=
  (if x3 ≤ x2 then
  some σ
  else
  (if pv_in x2 24 = true then
k_5 (pv_uI σ 24 (x2).toNatClampNeg x1) x1 (x2 + (1 : Int32)) x3
  else none))
set_option maxHeartbeats 4000000 in
set_option maxRecDepth 100000 in
theorem s_Fill_24_5b {p : Program} {l : Launch} {e : Env} {R : Room} {s : State} {m : MethodId} {args : Array Value} {below : List Frame} {meth : Method} {c : Code} {Q : State → Prop} {D : va_G} {q : Nat → ClassId} {a t : Nat → Nat} {A : Nat → Prop} (C : pv_C p s m args c prog_22_method_103_code 4 "java/util/Arrays" pv_TB D pv_cl (pv_ty q) 52 a A (pv_ZX t A)) (hmv : pv_mv A (pv_ZX t A)) (hRf : 0 ≤ R.frames) (hRl : 0 ≤ R.locals) {out : pv_S} (hret : pv_Rv p l e R s m args below meth c prog_22_method_103_code D pv_cl 52 a (pv_FX q a) A Q out) {k_5 : pv_S → Int32 → Int32 → Int32 → Option pv_S} (hk_5 : ∀ (σ : pv_S) (x1 : Int32) (x2 : Int32) (x3 : Int32) (H : Heap) (locs : List Loc) (ls : Array Slot), k_5 σ x1 x2 x3 = some out → lv_has ls 4 [(0, .ref (a 24)), (1, .int x1), (2, .int x2), (3, .int x3)] → pv_W D pv_cl 52 a (pv_FX q a) σ H → va_S A s.heap H locs → W p l e R s m args below meth c H locs 0 0 Q (F0 m 5 ls [])) {σ : pv_S} {x1 : Int32} {x2 : Int32} {x3 : Int32} {H : Heap} {locs : List Loc} {ls : Array Slot} (hl : lv_has ls 4 [(0, .ref (a 24)), (1, .int x1), (2, .int x2), (3, .int x3)]) (hP : pv_W D pv_cl 52 a (pv_FX q a) σ H) (hS : va_S A s.heap H locs) (hf : f_Fill_24_5b k_5 σ x1 x2 x3 = some out) : W p l e R s m args below meth c H locs 0 0 Q (F0 m 5 ls []) := by
  unfold f_Fill_24_5b at hf
  have hx := C.1
  have hb := C.2.1
  refine lv_iload_n hx hb d_Fill_24_5 rfl (lv_at hl 2 rfl) ?_
  refine lv_iload_n hx hb d_Fill_24_6 rfl (lv_at hl 3 rfl) ?_
  refine lv_icmp_ge (tgt := 20) hx hb d_Fill_24_7 (by decide) (fun h => ?_) (fun h => ?_)
  · have hf := pv_t hf h
    obtain rfl := Option.some.inj hf
    exact hret _ _ _ _ d_Fill_24_20 hP hS
  · have hf := pv_f hf h
    refine lv_aload_n hx hb d_Fill_24_10 rfl (lv_at hl 0 rfl) ?_
    refine lv_iload_n hx hb d_Fill_24_11 rfl (lv_at hl 2 rfl) ?_
    refine lv_iload_n hx hb d_Fill_24_12 rfl (lv_at hl 1 rfl) ?_
    obtain ⟨hg, hf⟩ := pv_g hf
    refine pv_iast C hP hS (t0 := 0) (x := x1) (by decide) (fun f g => (fx_24 _ _ f g)) rfl hg d_Fill_24_13 (fun H locs hP hS => ?_)
    refine lv_iinc (k := 2) (v := (x2 + (1 : Int32))) (lv' := [(2, .int (x2 + (1 : Int32))), (0, .ref (a 24)), (1, .int x1), (3, .int x3)]) hx hb d_Fill_24_14 hl rfl (pv_inc (by decide)) (by decide) rfl (fun ls hl => ?_)
    refine lv_goto (tgt := 5) hx hb d_Fill_24_17 (by decide) ?_
    exact hk_5 _ _ _ _ _ _ _ hf (lv_sub hl [1, 2, 0, 3] rfl) hP hS
def f_Fill_24_5 : Nat → pv_S → Int32 → Int32 → Int32 → Option pv_S
  | 0 => fun _ _ _ _ => none
  | n + 1 => f_Fill_24_5b (f_Fill_24_5 n)
set_option maxHeartbeats 4000000 in
theorem s_Fill_24_5 {p : Program} {l : Launch} {e : Env} {R : Room} {s : State} {m : MethodId} {args : Array Value} {below : List Frame} {meth : Method} {c : Code} {Q : State → Prop} {D : va_G} {q : Nat → ClassId} {a t : Nat → Nat} {A : Nat → Prop} (C : pv_C p s m args c prog_22_method_103_code 4 "java/util/Arrays" pv_TB D pv_cl (pv_ty q) 52 a A (pv_ZX t A)) (hmv : pv_mv A (pv_ZX t A)) (hRf : 0 ≤ R.frames) (hRl : 0 ≤ R.locals) {out : pv_S} (hret : pv_Rv p l e R s m args below meth c prog_22_method_103_code D pv_cl 52 a (pv_FX q a) A Q out) (n : Nat) : ∀ {σ : pv_S} {x1 : Int32} {x2 : Int32} {x3 : Int32} {H : Heap} {locs : List Loc} {ls : Array Slot}, lv_has ls 4 [(0, .ref (a 24)), (1, .int x1), (2, .int x2), (3, .int x3)] → pv_W D pv_cl 52 a (pv_FX q a) σ H → va_S A s.heap H locs → f_Fill_24_5 n σ x1 x2 x3 = some out → W p l e R s m args below meth c H locs 0 0 Q (F0 m 5 ls []) := by
  induction n with
  | zero => intro σ x1 x2 x3 H locs ls hl hP hS hf; cases hf
  | succ n ih => intro σ x1 x2 x3 H locs ls hl hP hS hf; exact s_Fill_24_5b C hmv hRf hRl hret (fun σ x1 x2 x3 H locs ls hf hl hP hS => ih hl hP hS hf) hl hP hS hf
def f_Fill_24_0 (σ : pv_S) (x1 : Int32) : Option pv_S :=
  f_Fill_24_5 pv_fu σ x1 (0 : Int32) (24 : Int32)
set_option maxHeartbeats 4000000 in
set_option maxRecDepth 100000 in
theorem s_Fill_24_0 {p : Program} {l : Launch} {e : Env} {R : Room} {s : State} {m : MethodId} {args : Array Value} {below : List Frame} {meth : Method} {c : Code} {Q : State → Prop} {D : va_G} {q : Nat → ClassId} {a t : Nat → Nat} {A : Nat → Prop} (C : pv_C p s m args c prog_22_method_103_code 4 "java/util/Arrays" pv_TB D pv_cl (pv_ty q) 52 a A (pv_ZX t A)) (hmv : pv_mv A (pv_ZX t A)) (hRf : 0 ≤ R.frames) (hRl : 0 ≤ R.locals) {out : pv_S} (hret : pv_Rv p l e R s m args below meth c prog_22_method_103_code D pv_cl 52 a (pv_FX q a) A Q out) {σ : pv_S} {x1 : Int32} {H : Heap} {locs : List Loc} {ls : Array Slot} (hl : lv_has ls 4 [(0, .ref (a 24)), (1, .int x1)]) (hP : pv_W D pv_cl 52 a (pv_FX q a) σ H) (hS : va_S A s.heap H locs) (hf : f_Fill_24_0 σ x1 = some out) : W p l e R s m args below meth c H locs 0 0 Q (F0 m 0 ls []) := by
  unfold f_Fill_24_0 at hf
  have hx := C.1
  have hb := C.2.1
  refine lv_iconst (v := (0 : Int32)) hx hb d_Fill_24_0 (by decide) ?_
  refine lv_istore_n (lv' := [(2, .int (0 : Int32)), (0, .ref (a 24)), (1, .int x1)]) hx hb d_Fill_24_1 rfl hl (by decide) rfl (fun ls hl => ?_)
  refine lv_aload_n hx hb d_Fill_24_2 rfl (lv_at hl 1 rfl) ?_
  refine pv_alen C hP (t0 := 0) (v := (24 : Int32)) (by decide) (fx_24 _ _ _ _) rfl rfl d_Fill_24_3 ?_
  refine lv_istore_n (lv' := [(3, .int (24 : Int32)), (2, .int (0 : Int32)), (0, .ref (a 24)), (1, .int x1)]) hx hb d_Fill_24_4 rfl hl (by decide) rfl (fun ls hl => ?_)
  exact s_Fill_24_5 C hmv hRf hRl hret pv_fu (lv_sub hl [2, 3, 1, 0] rfl) hP hS hf
def f_Fill_24 (σ : pv_S) (x1 : Int32) : Option pv_S := f_Fill_24_0 σ x1
def rm_Fill_24 : Room := { frames := 0, cells := 0, slots := 0, locals := 0 }
theorem c_Fill_24 {l : Launch} {D : va_G} {q : Nat → ClassId} {a t : Nat → Nat} {A : Nat → Prop} (hD : pv_D 52 a A) (hmv : pv_mv A (pv_ZX t A)) {σ : pv_S} {x1 : Int32} {out : pv_S} (hf : f_Fill_24 σ x1 = some out) : pv_Mv l y_Fill_24 (Cond.code y_Fill_24 prog_22_method_103_code 4 none :: pv_TB) rm_Fill_24 D pv_cl (pv_ty q) 52 a (pv_FX q a) A (pv_ZX t A) [.ref (a 24), .int x1] σ out :=
  pv_ofV (by decide) (Nat.le_of_ble_eq_true rfl) hD (fun p e s m args below meth c Q ls C hret hl hP => s_Fill_24_0 C hmv (Nat.le_refl _) (Nat.le_refl _) hret hl hP va_S.rf hf)
theorem d_Fill_v4_0 : decode prog_22_method_103_code 0 = .ok (.iconst 0, 1) := by decide +kernel
theorem d_Fill_v4_1 : decode prog_22_method_103_code 1 = .ok (.istore_n 2, 1) := by decide +kernel
theorem d_Fill_v4_2 : decode prog_22_method_103_code 2 = .ok (.aload_n 0, 1) := by decide +kernel
theorem d_Fill_v4_3 : decode prog_22_method_103_code 3 = .ok (.arraylength, 1) := by decide +kernel
theorem d_Fill_v4_4 : decode prog_22_method_103_code 4 = .ok (.istore_n 3, 1) := by decide +kernel
theorem d_Fill_v4_5 : decode prog_22_method_103_code 5 = .ok (.iload_n 2, 1) := by decide +kernel
theorem d_Fill_v4_6 : decode prog_22_method_103_code 6 = .ok (.iload_n 3, 1) := by decide +kernel
theorem d_Fill_v4_7 : decode prog_22_method_103_code 7 = .ok (.if_icmp .ge 13, 3) := by decide +kernel
theorem d_Fill_v4_10 : decode prog_22_method_103_code 10 = .ok (.aload_n 0, 1) := by decide +kernel
theorem d_Fill_v4_11 : decode prog_22_method_103_code 11 = .ok (.iload_n 2, 1) := by decide +kernel
theorem d_Fill_v4_12 : decode prog_22_method_103_code 12 = .ok (.iload_n 1, 1) := by decide +kernel
theorem d_Fill_v4_13 : decode prog_22_method_103_code 13 = .ok (.iastore, 1) := by decide +kernel
theorem d_Fill_v4_14 : decode prog_22_method_103_code 14 = .ok (.iinc 2 1, 3) := by decide +kernel
theorem d_Fill_v4_17 : decode prog_22_method_103_code 17 = .ok (.goto (-12), 3) := by decide +kernel
theorem d_Fill_v4_20 : decode prog_22_method_103_code 20 = .ok (.return_, 1) := by decide +kernel
def f_Fill_v4_5b (v : Nat) (k_5 : pv_S → Int32 → Int32 → Int32 → Option pv_S) (σ : pv_S) (x1 : Int32) (x2 : Int32) (x3 : Int32) : Option pv_S :=
  (if x3 ≤ x2 then
  some σ
  else
  (if pv_in x2 24 = true then
k_5 (pv_uI σ (28 + 6 * v + 4) (x2).toNatClampNeg x1) x1 (x2 + (1 : Int32)) x3
  else none))
set_option maxHeartbeats 4000000 in
set_option maxRecDepth 100000 in
theorem s_Fill_v4_5b {p : Program} {l : Launch} {e : Env} {R : Room} {s : State} {m : MethodId} {args : Array Value} {below : List Frame} {meth : Method} {c : Code} {Q : State → Prop} {D : va_G} {q : Nat → ClassId} {a t : Nat → Nat} {A : Nat → Prop} {v : Nat} (hv : v < 4) (C : pv_C p s m args c prog_22_method_103_code 4 "java/util/Arrays" pv_TB D pv_cl (pv_ty q) 52 a A (pv_ZX t A)) (hmv : pv_mv A (pv_ZX t A)) (hRf : 0 ≤ R.frames) (hRl : 0 ≤ R.locals) {out : pv_S} (hret : pv_Rv p l e R s m args below meth c prog_22_method_103_code D pv_cl 52 a (pv_FX q a) A Q out) {k_5 : pv_S → Int32 → Int32 → Int32 → Option pv_S} (hk_5 : ∀ (σ : pv_S) (x1 : Int32) (x2 : Int32) (x3 : Int32) (H : Heap) (locs : List Loc) (ls : Array Slot), k_5 σ x1 x2 x3 = some out → lv_has ls 4 [(0, .ref (a (28 + 6 * v + 4))), (1, .int x1), (2, .int x2), (3, .int x3)] → pv_W D pv_cl 52 a (pv_FX q a) σ H → va_S A s.heap H locs → W p l e R s m args below meth c H locs 0 0 Q (F0 m 5 ls [])) {σ : pv_S} {x1 : Int32} {x2 : Int32} {x3 : Int32} {H : Heap} {locs : List Loc} {ls : Array Slot} (hl : lv_has ls 4 [(0, .ref (a (28 + 6 * v + 4))), (1, .int x1), (2, .int x2), (3, .int x3)]) (hP : pv_W D pv_cl 52 a (pv_FX q a) σ H) (hS : va_S A s.heap H locs) (hf : f_Fill_v4_5b v k_5 σ x1 x2 x3 = some out) : W p l e R s m args below meth c H locs 0 0 Q (F0 m 5 ls []) := by
  unfold f_Fill_v4_5b at hf
  have hx := C.1
  have hb := C.2.1
  refine lv_iload_n hx hb d_Fill_v4_5 rfl (lv_at hl 2 rfl) ?_
  refine lv_iload_n hx hb d_Fill_v4_6 rfl (lv_at hl 3 rfl) ?_
  refine lv_icmp_ge (tgt := 20) hx hb d_Fill_v4_7 (by decide) (fun h => ?_) (fun h => ?_)
  · have hf := pv_t hf h
    obtain rfl := Option.some.inj hf
    exact hret _ _ _ _ d_Fill_v4_20 hP hS
  · have hf := pv_f hf h
    refine lv_aload_n hx hb d_Fill_v4_10 rfl (lv_at hl 0 rfl) ?_
    refine lv_iload_n hx hb d_Fill_v4_11 rfl (lv_at hl 2 rfl) ?_
    refine lv_iload_n hx hb d_Fill_v4_12 rfl (lv_at hl 1 rfl) ?_
    obtain ⟨hg, hf⟩ := pv_g hf
    refine pv_iast C hP hS (t0 := 0) (x := x1) (by omega) (fun f g => (fx_v4 hv _ _ f g)) rfl hg d_Fill_v4_13 (fun H locs hP hS => ?_)
    refine lv_iinc (k := 2) (v := (x2 + (1 : Int32))) (lv' := [(2, .int (x2 + (1 : Int32))), (0, .ref (a (28 + 6 * v + 4))), (1, .int x1), (3, .int x3)]) hx hb d_Fill_v4_14 hl rfl (pv_inc (by decide)) (by decide) rfl (fun ls hl => ?_)
    refine lv_goto (tgt := 5) hx hb d_Fill_v4_17 (by decide) ?_
    exact hk_5 _ _ _ _ _ _ _ hf (lv_sub hl [1, 2, 0, 3] rfl) hP hS
def f_Fill_v4_5 (v : Nat) : Nat → pv_S → Int32 → Int32 → Int32 → Option pv_S
  | 0 => fun _ _ _ _ => none
  | n + 1 => f_Fill_v4_5b v (f_Fill_v4_5 v n)
set_option maxHeartbeats 4000000 in
theorem s_Fill_v4_5 {p : Program} {l : Launch} {e : Env} {R : Room} {s : State} {m : MethodId} {args : Array Value} {below : List Frame} {meth : Method} {c : Code} {Q : State → Prop} {D : va_G} {q : Nat → ClassId} {a t : Nat → Nat} {A : Nat → Prop} {v : Nat} (hv : v < 4) (C : pv_C p s m args c prog_22_method_103_code 4 "java/util/Arrays" pv_TB D pv_cl (pv_ty q) 52 a A (pv_ZX t A)) (hmv : pv_mv A (pv_ZX t A)) (hRf : 0 ≤ R.frames) (hRl : 0 ≤ R.locals) {out : pv_S} (hret : pv_Rv p l e R s m args below meth c prog_22_method_103_code D pv_cl 52 a (pv_FX q a) A Q out) (n : Nat) : ∀ {σ : pv_S} {x1 : Int32} {x2 : Int32} {x3 : Int32} {H : Heap} {locs : List Loc} {ls : Array Slot}, lv_has ls 4 [(0, .ref (a (28 + 6 * v + 4))), (1, .int x1), (2, .int x2), (3, .int x3)] → pv_W D pv_cl 52 a (pv_FX q a) σ H → va_S A s.heap H locs → f_Fill_v4_5 v n σ x1 x2 x3 = some out → W p l e R s m args below meth c H locs 0 0 Q (F0 m 5 ls []) := by
  induction n with
  | zero => intro σ x1 x2 x3 H locs ls hl hP hS hf; cases hf
  | succ n ih => intro σ x1 x2 x3 H locs ls hl hP hS hf; exact s_Fill_v4_5b hv C hmv hRf hRl hret (fun σ x1 x2 x3 H locs ls hf hl hP hS => ih hl hP hS hf) hl hP hS hf
def f_Fill_v4_0 (v : Nat) (σ : pv_S) (x1 : Int32) : Option pv_S :=
  f_Fill_v4_5 v pv_fu σ x1 (0 : Int32) (24 : Int32)
set_option maxHeartbeats 4000000 in
set_option maxRecDepth 100000 in
theorem s_Fill_v4_0 {p : Program} {l : Launch} {e : Env} {R : Room} {s : State} {m : MethodId} {args : Array Value} {below : List Frame} {meth : Method} {c : Code} {Q : State → Prop} {D : va_G} {q : Nat → ClassId} {a t : Nat → Nat} {A : Nat → Prop} {v : Nat} (hv : v < 4) (C : pv_C p s m args c prog_22_method_103_code 4 "java/util/Arrays" pv_TB D pv_cl (pv_ty q) 52 a A (pv_ZX t A)) (hmv : pv_mv A (pv_ZX t A)) (hRf : 0 ≤ R.frames) (hRl : 0 ≤ R.locals) {out : pv_S} (hret : pv_Rv p l e R s m args below meth c prog_22_method_103_code D pv_cl 52 a (pv_FX q a) A Q out) {σ : pv_S} {x1 : Int32} {H : Heap} {locs : List Loc} {ls : Array Slot} (hl : lv_has ls 4 [(0, .ref (a (28 + 6 * v + 4))), (1, .int x1)]) (hP : pv_W D pv_cl 52 a (pv_FX q a) σ H) (hS : va_S A s.heap H locs) (hf : f_Fill_v4_0 v σ x1 = some out) : W p l e R s m args below meth c H locs 0 0 Q (F0 m 0 ls []) := by
  unfold f_Fill_v4_0 at hf
  have hx := C.1
  have hb := C.2.1
  refine lv_iconst (v := (0 : Int32)) hx hb d_Fill_v4_0 (by decide) ?_
  refine lv_istore_n (lv' := [(2, .int (0 : Int32)), (0, .ref (a (28 + 6 * v + 4))), (1, .int x1)]) hx hb d_Fill_v4_1 rfl hl (by decide) rfl (fun ls hl => ?_)
  refine lv_aload_n hx hb d_Fill_v4_2 rfl (lv_at hl 1 rfl) ?_
  refine pv_alen C hP (t0 := 0) (v := (24 : Int32)) (by omega) (fx_v4 hv _ _ _ _) rfl rfl d_Fill_v4_3 ?_
  refine lv_istore_n (lv' := [(3, .int (24 : Int32)), (2, .int (0 : Int32)), (0, .ref (a (28 + 6 * v + 4))), (1, .int x1)]) hx hb d_Fill_v4_4 rfl hl (by decide) rfl (fun ls hl => ?_)
  exact s_Fill_v4_5 hv C hmv hRf hRl hret pv_fu (lv_sub hl [2, 3, 1, 0] rfl) hP hS hf
def f_Fill_v4 (v : Nat) (σ : pv_S) (x1 : Int32) : Option pv_S := f_Fill_v4_0 v σ x1
def rm_Fill_v4 : Room := { frames := 0, cells := 0, slots := 0, locals := 0 }
theorem c_Fill_v4 {l : Launch} {D : va_G} {q : Nat → ClassId} {a t : Nat → Nat} {A : Nat → Prop} {v : Nat} (hv : v < 4) (hD : pv_D 52 a A) (hmv : pv_mv A (pv_ZX t A)) {σ : pv_S} {x1 : Int32} {out : pv_S} (hf : f_Fill_v4 v σ x1 = some out) : pv_Mv l y_Fill_v4 (Cond.code y_Fill_v4 prog_22_method_103_code 4 none :: pv_TB) rm_Fill_v4 D pv_cl (pv_ty q) 52 a (pv_FX q a) A (pv_ZX t A) [.ref (a (28 + 6 * v + 4)), .int x1] σ out :=
  pv_ofV (by decide) (Nat.le_of_ble_eq_true rfl) hD (fun p e s m args below meth c Q ls C hret hl hP => s_Fill_v4_0 hv C hmv (Nat.le_refl _) (Nat.le_refl _) hret hl hP va_S.rf hf)
theorem d_Fill_v5_0 : decode prog_22_method_103_code 0 = .ok (.iconst 0, 1) := by decide +kernel
theorem d_Fill_v5_1 : decode prog_22_method_103_code 1 = .ok (.istore_n 2, 1) := by decide +kernel
theorem d_Fill_v5_2 : decode prog_22_method_103_code 2 = .ok (.aload_n 0, 1) := by decide +kernel
theorem d_Fill_v5_3 : decode prog_22_method_103_code 3 = .ok (.arraylength, 1) := by decide +kernel
theorem d_Fill_v5_4 : decode prog_22_method_103_code 4 = .ok (.istore_n 3, 1) := by decide +kernel
theorem d_Fill_v5_5 : decode prog_22_method_103_code 5 = .ok (.iload_n 2, 1) := by decide +kernel
theorem d_Fill_v5_6 : decode prog_22_method_103_code 6 = .ok (.iload_n 3, 1) := by decide +kernel
theorem d_Fill_v5_7 : decode prog_22_method_103_code 7 = .ok (.if_icmp .ge 13, 3) := by decide +kernel
theorem d_Fill_v5_10 : decode prog_22_method_103_code 10 = .ok (.aload_n 0, 1) := by decide +kernel
theorem d_Fill_v5_11 : decode prog_22_method_103_code 11 = .ok (.iload_n 2, 1) := by decide +kernel
theorem d_Fill_v5_12 : decode prog_22_method_103_code 12 = .ok (.iload_n 1, 1) := by decide +kernel
theorem d_Fill_v5_13 : decode prog_22_method_103_code 13 = .ok (.iastore, 1) := by decide +kernel
theorem d_Fill_v5_14 : decode prog_22_method_103_code 14 = .ok (.iinc 2 1, 3) := by decide +kernel
theorem d_Fill_v5_17 : decode prog_22_method_103_code 17 = .ok (.goto (-12), 3) := by decide +kernel
theorem d_Fill_v5_20 : decode prog_22_method_103_code 20 = .ok (.return_, 1) := by decide +kernel
def f_Fill_v5_5b (v : Nat) (k_5 : pv_S → Int32 → Int32 → Int32 → Option pv_S) (σ : pv_S) (x1 : Int32) (x2 : Int32) (x3 : Int32) : Option pv_S :=
  (if x3 ≤ x2 then
  some σ
  else
  (if pv_in x2 128 = true then
k_5 (pv_uI σ (28 + 6 * v + 5) (x2).toNatClampNeg x1) x1 (x2 + (1 : Int32)) x3
  else none))
set_option maxHeartbeats 4000000 in
set_option maxRecDepth 100000 in
theorem s_Fill_v5_5b {p : Program} {l : Launch} {e : Env} {R : Room} {s : State} {m : MethodId} {args : Array Value} {below : List Frame} {meth : Method} {c : Code} {Q : State → Prop} {D : va_G} {q : Nat → ClassId} {a t : Nat → Nat} {A : Nat → Prop} {v : Nat} (hv : v < 4) (C : pv_C p s m args c prog_22_method_103_code 4 "java/util/Arrays" pv_TB D pv_cl (pv_ty q) 52 a A (pv_ZX t A)) (hmv : pv_mv A (pv_ZX t A)) (hRf : 0 ≤ R.frames) (hRl : 0 ≤ R.locals) {out : pv_S} (hret : pv_Rv p l e R s m args below meth c prog_22_method_103_code D pv_cl 52 a (pv_FX q a) A Q out) {k_5 : pv_S → Int32 → Int32 → Int32 → Option pv_S} (hk_5 : ∀ (σ : pv_S) (x1 : Int32) (x2 : Int32) (x3 : Int32) (H : Heap) (locs : List Loc) (ls : Array Slot), k_5 σ x1 x2 x3 = some out → lv_has ls 4 [(0, .ref (a (28 + 6 * v + 5))), (1, .int x1), (2, .int x2), (3, .int x3)] → pv_W D pv_cl 52 a (pv_FX q a) σ H → va_S A s.heap H locs → W p l e R s m args below meth c H locs 0 0 Q (F0 m 5 ls [])) {σ : pv_S} {x1 : Int32} {x2 : Int32} {x3 : Int32} {H : Heap} {locs : List Loc} {ls : Array Slot} (hl : lv_has ls 4 [(0, .ref (a (28 + 6 * v + 5))), (1, .int x1), (2, .int x2), (3, .int x3)]) (hP : pv_W D pv_cl 52 a (pv_FX q a) σ H) (hS : va_S A s.heap H locs) (hf : f_Fill_v5_5b v k_5 σ x1 x2 x3 = some out) : W p l e R s m args below meth c H locs 0 0 Q (F0 m 5 ls []) := by
  unfold f_Fill_v5_5b at hf
  have hx := C.1
  have hb := C.2.1
  refine lv_iload_n hx hb d_Fill_v5_5 rfl (lv_at hl 2 rfl) ?_
  refine lv_iload_n hx hb d_Fill_v5_6 rfl (lv_at hl 3 rfl) ?_
  refine lv_icmp_ge (tgt := 20) hx hb d_Fill_v5_7 (by decide) (fun h => ?_) (fun h => ?_)
  · have hf := pv_t hf h
    obtain rfl := Option.some.inj hf
    exact hret _ _ _ _ d_Fill_v5_20 hP hS
  · have hf := pv_f hf h
    refine lv_aload_n hx hb d_Fill_v5_10 rfl (lv_at hl 0 rfl) ?_
    refine lv_iload_n hx hb d_Fill_v5_11 rfl (lv_at hl 2 rfl) ?_
    refine lv_iload_n hx hb d_Fill_v5_12 rfl (lv_at hl 1 rfl) ?_
    obtain ⟨hg, hf⟩ := pv_g hf
    refine pv_iast C hP hS (t0 := 0) (x := x1) (by omega) (fun f g => (fx_v5 hv _ _ f g)) rfl hg d_Fill_v5_13 (fun H locs hP hS => ?_)
    refine lv_iinc (k := 2) (v := (x2 + (1 : Int32))) (lv' := [(2, .int (x2 + (1 : Int32))), (0, .ref (a (28 + 6 * v + 5))), (1, .int x1), (3, .int x3)]) hx hb d_Fill_v5_14 hl rfl (pv_inc (by decide)) (by decide) rfl (fun ls hl => ?_)
    refine lv_goto (tgt := 5) hx hb d_Fill_v5_17 (by decide) ?_
    exact hk_5 _ _ _ _ _ _ _ hf (lv_sub hl [1, 2, 0, 3] rfl) hP hS
def f_Fill_v5_5 (v : Nat) : Nat → pv_S → Int32 → Int32 → Int32 → Option pv_S
  | 0 => fun _ _ _ _ => none
  | n + 1 => f_Fill_v5_5b v (f_Fill_v5_5 v n)
set_option maxHeartbeats 4000000 in
theorem s_Fill_v5_5 {p : Program} {l : Launch} {e : Env} {R : Room} {s : State} {m : MethodId} {args : Array Value} {below : List Frame} {meth : Method} {c : Code} {Q : State → Prop} {D : va_G} {q : Nat → ClassId} {a t : Nat → Nat} {A : Nat → Prop} {v : Nat} (hv : v < 4) (C : pv_C p s m args c prog_22_method_103_code 4 "java/util/Arrays" pv_TB D pv_cl (pv_ty q) 52 a A (pv_ZX t A)) (hmv : pv_mv A (pv_ZX t A)) (hRf : 0 ≤ R.frames) (hRl : 0 ≤ R.locals) {out : pv_S} (hret : pv_Rv p l e R s m args below meth c prog_22_method_103_code D pv_cl 52 a (pv_FX q a) A Q out) (n : Nat) : ∀ {σ : pv_S} {x1 : Int32} {x2 : Int32} {x3 : Int32} {H : Heap} {locs : List Loc} {ls : Array Slot}, lv_has ls 4 [(0, .ref (a (28 + 6 * v + 5))), (1, .int x1), (2, .int x2), (3, .int x3)] → pv_W D pv_cl 52 a (pv_FX q a) σ H → va_S A s.heap H locs → f_Fill_v5_5 v n σ x1 x2 x3 = some out → W p l e R s m args below meth c H locs 0 0 Q (F0 m 5 ls []) := by
  induction n with
  | zero => intro σ x1 x2 x3 H locs ls hl hP hS hf; cases hf
  | succ n ih => intro σ x1 x2 x3 H locs ls hl hP hS hf; exact s_Fill_v5_5b hv C hmv hRf hRl hret (fun σ x1 x2 x3 H locs ls hf hl hP hS => ih hl hP hS hf) hl hP hS hf
def f_Fill_v5_0 (v : Nat) (σ : pv_S) (x1 : Int32) : Option pv_S :=
  f_Fill_v5_5 v pv_fu σ x1 (0 : Int32) (128 : Int32)
set_option maxHeartbeats 4000000 in
set_option maxRecDepth 100000 in
theorem s_Fill_v5_0 {p : Program} {l : Launch} {e : Env} {R : Room} {s : State} {m : MethodId} {args : Array Value} {below : List Frame} {meth : Method} {c : Code} {Q : State → Prop} {D : va_G} {q : Nat → ClassId} {a t : Nat → Nat} {A : Nat → Prop} {v : Nat} (hv : v < 4) (C : pv_C p s m args c prog_22_method_103_code 4 "java/util/Arrays" pv_TB D pv_cl (pv_ty q) 52 a A (pv_ZX t A)) (hmv : pv_mv A (pv_ZX t A)) (hRf : 0 ≤ R.frames) (hRl : 0 ≤ R.locals) {out : pv_S} (hret : pv_Rv p l e R s m args below meth c prog_22_method_103_code D pv_cl 52 a (pv_FX q a) A Q out) {σ : pv_S} {x1 : Int32} {H : Heap} {locs : List Loc} {ls : Array Slot} (hl : lv_has ls 4 [(0, .ref (a (28 + 6 * v + 5))), (1, .int x1)]) (hP : pv_W D pv_cl 52 a (pv_FX q a) σ H) (hS : va_S A s.heap H locs) (hf : f_Fill_v5_0 v σ x1 = some out) : W p l e R s m args below meth c H locs 0 0 Q (F0 m 0 ls []) := by
  unfold f_Fill_v5_0 at hf
  have hx := C.1
  have hb := C.2.1
  refine lv_iconst (v := (0 : Int32)) hx hb d_Fill_v5_0 (by decide) ?_
  refine lv_istore_n (lv' := [(2, .int (0 : Int32)), (0, .ref (a (28 + 6 * v + 5))), (1, .int x1)]) hx hb d_Fill_v5_1 rfl hl (by decide) rfl (fun ls hl => ?_)
  refine lv_aload_n hx hb d_Fill_v5_2 rfl (lv_at hl 1 rfl) ?_
  refine pv_alen C hP (t0 := 0) (v := (128 : Int32)) (by omega) (fx_v5 hv _ _ _ _) rfl rfl d_Fill_v5_3 ?_
  refine lv_istore_n (lv' := [(3, .int (128 : Int32)), (2, .int (0 : Int32)), (0, .ref (a (28 + 6 * v + 5))), (1, .int x1)]) hx hb d_Fill_v5_4 rfl hl (by decide) rfl (fun ls hl => ?_)
  exact s_Fill_v5_5 hv C hmv hRf hRl hret pv_fu (lv_sub hl [2, 3, 1, 0] rfl) hP hS hf
def f_Fill_v5 (v : Nat) (σ : pv_S) (x1 : Int32) : Option pv_S := f_Fill_v5_0 v σ x1
def rm_Fill_v5 : Room := { frames := 0, cells := 0, slots := 0, locals := 0 }
theorem c_Fill_v5 {l : Launch} {D : va_G} {q : Nat → ClassId} {a t : Nat → Nat} {A : Nat → Prop} {v : Nat} (hv : v < 4) (hD : pv_D 52 a A) (hmv : pv_mv A (pv_ZX t A)) {σ : pv_S} {x1 : Int32} {out : pv_S} (hf : f_Fill_v5 v σ x1 = some out) : pv_Mv l y_Fill_v5 (Cond.code y_Fill_v5 prog_22_method_103_code 4 none :: pv_TB) rm_Fill_v5 D pv_cl (pv_ty q) 52 a (pv_FX q a) A (pv_ZX t A) [.ref (a (28 + 6 * v + 5)), .int x1] σ out :=
  pv_ofV (by decide) (Nat.le_of_ble_eq_true rfl) hD (fun p e s m args below meth c Q ls C hret hl hP => s_Fill_v5_0 hv C hmv (Nat.le_refl _) (Nat.le_refl _) hret hl hP va_S.rf hf)
theorem d_In_numberOfTrailingZeros_0 : decode prog_14_method_48_code 0 = .ok (.iload_n 0, 1) := by decide +kernel
theorem d_In_numberOfTrailingZeros_1 : decode prog_14_method_48_code 1 = .ok (.iconst (-1), 1) := by decide +kernel
theorem d_In_numberOfTrailingZeros_2 : decode prog_14_method_48_code 2 = .ok (.ixor, 1) := by decide +kernel
theorem d_In_numberOfTrailingZeros_3 : decode prog_14_method_48_code 3 = .ok (.iload_n 0, 1) := by decide +kernel
theorem d_In_numberOfTrailingZeros_4 : decode prog_14_method_48_code 4 = .ok (.iconst 1, 1) := by decide +kernel
theorem d_In_numberOfTrailingZeros_5 : decode prog_14_method_48_code 5 = .ok (.isub, 1) := by decide +kernel
theorem d_In_numberOfTrailingZeros_6 : decode prog_14_method_48_code 6 = .ok (.iand, 1) := by decide +kernel
theorem d_In_numberOfTrailingZeros_7 : decode prog_14_method_48_code 7 = .ok (.istore_n 0, 1) := by decide +kernel
theorem d_In_numberOfTrailingZeros_8 : decode prog_14_method_48_code 8 = .ok (.iload_n 0, 1) := by decide +kernel
theorem d_In_numberOfTrailingZeros_9 : decode prog_14_method_48_code 9 = .ok (.ifCond .gt 8, 3) := by decide +kernel
theorem d_In_numberOfTrailingZeros_12 : decode prog_14_method_48_code 12 = .ok (.iload_n 0, 1) := by decide +kernel
theorem d_In_numberOfTrailingZeros_13 : decode prog_14_method_48_code 13 = .ok (.bipush 32, 2) := by decide +kernel
theorem d_In_numberOfTrailingZeros_15 : decode prog_14_method_48_code 15 = .ok (.iand, 1) := by decide +kernel
theorem d_In_numberOfTrailingZeros_16 : decode prog_14_method_48_code 16 = .ok (.ireturn, 1) := by decide +kernel
theorem d_In_numberOfTrailingZeros_17 : decode prog_14_method_48_code 17 = .ok (.iconst 1, 1) := by decide +kernel
theorem d_In_numberOfTrailingZeros_18 : decode prog_14_method_48_code 18 = .ok (.istore_n 1, 1) := by decide +kernel
theorem d_In_numberOfTrailingZeros_19 : decode prog_14_method_48_code 19 = .ok (.iload_n 0, 1) := by decide +kernel
theorem d_In_numberOfTrailingZeros_20 : decode prog_14_method_48_code 20 = .ok (.ldc_w 264, 3) := by decide +kernel
theorem d_In_numberOfTrailingZeros_23 : decode prog_14_method_48_code 23 = .ok (.if_icmp .le 11, 3) := by decide +kernel
theorem d_In_numberOfTrailingZeros_26 : decode prog_14_method_48_code 26 = .ok (.iinc 1 16, 3) := by decide +kernel
theorem d_In_numberOfTrailingZeros_29 : decode prog_14_method_48_code 29 = .ok (.iload_n 0, 1) := by decide +kernel
theorem d_In_numberOfTrailingZeros_30 : decode prog_14_method_48_code 30 = .ok (.bipush 16, 2) := by decide +kernel
theorem d_In_numberOfTrailingZeros_32 : decode prog_14_method_48_code 32 = .ok (.iushr, 1) := by decide +kernel
theorem d_In_numberOfTrailingZeros_33 : decode prog_14_method_48_code 33 = .ok (.istore_n 0, 1) := by decide +kernel
theorem d_In_numberOfTrailingZeros_34 : decode prog_14_method_48_code 34 = .ok (.iload_n 0, 1) := by decide +kernel
theorem d_In_numberOfTrailingZeros_35 : decode prog_14_method_48_code 35 = .ok (.sipush 256, 3) := by decide +kernel
theorem d_In_numberOfTrailingZeros_38 : decode prog_14_method_48_code 38 = .ok (.if_icmp .le 11, 3) := by decide +kernel
theorem d_In_numberOfTrailingZeros_41 : decode prog_14_method_48_code 41 = .ok (.iinc 1 8, 3) := by decide +kernel
theorem d_In_numberOfTrailingZeros_44 : decode prog_14_method_48_code 44 = .ok (.iload_n 0, 1) := by decide +kernel
theorem d_In_numberOfTrailingZeros_45 : decode prog_14_method_48_code 45 = .ok (.bipush 8, 2) := by decide +kernel
theorem d_In_numberOfTrailingZeros_47 : decode prog_14_method_48_code 47 = .ok (.iushr, 1) := by decide +kernel
theorem d_In_numberOfTrailingZeros_48 : decode prog_14_method_48_code 48 = .ok (.istore_n 0, 1) := by decide +kernel
theorem d_In_numberOfTrailingZeros_49 : decode prog_14_method_48_code 49 = .ok (.iload_n 0, 1) := by decide +kernel
theorem d_In_numberOfTrailingZeros_50 : decode prog_14_method_48_code 50 = .ok (.bipush 16, 2) := by decide +kernel
theorem d_In_numberOfTrailingZeros_52 : decode prog_14_method_48_code 52 = .ok (.if_icmp .le 10, 3) := by decide +kernel
theorem d_In_numberOfTrailingZeros_55 : decode prog_14_method_48_code 55 = .ok (.iinc 1 4, 3) := by decide +kernel
theorem d_In_numberOfTrailingZeros_58 : decode prog_14_method_48_code 58 = .ok (.iload_n 0, 1) := by decide +kernel
theorem d_In_numberOfTrailingZeros_59 : decode prog_14_method_48_code 59 = .ok (.iconst 4, 1) := by decide +kernel
theorem d_In_numberOfTrailingZeros_60 : decode prog_14_method_48_code 60 = .ok (.iushr, 1) := by decide +kernel
theorem d_In_numberOfTrailingZeros_61 : decode prog_14_method_48_code 61 = .ok (.istore_n 0, 1) := by decide +kernel
theorem d_In_numberOfTrailingZeros_62 : decode prog_14_method_48_code 62 = .ok (.iload_n 0, 1) := by decide +kernel
theorem d_In_numberOfTrailingZeros_63 : decode prog_14_method_48_code 63 = .ok (.iconst 4, 1) := by decide +kernel
theorem d_In_numberOfTrailingZeros_64 : decode prog_14_method_48_code 64 = .ok (.if_icmp .le 10, 3) := by decide +kernel
theorem d_In_numberOfTrailingZeros_67 : decode prog_14_method_48_code 67 = .ok (.iinc 1 2, 3) := by decide +kernel
theorem d_In_numberOfTrailingZeros_70 : decode prog_14_method_48_code 70 = .ok (.iload_n 0, 1) := by decide +kernel
theorem d_In_numberOfTrailingZeros_71 : decode prog_14_method_48_code 71 = .ok (.iconst 2, 1) := by decide +kernel
theorem d_In_numberOfTrailingZeros_72 : decode prog_14_method_48_code 72 = .ok (.iushr, 1) := by decide +kernel
theorem d_In_numberOfTrailingZeros_73 : decode prog_14_method_48_code 73 = .ok (.istore_n 0, 1) := by decide +kernel
theorem d_In_numberOfTrailingZeros_74 : decode prog_14_method_48_code 74 = .ok (.iload_n 1, 1) := by decide +kernel
theorem d_In_numberOfTrailingZeros_75 : decode prog_14_method_48_code 75 = .ok (.iload_n 0, 1) := by decide +kernel
theorem d_In_numberOfTrailingZeros_76 : decode prog_14_method_48_code 76 = .ok (.iconst 1, 1) := by decide +kernel
theorem d_In_numberOfTrailingZeros_77 : decode prog_14_method_48_code 77 = .ok (.iushr, 1) := by decide +kernel
theorem d_In_numberOfTrailingZeros_78 : decode prog_14_method_48_code 78 = .ok (.iadd, 1) := by decide +kernel
theorem d_In_numberOfTrailingZeros_79 : decode prog_14_method_48_code 79 = .ok (.ireturn, 1) := by decide +kernel
def f_In_numberOfTrailingZeros_62 (σ : pv_S) (x0 : Int32) (x1 : Int32) : Option (Int32 × pv_S) :=
  (if x0 ≤ (4 : Int32) then
  some ((x1 + (((x0).toUInt32 >>> (((1 : Int32)).toUInt32 &&& Int32.toUInt32 31)).toInt32)), σ)
  else
  some (((x1 + (2 : Int32)) + ((((((x0).toUInt32 >>> (((2 : Int32)).toUInt32 &&& Int32.toUInt32 31)).toInt32)).toUInt32 >>> (((1 : Int32)).toUInt32 &&& Int32.toUInt32 31)).toInt32)), σ))
set_option maxHeartbeats 4000000 in
set_option maxRecDepth 100000 in
theorem s_In_numberOfTrailingZeros_62 {p : Program} {l : Launch} {e : Env} {R : Room} {s : State} {m : MethodId} {args : Array Value} {below : List Frame} {meth : Method} {c : Code} {Q : State → Prop} {D : va_G} {q : Nat → ClassId} {a t : Nat → Nat} {A : Nat → Prop} (C : pv_C p s m args c prog_14_method_48_code 2 "java/lang/Integer" pv_TB D pv_cl (pv_ty q) 52 a A (pv_ZX t A)) (hmv : pv_mv A (pv_ZX t A)) (hRf : 0 ≤ R.frames) (hRl : 0 ≤ R.locals) {out : (Int32 × pv_S)} (hret : pv_Ri p l e R s m args below meth c prog_14_method_48_code D pv_cl 52 a (pv_FX q a) A Q out) {σ : pv_S} {x0 : Int32} {x1 : Int32} {H : Heap} {locs : List Loc} {ls : Array Slot} (hl : lv_has ls 2 [(0, .int x0), (1, .int x1)]) (hP : pv_W D pv_cl 52 a (pv_FX q a) σ H) (hS : va_S A s.heap H locs) (hf : f_In_numberOfTrailingZeros_62 σ x0 x1 = some out) : W p l e R s m args below meth c H locs 0 0 Q (F0 m 62 ls []) := by
  unfold f_In_numberOfTrailingZeros_62 at hf
  have hx := C.1
  have hb := C.2.1
  refine lv_iload_n hx hb d_In_numberOfTrailingZeros_62 rfl (lv_at hl 0 rfl) ?_
  refine lv_iconst (v := (4 : Int32)) hx hb d_In_numberOfTrailingZeros_63 (by decide) ?_
  refine lv_icmp_le (tgt := 74) hx hb d_In_numberOfTrailingZeros_64 (by decide) (fun h => ?_) (fun h => ?_)
  · have hf := pv_t hf h
    refine lv_iload_n hx hb d_In_numberOfTrailingZeros_74 rfl (lv_at hl 1 rfl) ?_
    refine lv_iload_n hx hb d_In_numberOfTrailingZeros_75 rfl (lv_at hl 0 rfl) ?_
    refine lv_iconst (v := (1 : Int32)) hx hb d_In_numberOfTrailingZeros_76 (by decide) ?_
    refine lv_iushr (v := ((x0).toUInt32 >>> (((1 : Int32)).toUInt32 &&& Int32.toUInt32 31)).toInt32) hx hb d_In_numberOfTrailingZeros_77 rfl ?_
    refine lv_iadd hx hb d_In_numberOfTrailingZeros_78 ?_
    obtain rfl := Option.some.inj hf
    exact hret _ _ _ _ d_In_numberOfTrailingZeros_79 hP hS
  · have hf := pv_f hf h
    refine lv_iinc (k := 1) (v := (x1 + (2 : Int32))) (lv' := [(1, .int (x1 + (2 : Int32))), (0, .int x0)]) hx hb d_In_numberOfTrailingZeros_67 hl rfl (pv_inc (by decide)) (by decide) rfl (fun ls hl => ?_)
    refine lv_iload_n hx hb d_In_numberOfTrailingZeros_70 rfl (lv_at hl 1 rfl) ?_
    refine lv_iconst (v := (2 : Int32)) hx hb d_In_numberOfTrailingZeros_71 (by decide) ?_
    refine lv_iushr (v := ((x0).toUInt32 >>> (((2 : Int32)).toUInt32 &&& Int32.toUInt32 31)).toInt32) hx hb d_In_numberOfTrailingZeros_72 rfl ?_
    refine lv_istore_n (lv' := [(0, .int (((x0).toUInt32 >>> (((2 : Int32)).toUInt32 &&& Int32.toUInt32 31)).toInt32)), (1, .int (x1 + (2 : Int32)))]) hx hb d_In_numberOfTrailingZeros_73 rfl hl (by decide) rfl (fun ls hl => ?_)
    refine lv_iload_n hx hb d_In_numberOfTrailingZeros_74 rfl (lv_at hl 1 rfl) ?_
    refine lv_iload_n hx hb d_In_numberOfTrailingZeros_75 rfl (lv_at hl 0 rfl) ?_
    refine lv_iconst (v := (1 : Int32)) hx hb d_In_numberOfTrailingZeros_76 (by decide) ?_
    refine lv_iushr (v := (((((x0).toUInt32 >>> (((2 : Int32)).toUInt32 &&& Int32.toUInt32 31)).toInt32)).toUInt32 >>> (((1 : Int32)).toUInt32 &&& Int32.toUInt32 31)).toInt32) hx hb d_In_numberOfTrailingZeros_77 rfl ?_
    refine lv_iadd hx hb d_In_numberOfTrailingZeros_78 ?_
    obtain rfl := Option.some.inj hf
    exact hret _ _ _ _ d_In_numberOfTrailingZeros_79 hP hS
def f_In_numberOfTrailingZeros_49 (σ : pv_S) (x0 : Int32) (x1 : Int32) : Option (Int32 × pv_S) :=
  (if x0 ≤ (16 : Int32) then
  f_In_numberOfTrailingZeros_62 σ x0 x1
  else
  f_In_numberOfTrailingZeros_62 σ (((x0).toUInt32 >>> (((4 : Int32)).toUInt32 &&& Int32.toUInt32 31)).toInt32) (x1 + (4 : Int32)))
set_option maxHeartbeats 4000000 in
set_option maxRecDepth 100000 in
theorem s_In_numberOfTrailingZeros_49 {p : Program} {l : Launch} {e : Env} {R : Room} {s : State} {m : MethodId} {args : Array Value} {below : List Frame} {meth : Method} {c : Code} {Q : State → Prop} {D : va_G} {q : Nat → ClassId} {a t : Nat → Nat} {A : Nat → Prop} (C : pv_C p s m args c prog_14_method_48_code 2 "java/lang/Integer" pv_TB D pv_cl (pv_ty q) 52 a A (pv_ZX t A)) (hmv : pv_mv A (pv_ZX t A)) (hRf : 0 ≤ R.frames) (hRl : 0 ≤ R.locals) {out : (Int32 × pv_S)} (hret : pv_Ri p l e R s m args below meth c prog_14_method_48_code D pv_cl 52 a (pv_FX q a) A Q out) {σ : pv_S} {x0 : Int32} {x1 : Int32} {H : Heap} {locs : List Loc} {ls : Array Slot} (hl : lv_has ls 2 [(0, .int x0), (1, .int x1)]) (hP : pv_W D pv_cl 52 a (pv_FX q a) σ H) (hS : va_S A s.heap H locs) (hf : f_In_numberOfTrailingZeros_49 σ x0 x1 = some out) : W p l e R s m args below meth c H locs 0 0 Q (F0 m 49 ls []) := by
  unfold f_In_numberOfTrailingZeros_49 at hf
  have hx := C.1
  have hb := C.2.1
  refine lv_iload_n hx hb d_In_numberOfTrailingZeros_49 rfl (lv_at hl 0 rfl) ?_
  refine lv_bipush (v := (16 : Int32)) hx hb d_In_numberOfTrailingZeros_50 (by decide) ?_
  refine lv_icmp_le (tgt := 62) hx hb d_In_numberOfTrailingZeros_52 (by decide) (fun h => ?_) (fun h => ?_)
  · have hf := pv_t hf h
    exact s_In_numberOfTrailingZeros_62 C hmv hRf hRl hret (lv_sub hl [0, 1] rfl) hP hS hf
  · have hf := pv_f hf h
    refine lv_iinc (k := 1) (v := (x1 + (4 : Int32))) (lv' := [(1, .int (x1 + (4 : Int32))), (0, .int x0)]) hx hb d_In_numberOfTrailingZeros_55 hl rfl (pv_inc (by decide)) (by decide) rfl (fun ls hl => ?_)
    refine lv_iload_n hx hb d_In_numberOfTrailingZeros_58 rfl (lv_at hl 1 rfl) ?_
    refine lv_iconst (v := (4 : Int32)) hx hb d_In_numberOfTrailingZeros_59 (by decide) ?_
    refine lv_iushr (v := ((x0).toUInt32 >>> (((4 : Int32)).toUInt32 &&& Int32.toUInt32 31)).toInt32) hx hb d_In_numberOfTrailingZeros_60 rfl ?_
    refine lv_istore_n (lv' := [(0, .int (((x0).toUInt32 >>> (((4 : Int32)).toUInt32 &&& Int32.toUInt32 31)).toInt32)), (1, .int (x1 + (4 : Int32)))]) hx hb d_In_numberOfTrailingZeros_61 rfl hl (by decide) rfl (fun ls hl => ?_)
    exact s_In_numberOfTrailingZeros_62 C hmv hRf hRl hret (lv_sub hl [0, 1] rfl) hP hS hf
def f_In_numberOfTrailingZeros_34 (σ : pv_S) (x0 : Int32) (x1 : Int32) : Option (Int32 × pv_S) :=
  (if x0 ≤ (256 : Int32) then
  f_In_numberOfTrailingZeros_49 σ x0 x1
  else
  f_In_numberOfTrailingZeros_49 σ (((x0).toUInt32 >>> (((8 : Int32)).toUInt32 &&& Int32.toUInt32 31)).toInt32) (x1 + (8 : Int32)))
set_option maxHeartbeats 4000000 in
set_option maxRecDepth 100000 in
theorem s_In_numberOfTrailingZeros_34 {p : Program} {l : Launch} {e : Env} {R : Room} {s : State} {m : MethodId} {args : Array Value} {below : List Frame} {meth : Method} {c : Code} {Q : State → Prop} {D : va_G} {q : Nat → ClassId} {a t : Nat → Nat} {A : Nat → Prop} (C : pv_C p s m args c prog_14_method_48_code 2 "java/lang/Integer" pv_TB D pv_cl (pv_ty q) 52 a A (pv_ZX t A)) (hmv : pv_mv A (pv_ZX t A)) (hRf : 0 ≤ R.frames) (hRl : 0 ≤ R.locals) {out : (Int32 × pv_S)} (hret : pv_Ri p l e R s m args below meth c prog_14_method_48_code D pv_cl 52 a (pv_FX q a) A Q out) {σ : pv_S} {x0 : Int32} {x1 : Int32} {H : Heap} {locs : List Loc} {ls : Array Slot} (hl : lv_has ls 2 [(0, .int x0), (1, .int x1)]) (hP : pv_W D pv_cl 52 a (pv_FX q a) σ H) (hS : va_S A s.heap H locs) (hf : f_In_numberOfTrailingZeros_34 σ x0 x1 = some out) : W p l e R s m args below meth c H locs 0 0 Q (F0 m 34 ls []) := by
  unfold f_In_numberOfTrailingZeros_34 at hf
  have hx := C.1
  have hb := C.2.1
  refine lv_iload_n hx hb d_In_numberOfTrailingZeros_34 rfl (lv_at hl 0 rfl) ?_
  refine lv_sipush (v := (256 : Int32)) hx hb d_In_numberOfTrailingZeros_35 (by decide) ?_
  refine lv_icmp_le (tgt := 49) hx hb d_In_numberOfTrailingZeros_38 (by decide) (fun h => ?_) (fun h => ?_)
  · have hf := pv_t hf h
    exact s_In_numberOfTrailingZeros_49 C hmv hRf hRl hret (lv_sub hl [0, 1] rfl) hP hS hf
  · have hf := pv_f hf h
    refine lv_iinc (k := 1) (v := (x1 + (8 : Int32))) (lv' := [(1, .int (x1 + (8 : Int32))), (0, .int x0)]) hx hb d_In_numberOfTrailingZeros_41 hl rfl (pv_inc (by decide)) (by decide) rfl (fun ls hl => ?_)
    refine lv_iload_n hx hb d_In_numberOfTrailingZeros_44 rfl (lv_at hl 1 rfl) ?_
    refine lv_bipush (v := (8 : Int32)) hx hb d_In_numberOfTrailingZeros_45 (by decide) ?_
    refine lv_iushr (v := ((x0).toUInt32 >>> (((8 : Int32)).toUInt32 &&& Int32.toUInt32 31)).toInt32) hx hb d_In_numberOfTrailingZeros_47 rfl ?_
    refine lv_istore_n (lv' := [(0, .int (((x0).toUInt32 >>> (((8 : Int32)).toUInt32 &&& Int32.toUInt32 31)).toInt32)), (1, .int (x1 + (8 : Int32)))]) hx hb d_In_numberOfTrailingZeros_48 rfl hl (by decide) rfl (fun ls hl => ?_)
    exact s_In_numberOfTrailingZeros_49 C hmv hRf hRl hret (lv_sub hl [0, 1] rfl) hP hS hf
def f_In_numberOfTrailingZeros_0 (σ : pv_S) (x0 : Int32) : Option (Int32 × pv_S) :=
  (if 0 < ((x0 ^^^ (-1 : Int32)) &&& (x0 - (1 : Int32))) then
  (if ((x0 ^^^ (-1 : Int32)) &&& (x0 - (1 : Int32))) ≤ (65536 : Int32) then
  f_In_numberOfTrailingZeros_34 σ ((x0 ^^^ (-1 : Int32)) &&& (x0 - (1 : Int32))) (1 : Int32)
  else
  f_In_numberOfTrailingZeros_34 σ (((((x0 ^^^ (-1 : Int32)) &&& (x0 - (1 : Int32)))).toUInt32 >>> (((16 : Int32)).toUInt32 &&& Int32.toUInt32 31)).toInt32) ((1 : Int32) + (16 : Int32)))
  else
  some ((((x0 ^^^ (-1 : Int32)) &&& (x0 - (1 : Int32))) &&& (32 : Int32)), σ))
set_option maxHeartbeats 4000000 in
set_option maxRecDepth 100000 in
theorem s_In_numberOfTrailingZeros_0 {p : Program} {l : Launch} {e : Env} {R : Room} {s : State} {m : MethodId} {args : Array Value} {below : List Frame} {meth : Method} {c : Code} {Q : State → Prop} {D : va_G} {q : Nat → ClassId} {a t : Nat → Nat} {A : Nat → Prop} (C : pv_C p s m args c prog_14_method_48_code 2 "java/lang/Integer" pv_TB D pv_cl (pv_ty q) 52 a A (pv_ZX t A)) (hmv : pv_mv A (pv_ZX t A)) (hRf : 0 ≤ R.frames) (hRl : 0 ≤ R.locals) {out : (Int32 × pv_S)} (hret : pv_Ri p l e R s m args below meth c prog_14_method_48_code D pv_cl 52 a (pv_FX q a) A Q out) {σ : pv_S} {x0 : Int32} {H : Heap} {locs : List Loc} {ls : Array Slot} (hl : lv_has ls 2 [(0, .int x0)]) (hP : pv_W D pv_cl 52 a (pv_FX q a) σ H) (hS : va_S A s.heap H locs) (hf : f_In_numberOfTrailingZeros_0 σ x0 = some out) : W p l e R s m args below meth c H locs 0 0 Q (F0 m 0 ls []) := by
  unfold f_In_numberOfTrailingZeros_0 at hf
  have hx := C.1
  have hb := C.2.1
  refine lv_iload_n hx hb d_In_numberOfTrailingZeros_0 rfl (lv_at hl 0 rfl) ?_
  refine lv_iconst (v := (-1 : Int32)) hx hb d_In_numberOfTrailingZeros_1 (by decide) ?_
  refine lv_ixor hx hb d_In_numberOfTrailingZeros_2 ?_
  refine lv_iload_n hx hb d_In_numberOfTrailingZeros_3 rfl (lv_at hl 0 rfl) ?_
  refine lv_iconst (v := (1 : Int32)) hx hb d_In_numberOfTrailingZeros_4 (by decide) ?_
  refine lv_isub hx hb d_In_numberOfTrailingZeros_5 ?_
  refine lv_iand hx hb d_In_numberOfTrailingZeros_6 ?_
  refine lv_istore_n (lv' := [(0, .int ((x0 ^^^ (-1 : Int32)) &&& (x0 - (1 : Int32))))]) hx hb d_In_numberOfTrailingZeros_7 rfl hl (by decide) rfl (fun ls hl => ?_)
  refine lv_iload_n hx hb d_In_numberOfTrailingZeros_8 rfl (lv_at hl 0 rfl) ?_
  refine lv_if_gt (tgt := 17) hx hb d_In_numberOfTrailingZeros_9 (by decide) (fun h => ?_) (fun h => ?_)
  · have hf := pv_t hf h
    refine lv_iconst (v := (1 : Int32)) hx hb d_In_numberOfTrailingZeros_17 (by decide) ?_
    refine lv_istore_n (lv' := [(1, .int (1 : Int32)), (0, .int ((x0 ^^^ (-1 : Int32)) &&& (x0 - (1 : Int32))))]) hx hb d_In_numberOfTrailingZeros_18 rfl hl (by decide) rfl (fun ls hl => ?_)
    refine lv_iload_n hx hb d_In_numberOfTrailingZeros_19 rfl (lv_at hl 1 rfl) ?_
    refine lv_ldcw (v := (65536 : Int32)) hx hb C.2.2.2.1 (C.2.2.2.2.1 _ w_483) d_In_numberOfTrailingZeros_20 ?_
    refine lv_icmp_le (tgt := 34) hx hb d_In_numberOfTrailingZeros_23 (by decide) (fun h => ?_) (fun h => ?_)
    · have hf := pv_t hf h
      exact s_In_numberOfTrailingZeros_34 C hmv hRf hRl hret (lv_sub hl [1, 0] rfl) hP hS hf
    · have hf := pv_f hf h
      refine lv_iinc (k := 0) (v := ((1 : Int32) + (16 : Int32))) (lv' := [(1, .int ((1 : Int32) + (16 : Int32))), (0, .int ((x0 ^^^ (-1 : Int32)) &&& (x0 - (1 : Int32))))]) hx hb d_In_numberOfTrailingZeros_26 hl rfl (pv_inc (by decide)) (by decide) rfl (fun ls hl => ?_)
      refine lv_iload_n hx hb d_In_numberOfTrailingZeros_29 rfl (lv_at hl 1 rfl) ?_
      refine lv_bipush (v := (16 : Int32)) hx hb d_In_numberOfTrailingZeros_30 (by decide) ?_
      refine lv_iushr (v := ((((x0 ^^^ (-1 : Int32)) &&& (x0 - (1 : Int32)))).toUInt32 >>> (((16 : Int32)).toUInt32 &&& Int32.toUInt32 31)).toInt32) hx hb d_In_numberOfTrailingZeros_32 rfl ?_
      refine lv_istore_n (lv' := [(0, .int (((((x0 ^^^ (-1 : Int32)) &&& (x0 - (1 : Int32)))).toUInt32 >>> (((16 : Int32)).toUInt32 &&& Int32.toUInt32 31)).toInt32)), (1, .int ((1 : Int32) + (16 : Int32)))]) hx hb d_In_numberOfTrailingZeros_33 rfl hl (by decide) rfl (fun ls hl => ?_)
      exact s_In_numberOfTrailingZeros_34 C hmv hRf hRl hret (lv_sub hl [0, 1] rfl) hP hS hf
  · have hf := pv_f hf h
    refine lv_iload_n hx hb d_In_numberOfTrailingZeros_12 rfl (lv_at hl 0 rfl) ?_
    refine lv_bipush (v := (32 : Int32)) hx hb d_In_numberOfTrailingZeros_13 (by decide) ?_
    refine lv_iand hx hb d_In_numberOfTrailingZeros_15 ?_
    obtain rfl := Option.some.inj hf
    exact hret _ _ _ _ d_In_numberOfTrailingZeros_16 hP hS
def f_In_numberOfTrailingZeros (σ : pv_S) (x0 : Int32) : Option (Int32 × pv_S) := f_In_numberOfTrailingZeros_0 σ x0
def rm_In_numberOfTrailingZeros : Room := { frames := 0, cells := 0, slots := 0, locals := 0 }
theorem c_In_numberOfTrailingZeros {l : Launch} {D : va_G} {q : Nat → ClassId} {a t : Nat → Nat} {A : Nat → Prop} (hD : pv_D 52 a A) (hmv : pv_mv A (pv_ZX t A)) {σ : pv_S} {x0 : Int32} {out : (Int32 × pv_S)} (hf : f_In_numberOfTrailingZeros σ x0 = some out) : pv_Mi l y_In_numberOfTrailingZeros (Cond.code y_In_numberOfTrailingZeros prog_14_method_48_code 2 (some .int) :: pv_TB) rm_In_numberOfTrailingZeros D pv_cl (pv_ty q) 52 a (pv_FX q a) A (pv_ZX t A) [.int x0] σ out :=
  pv_ofI (by decide) (Nat.le_of_ble_eq_true rfl) hD (fun p e s m args below meth c Q ls C hret hl hP => s_In_numberOfTrailingZeros_0 C hmv (Nat.le_refl _) (Nat.le_refl _) hret hl hP va_S.rf hf)
