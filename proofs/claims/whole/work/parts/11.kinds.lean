theorem d_Kd_inputsOf_0 : decode prog_2_method_2_code 0 = .ok (.getstatic 7, 3) := by decide +kernel
theorem d_Kd_inputsOf_3 : decode prog_2_method_2_code 3 = .ok (.iload_n 0, 1) := by decide +kernel
theorem d_Kd_inputsOf_4 : decode prog_2_method_2_code 4 = .ok (.iaload, 1) := by decide +kernel
theorem d_Kd_inputsOf_5 : decode prog_2_method_2_code 5 = .ok (.ireturn, 1) := by decide +kernel
def f_Kd_inputsOf_0 (σ : pv_S) (x0 : Int32) : Option (Int32 × pv_S) :=
  (if pv_in x0 20 = true then
some ((pv_INPUTS (x0).toNatClampNeg), σ)
  else none)
set_option maxHeartbeats 4000000 in
set_option maxRecDepth 100000 in
theorem s_Kd_inputsOf_0 {p : Program} {l : Launch} {e : Env} {R : Room} {s : State} {m : MethodId} {args : Array Value} {below : List Frame} {meth : Method} {c : Code} {Q : State → Prop} {D : va_G} {q : Nat → ClassId} {a t : Nat → Nat} {A : Nat → Prop} (C : pv_C p s m args c prog_2_method_2_code 1 "PatchVoices$Kinds" pv_TB D pv_cl (pv_ty q) 52 a A (pv_ZX t A)) (hmv : pv_mv A (pv_ZX t A)) (hRf : 0 ≤ R.frames) (hRl : 0 ≤ R.locals) {out : (Int32 × pv_S)} (hret : pv_Ri p l e R s m args below meth c prog_2_method_2_code D pv_cl 52 a (pv_FX q a) A Q out) {σ : pv_S} {x0 : Int32} {H : Heap} {locs : List Loc} {ls : Array Slot} (hl : lv_has ls 1 [(0, .int x0)]) (hP : pv_W D pv_cl 52 a (pv_FX q a) σ H) (hS : va_S A s.heap H locs) (hf : f_Kd_inputsOf_0 σ x0 = some out) : W p l e R s m args below meth c H locs 0 0 Q (F0 m 0 ls []) := by
  unfold f_Kd_inputsOf_0 at hf
  have hx := C.1
  have hb := C.2.1
  refine pv_sINPUTS C hS w_577 d_Kd_inputsOf_0 ?_
  refine lv_iload_n hx hb d_Kd_inputsOf_3 rfl (lv_at hl 0 rfl) ?_
  obtain ⟨hg, hf⟩ := pv_g hf
  refine pv_tINPUTS C hS hg d_Kd_inputsOf_4 ?_
  obtain rfl := Option.some.inj hf
  exact hret _ _ _ _ d_Kd_inputsOf_5 hP hS
def f_Kd_inputsOf (σ : pv_S) (x0 : Int32) : Option (Int32 × pv_S) := f_Kd_inputsOf_0 σ x0
def rm_Kd_inputsOf : Room := { frames := 0, cells := 0, slots := 0, locals := 0 }
theorem c_Kd_inputsOf {l : Launch} {D : va_G} {q : Nat → ClassId} {a t : Nat → Nat} {A : Nat → Prop} (hD : pv_D 52 a A) (hmv : pv_mv A (pv_ZX t A)) {σ : pv_S} {x0 : Int32} {out : (Int32 × pv_S)} (hf : f_Kd_inputsOf σ x0 = some out) : pv_Mi l y_Kd_inputsOf (Cond.code y_Kd_inputsOf prog_2_method_2_code 1 (some .int) :: pv_TB) rm_Kd_inputsOf D pv_cl (pv_ty q) 52 a (pv_FX q a) A (pv_ZX t A) [.int x0] σ out :=
  pv_ofI (by decide) (Nat.le_of_ble_eq_true rfl) hD (fun p e s m args below meth c Q ls C hret hl hP => s_Kd_inputsOf_0 C hmv (Nat.le_refl _) (Nat.le_refl _) hret hl hP va_S.rf hf)
theorem d_Kd_withLetter_0 : decode prog_2_method_3_code 0 = .ok (.iconst 0, 1) := by decide +kernel
theorem d_Kd_withLetter_1 : decode prog_2_method_3_code 1 = .ok (.istore_n 2, 1) := by decide +kernel
theorem d_Kd_withLetter_2 : decode prog_2_method_3_code 2 = .ok (.iconst 0, 1) := by decide +kernel
theorem d_Kd_withLetter_3 : decode prog_2_method_3_code 3 = .ok (.istore_n 3, 1) := by decide +kernel
theorem d_Kd_withLetter_4 : decode prog_2_method_3_code 4 = .ok (.iload_n 3, 1) := by decide +kernel
theorem d_Kd_withLetter_5 : decode prog_2_method_3_code 5 = .ok (.bipush 20, 2) := by decide +kernel
theorem d_Kd_withLetter_7 : decode prog_2_method_3_code 7 = .ok (.if_icmp .ge 29, 3) := by decide +kernel
theorem d_Kd_withLetter_10 : decode prog_2_method_3_code 10 = .ok (.ldc 13, 2) := by decide +kernel
theorem d_Kd_withLetter_12 : decode prog_2_method_3_code 12 = .ok (.iconst 3, 1) := by decide +kernel
theorem d_Kd_withLetter_13 : decode prog_2_method_3_code 13 = .ok (.iload_n 3, 1) := by decide +kernel
theorem d_Kd_withLetter_14 : decode prog_2_method_3_code 14 = .ok (.imul, 1) := by decide +kernel
theorem d_Kd_withLetter_15 : decode prog_2_method_3_code 15 = .ok (.iload_n 0, 1) := by decide +kernel
theorem d_Kd_withLetter_16 : decode prog_2_method_3_code 16 = .ok (.iadd, 1) := by decide +kernel
theorem d_Kd_withLetter_17 : decode prog_2_method_3_code 17 = .ok (.invokevirtual 15, 3) := by decide +kernel
theorem d_Kd_withLetter_20 : decode prog_2_method_3_code 20 = .ok (.iload_n 1, 1) := by decide +kernel
theorem d_Kd_withLetter_21 : decode prog_2_method_3_code 21 = .ok (.if_icmp .ne 9, 3) := by decide +kernel
theorem d_Kd_withLetter_24 : decode prog_2_method_3_code 24 = .ok (.iload_n 2, 1) := by decide +kernel
theorem d_Kd_withLetter_25 : decode prog_2_method_3_code 25 = .ok (.iconst 1, 1) := by decide +kernel
theorem d_Kd_withLetter_26 : decode prog_2_method_3_code 26 = .ok (.iload_n 3, 1) := by decide +kernel
theorem d_Kd_withLetter_27 : decode prog_2_method_3_code 27 = .ok (.ishl, 1) := by decide +kernel
theorem d_Kd_withLetter_28 : decode prog_2_method_3_code 28 = .ok (.ior, 1) := by decide +kernel
theorem d_Kd_withLetter_29 : decode prog_2_method_3_code 29 = .ok (.istore_n 2, 1) := by decide +kernel
theorem d_Kd_withLetter_30 : decode prog_2_method_3_code 30 = .ok (.iinc 3 1, 3) := by decide +kernel
theorem d_Kd_withLetter_33 : decode prog_2_method_3_code 33 = .ok (.goto (-29), 3) := by decide +kernel
theorem d_Kd_withLetter_36 : decode prog_2_method_3_code 36 = .ok (.iload_n 2, 1) := by decide +kernel
theorem d_Kd_withLetter_37 : decode prog_2_method_3_code 37 = .ok (.ireturn, 1) := by decide +kernel
def f_Kd_withLetter_30 (k_4 : pv_S → Int32 → Int32 → Int32 → Int32 → Option (Int32 × pv_S)) (σ : pv_S) (x0 : Int32) (x1 : Int32) (x2 : Int32) (x3 : Int32) : Option (Int32 × pv_S) :=
  k_4 σ x0 x1 x2 (x3 + (1 : Int32))
set_option maxHeartbeats 4000000 in
set_option maxRecDepth 100000 in
theorem s_Kd_withLetter_30 {p : Program} {l : Launch} {e : Env} {R : Room} {s : State} {m : MethodId} {args : Array Value} {below : List Frame} {meth : Method} {c : Code} {Q : State → Prop} {D : va_G} {q : Nat → ClassId} {a t : Nat → Nat} {A : Nat → Prop} (C : pv_C p s m args c prog_2_method_3_code 4 "PatchVoices$Kinds" pv_TB D pv_cl (pv_ty q) 52 a A (pv_ZX t A)) (hmv : pv_mv A (pv_ZX t A)) (hRf : 4 ≤ R.frames) (hRl : 85 ≤ R.locals) {out : (Int32 × pv_S)} (hret : pv_Ri p l e R s m args below meth c prog_2_method_3_code D pv_cl 52 a (pv_FX q a) A Q out) {k_4 : pv_S → Int32 → Int32 → Int32 → Int32 → Option (Int32 × pv_S)} (hk_4 : ∀ (σ : pv_S) (x0 : Int32) (x1 : Int32) (x2 : Int32) (x3 : Int32) (H : Heap) (locs : List Loc) (ls : Array Slot), k_4 σ x0 x1 x2 x3 = some out → lv_has ls 4 [(0, .int x0), (1, .int x1), (2, .int x2), (3, .int x3)] → pv_W D pv_cl 52 a (pv_FX q a) σ H → va_S A s.heap H locs → W p l e R s m args below meth c H locs 0 0 Q (F0 m 4 ls [])) {σ : pv_S} {x0 : Int32} {x1 : Int32} {x2 : Int32} {x3 : Int32} {H : Heap} {locs : List Loc} {ls : Array Slot} (hl : lv_has ls 4 [(0, .int x0), (1, .int x1), (2, .int x2), (3, .int x3)]) (hP : pv_W D pv_cl 52 a (pv_FX q a) σ H) (hS : va_S A s.heap H locs) (hf : f_Kd_withLetter_30 k_4 σ x0 x1 x2 x3 = some out) : W p l e R s m args below meth c H locs 0 0 Q (F0 m 30 ls []) := by
  unfold f_Kd_withLetter_30 at hf
  have hx := C.1
  have hb := C.2.1
  refine lv_iinc (k := 3) (v := (x3 + (1 : Int32))) (lv' := [(3, .int (x3 + (1 : Int32))), (0, .int x0), (1, .int x1), (2, .int x2)]) hx hb d_Kd_withLetter_30 hl rfl (pv_inc (by decide)) (by decide) rfl (fun ls hl => ?_)
  refine lv_goto (tgt := 4) hx hb d_Kd_withLetter_33 (by decide) ?_
  exact hk_4 _ _ _ _ _ _ _ _ hf (lv_sub hl [1, 2, 3, 0] rfl) hP hS
def f_Kd_withLetter_4b (k_4 : pv_S → Int32 → Int32 → Int32 → Int32 → Option (Int32 × pv_S)) (σ : pv_S) (x0 : Int32) (x1 : Int32) (x2 : Int32) (x3 : Int32) : Option (Int32 × pv_S) :=
  (if (20 : Int32) ≤ x3 then
  some (x2, σ)
  else
  (if pv_in (((3 : Int32) * x3) + x0) 60 = true then
(if (pv_WORDS ((((3 : Int32) * x3) + x0)).toNatClampNeg) = x1 then
  f_Kd_withLetter_30 k_4 σ x0 x1 (x2 ||| ((1 : Int32) <<< (x3 &&& 31))) x3
  else
  f_Kd_withLetter_30 k_4 σ x0 x1 x2 x3)
  else none))
set_option maxHeartbeats 4000000 in
set_option maxRecDepth 100000 in
theorem s_Kd_withLetter_4b {p : Program} {l : Launch} {e : Env} {R : Room} {s : State} {m : MethodId} {args : Array Value} {below : List Frame} {meth : Method} {c : Code} {Q : State → Prop} {D : va_G} {q : Nat → ClassId} {a t : Nat → Nat} {A : Nat → Prop} (C : pv_C p s m args c prog_2_method_3_code 4 "PatchVoices$Kinds" pv_TB D pv_cl (pv_ty q) 52 a A (pv_ZX t A)) (hmv : pv_mv A (pv_ZX t A)) (hRf : 4 ≤ R.frames) (hRl : 85 ≤ R.locals) {out : (Int32 × pv_S)} (hret : pv_Ri p l e R s m args below meth c prog_2_method_3_code D pv_cl 52 a (pv_FX q a) A Q out) {k_4 : pv_S → Int32 → Int32 → Int32 → Int32 → Option (Int32 × pv_S)} (hk_4 : ∀ (σ : pv_S) (x0 : Int32) (x1 : Int32) (x2 : Int32) (x3 : Int32) (H : Heap) (locs : List Loc) (ls : Array Slot), k_4 σ x0 x1 x2 x3 = some out → lv_has ls 4 [(0, .int x0), (1, .int x1), (2, .int x2), (3, .int x3)] → pv_W D pv_cl 52 a (pv_FX q a) σ H → va_S A s.heap H locs → W p l e R s m args below meth c H locs 0 0 Q (F0 m 4 ls [])) {σ : pv_S} {x0 : Int32} {x1 : Int32} {x2 : Int32} {x3 : Int32} {H : Heap} {locs : List Loc} {ls : Array Slot} (hl : lv_has ls 4 [(0, .int x0), (1, .int x1), (2, .int x2), (3, .int x3)]) (hP : pv_W D pv_cl 52 a (pv_FX q a) σ H) (hS : va_S A s.heap H locs) (hf : f_Kd_withLetter_4b k_4 σ x0 x1 x2 x3 = some out) : W p l e R s m args below meth c H locs 0 0 Q (F0 m 4 ls []) := by
  unfold f_Kd_withLetter_4b at hf
  have hx := C.1
  have hb := C.2.1
  refine lv_iload_n hx hb d_Kd_withLetter_4 rfl (lv_at hl 3 rfl) ?_
  refine lv_bipush (v := (20 : Int32)) hx hb d_Kd_withLetter_5 (by decide) ?_
  refine lv_icmp_ge (tgt := 36) hx hb d_Kd_withLetter_7 (by decide) (fun h => ?_) (fun h => ?_)
  · have hf := pv_t hf h
    refine lv_iload_n hx hb d_Kd_withLetter_36 rfl (lv_at hl 2 rfl) ?_
    obtain rfl := Option.some.inj hf
    exact hret _ _ _ _ d_Kd_withLetter_37 hP hS
  · have hf := pv_f hf h
    refine pv_ldW C pv_ZsX d_Kd_withLetter_10 ?_
    refine lv_iconst (v := (3 : Int32)) hx hb d_Kd_withLetter_12 (by decide) ?_
    refine lv_iload_n hx hb d_Kd_withLetter_13 rfl (lv_at hl 3 rfl) ?_
    refine lv_imul hx hb d_Kd_withLetter_14 ?_
    refine lv_iload_n hx hb d_Kd_withLetter_15 rfl (lv_at hl 0 rfl) ?_
    refine lv_iadd hx hb d_Kd_withLetter_16 ?_
    obtain ⟨hg, hf⟩ := pv_g hf
    refine pv_charW C hmv pv_ZsX hP hS hg (Nat.le_trans (by decide) hRf) (Nat.le_trans (by decide) hRl) hl.1 (Nat.le_of_ble_eq_true rfl) d_Kd_withLetter_17 (fun H locs hP hS => ?_)
    refine lv_iload_n hx hb d_Kd_withLetter_20 rfl (lv_at hl 1 rfl) ?_
    refine lv_icmp_ne (tgt := 30) hx hb d_Kd_withLetter_21 (by decide) (fun h => ?_) (fun h => ?_)
    · have hf := pv_f hf h
      exact s_Kd_withLetter_30 C hmv hRf hRl hret hk_4 (lv_sub hl [0, 1, 2, 3] rfl) hP hS hf
    · have hf := pv_t hf h
      refine lv_iload_n hx hb d_Kd_withLetter_24 rfl (lv_at hl 2 rfl) ?_
      refine lv_iconst (v := (1 : Int32)) hx hb d_Kd_withLetter_25 (by decide) ?_
      refine lv_iload_n hx hb d_Kd_withLetter_26 rfl (lv_at hl 3 rfl) ?_
      refine lv_ishl hx hb d_Kd_withLetter_27 ?_
      refine lv_ior hx hb d_Kd_withLetter_28 ?_
      refine lv_istore_n (lv' := [(2, .int (x2 ||| ((1 : Int32) <<< (x3 &&& 31)))), (0, .int x0), (1, .int x1), (3, .int x3)]) hx hb d_Kd_withLetter_29 rfl hl (by decide) rfl (fun ls hl => ?_)
      exact s_Kd_withLetter_30 C hmv hRf hRl hret hk_4 (lv_sub hl [1, 2, 0, 3] rfl) hP hS hf
def f_Kd_withLetter_4 : Nat → pv_S → Int32 → Int32 → Int32 → Int32 → Option (Int32 × pv_S)
  | 0 => fun _ _ _ _ _ => none
  | n + 1 => f_Kd_withLetter_4b (f_Kd_withLetter_4 n)
set_option maxHeartbeats 4000000 in
theorem s_Kd_withLetter_4 {p : Program} {l : Launch} {e : Env} {R : Room} {s : State} {m : MethodId} {args : Array Value} {below : List Frame} {meth : Method} {c : Code} {Q : State → Prop} {D : va_G} {q : Nat → ClassId} {a t : Nat → Nat} {A : Nat → Prop} (C : pv_C p s m args c prog_2_method_3_code 4 "PatchVoices$Kinds" pv_TB D pv_cl (pv_ty q) 52 a A (pv_ZX t A)) (hmv : pv_mv A (pv_ZX t A)) (hRf : 4 ≤ R.frames) (hRl : 85 ≤ R.locals) {out : (Int32 × pv_S)} (hret : pv_Ri p l e R s m args below meth c prog_2_method_3_code D pv_cl 52 a (pv_FX q a) A Q out) (n : Nat) : ∀ {σ : pv_S} {x0 : Int32} {x1 : Int32} {x2 : Int32} {x3 : Int32} {H : Heap} {locs : List Loc} {ls : Array Slot}, lv_has ls 4 [(0, .int x0), (1, .int x1), (2, .int x2), (3, .int x3)] → pv_W D pv_cl 52 a (pv_FX q a) σ H → va_S A s.heap H locs → f_Kd_withLetter_4 n σ x0 x1 x2 x3 = some out → W p l e R s m args below meth c H locs 0 0 Q (F0 m 4 ls []) := by
  induction n with
  | zero => intro σ x0 x1 x2 x3 H locs ls hl hP hS hf; cases hf
  | succ n ih => intro σ x0 x1 x2 x3 H locs ls hl hP hS hf; exact s_Kd_withLetter_4b C hmv hRf hRl hret (fun σ x0 x1 x2 x3 H locs ls hf hl hP hS => ih hl hP hS hf) hl hP hS hf
def f_Kd_withLetter_0 (σ : pv_S) (x0 : Int32) (x1 : Int32) : Option (Int32 × pv_S) :=
  f_Kd_withLetter_4 pv_fu σ x0 x1 (0 : Int32) (0 : Int32)
set_option maxHeartbeats 4000000 in
set_option maxRecDepth 100000 in
theorem s_Kd_withLetter_0 {p : Program} {l : Launch} {e : Env} {R : Room} {s : State} {m : MethodId} {args : Array Value} {below : List Frame} {meth : Method} {c : Code} {Q : State → Prop} {D : va_G} {q : Nat → ClassId} {a t : Nat → Nat} {A : Nat → Prop} (C : pv_C p s m args c prog_2_method_3_code 4 "PatchVoices$Kinds" pv_TB D pv_cl (pv_ty q) 52 a A (pv_ZX t A)) (hmv : pv_mv A (pv_ZX t A)) (hRf : 4 ≤ R.frames) (hRl : 85 ≤ R.locals) {out : (Int32 × pv_S)} (hret : pv_Ri p l e R s m args below meth c prog_2_method_3_code D pv_cl 52 a (pv_FX q a) A Q out) {σ : pv_S} {x0 : Int32} {x1 : Int32} {H : Heap} {locs : List Loc} {ls : Array Slot} (hl : lv_has ls 4 [(0, .int x0), (1, .int x1)]) (hP : pv_W D pv_cl 52 a (pv_FX q a) σ H) (hS : va_S A s.heap H locs) (hf : f_Kd_withLetter_0 σ x0 x1 = some out) : W p l e R s m args below meth c H locs 0 0 Q (F0 m 0 ls []) := by
  unfold f_Kd_withLetter_0 at hf
  have hx := C.1
  have hb := C.2.1
  refine lv_iconst (v := (0 : Int32)) hx hb d_Kd_withLetter_0 (by decide) ?_
  refine lv_istore_n (lv' := [(2, .int (0 : Int32)), (0, .int x0), (1, .int x1)]) hx hb d_Kd_withLetter_1 rfl hl (by decide) rfl (fun ls hl => ?_)
  refine lv_iconst (v := (0 : Int32)) hx hb d_Kd_withLetter_2 (by decide) ?_
  refine lv_istore_n (lv' := [(3, .int (0 : Int32)), (2, .int (0 : Int32)), (0, .int x0), (1, .int x1)]) hx hb d_Kd_withLetter_3 rfl hl (by decide) rfl (fun ls hl => ?_)
  exact s_Kd_withLetter_4 C hmv hRf hRl hret pv_fu (lv_sub hl [2, 3, 1, 0] rfl) hP hS hf
def f_Kd_withLetter (σ : pv_S) (x0 : Int32) (x1 : Int32) : Option (Int32 × pv_S) := f_Kd_withLetter_0 σ x0 x1
def rm_Kd_withLetter : Room := { frames := 4, cells := 0, slots := 0, locals := 85 }
theorem c_Kd_withLetter {l : Launch} {D : va_G} {q : Nat → ClassId} {a t : Nat → Nat} {A : Nat → Prop} (hD : pv_D 52 a A) (hmv : pv_mv A (pv_ZX t A)) {σ : pv_S} {x0 : Int32} {x1 : Int32} {out : (Int32 × pv_S)} (hf : f_Kd_withLetter σ x0 x1 = some out) : pv_Mi l y_Kd_withLetter (Cond.code y_Kd_withLetter prog_2_method_3_code 4 (some .int) :: pv_TB) rm_Kd_withLetter D pv_cl (pv_ty q) 52 a (pv_FX q a) A (pv_ZX t A) [.int x0, .int x1] σ out :=
  pv_ofI (by decide) (Nat.le_of_ble_eq_true rfl) hD (fun p e s m args below meth c Q ls C hret hl hP => s_Kd_withLetter_0 C hmv (Nat.le_refl _) (Nat.le_refl _) hret hl hP va_S.rf hf)
theorem d_Kd_isPlain_0 : decode prog_2_method_4_code 0 = .ok (.iload_n 0, 1) := by decide +kernel
theorem d_Kd_isPlain_1 : decode prog_2_method_4_code 1 = .ok (.bipush 7, 2) := by decide +kernel
theorem d_Kd_isPlain_3 : decode prog_2_method_4_code 3 = .ok (.if_icmp .ge 7, 3) := by decide +kernel
theorem d_Kd_isPlain_6 : decode prog_2_method_4_code 6 = .ok (.iconst 1, 1) := by decide +kernel
theorem d_Kd_isPlain_7 : decode prog_2_method_4_code 7 = .ok (.goto 4, 3) := by decide +kernel
theorem d_Kd_isPlain_10 : decode prog_2_method_4_code 10 = .ok (.iconst 0, 1) := by decide +kernel
theorem d_Kd_isPlain_11 : decode prog_2_method_4_code 11 = .ok (.ireturn, 1) := by decide +kernel
def f_Kd_isPlain_0 (σ : pv_S) (x0 : Int32) : Option (Int32 × pv_S) :=
  (if (7 : Int32) ≤ x0 then
  some ((0 : Int32), σ)
  else
  some ((1 : Int32), σ))
set_option maxHeartbeats 4000000 in
set_option maxRecDepth 100000 in
theorem s_Kd_isPlain_0 {p : Program} {l : Launch} {e : Env} {R : Room} {s : State} {m : MethodId} {args : Array Value} {below : List Frame} {meth : Method} {c : Code} {Q : State → Prop} {D : va_G} {q : Nat → ClassId} {a t : Nat → Nat} {A : Nat → Prop} (C : pv_C p s m args c prog_2_method_4_code 1 "PatchVoices$Kinds" pv_TB D pv_cl (pv_ty q) 52 a A (pv_ZX t A)) (hmv : pv_mv A (pv_ZX t A)) (hRf : 0 ≤ R.frames) (hRl : 0 ≤ R.locals) {out : (Int32 × pv_S)} (hret : pv_Rz p l e R s m args below meth c prog_2_method_4_code D pv_cl 52 a (pv_FX q a) A Q out) {σ : pv_S} {x0 : Int32} {H : Heap} {locs : List Loc} {ls : Array Slot} (hl : lv_has ls 1 [(0, .int x0)]) (hP : pv_W D pv_cl 52 a (pv_FX q a) σ H) (hS : va_S A s.heap H locs) (hf : f_Kd_isPlain_0 σ x0 = some out) : W p l e R s m args below meth c H locs 0 0 Q (F0 m 0 ls []) := by
  unfold f_Kd_isPlain_0 at hf
  have hx := C.1
  have hb := C.2.1
  refine lv_iload_n hx hb d_Kd_isPlain_0 rfl (lv_at hl 0 rfl) ?_
  refine lv_bipush (v := (7 : Int32)) hx hb d_Kd_isPlain_1 (by decide) ?_
  refine lv_icmp_ge (tgt := 10) hx hb d_Kd_isPlain_3 (by decide) (fun h => ?_) (fun h => ?_)
  · have hf := pv_t hf h
    refine lv_iconst (v := (0 : Int32)) hx hb d_Kd_isPlain_10 (by decide) ?_
    obtain rfl := Option.some.inj hf
    exact hret _ _ _ _ d_Kd_isPlain_11 rfl hP hS
  · have hf := pv_f hf h
    refine lv_iconst (v := (1 : Int32)) hx hb d_Kd_isPlain_6 (by decide) ?_
    refine lv_goto (tgt := 11) hx hb d_Kd_isPlain_7 (by decide) ?_
    obtain rfl := Option.some.inj hf
    exact hret _ _ _ _ d_Kd_isPlain_11 rfl hP hS
def f_Kd_isPlain (σ : pv_S) (x0 : Int32) : Option (Int32 × pv_S) := f_Kd_isPlain_0 σ x0
def rm_Kd_isPlain : Room := { frames := 0, cells := 0, slots := 0, locals := 0 }
theorem c_Kd_isPlain {l : Launch} {D : va_G} {q : Nat → ClassId} {a t : Nat → Nat} {A : Nat → Prop} (hD : pv_D 52 a A) (hmv : pv_mv A (pv_ZX t A)) {σ : pv_S} {x0 : Int32} {out : (Int32 × pv_S)} (hf : f_Kd_isPlain σ x0 = some out) : pv_Mi l y_Kd_isPlain (Cond.code y_Kd_isPlain prog_2_method_4_code 1 (some .boolean) :: pv_TB) rm_Kd_isPlain D pv_cl (pv_ty q) 52 a (pv_FX q a) A (pv_ZX t A) [.int x0] σ out :=
  pv_ofZ (by decide) (Nat.le_of_ble_eq_true rfl) hD (fun p e s m args below meth c Q ls C hret hl hP => s_Kd_isPlain_0 C hmv (Nat.le_refl _) (Nat.le_refl _) hret hl hP va_S.rf hf)
theorem d_Kd_hasMemory_0 : decode prog_2_method_5_code 0 = .ok (.iload_n 0, 1) := by decide +kernel
theorem d_Kd_hasMemory_1 : decode prog_2_method_5_code 1 = .ok (.bipush 11, 2) := by decide +kernel
theorem d_Kd_hasMemory_3 : decode prog_2_method_5_code 3 = .ok (.if_icmp .lt 7, 3) := by decide +kernel
theorem d_Kd_hasMemory_6 : decode prog_2_method_5_code 6 = .ok (.iconst 1, 1) := by decide +kernel
theorem d_Kd_hasMemory_7 : decode prog_2_method_5_code 7 = .ok (.goto 4, 3) := by decide +kernel
theorem d_Kd_hasMemory_10 : decode prog_2_method_5_code 10 = .ok (.iconst 0, 1) := by decide +kernel
theorem d_Kd_hasMemory_11 : decode prog_2_method_5_code 11 = .ok (.ireturn, 1) := by decide +kernel
def f_Kd_hasMemory_0 (σ : pv_S) (x0 : Int32) : Option (Int32 × pv_S) :=
  (if x0 < (11 : Int32) then
  some ((0 : Int32), σ)
  else
  some ((1 : Int32), σ))
set_option maxHeartbeats 4000000 in
set_option maxRecDepth 100000 in
theorem s_Kd_hasMemory_0 {p : Program} {l : Launch} {e : Env} {R : Room} {s : State} {m : MethodId} {args : Array Value} {below : List Frame} {meth : Method} {c : Code} {Q : State → Prop} {D : va_G} {q : Nat → ClassId} {a t : Nat → Nat} {A : Nat → Prop} (C : pv_C p s m args c prog_2_method_5_code 1 "PatchVoices$Kinds" pv_TB D pv_cl (pv_ty q) 52 a A (pv_ZX t A)) (hmv : pv_mv A (pv_ZX t A)) (hRf : 0 ≤ R.frames) (hRl : 0 ≤ R.locals) {out : (Int32 × pv_S)} (hret : pv_Rz p l e R s m args below meth c prog_2_method_5_code D pv_cl 52 a (pv_FX q a) A Q out) {σ : pv_S} {x0 : Int32} {H : Heap} {locs : List Loc} {ls : Array Slot} (hl : lv_has ls 1 [(0, .int x0)]) (hP : pv_W D pv_cl 52 a (pv_FX q a) σ H) (hS : va_S A s.heap H locs) (hf : f_Kd_hasMemory_0 σ x0 = some out) : W p l e R s m args below meth c H locs 0 0 Q (F0 m 0 ls []) := by
  unfold f_Kd_hasMemory_0 at hf
  have hx := C.1
  have hb := C.2.1
  refine lv_iload_n hx hb d_Kd_hasMemory_0 rfl (lv_at hl 0 rfl) ?_
  refine lv_bipush (v := (11 : Int32)) hx hb d_Kd_hasMemory_1 (by decide) ?_
  refine lv_icmp_lt (tgt := 10) hx hb d_Kd_hasMemory_3 (by decide) (fun h => ?_) (fun h => ?_)
  · have hf := pv_t hf h
    refine lv_iconst (v := (0 : Int32)) hx hb d_Kd_hasMemory_10 (by decide) ?_
    obtain rfl := Option.some.inj hf
    exact hret _ _ _ _ d_Kd_hasMemory_11 rfl hP hS
  · have hf := pv_f hf h
    refine lv_iconst (v := (1 : Int32)) hx hb d_Kd_hasMemory_6 (by decide) ?_
    refine lv_goto (tgt := 11) hx hb d_Kd_hasMemory_7 (by decide) ?_
    obtain rfl := Option.some.inj hf
    exact hret _ _ _ _ d_Kd_hasMemory_11 rfl hP hS
def f_Kd_hasMemory (σ : pv_S) (x0 : Int32) : Option (Int32 × pv_S) := f_Kd_hasMemory_0 σ x0
def rm_Kd_hasMemory : Room := { frames := 0, cells := 0, slots := 0, locals := 0 }
theorem c_Kd_hasMemory {l : Launch} {D : va_G} {q : Nat → ClassId} {a t : Nat → Nat} {A : Nat → Prop} (hD : pv_D 52 a A) (hmv : pv_mv A (pv_ZX t A)) {σ : pv_S} {x0 : Int32} {out : (Int32 × pv_S)} (hf : f_Kd_hasMemory σ x0 = some out) : pv_Mi l y_Kd_hasMemory (Cond.code y_Kd_hasMemory prog_2_method_5_code 1 (some .boolean) :: pv_TB) rm_Kd_hasMemory D pv_cl (pv_ty q) 52 a (pv_FX q a) A (pv_ZX t A) [.int x0] σ out :=
  pv_ofZ (by decide) (Nat.le_of_ble_eq_true rfl) hD (fun p e s m args below meth c Q ls C hret hl hP => s_Kd_hasMemory_0 C hmv (Nat.le_refl _) (Nat.le_refl _) hret hl hP va_S.rf hf)
theorem d_Kd_inputsMaySwap_0 : decode prog_2_method_6_code 0 = .ok (.iload_n 0, 1) := by decide +kernel
theorem d_Kd_inputsMaySwap_1 : decode prog_2_method_6_code 1 = .ok (.ifCond .eq 8, 3) := by decide +kernel
theorem d_Kd_inputsMaySwap_4 : decode prog_2_method_6_code 4 = .ok (.iload_n 0, 1) := by decide +kernel
theorem d_Kd_inputsMaySwap_5 : decode prog_2_method_6_code 5 = .ok (.iconst 2, 1) := by decide +kernel
theorem d_Kd_inputsMaySwap_6 : decode prog_2_method_6_code 6 = .ok (.if_icmp .ne 7, 3) := by decide +kernel
theorem d_Kd_inputsMaySwap_9 : decode prog_2_method_6_code 9 = .ok (.iconst 1, 1) := by decide +kernel
theorem d_Kd_inputsMaySwap_10 : decode prog_2_method_6_code 10 = .ok (.goto 4, 3) := by decide +kernel
theorem d_Kd_inputsMaySwap_13 : decode prog_2_method_6_code 13 = .ok (.iconst 0, 1) := by decide +kernel
theorem d_Kd_inputsMaySwap_14 : decode prog_2_method_6_code 14 = .ok (.ireturn, 1) := by decide +kernel
def f_Kd_inputsMaySwap_0 (σ : pv_S) (x0 : Int32) : Option (Int32 × pv_S) :=
  (if x0 = 0 then
  some ((1 : Int32), σ)
  else
  (if x0 = (2 : Int32) then
  some ((1 : Int32), σ)
  else
  some ((0 : Int32), σ)))
set_option maxHeartbeats 4000000 in
set_option maxRecDepth 100000 in
theorem s_Kd_inputsMaySwap_0 {p : Program} {l : Launch} {e : Env} {R : Room} {s : State} {m : MethodId} {args : Array Value} {below : List Frame} {meth : Method} {c : Code} {Q : State → Prop} {D : va_G} {q : Nat → ClassId} {a t : Nat → Nat} {A : Nat → Prop} (C : pv_C p s m args c prog_2_method_6_code 1 "PatchVoices$Kinds" pv_TB D pv_cl (pv_ty q) 52 a A (pv_ZX t A)) (hmv : pv_mv A (pv_ZX t A)) (hRf : 0 ≤ R.frames) (hRl : 0 ≤ R.locals) {out : (Int32 × pv_S)} (hret : pv_Rz p l e R s m args below meth c prog_2_method_6_code D pv_cl 52 a (pv_FX q a) A Q out) {σ : pv_S} {x0 : Int32} {H : Heap} {locs : List Loc} {ls : Array Slot} (hl : lv_has ls 1 [(0, .int x0)]) (hP : pv_W D pv_cl 52 a (pv_FX q a) σ H) (hS : va_S A s.heap H locs) (hf : f_Kd_inputsMaySwap_0 σ x0 = some out) : W p l e R s m args below meth c H locs 0 0 Q (F0 m 0 ls []) := by
  unfold f_Kd_inputsMaySwap_0 at hf
  have hx := C.1
  have hb := C.2.1
  refine lv_iload_n hx hb d_Kd_inputsMaySwap_0 rfl (lv_at hl 0 rfl) ?_
  refine lv_if_eq (tgt := 9) hx hb d_Kd_inputsMaySwap_1 (by decide) (fun h => ?_) (fun h => ?_)
  · have hf := pv_t hf h
    refine lv_iconst (v := (1 : Int32)) hx hb d_Kd_inputsMaySwap_9 (by decide) ?_
    refine lv_goto (tgt := 14) hx hb d_Kd_inputsMaySwap_10 (by decide) ?_
    obtain rfl := Option.some.inj hf
    exact hret _ _ _ _ d_Kd_inputsMaySwap_14 rfl hP hS
  · have hf := pv_f hf h
    refine lv_iload_n hx hb d_Kd_inputsMaySwap_4 rfl (lv_at hl 0 rfl) ?_
    refine lv_iconst (v := (2 : Int32)) hx hb d_Kd_inputsMaySwap_5 (by decide) ?_
    refine lv_icmp_ne (tgt := 13) hx hb d_Kd_inputsMaySwap_6 (by decide) (fun h => ?_) (fun h => ?_)
    · have hf := pv_f hf h
      refine lv_iconst (v := (0 : Int32)) hx hb d_Kd_inputsMaySwap_13 (by decide) ?_
      obtain rfl := Option.some.inj hf
      exact hret _ _ _ _ d_Kd_inputsMaySwap_14 rfl hP hS
    · have hf := pv_t hf h
      refine lv_iconst (v := (1 : Int32)) hx hb d_Kd_inputsMaySwap_9 (by decide) ?_
      refine lv_goto (tgt := 14) hx hb d_Kd_inputsMaySwap_10 (by decide) ?_
      obtain rfl := Option.some.inj hf
      exact hret _ _ _ _ d_Kd_inputsMaySwap_14 rfl hP hS
def f_Kd_inputsMaySwap (σ : pv_S) (x0 : Int32) : Option (Int32 × pv_S) := f_Kd_inputsMaySwap_0 σ x0
def rm_Kd_inputsMaySwap : Room := { frames := 0, cells := 0, slots := 0, locals := 0 }
theorem c_Kd_inputsMaySwap {l : Launch} {D : va_G} {q : Nat → ClassId} {a t : Nat → Nat} {A : Nat → Prop} (hD : pv_D 52 a A) (hmv : pv_mv A (pv_ZX t A)) {σ : pv_S} {x0 : Int32} {out : (Int32 × pv_S)} (hf : f_Kd_inputsMaySwap σ x0 = some out) : pv_Mi l y_Kd_inputsMaySwap (Cond.code y_Kd_inputsMaySwap prog_2_method_6_code 1 (some .boolean) :: pv_TB) rm_Kd_inputsMaySwap D pv_cl (pv_ty q) 52 a (pv_FX q a) A (pv_ZX t A) [.int x0] σ out :=
  pv_ofZ (by decide) (Nat.le_of_ble_eq_true rfl) hD (fun p e s m args below meth c Q ls C hret hl hP => s_Kd_inputsMaySwap_0 C hmv (Nat.le_refl _) (Nat.le_refl _) hret hl hP va_S.rf hf)
theorem d_Kd_stopped_0 : decode prog_2_method_9_code 0 = .ok (.ldc2_w 30, 3) := by decide +kernel
theorem d_Kd_stopped_3 : decode prog_2_method_9_code 3 = .ok (.ldc2_w 32, 3) := by decide +kernel
theorem d_Kd_stopped_6 : decode prog_2_method_9_code 6 = .ok (.lload_n 0, 1) := by decide +kernel
theorem d_Kd_stopped_7 : decode prog_2_method_9_code 7 = .ok (.invokestatic 34, 3) := by decide +kernel
theorem d_Kd_stopped_10 : decode prog_2_method_9_code 10 = .ok (.invokestatic 40, 3) := by decide +kernel
theorem d_Kd_stopped_13 : decode prog_2_method_9_code 13 = .ok (.l2i, 1) := by decide +kernel
theorem d_Kd_stopped_14 : decode prog_2_method_9_code 14 = .ok (.ireturn, 1) := by decide +kernel
def f_Kd_stopped_0 (σ : pv_S) (x0 : Int64) : Option (Int32 × pv_S) :=
  some ((((if (if x0 < (2147483647 : Int64) then x0 else (2147483647 : Int64)) < (-2147483648 : Int64) then (-2147483648 : Int64) else (if x0 < (2147483647 : Int64) then x0 else (2147483647 : Int64)))).toInt32), σ)
set_option maxHeartbeats 4000000 in
set_option maxRecDepth 100000 in
theorem s_Kd_stopped_0 {p : Program} {l : Launch} {e : Env} {R : Room} {s : State} {m : MethodId} {args : Array Value} {below : List Frame} {meth : Method} {c : Code} {Q : State → Prop} {D : va_G} {q : Nat → ClassId} {a t : Nat → Nat} {A : Nat → Prop} (C : pv_C p s m args c prog_2_method_9_code 2 "PatchVoices$Kinds" pv_TB D pv_cl (pv_ty q) 52 a A (pv_ZX t A)) (hmv : pv_mv A (pv_ZX t A)) (hRf : 1 ≤ R.frames) (hRl : 17 ≤ R.locals) {out : (Int32 × pv_S)} (hret : pv_Ri p l e R s m args below meth c prog_2_method_9_code D pv_cl 52 a (pv_FX q a) A Q out) {σ : pv_S} {x0 : Int64} {H : Heap} {locs : List Loc} {ls : Array Slot} (hl : lv_has ls 2 [(0, .long x0)]) (hP : pv_W D pv_cl 52 a (pv_FX q a) σ H) (hS : va_S A s.heap H locs) (hf : f_Kd_stopped_0 σ x0 = some out) : W p l e R s m args below meth c H locs 0 0 Q (F0 m 0 ls []) := by
  unfold f_Kd_stopped_0 at hf
  have hx := C.1
  have hb := C.2.1
  refine lv_ldc2 (v := (-2147483648 : Int64)) hx hb C.2.2.2.1 (C.2.2.2.2.1 _ w_640) d_Kd_stopped_0 ?_
  refine lv_ldc2 (v := (2147483647 : Int64)) hx hb C.2.2.2.1 (C.2.2.2.2.1 _ w_641) d_Kd_stopped_3 ?_
  refine lv_lload_n hx hb d_Kd_stopped_6 rfl (lv_at hl 0 rfl) ?_
  refine va_mmin_long hx hb (C.2.2.1.trans hl.1.symm) C.2.2.2.1 (C.2.2.2.2.1 _ w_642) (C.2.2.2.2.1 _ w_643) (C.2.2.2.2.1 _ w_123) (C.2.2.2.2.1 _ w_644) (by omega) (Nat.le_trans (Nat.le_of_ble_eq_true rfl) hRl) (Nat.zero_le _) (Nat.zero_le _) d_Kd_stopped_7 ?_
  refine va_mmax_long hx hb (C.2.2.1.trans hl.1.symm) C.2.2.2.1 (C.2.2.2.2.1 _ w_645) (C.2.2.2.2.1 _ w_646) (C.2.2.2.2.1 _ w_123) (C.2.2.2.2.1 _ w_647) (by omega) (Nat.le_trans (Nat.le_of_ble_eq_true rfl) hRl) (Nat.zero_le _) (Nat.zero_le _) d_Kd_stopped_10 ?_
  refine lv_l2i (v := ((if (if x0 < (2147483647 : Int64) then x0 else (2147483647 : Int64)) < (-2147483648 : Int64) then (-2147483648 : Int64) else (if x0 < (2147483647 : Int64) then x0 else (2147483647 : Int64)))).toInt32) hx hb d_Kd_stopped_13 rfl ?_
  obtain rfl := Option.some.inj hf
  exact hret _ _ _ _ d_Kd_stopped_14 hP hS
def f_Kd_stopped (σ : pv_S) (x0 : Int64) : Option (Int32 × pv_S) := f_Kd_stopped_0 σ x0
def rm_Kd_stopped : Room := { frames := 1, cells := 0, slots := 0, locals := 17 }
theorem c_Kd_stopped {l : Launch} {D : va_G} {q : Nat → ClassId} {a t : Nat → Nat} {A : Nat → Prop} (hD : pv_D 52 a A) (hmv : pv_mv A (pv_ZX t A)) {σ : pv_S} {x0 : Int64} {out : (Int32 × pv_S)} (hf : f_Kd_stopped σ x0 = some out) : pv_Mi l y_Kd_stopped (Cond.code y_Kd_stopped prog_2_method_9_code 2 (some .int) :: pv_TB) rm_Kd_stopped D pv_cl (pv_ty q) 52 a (pv_FX q a) A (pv_ZX t A) [.long x0] σ out :=
  pv_ofI (by decide) (Nat.le_of_ble_eq_true rfl) hD (fun p e s m args below meth c Q ls C hret hl hP => s_Kd_stopped_0 C hmv (Nat.le_refl _) (Nat.le_refl _) hret hl hP va_S.rf hf)
theorem d_Kd_scaled_0 : decode prog_2_method_8_code 0 = .ok (.lload_n 0, 1) := by decide +kernel
theorem d_Kd_scaled_1 : decode prog_2_method_8_code 1 = .ok (.iload_n 2, 1) := by decide +kernel
theorem d_Kd_scaled_2 : decode prog_2_method_8_code 2 = .ok (.i2l, 1) := by decide +kernel
theorem d_Kd_scaled_3 : decode prog_2_method_8_code 3 = .ok (.lmul, 1) := by decide +kernel
theorem d_Kd_scaled_4 : decode prog_2_method_8_code 4 = .ok (.bipush 16, 2) := by decide +kernel
theorem d_Kd_scaled_6 : decode prog_2_method_8_code 6 = .ok (.lshr, 1) := by decide +kernel
theorem d_Kd_scaled_7 : decode prog_2_method_8_code 7 = .ok (.lreturn, 1) := by decide +kernel
def f_Kd_scaled_0 (σ : pv_S) (x0 : Int64) (x2 : Int32) : Option (Int64 × pv_S) :=
  some (((x0 * ((x2).toInt64)) >>> (((16 : Int32)).toInt64 &&& 63)), σ)
set_option maxHeartbeats 4000000 in
set_option maxRecDepth 100000 in
theorem s_Kd_scaled_0 {p : Program} {l : Launch} {e : Env} {R : Room} {s : State} {m : MethodId} {args : Array Value} {below : List Frame} {meth : Method} {c : Code} {Q : State → Prop} {D : va_G} {q : Nat → ClassId} {a t : Nat → Nat} {A : Nat → Prop} (C : pv_C p s m args c prog_2_method_8_code 3 "PatchVoices$Kinds" pv_TB D pv_cl (pv_ty q) 52 a A (pv_ZX t A)) (hmv : pv_mv A (pv_ZX t A)) (hRf : 0 ≤ R.frames) (hRl : 0 ≤ R.locals) {out : (Int64 × pv_S)} (hret : pv_Rl p l e R s m args below meth c prog_2_method_8_code D pv_cl 52 a (pv_FX q a) A Q out) {σ : pv_S} {x0 : Int64} {x2 : Int32} {H : Heap} {locs : List Loc} {ls : Array Slot} (hl : lv_has ls 3 [(0, .long x0), (2, .int x2)]) (hP : pv_W D pv_cl 52 a (pv_FX q a) σ H) (hS : va_S A s.heap H locs) (hf : f_Kd_scaled_0 σ x0 x2 = some out) : W p l e R s m args below meth c H locs 0 0 Q (F0 m 0 ls []) := by
  unfold f_Kd_scaled_0 at hf
  have hx := C.1
  have hb := C.2.1
  refine lv_lload_n hx hb d_Kd_scaled_0 rfl (lv_at hl 0 rfl) ?_
  refine lv_iload_n hx hb d_Kd_scaled_1 rfl (lv_at hl 1 rfl) ?_
  refine lv_i2l (v := (x2).toInt64) hx hb d_Kd_scaled_2 rfl ?_
  refine lv_lmul hx hb d_Kd_scaled_3 ?_
  refine lv_bipush (v := (16 : Int32)) hx hb d_Kd_scaled_4 (by decide) ?_
  refine lv_lshr (v := (x0 * ((x2).toInt64)) >>> (((16 : Int32)).toInt64 &&& 63)) hx hb d_Kd_scaled_6 rfl ?_
  obtain rfl := Option.some.inj hf
  exact hret _ _ _ _ d_Kd_scaled_7 hP hS
def f_Kd_scaled (σ : pv_S) (x0 : Int64) (x2 : Int32) : Option (Int64 × pv_S) := f_Kd_scaled_0 σ x0 x2
def rm_Kd_scaled : Room := { frames := 0, cells := 0, slots := 0, locals := 0 }
theorem c_Kd_scaled {l : Launch} {D : va_G} {q : Nat → ClassId} {a t : Nat → Nat} {A : Nat → Prop} (hD : pv_D 52 a A) (hmv : pv_mv A (pv_ZX t A)) {σ : pv_S} {x0 : Int64} {x2 : Int32} {out : (Int64 × pv_S)} (hf : f_Kd_scaled σ x0 x2 = some out) : pv_Ml l y_Kd_scaled (Cond.code y_Kd_scaled prog_2_method_8_code 3 (some .long) :: pv_TB) rm_Kd_scaled D pv_cl (pv_ty q) 52 a (pv_FX q a) A (pv_ZX t A) [.long x0, .int x2] σ out :=
  pv_ofL (by decide) (Nat.le_of_ble_eq_true rfl) hD (fun p e s m args below meth c Q ls C hret hl hP => s_Kd_scaled_0 C hmv (Nat.le_refl _) (Nat.le_refl _) hret hl hP va_S.rf hf)
theorem d_Kd_plainValue_0 : decode prog_2_method_7_code 0 = .ok (.iload_n 0, 1) := by decide +kernel
theorem d_Kd_plainValue_1 : decode prog_2_method_7_code 1 = .ok (.tableswitch 115 (0) (5) #[39, 48, 57, 67, 83, 103], 39) := by decide +kernel
theorem d_Kd_plainValue_40 : decode prog_2_method_7_code 40 = .ok (.iload_n 1, 1) := by decide +kernel
theorem d_Kd_plainValue_41 : decode prog_2_method_7_code 41 = .ok (.i2l, 1) := by decide +kernel
theorem d_Kd_plainValue_42 : decode prog_2_method_7_code 42 = .ok (.iload_n 2, 1) := by decide +kernel
theorem d_Kd_plainValue_43 : decode prog_2_method_7_code 43 = .ok (.i2l, 1) := by decide +kernel
theorem d_Kd_plainValue_44 : decode prog_2_method_7_code 44 = .ok (.ladd, 1) := by decide +kernel
theorem d_Kd_plainValue_45 : decode prog_2_method_7_code 45 = .ok (.invokestatic 21, 3) := by decide +kernel
theorem d_Kd_plainValue_48 : decode prog_2_method_7_code 48 = .ok (.ireturn, 1) := by decide +kernel
theorem d_Kd_plainValue_49 : decode prog_2_method_7_code 49 = .ok (.iload_n 1, 1) := by decide +kernel
theorem d_Kd_plainValue_50 : decode prog_2_method_7_code 50 = .ok (.i2l, 1) := by decide +kernel
theorem d_Kd_plainValue_51 : decode prog_2_method_7_code 51 = .ok (.iload_n 2, 1) := by decide +kernel
theorem d_Kd_plainValue_52 : decode prog_2_method_7_code 52 = .ok (.i2l, 1) := by decide +kernel
theorem d_Kd_plainValue_53 : decode prog_2_method_7_code 53 = .ok (.lsub, 1) := by decide +kernel
theorem d_Kd_plainValue_54 : decode prog_2_method_7_code 54 = .ok (.invokestatic 21, 3) := by decide +kernel
theorem d_Kd_plainValue_57 : decode prog_2_method_7_code 57 = .ok (.ireturn, 1) := by decide +kernel
theorem d_Kd_plainValue_58 : decode prog_2_method_7_code 58 = .ok (.iload_n 1, 1) := by decide +kernel
theorem d_Kd_plainValue_59 : decode prog_2_method_7_code 59 = .ok (.i2l, 1) := by decide +kernel
theorem d_Kd_plainValue_60 : decode prog_2_method_7_code 60 = .ok (.iload_n 2, 1) := by decide +kernel
theorem d_Kd_plainValue_61 : decode prog_2_method_7_code 61 = .ok (.invokestatic 25, 3) := by decide +kernel
theorem d_Kd_plainValue_64 : decode prog_2_method_7_code 64 = .ok (.invokestatic 21, 3) := by decide +kernel
theorem d_Kd_plainValue_67 : decode prog_2_method_7_code 67 = .ok (.ireturn, 1) := by decide +kernel
theorem d_Kd_plainValue_68 : decode prog_2_method_7_code 68 = .ok (.iload_n 1, 1) := by decide +kernel
theorem d_Kd_plainValue_69 : decode prog_2_method_7_code 69 = .ok (.i2l, 1) := by decide +kernel
theorem d_Kd_plainValue_70 : decode prog_2_method_7_code 70 = .ok (.iload_n 2, 1) := by decide +kernel
theorem d_Kd_plainValue_71 : decode prog_2_method_7_code 71 = .ok (.i2l, 1) := by decide +kernel
theorem d_Kd_plainValue_72 : decode prog_2_method_7_code 72 = .ok (.iload_n 1, 1) := by decide +kernel
theorem d_Kd_plainValue_73 : decode prog_2_method_7_code 73 = .ok (.i2l, 1) := by decide +kernel
theorem d_Kd_plainValue_74 : decode prog_2_method_7_code 74 = .ok (.lsub, 1) := by decide +kernel
theorem d_Kd_plainValue_75 : decode prog_2_method_7_code 75 = .ok (.iload_n 3, 1) := by decide +kernel
theorem d_Kd_plainValue_76 : decode prog_2_method_7_code 76 = .ok (.invokestatic 25, 3) := by decide +kernel
theorem d_Kd_plainValue_79 : decode prog_2_method_7_code 79 = .ok (.ladd, 1) := by decide +kernel
theorem d_Kd_plainValue_80 : decode prog_2_method_7_code 80 = .ok (.invokestatic 21, 3) := by decide +kernel
theorem d_Kd_plainValue_83 : decode prog_2_method_7_code 83 = .ok (.ireturn, 1) := by decide +kernel
theorem d_Kd_plainValue_84 : decode prog_2_method_7_code 84 = .ok (.iload_n 1, 1) := by decide +kernel
theorem d_Kd_plainValue_85 : decode prog_2_method_7_code 85 = .ok (.iload_n 2, 1) := by decide +kernel
theorem d_Kd_plainValue_86 : decode prog_2_method_7_code 86 = .ok (.if_icmp .ge 7, 3) := by decide +kernel
theorem d_Kd_plainValue_89 : decode prog_2_method_7_code 89 = .ok (.iload_n 2, 1) := by decide +kernel
theorem d_Kd_plainValue_90 : decode prog_2_method_7_code 90 = .ok (.goto 13, 3) := by decide +kernel
theorem d_Kd_plainValue_93 : decode prog_2_method_7_code 93 = .ok (.iload_n 1, 1) := by decide +kernel
theorem d_Kd_plainValue_94 : decode prog_2_method_7_code 94 = .ok (.iload_n 3, 1) := by decide +kernel
theorem d_Kd_plainValue_95 : decode prog_2_method_7_code 95 = .ok (.if_icmp .le 7, 3) := by decide +kernel
theorem d_Kd_plainValue_98 : decode prog_2_method_7_code 98 = .ok (.iload_n 3, 1) := by decide +kernel
theorem d_Kd_plainValue_99 : decode prog_2_method_7_code 99 = .ok (.goto 4, 3) := by decide +kernel
theorem d_Kd_plainValue_102 : decode prog_2_method_7_code 102 = .ok (.iload_n 1, 1) := by decide +kernel
theorem d_Kd_plainValue_103 : decode prog_2_method_7_code 103 = .ok (.ireturn, 1) := by decide +kernel
theorem d_Kd_plainValue_104 : decode prog_2_method_7_code 104 = .ok (.iload_n 1, 1) := by decide +kernel
theorem d_Kd_plainValue_105 : decode prog_2_method_7_code 105 = .ok (.iload_n 2, 1) := by decide +kernel
theorem d_Kd_plainValue_106 : decode prog_2_method_7_code 106 = .ok (.if_icmp .le 8, 3) := by decide +kernel
theorem d_Kd_plainValue_109 : decode prog_2_method_7_code 109 = .ok (.ldc 29, 2) := by decide +kernel
theorem d_Kd_plainValue_111 : decode prog_2_method_7_code 111 = .ok (.goto 4, 3) := by decide +kernel
theorem d_Kd_plainValue_114 : decode prog_2_method_7_code 114 = .ok (.iconst 0, 1) := by decide +kernel
theorem d_Kd_plainValue_115 : decode prog_2_method_7_code 115 = .ok (.ireturn, 1) := by decide +kernel
theorem d_Kd_plainValue_116 : decode prog_2_method_7_code 116 = .ok (.iload_n 1, 1) := by decide +kernel
theorem d_Kd_plainValue_117 : decode prog_2_method_7_code 117 = .ok (.ifCond .le 7, 3) := by decide +kernel
theorem d_Kd_plainValue_120 : decode prog_2_method_7_code 120 = .ok (.iload_n 2, 1) := by decide +kernel
theorem d_Kd_plainValue_121 : decode prog_2_method_7_code 121 = .ok (.goto 4, 3) := by decide +kernel
theorem d_Kd_plainValue_124 : decode prog_2_method_7_code 124 = .ok (.iload_n 3, 1) := by decide +kernel
theorem d_Kd_plainValue_125 : decode prog_2_method_7_code 125 = .ok (.ireturn, 1) := by decide +kernel
def f_Kd_plainValue_0 (σ : pv_S) (x0 : Int32) (x1 : Int32) (x2 : Int32) (x3 : Int32) : Option (Int32 × pv_S) :=
  (if x0 = (0 : Int32) then
  ((f_Kd_stopped σ (((x1).toInt64) + ((x2).toInt64))).bind fun q1 =>
some (q1.1, q1.2))
  else
(if x0 = (1 : Int32) then
  ((f_Kd_stopped σ (((x1).toInt64) - ((x2).toInt64))).bind fun q2 =>
some (q2.1, q2.2))
  else
(if x0 = (2 : Int32) then
  ((f_Kd_scaled σ ((x1).toInt64) x2).bind fun q3 =>
((f_Kd_stopped q3.2 q3.1).bind fun q4 =>
some (q4.1, q4.2)))
  else
(if x0 = (3 : Int32) then
  ((f_Kd_scaled σ (((x2).toInt64) - ((x1).toInt64)) x3).bind fun q5 =>
((f_Kd_stopped q5.2 (((x1).toInt64) + q5.1)).bind fun q6 =>
some (q6.1, q6.2)))
  else
(if x0 = (4 : Int32) then
  (if x2 ≤ x1 then
  (if x1 ≤ x3 then
  some (x1, σ)
  else
  some (x3, σ))
  else
  some (x2, σ))
  else
(if x0 = (5 : Int32) then
  (if x1 ≤ x2 then
  some ((0 : Int32), σ)
  else
  some ((65536 : Int32), σ))
  else
  (if x1 ≤ 0 then
  some (x3, σ)
  else
  some (x2, σ))))))))
set_option maxHeartbeats 4000000 in
set_option maxRecDepth 100000 in
theorem s_Kd_plainValue_0 {p : Program} {l : Launch} {e : Env} {R : Room} {s : State} {m : MethodId} {args : Array Value} {below : List Frame} {meth : Method} {c : Code} {Q : State → Prop} {D : va_G} {q : Nat → ClassId} {a t : Nat → Nat} {A : Nat → Prop} (C : pv_C p s m args c prog_2_method_7_code 4 "PatchVoices$Kinds" pv_TB D pv_cl (pv_ty q) 52 a A (pv_ZX t A)) (hmv : pv_mv A (pv_ZX t A)) (hRf : 2 ≤ R.frames) (hRl : 38 ≤ R.locals) {out : (Int32 × pv_S)} (hret : pv_Ri p l e R s m args below meth c prog_2_method_7_code D pv_cl 52 a (pv_FX q a) A Q out) {σ : pv_S} {x0 : Int32} {x1 : Int32} {x2 : Int32} {x3 : Int32} {H : Heap} {locs : List Loc} {ls : Array Slot} (hl : lv_has ls 4 [(0, .int x0), (1, .int x1), (2, .int x2), (3, .int x3)]) (hP : pv_W D pv_cl 52 a (pv_FX q a) σ H) (hS : va_S A s.heap H locs) (hf : f_Kd_plainValue_0 σ x0 x1 x2 x3 = some out) : W p l e R s m args below meth c H locs 0 0 Q (F0 m 0 ls []) := by
  unfold f_Kd_plainValue_0 at hf
  have hx := C.1
  have hb := C.2.1
  refine lv_iload_n hx hb d_Kd_plainValue_0 rfl (lv_at hl 0 rfl) ?_
  by_cases h0 : x0 = (0 : Int32)
  · have hf := pv_t hf h0
    refine lv_tableIn (tgt := 40) hx hb d_Kd_plainValue_1 (by rw [h0]; decide) (by rw [h0]; decide) (by first | (rw [h0]; done) | (rw [h0]; rfl)) (by decide) ?_
    refine lv_iload_n hx hb d_Kd_plainValue_40 rfl (lv_at hl 1 rfl) ?_
    refine lv_i2l (v := (x1).toInt64) hx hb d_Kd_plainValue_41 rfl ?_
    refine lv_iload_n hx hb d_Kd_plainValue_42 rfl (lv_at hl 2 rfl) ?_
    refine lv_i2l (v := (x2).toInt64) hx hb d_Kd_plainValue_43 rfl ?_
    refine lv_ladd hx hb d_Kd_plainValue_44 ?_
    obtain ⟨q1, hc, hf⟩ := pv_b hf
    refine pv_callSi C hmv pv_good hP hS (As := [.long (((x1).toInt64) + ((x2).toInt64))]) (rest := []) (c_Kd_stopped C.2.2.2.2.2.2.1 hmv hc) cs_Kd_21 ⟨rfl, rfl, Nat.le_trans (Nat.le_of_ble_eq_true rfl) hRf, Nat.le_trans (Nat.le_of_ble_eq_true rfl) hRl⟩ rfl hl.1 rfl (Nat.le_of_ble_eq_true rfl) d_Kd_plainValue_45 ⟨Nat.zero_le _, Nat.zero_le _⟩ (fun H locs hP hS => ?_)
    obtain rfl := Option.some.inj hf
    exact hret _ _ _ _ d_Kd_plainValue_48 hP hS
  · have hf := pv_f hf h0
    by_cases h1 : x0 = (1 : Int32)
    · have hf := pv_t hf h1
      refine lv_tableIn (tgt := 49) hx hb d_Kd_plainValue_1 (by rw [h1]; decide) (by rw [h1]; decide) (by first | (rw [h1]; done) | (rw [h1]; rfl)) (by decide) ?_
      refine lv_iload_n hx hb d_Kd_plainValue_49 rfl (lv_at hl 1 rfl) ?_
      refine lv_i2l (v := (x1).toInt64) hx hb d_Kd_plainValue_50 rfl ?_
      refine lv_iload_n hx hb d_Kd_plainValue_51 rfl (lv_at hl 2 rfl) ?_
      refine lv_i2l (v := (x2).toInt64) hx hb d_Kd_plainValue_52 rfl ?_
      refine lv_lsub hx hb d_Kd_plainValue_53 ?_
      obtain ⟨q2, hc, hf⟩ := pv_b hf
      refine pv_callSi C hmv pv_good hP hS (As := [.long (((x1).toInt64) - ((x2).toInt64))]) (rest := []) (c_Kd_stopped C.2.2.2.2.2.2.1 hmv hc) cs_Kd_21 ⟨rfl, rfl, Nat.le_trans (Nat.le_of_ble_eq_true rfl) hRf, Nat.le_trans (Nat.le_of_ble_eq_true rfl) hRl⟩ rfl hl.1 rfl (Nat.le_of_ble_eq_true rfl) d_Kd_plainValue_54 ⟨Nat.zero_le _, Nat.zero_le _⟩ (fun H locs hP hS => ?_)
      obtain rfl := Option.some.inj hf
      exact hret _ _ _ _ d_Kd_plainValue_57 hP hS
    · have hf := pv_f hf h1
      by_cases h2 : x0 = (2 : Int32)
      · have hf := pv_t hf h2
        refine lv_tableIn (tgt := 58) hx hb d_Kd_plainValue_1 (by rw [h2]; decide) (by rw [h2]; decide) (by first | (rw [h2]; done) | (rw [h2]; rfl)) (by decide) ?_
        refine lv_iload_n hx hb d_Kd_plainValue_58 rfl (lv_at hl 1 rfl) ?_
        refine lv_i2l (v := (x1).toInt64) hx hb d_Kd_plainValue_59 rfl ?_
        refine lv_iload_n hx hb d_Kd_plainValue_60 rfl (lv_at hl 2 rfl) ?_
        obtain ⟨q3, hc, hf⟩ := pv_b hf
        refine pv_callSl C hmv pv_good hP hS (As := [.long ((x1).toInt64), .int x2]) (rest := []) (c_Kd_scaled C.2.2.2.2.2.2.1 hmv hc) cs_Kd_25 ⟨rfl, rfl, Nat.le_trans (Nat.le_of_ble_eq_true rfl) hRf, Nat.le_trans (Nat.le_of_ble_eq_true rfl) hRl⟩ rfl hl.1 rfl (Nat.le_of_ble_eq_true rfl) d_Kd_plainValue_61 ⟨Nat.zero_le _, Nat.zero_le _⟩ (fun H locs hP hS => ?_)
        obtain ⟨q4, hc, hf⟩ := pv_b hf
        refine pv_callSi C hmv pv_good hP hS (As := [.long q3.1]) (rest := []) (c_Kd_stopped C.2.2.2.2.2.2.1 hmv hc) cs_Kd_21 ⟨rfl, rfl, Nat.le_trans (Nat.le_of_ble_eq_true rfl) hRf, Nat.le_trans (Nat.le_of_ble_eq_true rfl) hRl⟩ rfl hl.1 rfl (Nat.le_of_ble_eq_true rfl) d_Kd_plainValue_64 ⟨Nat.zero_le _, Nat.zero_le _⟩ (fun H locs hP hS => ?_)
        obtain rfl := Option.some.inj hf
        exact hret _ _ _ _ d_Kd_plainValue_67 hP hS
      · have hf := pv_f hf h2
        by_cases h3 : x0 = (3 : Int32)
        · have hf := pv_t hf h3
          refine lv_tableIn (tgt := 68) hx hb d_Kd_plainValue_1 (by rw [h3]; decide) (by rw [h3]; decide) (by first | (rw [h3]; done) | (rw [h3]; rfl)) (by decide) ?_
          refine lv_iload_n hx hb d_Kd_plainValue_68 rfl (lv_at hl 1 rfl) ?_
          refine lv_i2l (v := (x1).toInt64) hx hb d_Kd_plainValue_69 rfl ?_
          refine lv_iload_n hx hb d_Kd_plainValue_70 rfl (lv_at hl 2 rfl) ?_
          refine lv_i2l (v := (x2).toInt64) hx hb d_Kd_plainValue_71 rfl ?_
          refine lv_iload_n hx hb d_Kd_plainValue_72 rfl (lv_at hl 1 rfl) ?_
          refine lv_i2l (v := (x1).toInt64) hx hb d_Kd_plainValue_73 rfl ?_
          refine lv_lsub hx hb d_Kd_plainValue_74 ?_
          refine lv_iload_n hx hb d_Kd_plainValue_75 rfl (lv_at hl 3 rfl) ?_
          obtain ⟨q5, hc, hf⟩ := pv_b hf
          refine pv_callSl C hmv pv_good hP hS (As := [.long (((x2).toInt64) - ((x1).toInt64)), .int x3]) (rest := [.long ((x1).toInt64)]) (c_Kd_scaled C.2.2.2.2.2.2.1 hmv hc) cs_Kd_25 ⟨rfl, rfl, Nat.le_trans (Nat.le_of_ble_eq_true rfl) hRf, Nat.le_trans (Nat.le_of_ble_eq_true rfl) hRl⟩ rfl hl.1 rfl (Nat.le_of_ble_eq_true rfl) d_Kd_plainValue_76 ⟨Nat.zero_le _, Nat.zero_le _⟩ (fun H locs hP hS => ?_)
          refine lv_ladd hx hb d_Kd_plainValue_79 ?_
          obtain ⟨q6, hc, hf⟩ := pv_b hf
          refine pv_callSi C hmv pv_good hP hS (As := [.long (((x1).toInt64) + q5.1)]) (rest := []) (c_Kd_stopped C.2.2.2.2.2.2.1 hmv hc) cs_Kd_21 ⟨rfl, rfl, Nat.le_trans (Nat.le_of_ble_eq_true rfl) hRf, Nat.le_trans (Nat.le_of_ble_eq_true rfl) hRl⟩ rfl hl.1 rfl (Nat.le_of_ble_eq_true rfl) d_Kd_plainValue_80 ⟨Nat.zero_le _, Nat.zero_le _⟩ (fun H locs hP hS => ?_)
          obtain rfl := Option.some.inj hf
          exact hret _ _ _ _ d_Kd_plainValue_83 hP hS
        · have hf := pv_f hf h3
          by_cases h4 : x0 = (4 : Int32)
          · have hf := pv_t hf h4
            refine lv_tableIn (tgt := 84) hx hb d_Kd_plainValue_1 (by rw [h4]; decide) (by rw [h4]; decide) (by first | (rw [h4]; done) | (rw [h4]; rfl)) (by decide) ?_
            refine lv_iload_n hx hb d_Kd_plainValue_84 rfl (lv_at hl 1 rfl) ?_
            refine lv_iload_n hx hb d_Kd_plainValue_85 rfl (lv_at hl 2 rfl) ?_
            refine lv_icmp_ge (tgt := 93) hx hb d_Kd_plainValue_86 (by decide) (fun h => ?_) (fun h => ?_)
            · have hf := pv_t hf h
              refine lv_iload_n hx hb d_Kd_plainValue_93 rfl (lv_at hl 1 rfl) ?_
              refine lv_iload_n hx hb d_Kd_plainValue_94 rfl (lv_at hl 3 rfl) ?_
              refine lv_icmp_le (tgt := 102) hx hb d_Kd_plainValue_95 (by decide) (fun h => ?_) (fun h => ?_)
              · have hf := pv_t hf h
                refine lv_iload_n hx hb d_Kd_plainValue_102 rfl (lv_at hl 1 rfl) ?_
                obtain rfl := Option.some.inj hf
                exact hret _ _ _ _ d_Kd_plainValue_103 hP hS
              · have hf := pv_f hf h
                refine lv_iload_n hx hb d_Kd_plainValue_98 rfl (lv_at hl 3 rfl) ?_
                refine lv_goto (tgt := 103) hx hb d_Kd_plainValue_99 (by decide) ?_
                obtain rfl := Option.some.inj hf
                exact hret _ _ _ _ d_Kd_plainValue_103 hP hS
            · have hf := pv_f hf h
              refine lv_iload_n hx hb d_Kd_plainValue_89 rfl (lv_at hl 2 rfl) ?_
              refine lv_goto (tgt := 103) hx hb d_Kd_plainValue_90 (by decide) ?_
              obtain rfl := Option.some.inj hf
              exact hret _ _ _ _ d_Kd_plainValue_103 hP hS
          · have hf := pv_f hf h4
            by_cases h5 : x0 = (5 : Int32)
            · have hf := pv_t hf h5
              refine lv_tableIn (tgt := 104) hx hb d_Kd_plainValue_1 (by rw [h5]; decide) (by rw [h5]; decide) (by first | (rw [h5]; done) | (rw [h5]; rfl)) (by decide) ?_
              refine lv_iload_n hx hb d_Kd_plainValue_104 rfl (lv_at hl 1 rfl) ?_
              refine lv_iload_n hx hb d_Kd_plainValue_105 rfl (lv_at hl 2 rfl) ?_
              refine lv_icmp_le (tgt := 114) hx hb d_Kd_plainValue_106 (by decide) (fun h => ?_) (fun h => ?_)
              · have hf := pv_t hf h
                refine lv_iconst (v := (0 : Int32)) hx hb d_Kd_plainValue_114 (by decide) ?_
                obtain rfl := Option.some.inj hf
                exact hret _ _ _ _ d_Kd_plainValue_115 hP hS
              · have hf := pv_f hf h
                refine lv_ldc (v := (65536 : Int32)) hx hb C.2.2.2.1 (C.2.2.2.2.1 _ w_651) d_Kd_plainValue_109 ?_
                refine lv_goto (tgt := 115) hx hb d_Kd_plainValue_111 (by decide) ?_
                obtain rfl := Option.some.inj hf
                exact hret _ _ _ _ d_Kd_plainValue_115 hP hS
            · have hf := pv_f hf h5
              refine lv_tableOut (tgt := 116) hx hb d_Kd_plainValue_1 (by have z0 := lv_neT h0 (a := 0) (by decide); have z1 := lv_neT h1 (a := 1) (by decide); have z2 := lv_neT h2 (a := 2) (by decide); have z3 := lv_neT h3 (a := 3) (by decide); have z4 := lv_neT h4 (a := 4) (by decide); have z5 := lv_neT h5 (a := 5) (by decide); omega) (by decide) ?_
              refine lv_iload_n hx hb d_Kd_plainValue_116 rfl (lv_at hl 1 rfl) ?_
              refine lv_if_le (tgt := 124) hx hb d_Kd_plainValue_117 (by decide) (fun h => ?_) (fun h => ?_)
              · have hf := pv_t hf h
                refine lv_iload_n hx hb d_Kd_plainValue_124 rfl (lv_at hl 3 rfl) ?_
                obtain rfl := Option.some.inj hf
                exact hret _ _ _ _ d_Kd_plainValue_125 hP hS
              · have hf := pv_f hf h
                refine lv_iload_n hx hb d_Kd_plainValue_120 rfl (lv_at hl 2 rfl) ?_
                refine lv_goto (tgt := 125) hx hb d_Kd_plainValue_121 (by decide) ?_
                obtain rfl := Option.some.inj hf
                exact hret _ _ _ _ d_Kd_plainValue_125 hP hS
def f_Kd_plainValue (σ : pv_S) (x0 : Int32) (x1 : Int32) (x2 : Int32) (x3 : Int32) : Option (Int32 × pv_S) := f_Kd_plainValue_0 σ x0 x1 x2 x3
def rm_Kd_plainValue : Room := { frames := 2, cells := 0, slots := 0, locals := 38 }
theorem c_Kd_plainValue {l : Launch} {D : va_G} {q : Nat → ClassId} {a t : Nat → Nat} {A : Nat → Prop} (hD : pv_D 52 a A) (hmv : pv_mv A (pv_ZX t A)) {σ : pv_S} {x0 : Int32} {x1 : Int32} {x2 : Int32} {x3 : Int32} {out : (Int32 × pv_S)} (hf : f_Kd_plainValue σ x0 x1 x2 x3 = some out) : pv_Mi l y_Kd_plainValue (Cond.code y_Kd_plainValue prog_2_method_7_code 4 (some .int) :: pv_TB) rm_Kd_plainValue D pv_cl (pv_ty q) 52 a (pv_FX q a) A (pv_ZX t A) [.int x0, .int x1, .int x2, .int x3] σ out :=
  pv_ofI (by decide) (Nat.le_of_ble_eq_true rfl) hD (fun p e s m args below meth c Q ls C hret hl hP => s_Kd_plainValue_0 C hmv (Nat.le_refl _) (Nat.le_refl _) hret hl hP va_S.rf hf)
theorem d_Kd_waveValue_0 : decode prog_2_method_10_code 0 = .ok (.iload_n 1, 1) := by decide +kernel
theorem d_Kd_waveValue_1 : decode prog_2_method_10_code 1 = .ok (.bipush 16, 2) := by decide +kernel
theorem d_Kd_waveValue_3 : decode prog_2_method_10_code 3 = .ok (.ishr, 1) := by decide +kernel
theorem d_Kd_waveValue_4 : decode prog_2_method_10_code 4 = .ok (.istore_n 2, 1) := by decide +kernel
theorem d_Kd_waveValue_5 : decode prog_2_method_10_code 5 = .ok (.iload_n 0, 1) := by decide +kernel
theorem d_Kd_waveValue_6 : decode prog_2_method_10_code 6 = .ok (.tableswitch 52 (11) (13) #[26, 28, 42], 26) := by decide +kernel
theorem d_Kd_waveValue_32 : decode prog_2_method_10_code 32 = .ok (.iload_n 2, 1) := by decide +kernel
theorem d_Kd_waveValue_33 : decode prog_2_method_10_code 33 = .ok (.ireturn, 1) := by decide +kernel
theorem d_Kd_waveValue_34 : decode prog_2_method_10_code 34 = .ok (.iload_n 2, 1) := by decide +kernel
theorem d_Kd_waveValue_35 : decode prog_2_method_10_code 35 = .ok (.ifCond .lt 9, 3) := by decide +kernel
theorem d_Kd_waveValue_38 : decode prog_2_method_10_code 38 = .ok (.sipush 32767, 3) := by decide +kernel
theorem d_Kd_waveValue_41 : decode prog_2_method_10_code 41 = .ok (.goto 6, 3) := by decide +kernel
theorem d_Kd_waveValue_44 : decode prog_2_method_10_code 44 = .ok (.sipush (-32767), 3) := by decide +kernel
theorem d_Kd_waveValue_47 : decode prog_2_method_10_code 47 = .ok (.ireturn, 1) := by decide +kernel
theorem d_Kd_waveValue_48 : decode prog_2_method_10_code 48 = .ok (.ldc 43, 2) := by decide +kernel
theorem d_Kd_waveValue_50 : decode prog_2_method_10_code 50 = .ok (.iconst 2, 1) := by decide +kernel
theorem d_Kd_waveValue_51 : decode prog_2_method_10_code 51 = .ok (.iload_n 2, 1) := by decide +kernel
theorem d_Kd_waveValue_52 : decode prog_2_method_10_code 52 = .ok (.invokestatic 44, 3) := by decide +kernel
theorem d_Kd_waveValue_55 : decode prog_2_method_10_code 55 = .ok (.imul, 1) := by decide +kernel
theorem d_Kd_waveValue_56 : decode prog_2_method_10_code 56 = .ok (.isub, 1) := by decide +kernel
theorem d_Kd_waveValue_57 : decode prog_2_method_10_code 57 = .ok (.ireturn, 1) := by decide +kernel
theorem d_Kd_waveValue_58 : decode prog_2_method_10_code 58 = .ok (.iload_n 2, 1) := by decide +kernel
theorem d_Kd_waveValue_59 : decode prog_2_method_10_code 59 = .ok (.ldc 43, 2) := by decide +kernel
theorem d_Kd_waveValue_61 : decode prog_2_method_10_code 61 = .ok (.iload_n 2, 1) := by decide +kernel
theorem d_Kd_waveValue_62 : decode prog_2_method_10_code 62 = .ok (.invokestatic 44, 3) := by decide +kernel
theorem d_Kd_waveValue_65 : decode prog_2_method_10_code 65 = .ok (.isub, 1) := by decide +kernel
theorem d_Kd_waveValue_66 : decode prog_2_method_10_code 66 = .ok (.imul, 1) := by decide +kernel
theorem d_Kd_waveValue_67 : decode prog_2_method_10_code 67 = .ok (.sipush 8192, 3) := by decide +kernel
theorem d_Kd_waveValue_70 : decode prog_2_method_10_code 70 = .ok (.idiv, 1) := by decide +kernel
theorem d_Kd_waveValue_71 : decode prog_2_method_10_code 71 = .ok (.ireturn, 1) := by decide +kernel
def f_Kd_waveValue_0 (σ : pv_S) (x0 : Int32) (x1 : Int32) : Option (Int32 × pv_S) :=
  (if x0 = (11 : Int32) then
  some ((x1 >>> ((16 : Int32) &&& 31)), σ)
  else
(if x0 = (12 : Int32) then
  (if (x1 >>> ((16 : Int32) &&& 31)) < 0 then
  some ((-32767 : Int32), σ)
  else
  some ((32767 : Int32), σ))
  else
(if x0 = (13 : Int32) then
  some (((32768 : Int32) - ((2 : Int32) * (if 0 ≤ (x1 >>> ((16 : Int32) &&& 31)) then (x1 >>> ((16 : Int32) &&& 31)) else 0 - (x1 >>> ((16 : Int32) &&& 31))))), σ)
  else
  some ((((x1 >>> ((16 : Int32) &&& 31)) * ((32768 : Int32) - (if 0 ≤ (x1 >>> ((16 : Int32) &&& 31)) then (x1 >>> ((16 : Int32) &&& 31)) else 0 - (x1 >>> ((16 : Int32) &&& 31))))) / (8192 : Int32)), σ))))
set_option maxHeartbeats 4000000 in
set_option maxRecDepth 100000 in
theorem s_Kd_waveValue_0 {p : Program} {l : Launch} {e : Env} {R : Room} {s : State} {m : MethodId} {args : Array Value} {below : List Frame} {meth : Method} {c : Code} {Q : State → Prop} {D : va_G} {q : Nat → ClassId} {a t : Nat → Nat} {A : Nat → Prop} (C : pv_C p s m args c prog_2_method_10_code 3 "PatchVoices$Kinds" pv_TB D pv_cl (pv_ty q) 52 a A (pv_ZX t A)) (hmv : pv_mv A (pv_ZX t A)) (hRf : 1 ≤ R.frames) (hRl : 17 ≤ R.locals) {out : (Int32 × pv_S)} (hret : pv_Ri p l e R s m args below meth c prog_2_method_10_code D pv_cl 52 a (pv_FX q a) A Q out) {σ : pv_S} {x0 : Int32} {x1 : Int32} {H : Heap} {locs : List Loc} {ls : Array Slot} (hl : lv_has ls 3 [(0, .int x0), (1, .int x1)]) (hP : pv_W D pv_cl 52 a (pv_FX q a) σ H) (hS : va_S A s.heap H locs) (hf : f_Kd_waveValue_0 σ x0 x1 = some out) : W p l e R s m args below meth c H locs 0 0 Q (F0 m 0 ls []) := by
  unfold f_Kd_waveValue_0 at hf
  have hx := C.1
  have hb := C.2.1
  refine lv_iload_n hx hb d_Kd_waveValue_0 rfl (lv_at hl 1 rfl) ?_
  refine lv_bipush (v := (16 : Int32)) hx hb d_Kd_waveValue_1 (by decide) ?_
  refine lv_ishr hx hb d_Kd_waveValue_3 ?_
  refine lv_istore_n (lv' := [(2, .int (x1 >>> ((16 : Int32) &&& 31))), (0, .int x0), (1, .int x1)]) hx hb d_Kd_waveValue_4 rfl hl (by decide) rfl (fun ls hl => ?_)
  refine lv_iload_n hx hb d_Kd_waveValue_5 rfl (lv_at hl 1 rfl) ?_
  by_cases h11 : x0 = (11 : Int32)
  · have hf := pv_t hf h11
    refine lv_tableIn (tgt := 32) hx hb d_Kd_waveValue_6 (by rw [h11]; decide) (by rw [h11]; decide) (by first | (rw [h11]; done) | (rw [h11]; rfl)) (by decide) ?_
    refine lv_iload_n hx hb d_Kd_waveValue_32 rfl (lv_at hl 0 rfl) ?_
    obtain rfl := Option.some.inj hf
    exact hret _ _ _ _ d_Kd_waveValue_33 hP hS
  · have hf := pv_f hf h11
    by_cases h12 : x0 = (12 : Int32)
    · have hf := pv_t hf h12
      refine lv_tableIn (tgt := 34) hx hb d_Kd_waveValue_6 (by rw [h12]; decide) (by rw [h12]; decide) (by first | (rw [h12]; done) | (rw [h12]; rfl)) (by decide) ?_
      refine lv_iload_n hx hb d_Kd_waveValue_34 rfl (lv_at hl 0 rfl) ?_
      refine lv_if_lt (tgt := 44) hx hb d_Kd_waveValue_35 (by decide) (fun h => ?_) (fun h => ?_)
      · have hf := pv_t hf h
        refine lv_sipush (v := (-32767 : Int32)) hx hb d_Kd_waveValue_44 (by decide) ?_
        obtain rfl := Option.some.inj hf
        exact hret _ _ _ _ d_Kd_waveValue_47 hP hS
      · have hf := pv_f hf h
        refine lv_sipush (v := (32767 : Int32)) hx hb d_Kd_waveValue_38 (by decide) ?_
        refine lv_goto (tgt := 47) hx hb d_Kd_waveValue_41 (by decide) ?_
        obtain rfl := Option.some.inj hf
        exact hret _ _ _ _ d_Kd_waveValue_47 hP hS
    · have hf := pv_f hf h12
      by_cases h13 : x0 = (13 : Int32)
      · have hf := pv_t hf h13
        refine lv_tableIn (tgt := 48) hx hb d_Kd_waveValue_6 (by rw [h13]; decide) (by rw [h13]; decide) (by first | (rw [h13]; done) | (rw [h13]; rfl)) (by decide) ?_
        refine lv_ldc (v := (32768 : Int32)) hx hb C.2.2.2.1 (C.2.2.2.2.1 _ w_972) d_Kd_waveValue_48 ?_
        refine lv_iconst (v := (2 : Int32)) hx hb d_Kd_waveValue_50 (by decide) ?_
        refine lv_iload_n hx hb d_Kd_waveValue_51 rfl (lv_at hl 0 rfl) ?_
        refine va_mabs hx hb (C.2.2.1.trans hl.1.symm) C.2.2.2.1 (C.2.2.2.2.1 _ w_973) (C.2.2.2.2.1 _ w_974) (C.2.2.2.2.1 _ w_123) (C.2.2.2.2.1 _ w_975) (by omega) (Nat.le_trans (Nat.le_of_ble_eq_true rfl) hRl) (Nat.zero_le _) (Nat.zero_le _) d_Kd_waveValue_52 ?_
        refine lv_imul hx hb d_Kd_waveValue_55 ?_
        refine lv_isub hx hb d_Kd_waveValue_56 ?_
        obtain rfl := Option.some.inj hf
        exact hret _ _ _ _ d_Kd_waveValue_57 hP hS
      · have hf := pv_f hf h13
        refine lv_tableOut (tgt := 58) hx hb d_Kd_waveValue_6 (by have z0 := lv_neT h11 (a := 11) (by decide); have z1 := lv_neT h12 (a := 12) (by decide); have z2 := lv_neT h13 (a := 13) (by decide); omega) (by decide) ?_
        refine lv_iload_n hx hb d_Kd_waveValue_58 rfl (lv_at hl 0 rfl) ?_
        refine lv_ldc (v := (32768 : Int32)) hx hb C.2.2.2.1 (C.2.2.2.2.1 _ w_972) d_Kd_waveValue_59 ?_
        refine lv_iload_n hx hb d_Kd_waveValue_61 rfl (lv_at hl 0 rfl) ?_
        refine va_mabs hx hb (C.2.2.1.trans hl.1.symm) C.2.2.2.1 (C.2.2.2.2.1 _ w_973) (C.2.2.2.2.1 _ w_974) (C.2.2.2.2.1 _ w_123) (C.2.2.2.2.1 _ w_975) (by omega) (Nat.le_trans (Nat.le_of_ble_eq_true rfl) hRl) (Nat.zero_le _) (Nat.zero_le _) d_Kd_waveValue_62 ?_
        refine lv_isub hx hb d_Kd_waveValue_65 ?_
        refine lv_imul hx hb d_Kd_waveValue_66 ?_
        refine lv_sipush (v := (8192 : Int32)) hx hb d_Kd_waveValue_67 (by decide) ?_
        refine lv_idiv hx hb d_Kd_waveValue_70 (by decide) ?_
        obtain rfl := Option.some.inj hf
        exact hret _ _ _ _ d_Kd_waveValue_71 hP hS
def f_Kd_waveValue (σ : pv_S) (x0 : Int32) (x1 : Int32) : Option (Int32 × pv_S) := f_Kd_waveValue_0 σ x0 x1
def rm_Kd_waveValue : Room := { frames := 1, cells := 0, slots := 0, locals := 17 }
theorem c_Kd_waveValue {l : Launch} {D : va_G} {q : Nat → ClassId} {a t : Nat → Nat} {A : Nat → Prop} (hD : pv_D 52 a A) (hmv : pv_mv A (pv_ZX t A)) {σ : pv_S} {x0 : Int32} {x1 : Int32} {out : (Int32 × pv_S)} (hf : f_Kd_waveValue σ x0 x1 = some out) : pv_Mi l y_Kd_waveValue (Cond.code y_Kd_waveValue prog_2_method_10_code 3 (some .int) :: pv_TB) rm_Kd_waveValue D pv_cl (pv_ty q) 52 a (pv_FX q a) A (pv_ZX t A) [.int x0, .int x1] σ out :=
  pv_ofI (by decide) (Nat.le_of_ble_eq_true rfl) hD (fun p e s m args below meth c Q ls C hret hl hP => s_Kd_waveValue_0 C hmv (Nat.le_refl _) (Nat.le_refl _) hret hl hP va_S.rf hf)
