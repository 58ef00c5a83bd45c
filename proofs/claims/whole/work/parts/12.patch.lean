theorem d_Pt_clear_0 : decode prog_3_method_2_code 0 = .ok (.aload_n 0, 1) := by decide +kernel
theorem d_Pt_clear_1 : decode prog_3_method_2_code 1 = .ok (.iconst 0, 1) := by decide +kernel
theorem d_Pt_clear_2 : decode prog_3_method_2_code 2 = .ok (.putfield 36, 3) := by decide +kernel
theorem d_Pt_clear_5 : decode prog_3_method_2_code 5 = .ok (.aload_n 0, 1) := by decide +kernel
theorem d_Pt_clear_6 : decode prog_3_method_2_code 6 = .ok (.getfield 23, 3) := by decide +kernel
theorem d_Pt_clear_9 : decode prog_3_method_2_code 9 = .ok (.iconst 0, 1) := by decide +kernel
theorem d_Pt_clear_10 : decode prog_3_method_2_code 10 = .ok (.invokestatic 40, 3) := by decide +kernel
theorem d_Pt_clear_13 : decode prog_3_method_2_code 13 = .ok (.aload_n 0, 1) := by decide +kernel
theorem d_Pt_clear_14 : decode prog_3_method_2_code 14 = .ok (.getfield 11, 3) := by decide +kernel
theorem d_Pt_clear_17 : decode prog_3_method_2_code 17 = .ok (.iconst 0, 1) := by decide +kernel
theorem d_Pt_clear_18 : decode prog_3_method_2_code 18 = .ok (.invokestatic 40, 3) := by decide +kernel
theorem d_Pt_clear_21 : decode prog_3_method_2_code 21 = .ok (.aload_n 0, 1) := by decide +kernel
theorem d_Pt_clear_22 : decode prog_3_method_2_code 22 = .ok (.getfield 26, 3) := by decide +kernel
theorem d_Pt_clear_25 : decode prog_3_method_2_code 25 = .ok (.iconst 0, 1) := by decide +kernel
theorem d_Pt_clear_26 : decode prog_3_method_2_code 26 = .ok (.invokestatic 40, 3) := by decide +kernel
theorem d_Pt_clear_29 : decode prog_3_method_2_code 29 = .ok (.aload_n 0, 1) := by decide +kernel
theorem d_Pt_clear_30 : decode prog_3_method_2_code 30 = .ok (.getfield 29, 3) := by decide +kernel
theorem d_Pt_clear_33 : decode prog_3_method_2_code 33 = .ok (.iconst 0, 1) := by decide +kernel
theorem d_Pt_clear_34 : decode prog_3_method_2_code 34 = .ok (.invokestatic 40, 3) := by decide +kernel
theorem d_Pt_clear_37 : decode prog_3_method_2_code 37 = .ok (.aload_n 0, 1) := by decide +kernel
theorem d_Pt_clear_38 : decode prog_3_method_2_code 38 = .ok (.getfield 20, 3) := by decide +kernel
theorem d_Pt_clear_41 : decode prog_3_method_2_code 41 = .ok (.iconst 0, 1) := by decide +kernel
theorem d_Pt_clear_42 : decode prog_3_method_2_code 42 = .ok (.invokestatic 40, 3) := by decide +kernel
theorem d_Pt_clear_45 : decode prog_3_method_2_code 45 = .ok (.return_, 1) := by decide +kernel
def f_Pt_clear_0 (σ : pv_S) : Option pv_S :=
  ((f_Fill_7 (pv_uI σ 3 0 (0 : Int32)) (0 : Int32)).bind fun q1 =>
((f_Fill_4 q1 (0 : Int32)).bind fun q2 =>
((f_Fill_8 q2 (0 : Int32)).bind fun q3 =>
((f_Fill_9 q3 (0 : Int32)).bind fun q4 =>
((f_Fill_6 q4 (0 : Int32)).bind fun q5 =>
some q5)))))
set_option maxHeartbeats 4000000 in
set_option maxRecDepth 100000 in
theorem s_Pt_clear_0 {p : Program} {l : Launch} {e : Env} {R : Room} {s : State} {m : MethodId} {args : Array Value} {below : List Frame} {meth : Method} {c : Code} {Q : State → Prop} {D : va_G} {q : Nat → ClassId} {a t : Nat → Nat} {A : Nat → Prop} (C : pv_C p s m args c prog_3_method_2_code 1 "PatchVoices$Patch" pv_TB D pv_cl (pv_ty q) 52 a A (pv_ZX t A)) (hmv : pv_mv A (pv_ZX t A)) (hRf : 1 ≤ R.frames) (hRl : 23 ≤ R.locals) {out : pv_S} (hret : pv_Rv p l e R s m args below meth c prog_3_method_2_code D pv_cl 52 a (pv_FX q a) A Q out) {σ : pv_S} {H : Heap} {locs : List Loc} {ls : Array Slot} (hl : lv_has ls 1 [(0, .ref (a 3))]) (hP : pv_W D pv_cl 52 a (pv_FX q a) σ H) (hS : va_S A s.heap H locs) (hf : f_Pt_clear_0 σ = some out) : W p l e R s m args below meth c H locs 0 0 Q (F0 m 0 ls []) := by
  unfold f_Pt_clear_0 at hf
  have hx := C.1
  have hb := C.2.1
  refine lv_aload_n hx hb d_Pt_clear_0 rfl (lv_at hl 0 rfl) ?_
  refine lv_iconst (v := (0 : Int32)) hx hb d_Pt_clear_1 (by decide) ?_
  refine pv_putI C hP hS (x := (0 : Int32)) (by decide) (fx_3 _ _ _ _) fw_Pt_36 rfl rfl (Nat.le_of_ble_eq_true rfl) (fxs_3_0 _ _ _ _ _) d_Pt_clear_2 (fun H locs hP hS => ?_)
  refine lv_aload_n hx hb d_Pt_clear_5 rfl (lv_at hl 0 rfl) ?_
  refine pv_get C hP (v := .ref (a 7)) (j := 4) (by decide) (fx_3 _ _ _ _) fl_Pt_23 rfl d_Pt_clear_6 ?_
  refine lv_iconst (v := (0 : Int32)) hx hb d_Pt_clear_9 (by decide) ?_
  obtain ⟨q1, hc, hf⟩ := pv_b hf
  refine pv_callSv C hmv pv_good hP hS (As := [.ref (a 7), .int (0 : Int32)]) (rest := []) (c_Fill_7 C.2.2.2.2.2.2.1 hmv hc) cs_Pt_40 ⟨rfl, rfl, Nat.le_trans (Nat.le_of_ble_eq_true rfl) hRf, Nat.le_trans (Nat.le_of_ble_eq_true rfl) hRl⟩ rfl hl.1 rfl (Nat.le_of_ble_eq_true rfl) d_Pt_clear_10 ⟨Nat.zero_le _, Nat.zero_le _⟩ (fun H locs hP hS => ?_)
  refine lv_aload_n hx hb d_Pt_clear_13 rfl (lv_at hl 0 rfl) ?_
  refine pv_get C hP (v := .ref (a 4)) (j := 1) (by decide) (fx_3 _ _ _ _) fl_Pt_11 rfl d_Pt_clear_14 ?_
  refine lv_iconst (v := (0 : Int32)) hx hb d_Pt_clear_17 (by decide) ?_
  obtain ⟨q2, hc, hf⟩ := pv_b hf
  refine pv_callSv C hmv pv_good hP hS (As := [.ref (a 4), .int (0 : Int32)]) (rest := []) (c_Fill_4 C.2.2.2.2.2.2.1 hmv hc) cs_Pt_40 ⟨rfl, rfl, Nat.le_trans (Nat.le_of_ble_eq_true rfl) hRf, Nat.le_trans (Nat.le_of_ble_eq_true rfl) hRl⟩ rfl hl.1 rfl (Nat.le_of_ble_eq_true rfl) d_Pt_clear_18 ⟨Nat.zero_le _, Nat.zero_le _⟩ (fun H locs hP hS => ?_)
  refine lv_aload_n hx hb d_Pt_clear_21 rfl (lv_at hl 0 rfl) ?_
  refine pv_get C hP (v := .ref (a 8)) (j := 5) (by decide) (fx_3 _ _ _ _) fl_Pt_26 rfl d_Pt_clear_22 ?_
  refine lv_iconst (v := (0 : Int32)) hx hb d_Pt_clear_25 (by decide) ?_
  obtain ⟨q3, hc, hf⟩ := pv_b hf
  refine pv_callSv C hmv pv_good hP hS (As := [.ref (a 8), .int (0 : Int32)]) (rest := []) (c_Fill_8 C.2.2.2.2.2.2.1 hmv hc) cs_Pt_40 ⟨rfl, rfl, Nat.le_trans (Nat.le_of_ble_eq_true rfl) hRf, Nat.le_trans (Nat.le_of_ble_eq_true rfl) hRl⟩ rfl hl.1 rfl (Nat.le_of_ble_eq_true rfl) d_Pt_clear_26 ⟨Nat.zero_le _, Nat.zero_le _⟩ (fun H locs hP hS => ?_)
  refine lv_aload_n hx hb d_Pt_clear_29 rfl (lv_at hl 0 rfl) ?_
  refine pv_get C hP (v := .ref (a 9)) (j := 6) (by decide) (fx_3 _ _ _ _) fl_Pt_29 rfl d_Pt_clear_30 ?_
  refine lv_iconst (v := (0 : Int32)) hx hb d_Pt_clear_33 (by decide) ?_
  obtain ⟨q4, hc, hf⟩ := pv_b hf
  refine pv_callSv C hmv pv_good hP hS (As := [.ref (a 9), .int (0 : Int32)]) (rest := []) (c_Fill_9 C.2.2.2.2.2.2.1 hmv hc) cs_Pt_40 ⟨rfl, rfl, Nat.le_trans (Nat.le_of_ble_eq_true rfl) hRf, Nat.le_trans (Nat.le_of_ble_eq_true rfl) hRl⟩ rfl hl.1 rfl (Nat.le_of_ble_eq_true rfl) d_Pt_clear_34 ⟨Nat.zero_le _, Nat.zero_le _⟩ (fun H locs hP hS => ?_)
  refine lv_aload_n hx hb d_Pt_clear_37 rfl (lv_at hl 0 rfl) ?_
  refine pv_get C hP (v := .ref (a 6)) (j := 3) (by decide) (fx_3 _ _ _ _) fl_Pt_20 rfl d_Pt_clear_38 ?_
  refine lv_iconst (v := (0 : Int32)) hx hb d_Pt_clear_41 (by decide) ?_
  obtain ⟨q5, hc, hf⟩ := pv_b hf
  refine pv_callSv C hmv pv_good hP hS (As := [.ref (a 6), .int (0 : Int32)]) (rest := []) (c_Fill_6 C.2.2.2.2.2.2.1 hmv hc) cs_Pt_40 ⟨rfl, rfl, Nat.le_trans (Nat.le_of_ble_eq_true rfl) hRf, Nat.le_trans (Nat.le_of_ble_eq_true rfl) hRl⟩ rfl hl.1 rfl (Nat.le_of_ble_eq_true rfl) d_Pt_clear_42 ⟨Nat.zero_le _, Nat.zero_le _⟩ (fun H locs hP hS => ?_)
  obtain rfl := Option.some.inj hf
  exact hret _ _ _ _ d_Pt_clear_45 hP hS
def f_Pt_clear (σ : pv_S) : Option pv_S := f_Pt_clear_0 σ
def rm_Pt_clear : Room := { frames := 1, cells := 0, slots := 0, locals := 23 }
theorem c_Pt_clear {l : Launch} {D : va_G} {q : Nat → ClassId} {a t : Nat → Nat} {A : Nat → Prop} (hD : pv_D 52 a A) (hmv : pv_mv A (pv_ZX t A)) {σ : pv_S} {out : pv_S} (hf : f_Pt_clear σ = some out) : pv_Mv l y_Pt_clear (Cond.code y_Pt_clear prog_3_method_2_code 1 none :: pv_TB) rm_Pt_clear D pv_cl (pv_ty q) 52 a (pv_FX q a) A (pv_ZX t A) [.ref (a 3)] σ out :=
  pv_ofV (by decide) (Nat.le_of_ble_eq_true rfl) hD (fun p e s m args below meth c Q ls C hret hl hP => s_Pt_clear_0 C hmv (Nat.le_refl _) (Nat.le_refl _) hret hl hP va_S.rf hf)
theorem d_Pt_addModule_0 : decode prog_3_method_3_code 0 = .ok (.aload_n 0, 1) := by decide +kernel
theorem d_Pt_addModule_1 : decode prog_3_method_3_code 1 = .ok (.dup, 1) := by decide +kernel
theorem d_Pt_addModule_2 : decode prog_3_method_3_code 2 = .ok (.getfield 36, 3) := by decide +kernel
theorem d_Pt_addModule_5 : decode prog_3_method_3_code 5 = .ok (.iconst 1, 1) := by decide +kernel
theorem d_Pt_addModule_6 : decode prog_3_method_3_code 6 = .ok (.iadd, 1) := by decide +kernel
theorem d_Pt_addModule_7 : decode prog_3_method_3_code 7 = .ok (.putfield 36, 3) := by decide +kernel
theorem d_Pt_addModule_10 : decode prog_3_method_3_code 10 = .ok (.return_, 1) := by decide +kernel
def f_Pt_addModule_0 (σ : pv_S) : Option pv_S :=
  some (pv_uI σ 3 0 ((σ.1 3 0) + (1 : Int32)))
set_option maxHeartbeats 4000000 in
set_option maxRecDepth 100000 in
theorem s_Pt_addModule_0 {p : Program} {l : Launch} {e : Env} {R : Room} {s : State} {m : MethodId} {args : Array Value} {below : List Frame} {meth : Method} {c : Code} {Q : State → Prop} {D : va_G} {q : Nat → ClassId} {a t : Nat → Nat} {A : Nat → Prop} (C : pv_C p s m args c prog_3_method_3_code 1 "PatchVoices$Patch" pv_TB D pv_cl (pv_ty q) 52 a A (pv_ZX t A)) (hmv : pv_mv A (pv_ZX t A)) (hRf : 0 ≤ R.frames) (hRl : 0 ≤ R.locals) {out : pv_S} (hret : pv_Rv p l e R s m args below meth c prog_3_method_3_code D pv_cl 52 a (pv_FX q a) A Q out) {σ : pv_S} {H : Heap} {locs : List Loc} {ls : Array Slot} (hl : lv_has ls 1 [(0, .ref (a 3))]) (hP : pv_W D pv_cl 52 a (pv_FX q a) σ H) (hS : va_S A s.heap H locs) (hf : f_Pt_addModule_0 σ = some out) : W p l e R s m args below meth c H locs 0 0 Q (F0 m 0 ls []) := by
  unfold f_Pt_addModule_0 at hf
  have hx := C.1
  have hb := C.2.1
  refine lv_aload_n hx hb d_Pt_addModule_0 rfl (lv_at hl 0 rfl) ?_
  refine lv_dup hx hb d_Pt_addModule_1 rfl ?_
  refine pv_get C hP (v := .int (σ.1 3 0)) (j := 0) (by decide) (fx_3 _ _ _ _) fl_Pt_36 rfl d_Pt_addModule_2 ?_
  refine lv_iconst (v := (1 : Int32)) hx hb d_Pt_addModule_5 (by decide) ?_
  refine lv_iadd hx hb d_Pt_addModule_6 ?_
  refine pv_putI C hP hS (x := ((σ.1 3 0) + (1 : Int32))) (by decide) (fx_3 _ _ _ _) fw_Pt_36 rfl rfl (Nat.le_of_ble_eq_true rfl) (fxs_3_0 _ _ _ _ _) d_Pt_addModule_7 (fun H locs hP hS => ?_)
  obtain rfl := Option.some.inj hf
  exact hret _ _ _ _ d_Pt_addModule_10 hP hS
def f_Pt_addModule (σ : pv_S) : Option pv_S := f_Pt_addModule_0 σ
def rm_Pt_addModule : Room := { frames := 0, cells := 0, slots := 0, locals := 0 }
theorem c_Pt_addModule {l : Launch} {D : va_G} {q : Nat → ClassId} {a t : Nat → Nat} {A : Nat → Prop} (hD : pv_D 52 a A) (hmv : pv_mv A (pv_ZX t A)) {σ : pv_S} {out : pv_S} (hf : f_Pt_addModule σ = some out) : pv_Mv l y_Pt_addModule (Cond.code y_Pt_addModule prog_3_method_3_code 1 none :: pv_TB) rm_Pt_addModule D pv_cl (pv_ty q) 52 a (pv_FX q a) A (pv_ZX t A) [.ref (a 3)] σ out :=
  pv_ofV (by decide) (Nat.le_of_ble_eq_true rfl) hD (fun p e s m args below meth c Q ls C hret hl hP => s_Pt_addModule_0 C hmv (Nat.le_refl _) (Nat.le_refl _) hret hl hP va_S.rf hf)
theorem d_Pt_longerName_0 : decode prog_3_method_11_code 0 = .ok (.iload_n 0, 1) := by decide +kernel
theorem d_Pt_longerName_1 : decode prog_3_method_11_code 1 = .ok (.bipush 8, 2) := by decide +kernel
theorem d_Pt_longerName_3 : decode prog_3_method_11_code 3 = .ok (.ishl, 1) := by decide +kernel
theorem d_Pt_longerName_4 : decode prog_3_method_11_code 4 = .ok (.iload_n 1, 1) := by decide +kernel
theorem d_Pt_longerName_5 : decode prog_3_method_11_code 5 = .ok (.ior, 1) := by decide +kernel
theorem d_Pt_longerName_6 : decode prog_3_method_11_code 6 = .ok (.ireturn, 1) := by decide +kernel
def f_Pt_longerName_0 (σ : pv_S) (x0 : Int32) (x1 : Int32) : Option (Int32 × pv_S) :=
  some (((x0 <<< ((8 : Int32) &&& 31)) ||| x1), σ)
set_option maxHeartbeats 4000000 in
set_option maxRecDepth 100000 in
theorem s_Pt_longerName_0 {p : Program} {l : Launch} {e : Env} {R : Room} {s : State} {m : MethodId} {args : Array Value} {below : List Frame} {meth : Method} {c : Code} {Q : State → Prop} {D : va_G} {q : Nat → ClassId} {a t : Nat → Nat} {A : Nat → Prop} (C : pv_C p s m args c prog_3_method_11_code 2 "PatchVoices$Patch" pv_TB D pv_cl (pv_ty q) 52 a A (pv_ZX t A)) (hmv : pv_mv A (pv_ZX t A)) (hRf : 0 ≤ R.frames) (hRl : 0 ≤ R.locals) {out : (Int32 × pv_S)} (hret : pv_Ri p l e R s m args below meth c prog_3_method_11_code D pv_cl 52 a (pv_FX q a) A Q out) {σ : pv_S} {x0 : Int32} {x1 : Int32} {H : Heap} {locs : List Loc} {ls : Array Slot} (hl : lv_has ls 2 [(0, .int x0), (1, .int x1)]) (hP : pv_W D pv_cl 52 a (pv_FX q a) σ H) (hS : va_S A s.heap H locs) (hf : f_Pt_longerName_0 σ x0 x1 = some out) : W p l e R s m args below meth c H locs 0 0 Q (F0 m 0 ls []) := by
  unfold f_Pt_longerName_0 at hf
  have hx := C.1
  have hb := C.2.1
  refine lv_iload_n hx hb d_Pt_longerName_0 rfl (lv_at hl 0 rfl) ?_
  refine lv_bipush (v := (8 : Int32)) hx hb d_Pt_longerName_1 (by decide) ?_
  refine lv_ishl hx hb d_Pt_longerName_3 ?_
  refine lv_iload_n hx hb d_Pt_longerName_4 rfl (lv_at hl 1 rfl) ?_
  refine lv_ior hx hb d_Pt_longerName_5 ?_
  obtain rfl := Option.some.inj hf
  exact hret _ _ _ _ d_Pt_longerName_6 hP hS
def f_Pt_longerName (σ : pv_S) (x0 : Int32) (x1 : Int32) : Option (Int32 × pv_S) := f_Pt_longerName_0 σ x0 x1
def rm_Pt_longerName : Room := { frames := 0, cells := 0, slots := 0, locals := 0 }
theorem c_Pt_longerName {l : Launch} {D : va_G} {q : Nat → ClassId} {a t : Nat → Nat} {A : Nat → Prop} (hD : pv_D 52 a A) (hmv : pv_mv A (pv_ZX t A)) {σ : pv_S} {x0 : Int32} {x1 : Int32} {out : (Int32 × pv_S)} (hf : f_Pt_longerName σ x0 x1 = some out) : pv_Mi l y_Pt_longerName (Cond.code y_Pt_longerName prog_3_method_11_code 2 (some .int) :: pv_TB) rm_Pt_longerName D pv_cl (pv_ty q) 52 a (pv_FX q a) A (pv_ZX t A) [.int x0, .int x1] σ out :=
  pv_ofI (by decide) (Nat.le_of_ble_eq_true rfl) hD (fun p e s m args below meth c Q ls C hret hl hP => s_Pt_longerName_0 C hmv (Nat.le_refl _) (Nat.le_refl _) hret hl hP va_S.rf hf)
theorem d_Pt_addToName_0 : decode prog_3_method_4_code 0 = .ok (.aload_n 0, 1) := by decide +kernel
theorem d_Pt_addToName_1 : decode prog_3_method_4_code 1 = .ok (.getfield 23, 3) := by decide +kernel
theorem d_Pt_addToName_4 : decode prog_3_method_4_code 4 = .ok (.aload_n 0, 1) := by decide +kernel
theorem d_Pt_addToName_5 : decode prog_3_method_4_code 5 = .ok (.getfield 36, 3) := by decide +kernel
theorem d_Pt_addToName_8 : decode prog_3_method_4_code 8 = .ok (.iconst 1, 1) := by decide +kernel
theorem d_Pt_addToName_9 : decode prog_3_method_4_code 9 = .ok (.isub, 1) := by decide +kernel
theorem d_Pt_addToName_10 : decode prog_3_method_4_code 10 = .ok (.aload_n 0, 1) := by decide +kernel
theorem d_Pt_addToName_11 : decode prog_3_method_4_code 11 = .ok (.getfield 23, 3) := by decide +kernel
theorem d_Pt_addToName_14 : decode prog_3_method_4_code 14 = .ok (.aload_n 0, 1) := by decide +kernel
theorem d_Pt_addToName_15 : decode prog_3_method_4_code 15 = .ok (.getfield 36, 3) := by decide +kernel
theorem d_Pt_addToName_18 : decode prog_3_method_4_code 18 = .ok (.iconst 1, 1) := by decide +kernel
theorem d_Pt_addToName_19 : decode prog_3_method_4_code 19 = .ok (.isub, 1) := by decide +kernel
theorem d_Pt_addToName_20 : decode prog_3_method_4_code 20 = .ok (.iaload, 1) := by decide +kernel
theorem d_Pt_addToName_21 : decode prog_3_method_4_code 21 = .ok (.iload_n 1, 1) := by decide +kernel
theorem d_Pt_addToName_22 : decode prog_3_method_4_code 22 = .ok (.invokestatic 46, 3) := by decide +kernel
theorem d_Pt_addToName_25 : decode prog_3_method_4_code 25 = .ok (.iastore, 1) := by decide +kernel
theorem d_Pt_addToName_26 : decode prog_3_method_4_code 26 = .ok (.return_, 1) := by decide +kernel
def f_Pt_addToName_0 (σ : pv_S) (x1 : Int32) : Option pv_S :=
  (if pv_in ((σ.1 3 0) - (1 : Int32)) 38 = true then
((f_Pt_longerName σ (σ.1 7 (((σ.1 3 0) - (1 : Int32))).toNatClampNeg) x1).bind fun q1 =>
(if pv_in ((σ.1 3 0) - (1 : Int32)) 38 = true then
some (pv_uI q1.2 7 (((σ.1 3 0) - (1 : Int32))).toNatClampNeg q1.1)
  else none))
  else none)
set_option maxHeartbeats 4000000 in
set_option maxRecDepth 100000 in
theorem s_Pt_addToName_0 {p : Program} {l : Launch} {e : Env} {R : Room} {s : State} {m : MethodId} {args : Array Value} {below : List Frame} {meth : Method} {c : Code} {Q : State → Prop} {D : va_G} {q : Nat → ClassId} {a t : Nat → Nat} {A : Nat → Prop} (C : pv_C p s m args c prog_3_method_4_code 2 "PatchVoices$Patch" pv_TB D pv_cl (pv_ty q) 52 a A (pv_ZX t A)) (hmv : pv_mv A (pv_ZX t A)) (hRf : 1 ≤ R.frames) (hRl : 21 ≤ R.locals) {out : pv_S} (hret : pv_Rv p l e R s m args below meth c prog_3_method_4_code D pv_cl 52 a (pv_FX q a) A Q out) {σ : pv_S} {x1 : Int32} {H : Heap} {locs : List Loc} {ls : Array Slot} (hl : lv_has ls 2 [(0, .ref (a 3)), (1, .int x1)]) (hP : pv_W D pv_cl 52 a (pv_FX q a) σ H) (hS : va_S A s.heap H locs) (hf : f_Pt_addToName_0 σ x1 = some out) : W p l e R s m args below meth c H locs 0 0 Q (F0 m 0 ls []) := by
  unfold f_Pt_addToName_0 at hf
  have hx := C.1
  have hb := C.2.1
  refine lv_aload_n hx hb d_Pt_addToName_0 rfl (lv_at hl 0 rfl) ?_
  refine pv_get C hP (v := .ref (a 7)) (j := 4) (by decide) (fx_3 _ _ _ _) fl_Pt_23 rfl d_Pt_addToName_1 ?_
  refine lv_aload_n hx hb d_Pt_addToName_4 rfl (lv_at hl 0 rfl) ?_
  refine pv_get C hP (v := .int (σ.1 3 0)) (j := 0) (by decide) (fx_3 _ _ _ _) fl_Pt_36 rfl d_Pt_addToName_5 ?_
  refine lv_iconst (v := (1 : Int32)) hx hb d_Pt_addToName_8 (by decide) ?_
  refine lv_isub hx hb d_Pt_addToName_9 ?_
  refine lv_aload_n hx hb d_Pt_addToName_10 rfl (lv_at hl 0 rfl) ?_
  refine pv_get C hP (v := .ref (a 7)) (j := 4) (by decide) (fx_3 _ _ _ _) fl_Pt_23 rfl d_Pt_addToName_11 ?_
  refine lv_aload_n hx hb d_Pt_addToName_14 rfl (lv_at hl 0 rfl) ?_
  refine pv_get C hP (v := .int (σ.1 3 0)) (j := 0) (by decide) (fx_3 _ _ _ _) fl_Pt_36 rfl d_Pt_addToName_15 ?_
  refine lv_iconst (v := (1 : Int32)) hx hb d_Pt_addToName_18 (by decide) ?_
  refine lv_isub hx hb d_Pt_addToName_19 ?_
  obtain ⟨hg, hf⟩ := pv_g hf
  refine pv_iald C hP (t0 := 0) (by decide) (fx_7 _ _ _ _) rfl hg d_Pt_addToName_20 ?_
  refine lv_iload_n hx hb d_Pt_addToName_21 rfl (lv_at hl 1 rfl) ?_
  obtain ⟨q1, hc, hf⟩ := pv_b hf
  refine pv_callSi C hmv pv_good hP hS (As := [.int (σ.1 7 (((σ.1 3 0) - (1 : Int32))).toNatClampNeg), .int x1]) (rest := [.int ((σ.1 3 0) - (1 : Int32)), .ref (a 7)]) (c_Pt_longerName C.2.2.2.2.2.2.1 hmv hc) cs_Pt_46 ⟨rfl, rfl, Nat.le_trans (Nat.le_of_ble_eq_true rfl) hRf, Nat.le_trans (Nat.le_of_ble_eq_true rfl) hRl⟩ rfl hl.1 rfl (Nat.le_of_ble_eq_true rfl) d_Pt_addToName_22 ⟨Nat.zero_le _, Nat.zero_le _⟩ (fun H locs hP hS => ?_)
  obtain ⟨hg, hf⟩ := pv_g hf
  refine pv_iast C hP hS (t0 := 0) (x := q1.1) (by decide) (fun f g => (fx_7 _ _ f g)) rfl hg d_Pt_addToName_25 (fun H locs hP hS => ?_)
  obtain rfl := Option.some.inj hf
  exact hret _ _ _ _ d_Pt_addToName_26 hP hS
def f_Pt_addToName (σ : pv_S) (x1 : Int32) : Option pv_S := f_Pt_addToName_0 σ x1
def rm_Pt_addToName : Room := { frames := 1, cells := 0, slots := 0, locals := 21 }
theorem c_Pt_addToName {l : Launch} {D : va_G} {q : Nat → ClassId} {a t : Nat → Nat} {A : Nat → Prop} (hD : pv_D 52 a A) (hmv : pv_mv A (pv_ZX t A)) {σ : pv_S} {x1 : Int32} {out : pv_S} (hf : f_Pt_addToName σ x1 = some out) : pv_Mv l y_Pt_addToName (Cond.code y_Pt_addToName prog_3_method_4_code 2 none :: pv_TB) rm_Pt_addToName D pv_cl (pv_ty q) 52 a (pv_FX q a) A (pv_ZX t A) [.ref (a 3), .int x1] σ out :=
  pv_ofV (by decide) (Nat.le_of_ble_eq_true rfl) hD (fun p e s m args below meth c Q ls C hret hl hP => s_Pt_addToName_0 C hmv (Nat.le_refl _) (Nat.le_refl _) hret hl hP va_S.rf hf)
theorem d_Pt_setKind_0 : decode prog_3_method_5_code 0 = .ok (.aload_n 0, 1) := by decide +kernel
theorem d_Pt_setKind_1 : decode prog_3_method_5_code 1 = .ok (.getfield 11, 3) := by decide +kernel
theorem d_Pt_setKind_4 : decode prog_3_method_5_code 4 = .ok (.aload_n 0, 1) := by decide +kernel
theorem d_Pt_setKind_5 : decode prog_3_method_5_code 5 = .ok (.getfield 36, 3) := by decide +kernel
theorem d_Pt_setKind_8 : decode prog_3_method_5_code 8 = .ok (.iconst 1, 1) := by decide +kernel
theorem d_Pt_setKind_9 : decode prog_3_method_5_code 9 = .ok (.isub, 1) := by decide +kernel
theorem d_Pt_setKind_10 : decode prog_3_method_5_code 10 = .ok (.iload_n 1, 1) := by decide +kernel
theorem d_Pt_setKind_11 : decode prog_3_method_5_code 11 = .ok (.iastore, 1) := by decide +kernel
theorem d_Pt_setKind_12 : decode prog_3_method_5_code 12 = .ok (.return_, 1) := by decide +kernel
def f_Pt_setKind_0 (σ : pv_S) (x1 : Int32) : Option pv_S :=
  (if pv_in ((σ.1 3 0) - (1 : Int32)) 38 = true then
some (pv_uI σ 4 (((σ.1 3 0) - (1 : Int32))).toNatClampNeg x1)
  else none)
set_option maxHeartbeats 4000000 in
set_option maxRecDepth 100000 in
theorem s_Pt_setKind_0 {p : Program} {l : Launch} {e : Env} {R : Room} {s : State} {m : MethodId} {args : Array Value} {below : List Frame} {meth : Method} {c : Code} {Q : State → Prop} {D : va_G} {q : Nat → ClassId} {a t : Nat → Nat} {A : Nat → Prop} (C : pv_C p s m args c prog_3_method_5_code 2 "PatchVoices$Patch" pv_TB D pv_cl (pv_ty q) 52 a A (pv_ZX t A)) (hmv : pv_mv A (pv_ZX t A)) (hRf : 0 ≤ R.frames) (hRl : 0 ≤ R.locals) {out : pv_S} (hret : pv_Rv p l e R s m args below meth c prog_3_method_5_code D pv_cl 52 a (pv_FX q a) A Q out) {σ : pv_S} {x1 : Int32} {H : Heap} {locs : List Loc} {ls : Array Slot} (hl : lv_has ls 2 [(0, .ref (a 3)), (1, .int x1)]) (hP : pv_W D pv_cl 52 a (pv_FX q a) σ H) (hS : va_S A s.heap H locs) (hf : f_Pt_setKind_0 σ x1 = some out) : W p l e R s m args below meth c H locs 0 0 Q (F0 m 0 ls []) := by
  unfold f_Pt_setKind_0 at hf
  have hx := C.1
  have hb := C.2.1
  refine lv_aload_n hx hb d_Pt_setKind_0 rfl (lv_at hl 0 rfl) ?_
  refine pv_get C hP (v := .ref (a 4)) (j := 1) (by decide) (fx_3 _ _ _ _) fl_Pt_11 rfl d_Pt_setKind_1 ?_
  refine lv_aload_n hx hb d_Pt_setKind_4 rfl (lv_at hl 0 rfl) ?_
  refine pv_get C hP (v := .int (σ.1 3 0)) (j := 0) (by decide) (fx_3 _ _ _ _) fl_Pt_36 rfl d_Pt_setKind_5 ?_
  refine lv_iconst (v := (1 : Int32)) hx hb d_Pt_setKind_8 (by decide) ?_
  refine lv_isub hx hb d_Pt_setKind_9 ?_
  refine lv_iload_n hx hb d_Pt_setKind_10 rfl (lv_at hl 1 rfl) ?_
  obtain ⟨hg, hf⟩ := pv_g hf
  refine pv_iast C hP hS (t0 := 0) (x := x1) (by decide) (fun f g => (fx_4 _ _ f g)) rfl hg d_Pt_setKind_11 (fun H locs hP hS => ?_)
  obtain rfl := Option.some.inj hf
  exact hret _ _ _ _ d_Pt_setKind_12 hP hS
def f_Pt_setKind (σ : pv_S) (x1 : Int32) : Option pv_S := f_Pt_setKind_0 σ x1
def rm_Pt_setKind : Room := { frames := 0, cells := 0, slots := 0, locals := 0 }
theorem c_Pt_setKind {l : Launch} {D : va_G} {q : Nat → ClassId} {a t : Nat → Nat} {A : Nat → Prop} (hD : pv_D 52 a A) (hmv : pv_mv A (pv_ZX t A)) {σ : pv_S} {x1 : Int32} {out : pv_S} (hf : f_Pt_setKind σ x1 = some out) : pv_Mv l y_Pt_setKind (Cond.code y_Pt_setKind prog_3_method_5_code 2 none :: pv_TB) rm_Pt_setKind D pv_cl (pv_ty q) 52 a (pv_FX q a) A (pv_ZX t A) [.ref (a 3), .int x1] σ out :=
  pv_ofV (by decide) (Nat.le_of_ble_eq_true rfl) hD (fun p e s m args below meth c Q ls C hret hl hP => s_Pt_setKind_0 C hmv (Nat.le_refl _) (Nat.le_refl _) hret hl hP va_S.rf hf)
theorem d_Pt_hasRoomForInput_0 : decode prog_3_method_6_code 0 = .ok (.aload_n 0, 1) := by decide +kernel
theorem d_Pt_hasRoomForInput_1 : decode prog_3_method_6_code 1 = .ok (.getfield 26, 3) := by decide +kernel
theorem d_Pt_hasRoomForInput_4 : decode prog_3_method_6_code 4 = .ok (.aload_n 0, 1) := by decide +kernel
theorem d_Pt_hasRoomForInput_5 : decode prog_3_method_6_code 5 = .ok (.getfield 36, 3) := by decide +kernel
theorem d_Pt_hasRoomForInput_8 : decode prog_3_method_6_code 8 = .ok (.iconst 1, 1) := by decide +kernel
theorem d_Pt_hasRoomForInput_9 : decode prog_3_method_6_code 9 = .ok (.isub, 1) := by decide +kernel
theorem d_Pt_hasRoomForInput_10 : decode prog_3_method_6_code 10 = .ok (.iaload, 1) := by decide +kernel
theorem d_Pt_hasRoomForInput_11 : decode prog_3_method_6_code 11 = .ok (.iconst 4, 1) := by decide +kernel
theorem d_Pt_hasRoomForInput_12 : decode prog_3_method_6_code 12 = .ok (.if_icmp .ge 7, 3) := by decide +kernel
theorem d_Pt_hasRoomForInput_15 : decode prog_3_method_6_code 15 = .ok (.iconst 1, 1) := by decide +kernel
theorem d_Pt_hasRoomForInput_16 : decode prog_3_method_6_code 16 = .ok (.goto 4, 3) := by decide +kernel
theorem d_Pt_hasRoomForInput_19 : decode prog_3_method_6_code 19 = .ok (.iconst 0, 1) := by decide +kernel
theorem d_Pt_hasRoomForInput_20 : decode prog_3_method_6_code 20 = .ok (.ireturn, 1) := by decide +kernel
def f_Pt_hasRoomForInput_0 (σ : pv_S) : Option (Int32 × pv_S) :=
  (if pv_in ((σ.1 3 0) - (1 : Int32)) 38 = true then
(if (4 : Int32) ≤ (σ.1 8 (((σ.1 3 0) - (1 : Int32))).toNatClampNeg) then
  some ((0 : Int32), σ)
  else
  some ((1 : Int32), σ))
  else none)
set_option maxHeartbeats 4000000 in
set_option maxRecDepth 100000 in
theorem s_Pt_hasRoomForInput_0 {p : Program} {l : Launch} {e : Env} {R : Room} {s : State} {m : MethodId} {args : Array Value} {below : List Frame} {meth : Method} {c : Code} {Q : State → Prop} {D : va_G} {q : Nat → ClassId} {a t : Nat → Nat} {A : Nat → Prop} (C : pv_C p s m args c prog_3_method_6_code 1 "PatchVoices$Patch" pv_TB D pv_cl (pv_ty q) 52 a A (pv_ZX t A)) (hmv : pv_mv A (pv_ZX t A)) (hRf : 0 ≤ R.frames) (hRl : 0 ≤ R.locals) {out : (Int32 × pv_S)} (hret : pv_Rz p l e R s m args below meth c prog_3_method_6_code D pv_cl 52 a (pv_FX q a) A Q out) {σ : pv_S} {H : Heap} {locs : List Loc} {ls : Array Slot} (hl : lv_has ls 1 [(0, .ref (a 3))]) (hP : pv_W D pv_cl 52 a (pv_FX q a) σ H) (hS : va_S A s.heap H locs) (hf : f_Pt_hasRoomForInput_0 σ = some out) : W p l e R s m args below meth c H locs 0 0 Q (F0 m 0 ls []) := by
  unfold f_Pt_hasRoomForInput_0 at hf
  have hx := C.1
  have hb := C.2.1
  refine lv_aload_n hx hb d_Pt_hasRoomForInput_0 rfl (lv_at hl 0 rfl) ?_
  refine pv_get C hP (v := .ref (a 8)) (j := 5) (by decide) (fx_3 _ _ _ _) fl_Pt_26 rfl d_Pt_hasRoomForInput_1 ?_
  refine lv_aload_n hx hb d_Pt_hasRoomForInput_4 rfl (lv_at hl 0 rfl) ?_
  refine pv_get C hP (v := .int (σ.1 3 0)) (j := 0) (by decide) (fx_3 _ _ _ _) fl_Pt_36 rfl d_Pt_hasRoomForInput_5 ?_
  refine lv_iconst (v := (1 : Int32)) hx hb d_Pt_hasRoomForInput_8 (by decide) ?_
  refine lv_isub hx hb d_Pt_hasRoomForInput_9 ?_
  obtain ⟨hg, hf⟩ := pv_g hf
  refine pv_iald C hP (t0 := 0) (by decide) (fx_8 _ _ _ _) rfl hg d_Pt_hasRoomForInput_10 ?_
  refine lv_iconst (v := (4 : Int32)) hx hb d_Pt_hasRoomForInput_11 (by decide) ?_
  refine lv_icmp_ge (tgt := 19) hx hb d_Pt_hasRoomForInput_12 (by decide) (fun h => ?_) (fun h => ?_)
  · have hf := pv_t hf h
    refine lv_iconst (v := (0 : Int32)) hx hb d_Pt_hasRoomForInput_19 (by decide) ?_
    obtain rfl := Option.some.inj hf
    exact hret _ _ _ _ d_Pt_hasRoomForInput_20 rfl hP hS
  · have hf := pv_f hf h
    refine lv_iconst (v := (1 : Int32)) hx hb d_Pt_hasRoomForInput_15 (by decide) ?_
    refine lv_goto (tgt := 20) hx hb d_Pt_hasRoomForInput_16 (by decide) ?_
    obtain rfl := Option.some.inj hf
    exact hret _ _ _ _ d_Pt_hasRoomForInput_20 rfl hP hS
def f_Pt_hasRoomForInput (σ : pv_S) : Option (Int32 × pv_S) := f_Pt_hasRoomForInput_0 σ
def rm_Pt_hasRoomForInput : Room := { frames := 0, cells := 0, slots := 0, locals := 0 }
theorem c_Pt_hasRoomForInput {l : Launch} {D : va_G} {q : Nat → ClassId} {a t : Nat → Nat} {A : Nat → Prop} (hD : pv_D 52 a A) (hmv : pv_mv A (pv_ZX t A)) {σ : pv_S} {out : (Int32 × pv_S)} (hf : f_Pt_hasRoomForInput σ = some out) : pv_Mi l y_Pt_hasRoomForInput (Cond.code y_Pt_hasRoomForInput prog_3_method_6_code 1 (some .boolean) :: pv_TB) rm_Pt_hasRoomForInput D pv_cl (pv_ty q) 52 a (pv_FX q a) A (pv_ZX t A) [.ref (a 3)] σ out :=
  pv_ofZ (by decide) (Nat.le_of_ble_eq_true rfl) hD (fun p e s m args below meth c Q ls C hret hl hP => s_Pt_hasRoomForInput_0 C hmv (Nat.le_refl _) (Nat.le_refl _) hret hl hP va_S.rf hf)
theorem d_Pt_addInput_0 : decode prog_3_method_7_code 0 = .ok (.aload_n 0, 1) := by decide +kernel
theorem d_Pt_addInput_1 : decode prog_3_method_7_code 1 = .ok (.getfield 26, 3) := by decide +kernel
theorem d_Pt_addInput_4 : decode prog_3_method_7_code 4 = .ok (.aload_n 0, 1) := by decide +kernel
theorem d_Pt_addInput_5 : decode prog_3_method_7_code 5 = .ok (.getfield 36, 3) := by decide +kernel
theorem d_Pt_addInput_8 : decode prog_3_method_7_code 8 = .ok (.iconst 1, 1) := by decide +kernel
theorem d_Pt_addInput_9 : decode prog_3_method_7_code 9 = .ok (.isub, 1) := by decide +kernel
theorem d_Pt_addInput_10 : decode prog_3_method_7_code 10 = .ok (.dup2, 1) := by decide +kernel
theorem d_Pt_addInput_11 : decode prog_3_method_7_code 11 = .ok (.iaload, 1) := by decide +kernel
theorem d_Pt_addInput_12 : decode prog_3_method_7_code 12 = .ok (.iconst 1, 1) := by decide +kernel
theorem d_Pt_addInput_13 : decode prog_3_method_7_code 13 = .ok (.iadd, 1) := by decide +kernel
theorem d_Pt_addInput_14 : decode prog_3_method_7_code 14 = .ok (.iastore, 1) := by decide +kernel
theorem d_Pt_addInput_15 : decode prog_3_method_7_code 15 = .ok (.return_, 1) := by decide +kernel
def f_Pt_addInput_0 (σ : pv_S) : Option pv_S :=
  (if pv_in ((σ.1 3 0) - (1 : Int32)) 38 = true then
(if pv_in ((σ.1 3 0) - (1 : Int32)) 38 = true then
some (pv_uI σ 8 (((σ.1 3 0) - (1 : Int32))).toNatClampNeg ((σ.1 8 (((σ.1 3 0) - (1 : Int32))).toNatClampNeg) + (1 : Int32)))
  else none)
  else none)
set_option maxHeartbeats 4000000 in
set_option maxRecDepth 100000 in
theorem s_Pt_addInput_0 {p : Program} {l : Launch} {e : Env} {R : Room} {s : State} {m : MethodId} {args : Array Value} {below : List Frame} {meth : Method} {c : Code} {Q : State → Prop} {D : va_G} {q : Nat → ClassId} {a t : Nat → Nat} {A : Nat → Prop} (C : pv_C p s m args c prog_3_method_7_code 1 "PatchVoices$Patch" pv_TB D pv_cl (pv_ty q) 52 a A (pv_ZX t A)) (hmv : pv_mv A (pv_ZX t A)) (hRf : 0 ≤ R.frames) (hRl : 0 ≤ R.locals) {out : pv_S} (hret : pv_Rv p l e R s m args below meth c prog_3_method_7_code D pv_cl 52 a (pv_FX q a) A Q out) {σ : pv_S} {H : Heap} {locs : List Loc} {ls : Array Slot} (hl : lv_has ls 1 [(0, .ref (a 3))]) (hP : pv_W D pv_cl 52 a (pv_FX q a) σ H) (hS : va_S A s.heap H locs) (hf : f_Pt_addInput_0 σ = some out) : W p l e R s m args below meth c H locs 0 0 Q (F0 m 0 ls []) := by
  unfold f_Pt_addInput_0 at hf
  have hx := C.1
  have hb := C.2.1
  refine lv_aload_n hx hb d_Pt_addInput_0 rfl (lv_at hl 0 rfl) ?_
  refine pv_get C hP (v := .ref (a 8)) (j := 5) (by decide) (fx_3 _ _ _ _) fl_Pt_26 rfl d_Pt_addInput_1 ?_
  refine lv_aload_n hx hb d_Pt_addInput_4 rfl (lv_at hl 0 rfl) ?_
  refine pv_get C hP (v := .int (σ.1 3 0)) (j := 0) (by decide) (fx_3 _ _ _ _) fl_Pt_36 rfl d_Pt_addInput_5 ?_
  refine lv_iconst (v := (1 : Int32)) hx hb d_Pt_addInput_8 (by decide) ?_
  refine lv_isub hx hb d_Pt_addInput_9 ?_
  refine lv_dup2_11 hx hb d_Pt_addInput_10 rfl rfl ?_
  obtain ⟨hg, hf⟩ := pv_g hf
  refine pv_iald C hP (t0 := 0) (by decide) (fx_8 _ _ _ _) rfl hg d_Pt_addInput_11 ?_
  refine lv_iconst (v := (1 : Int32)) hx hb d_Pt_addInput_12 (by decide) ?_
  refine lv_iadd hx hb d_Pt_addInput_13 ?_
  obtain ⟨hg, hf⟩ := pv_g hf
  refine pv_iast C hP hS (t0 := 0) (x := ((σ.1 8 (((σ.1 3 0) - (1 : Int32))).toNatClampNeg) + (1 : Int32))) (by decide) (fun f g => (fx_8 _ _ f g)) rfl hg d_Pt_addInput_14 (fun H locs hP hS => ?_)
  obtain rfl := Option.some.inj hf
  exact hret _ _ _ _ d_Pt_addInput_15 hP hS
def f_Pt_addInput (σ : pv_S) : Option pv_S := f_Pt_addInput_0 σ
def rm_Pt_addInput : Room := { frames := 0, cells := 0, slots := 0, locals := 0 }
theorem c_Pt_addInput {l : Launch} {D : va_G} {q : Nat → ClassId} {a t : Nat → Nat} {A : Nat → Prop} (hD : pv_D 52 a A) (hmv : pv_mv A (pv_ZX t A)) {σ : pv_S} {out : pv_S} (hf : f_Pt_addInput σ = some out) : pv_Mv l y_Pt_addInput (Cond.code y_Pt_addInput prog_3_method_7_code 1 none :: pv_TB) rm_Pt_addInput D pv_cl (pv_ty q) 52 a (pv_FX q a) A (pv_ZX t A) [.ref (a 3)] σ out :=
  pv_ofV (by decide) (Nat.le_of_ble_eq_true rfl) hD (fun p e s m args below meth c Q ls C hret hl hP => s_Pt_addInput_0 C hmv (Nat.le_refl _) (Nat.le_refl _) hret hl hP va_S.rf hf)
theorem d_Pt_latestInput_0 : decode prog_3_method_10_code 0 = .ok (.iconst 4, 1) := by decide +kernel
theorem d_Pt_latestInput_1 : decode prog_3_method_10_code 1 = .ok (.aload_n 0, 1) := by decide +kernel
theorem d_Pt_latestInput_2 : decode prog_3_method_10_code 2 = .ok (.getfield 36, 3) := by decide +kernel
theorem d_Pt_latestInput_5 : decode prog_3_method_10_code 5 = .ok (.iconst 1, 1) := by decide +kernel
theorem d_Pt_latestInput_6 : decode prog_3_method_10_code 6 = .ok (.isub, 1) := by decide +kernel
theorem d_Pt_latestInput_7 : decode prog_3_method_10_code 7 = .ok (.imul, 1) := by decide +kernel
theorem d_Pt_latestInput_8 : decode prog_3_method_10_code 8 = .ok (.aload_n 0, 1) := by decide +kernel
theorem d_Pt_latestInput_9 : decode prog_3_method_10_code 9 = .ok (.getfield 26, 3) := by decide +kernel
theorem d_Pt_latestInput_12 : decode prog_3_method_10_code 12 = .ok (.aload_n 0, 1) := by decide +kernel
theorem d_Pt_latestInput_13 : decode prog_3_method_10_code 13 = .ok (.getfield 36, 3) := by decide +kernel
theorem d_Pt_latestInput_16 : decode prog_3_method_10_code 16 = .ok (.iconst 1, 1) := by decide +kernel
theorem d_Pt_latestInput_17 : decode prog_3_method_10_code 17 = .ok (.isub, 1) := by decide +kernel
theorem d_Pt_latestInput_18 : decode prog_3_method_10_code 18 = .ok (.iaload, 1) := by decide +kernel
theorem d_Pt_latestInput_19 : decode prog_3_method_10_code 19 = .ok (.iadd, 1) := by decide +kernel
theorem d_Pt_latestInput_20 : decode prog_3_method_10_code 20 = .ok (.iconst 1, 1) := by decide +kernel
theorem d_Pt_latestInput_21 : decode prog_3_method_10_code 21 = .ok (.isub, 1) := by decide +kernel
theorem d_Pt_latestInput_22 : decode prog_3_method_10_code 22 = .ok (.ireturn, 1) := by decide +kernel
def f_Pt_latestInput_0 (σ : pv_S) : Option (Int32 × pv_S) :=
  (if pv_in ((σ.1 3 0) - (1 : Int32)) 38 = true then
some (((((4 : Int32) * ((σ.1 3 0) - (1 : Int32))) + (σ.1 8 (((σ.1 3 0) - (1 : Int32))).toNatClampNeg)) - (1 : Int32)), σ)
  else none)
set_option maxHeartbeats 4000000 in
set_option maxRecDepth 100000 in
theorem s_Pt_latestInput_0 {p : Program} {l : Launch} {e : Env} {R : Room} {s : State} {m : MethodId} {args : Array Value} {below : List Frame} {meth : Method} {c : Code} {Q : State → Prop} {D : va_G} {q : Nat → ClassId} {a t : Nat → Nat} {A : Nat → Prop} (C : pv_C p s m args c prog_3_method_10_code 1 "PatchVoices$Patch" pv_TB D pv_cl (pv_ty q) 52 a A (pv_ZX t A)) (hmv : pv_mv A (pv_ZX t A)) (hRf : 0 ≤ R.frames) (hRl : 0 ≤ R.locals) {out : (Int32 × pv_S)} (hret : pv_Ri p l e R s m args below meth c prog_3_method_10_code D pv_cl 52 a (pv_FX q a) A Q out) {σ : pv_S} {H : Heap} {locs : List Loc} {ls : Array Slot} (hl : lv_has ls 1 [(0, .ref (a 3))]) (hP : pv_W D pv_cl 52 a (pv_FX q a) σ H) (hS : va_S A s.heap H locs) (hf : f_Pt_latestInput_0 σ = some out) : W p l e R s m args below meth c H locs 0 0 Q (F0 m 0 ls []) := by
  unfold f_Pt_latestInput_0 at hf
  have hx := C.1
  have hb := C.2.1
  refine lv_iconst (v := (4 : Int32)) hx hb d_Pt_latestInput_0 (by decide) ?_
  refine lv_aload_n hx hb d_Pt_latestInput_1 rfl (lv_at hl 0 rfl) ?_
  refine pv_get C hP (v := .int (σ.1 3 0)) (j := 0) (by decide) (fx_3 _ _ _ _) fl_Pt_36 rfl d_Pt_latestInput_2 ?_
  refine lv_iconst (v := (1 : Int32)) hx hb d_Pt_latestInput_5 (by decide) ?_
  refine lv_isub hx hb d_Pt_latestInput_6 ?_
  refine lv_imul hx hb d_Pt_latestInput_7 ?_
  refine lv_aload_n hx hb d_Pt_latestInput_8 rfl (lv_at hl 0 rfl) ?_
  refine pv_get C hP (v := .ref (a 8)) (j := 5) (by decide) (fx_3 _ _ _ _) fl_Pt_26 rfl d_Pt_latestInput_9 ?_
  refine lv_aload_n hx hb d_Pt_latestInput_12 rfl (lv_at hl 0 rfl) ?_
  refine pv_get C hP (v := .int (σ.1 3 0)) (j := 0) (by decide) (fx_3 _ _ _ _) fl_Pt_36 rfl d_Pt_latestInput_13 ?_
  refine lv_iconst (v := (1 : Int32)) hx hb d_Pt_latestInput_16 (by decide) ?_
  refine lv_isub hx hb d_Pt_latestInput_17 ?_
  obtain ⟨hg, hf⟩ := pv_g hf
  refine pv_iald C hP (t0 := 0) (by decide) (fx_8 _ _ _ _) rfl hg d_Pt_latestInput_18 ?_
  refine lv_iadd hx hb d_Pt_latestInput_19 ?_
  refine lv_iconst (v := (1 : Int32)) hx hb d_Pt_latestInput_20 (by decide) ?_
  refine lv_isub hx hb d_Pt_latestInput_21 ?_
  obtain rfl := Option.some.inj hf
  exact hret _ _ _ _ d_Pt_latestInput_22 hP hS
def f_Pt_latestInput (σ : pv_S) : Option (Int32 × pv_S) := f_Pt_latestInput_0 σ
def rm_Pt_latestInput : Room := { frames := 0, cells := 0, slots := 0, locals := 0 }
theorem c_Pt_latestInput {l : Launch} {D : va_G} {q : Nat → ClassId} {a t : Nat → Nat} {A : Nat → Prop} (hD : pv_D 52 a A) (hmv : pv_mv A (pv_ZX t A)) {σ : pv_S} {out : (Int32 × pv_S)} (hf : f_Pt_latestInput σ = some out) : pv_Mi l y_Pt_latestInput (Cond.code y_Pt_latestInput prog_3_method_10_code 1 (some .int) :: pv_TB) rm_Pt_latestInput D pv_cl (pv_ty q) 52 a (pv_FX q a) A (pv_ZX t A) [.ref (a 3)] σ out :=
  pv_ofI (by decide) (Nat.le_of_ble_eq_true rfl) hD (fun p e s m args below meth c Q ls C hret hl hP => s_Pt_latestInput_0 C hmv (Nat.le_refl _) (Nat.le_refl _) hret hl hP va_S.rf hf)
theorem d_Pt_addToCord_0 : decode prog_3_method_8_code 0 = .ok (.aload_n 0, 1) := by decide +kernel
theorem d_Pt_addToCord_1 : decode prog_3_method_8_code 1 = .ok (.invokevirtual 50, 3) := by decide +kernel
theorem d_Pt_addToCord_4 : decode prog_3_method_8_code 4 = .ok (.istore_n 2, 1) := by decide +kernel
theorem d_Pt_addToCord_5 : decode prog_3_method_8_code 5 = .ok (.aload_n 0, 1) := by decide +kernel
theorem d_Pt_addToCord_6 : decode prog_3_method_8_code 6 = .ok (.getfield 29, 3) := by decide +kernel
theorem d_Pt_addToCord_9 : decode prog_3_method_8_code 9 = .ok (.iload_n 2, 1) := by decide +kernel
theorem d_Pt_addToCord_10 : decode prog_3_method_8_code 10 = .ok (.aload_n 0, 1) := by decide +kernel
theorem d_Pt_addToCord_11 : decode prog_3_method_8_code 11 = .ok (.getfield 29, 3) := by decide +kernel
theorem d_Pt_addToCord_14 : decode prog_3_method_8_code 14 = .ok (.iload_n 2, 1) := by decide +kernel
theorem d_Pt_addToCord_15 : decode prog_3_method_8_code 15 = .ok (.iaload, 1) := by decide +kernel
theorem d_Pt_addToCord_16 : decode prog_3_method_8_code 16 = .ok (.iload_n 1, 1) := by decide +kernel
theorem d_Pt_addToCord_17 : decode prog_3_method_8_code 17 = .ok (.invokestatic 46, 3) := by decide +kernel
theorem d_Pt_addToCord_20 : decode prog_3_method_8_code 20 = .ok (.iastore, 1) := by decide +kernel
theorem d_Pt_addToCord_21 : decode prog_3_method_8_code 21 = .ok (.return_, 1) := by decide +kernel
def f_Pt_addToCord_0 (σ : pv_S) (x1 : Int32) : Option pv_S :=
  ((f_Pt_latestInput σ).bind fun q1 =>
(if pv_in q1.1 152 = true then
((f_Pt_longerName q1.2 (q1.2.1 9 (q1.1).toNatClampNeg) x1).bind fun q2 =>
(if pv_in q1.1 152 = true then
some (pv_uI q2.2 9 (q1.1).toNatClampNeg q2.1)
  else none))
  else none))
set_option maxHeartbeats 4000000 in
set_option maxRecDepth 100000 in
theorem s_Pt_addToCord_0 {p : Program} {l : Launch} {e : Env} {R : Room} {s : State} {m : MethodId} {args : Array Value} {below : List Frame} {meth : Method} {c : Code} {Q : State → Prop} {D : va_G} {q : Nat → ClassId} {a t : Nat → Nat} {A : Nat → Prop} (C : pv_C p s m args c prog_3_method_8_code 3 "PatchVoices$Patch" pv_TB D pv_cl (pv_ty q) 52 a A (pv_ZX t A)) (hmv : pv_mv A (pv_ZX t A)) (hRf : 1 ≤ R.frames) (hRl : 21 ≤ R.locals) {out : pv_S} (hret : pv_Rv p l e R s m args below meth c prog_3_method_8_code D pv_cl 52 a (pv_FX q a) A Q out) {σ : pv_S} {x1 : Int32} {H : Heap} {locs : List Loc} {ls : Array Slot} (hl : lv_has ls 3 [(0, .ref (a 3)), (1, .int x1)]) (hP : pv_W D pv_cl 52 a (pv_FX q a) σ H) (hS : va_S A s.heap H locs) (hf : f_Pt_addToCord_0 σ x1 = some out) : W p l e R s m args below meth c H locs 0 0 Q (F0 m 0 ls []) := by
  unfold f_Pt_addToCord_0 at hf
  have hx := C.1
  have hb := C.2.1
  refine lv_aload_n hx hb d_Pt_addToCord_0 rfl (lv_at hl 0 rfl) ?_
  obtain ⟨q1, hc, hf⟩ := pv_b hf
  refine pv_callVi C hmv pv_good hP hS (As := []) (rest := []) (by decide) (fx_3 _ _ _ _) rfl (c_Pt_latestInput C.2.2.2.2.2.2.1 hmv hc) cv_Pt_50 ⟨rfl, rfl, Nat.le_trans (Nat.le_of_ble_eq_true rfl) hRf, Nat.le_trans (Nat.le_of_ble_eq_true rfl) hRl⟩ rfl hl.1 rfl (Nat.le_of_ble_eq_true rfl) d_Pt_addToCord_1 ⟨Nat.zero_le _, Nat.zero_le _⟩ (fun H locs hP hS => ?_)
  refine lv_istore_n (lv' := [(2, .int q1.1), (0, .ref (a 3)), (1, .int x1)]) hx hb d_Pt_addToCord_4 rfl hl (by decide) rfl (fun ls hl => ?_)
  refine lv_aload_n hx hb d_Pt_addToCord_5 rfl (lv_at hl 1 rfl) ?_
  refine pv_get C hP (v := .ref (a 9)) (j := 6) (by decide) (fx_3 _ _ _ _) fl_Pt_29 rfl d_Pt_addToCord_6 ?_
  refine lv_iload_n hx hb d_Pt_addToCord_9 rfl (lv_at hl 0 rfl) ?_
  refine lv_aload_n hx hb d_Pt_addToCord_10 rfl (lv_at hl 1 rfl) ?_
  refine pv_get C hP (v := .ref (a 9)) (j := 6) (by decide) (fx_3 _ _ _ _) fl_Pt_29 rfl d_Pt_addToCord_11 ?_
  refine lv_iload_n hx hb d_Pt_addToCord_14 rfl (lv_at hl 0 rfl) ?_
  obtain ⟨hg, hf⟩ := pv_g hf
  refine pv_iald C hP (t0 := 0) (by decide) (fx_9 _ _ _ _) rfl hg d_Pt_addToCord_15 ?_
  refine lv_iload_n hx hb d_Pt_addToCord_16 rfl (lv_at hl 2 rfl) ?_
  obtain ⟨q2, hc, hf⟩ := pv_b hf
  refine pv_callSi C hmv pv_good hP hS (As := [.int (q1.2.1 9 (q1.1).toNatClampNeg), .int x1]) (rest := [.int q1.1, .ref (a 9)]) (c_Pt_longerName C.2.2.2.2.2.2.1 hmv hc) cs_Pt_46 ⟨rfl, rfl, Nat.le_trans (Nat.le_of_ble_eq_true rfl) hRf, Nat.le_trans (Nat.le_of_ble_eq_true rfl) hRl⟩ rfl hl.1 rfl (Nat.le_of_ble_eq_true rfl) d_Pt_addToCord_17 ⟨Nat.zero_le _, Nat.zero_le _⟩ (fun H locs hP hS => ?_)
  obtain ⟨hg, hf⟩ := pv_g hf
  refine pv_iast C hP hS (t0 := 0) (x := q2.1) (by decide) (fun f g => (fx_9 _ _ f g)) rfl hg d_Pt_addToCord_20 (fun H locs hP hS => ?_)
  obtain rfl := Option.some.inj hf
  exact hret _ _ _ _ d_Pt_addToCord_21 hP hS
def f_Pt_addToCord (σ : pv_S) (x1 : Int32) : Option pv_S := f_Pt_addToCord_0 σ x1
def rm_Pt_addToCord : Room := { frames := 1, cells := 0, slots := 0, locals := 21 }
theorem c_Pt_addToCord {l : Launch} {D : va_G} {q : Nat → ClassId} {a t : Nat → Nat} {A : Nat → Prop} (hD : pv_D 52 a A) (hmv : pv_mv A (pv_ZX t A)) {σ : pv_S} {x1 : Int32} {out : pv_S} (hf : f_Pt_addToCord σ x1 = some out) : pv_Mv l y_Pt_addToCord (Cond.code y_Pt_addToCord prog_3_method_8_code 3 none :: pv_TB) rm_Pt_addToCord D pv_cl (pv_ty q) 52 a (pv_FX q a) A (pv_ZX t A) [.ref (a 3), .int x1] σ out :=
  pv_ofV (by decide) (Nat.le_of_ble_eq_true rfl) hD (fun p e s m args below meth c Q ls C hret hl hP => s_Pt_addToCord_0 C hmv (Nat.le_refl _) (Nat.le_refl _) hret hl hP va_S.rf hf)
theorem d_Pt_addToNumber_0 : decode prog_3_method_9_code 0 = .ok (.aload_n 0, 1) := by decide +kernel
theorem d_Pt_addToNumber_1 : decode prog_3_method_9_code 1 = .ok (.invokevirtual 50, 3) := by decide +kernel
theorem d_Pt_addToNumber_4 : decode prog_3_method_9_code 4 = .ok (.istore_n 2, 1) := by decide +kernel
theorem d_Pt_addToNumber_5 : decode prog_3_method_9_code 5 = .ok (.aload_n 0, 1) := by decide +kernel
theorem d_Pt_addToNumber_6 : decode prog_3_method_9_code 6 = .ok (.getfield 20, 3) := by decide +kernel
theorem d_Pt_addToNumber_9 : decode prog_3_method_9_code 9 = .ok (.iload_n 2, 1) := by decide +kernel
theorem d_Pt_addToNumber_10 : decode prog_3_method_9_code 10 = .ok (.bipush 10, 2) := by decide +kernel
theorem d_Pt_addToNumber_12 : decode prog_3_method_9_code 12 = .ok (.aload_n 0, 1) := by decide +kernel
theorem d_Pt_addToNumber_13 : decode prog_3_method_9_code 13 = .ok (.getfield 20, 3) := by decide +kernel
theorem d_Pt_addToNumber_16 : decode prog_3_method_9_code 16 = .ok (.iload_n 2, 1) := by decide +kernel
theorem d_Pt_addToNumber_17 : decode prog_3_method_9_code 17 = .ok (.iaload, 1) := by decide +kernel
theorem d_Pt_addToNumber_18 : decode prog_3_method_9_code 18 = .ok (.imul, 1) := by decide +kernel
theorem d_Pt_addToNumber_19 : decode prog_3_method_9_code 19 = .ok (.iload_n 1, 1) := by decide +kernel
theorem d_Pt_addToNumber_20 : decode prog_3_method_9_code 20 = .ok (.iadd, 1) := by decide +kernel
theorem d_Pt_addToNumber_21 : decode prog_3_method_9_code 21 = .ok (.iastore, 1) := by decide +kernel
theorem d_Pt_addToNumber_22 : decode prog_3_method_9_code 22 = .ok (.return_, 1) := by decide +kernel
def f_Pt_addToNumber_0 (σ : pv_S) (x1 : Int32) : Option pv_S :=
  ((f_Pt_latestInput σ).bind fun q1 =>
(if pv_in q1.1 152 = true then
(if pv_in q1.1 152 = true then
some (pv_uI q1.2 6 (q1.1).toNatClampNeg (((10 : Int32) * (q1.2.1 6 (q1.1).toNatClampNeg)) + x1))
  else none)
  else none))
set_option maxHeartbeats 4000000 in
set_option maxRecDepth 100000 in
theorem s_Pt_addToNumber_0 {p : Program} {l : Launch} {e : Env} {R : Room} {s : State} {m : MethodId} {args : Array Value} {below : List Frame} {meth : Method} {c : Code} {Q : State → Prop} {D : va_G} {q : Nat → ClassId} {a t : Nat → Nat} {A : Nat → Prop} (C : pv_C p s m args c prog_3_method_9_code 3 "PatchVoices$Patch" pv_TB D pv_cl (pv_ty q) 52 a A (pv_ZX t A)) (hmv : pv_mv A (pv_ZX t A)) (hRf : 1 ≤ R.frames) (hRl : 20 ≤ R.locals) {out : pv_S} (hret : pv_Rv p l e R s m args below meth c prog_3_method_9_code D pv_cl 52 a (pv_FX q a) A Q out) {σ : pv_S} {x1 : Int32} {H : Heap} {locs : List Loc} {ls : Array Slot} (hl : lv_has ls 3 [(0, .ref (a 3)), (1, .int x1)]) (hP : pv_W D pv_cl 52 a (pv_FX q a) σ H) (hS : va_S A s.heap H locs) (hf : f_Pt_addToNumber_0 σ x1 = some out) : W p l e R s m args below meth c H locs 0 0 Q (F0 m 0 ls []) := by
  unfold f_Pt_addToNumber_0 at hf
  have hx := C.1
  have hb := C.2.1
  refine lv_aload_n hx hb d_Pt_addToNumber_0 rfl (lv_at hl 0 rfl) ?_
  obtain ⟨q1, hc, hf⟩ := pv_b hf
  refine pv_callVi C hmv pv_good hP hS (As := []) (rest := []) (by decide) (fx_3 _ _ _ _) rfl (c_Pt_latestInput C.2.2.2.2.2.2.1 hmv hc) cv_Pt_50 ⟨rfl, rfl, Nat.le_trans (Nat.le_of_ble_eq_true rfl) hRf, Nat.le_trans (Nat.le_of_ble_eq_true rfl) hRl⟩ rfl hl.1 rfl (Nat.le_of_ble_eq_true rfl) d_Pt_addToNumber_1 ⟨Nat.zero_le _, Nat.zero_le _⟩ (fun H locs hP hS => ?_)
  refine lv_istore_n (lv' := [(2, .int q1.1), (0, .ref (a 3)), (1, .int x1)]) hx hb d_Pt_addToNumber_4 rfl hl (by decide) rfl (fun ls hl => ?_)
  refine lv_aload_n hx hb d_Pt_addToNumber_5 rfl (lv_at hl 1 rfl) ?_
  refine pv_get C hP (v := .ref (a 6)) (j := 3) (by decide) (fx_3 _ _ _ _) fl_Pt_20 rfl d_Pt_addToNumber_6 ?_
  refine lv_iload_n hx hb d_Pt_addToNumber_9 rfl (lv_at hl 0 rfl) ?_
  refine lv_bipush (v := (10 : Int32)) hx hb d_Pt_addToNumber_10 (by decide) ?_
  refine lv_aload_n hx hb d_Pt_addToNumber_12 rfl (lv_at hl 1 rfl) ?_
  refine pv_get C hP (v := .ref (a 6)) (j := 3) (by decide) (fx_3 _ _ _ _) fl_Pt_20 rfl d_Pt_addToNumber_13 ?_
  refine lv_iload_n hx hb d_Pt_addToNumber_16 rfl (lv_at hl 0 rfl) ?_
  obtain ⟨hg, hf⟩ := pv_g hf
  refine pv_iald C hP (t0 := 0) (by decide) (fx_6 _ _ _ _) rfl hg d_Pt_addToNumber_17 ?_
  refine lv_imul hx hb d_Pt_addToNumber_18 ?_
  refine lv_iload_n hx hb d_Pt_addToNumber_19 rfl (lv_at hl 2 rfl) ?_
  refine lv_iadd hx hb d_Pt_addToNumber_20 ?_
  obtain ⟨hg, hf⟩ := pv_g hf
  refine pv_iast C hP hS (t0 := 0) (x := (((10 : Int32) * (q1.2.1 6 (q1.1).toNatClampNeg)) + x1)) (by decide) (fun f g => (fx_6 _ _ f g)) rfl hg d_Pt_addToNumber_21 (fun H locs hP hS => ?_)
  obtain rfl := Option.some.inj hf
  exact hret _ _ _ _ d_Pt_addToNumber_22 hP hS
def f_Pt_addToNumber (σ : pv_S) (x1 : Int32) : Option pv_S := f_Pt_addToNumber_0 σ x1
def rm_Pt_addToNumber : Room := { frames := 1, cells := 0, slots := 0, locals := 20 }
theorem c_Pt_addToNumber {l : Launch} {D : va_G} {q : Nat → ClassId} {a t : Nat → Nat} {A : Nat → Prop} (hD : pv_D 52 a A) (hmv : pv_mv A (pv_ZX t A)) {σ : pv_S} {x1 : Int32} {out : pv_S} (hf : f_Pt_addToNumber σ x1 = some out) : pv_Mv l y_Pt_addToNumber (Cond.code y_Pt_addToNumber prog_3_method_9_code 3 none :: pv_TB) rm_Pt_addToNumber D pv_cl (pv_ty q) 52 a (pv_FX q a) A (pv_ZX t A) [.ref (a 3), .int x1] σ out :=
  pv_ofV (by decide) (Nat.le_of_ble_eq_true rfl) hD (fun p e s m args below meth c Q ls C hret hl hP => s_Pt_addToNumber_0 C hmv (Nat.le_refl _) (Nat.le_refl _) hret hl hP va_S.rf hf)
theorem d_Pt_moduleNamed_0 : decode prog_3_method_13_code 0 = .ok (.iconst 0, 1) := by decide +kernel
theorem d_Pt_moduleNamed_1 : decode prog_3_method_13_code 1 = .ok (.istore_n 2, 1) := by decide +kernel
theorem d_Pt_moduleNamed_2 : decode prog_3_method_13_code 2 = .ok (.iload_n 2, 1) := by decide +kernel
theorem d_Pt_moduleNamed_3 : decode prog_3_method_13_code 3 = .ok (.aload_n 0, 1) := by decide +kernel
theorem d_Pt_moduleNamed_4 : decode prog_3_method_13_code 4 = .ok (.getfield 36, 3) := by decide +kernel
theorem d_Pt_moduleNamed_7 : decode prog_3_method_13_code 7 = .ok (.if_icmp .ge 21, 3) := by decide +kernel
theorem d_Pt_moduleNamed_10 : decode prog_3_method_13_code 10 = .ok (.aload_n 0, 1) := by decide +kernel
theorem d_Pt_moduleNamed_11 : decode prog_3_method_13_code 11 = .ok (.getfield 23, 3) := by decide +kernel
theorem d_Pt_moduleNamed_14 : decode prog_3_method_13_code 14 = .ok (.iload_n 2, 1) := by decide +kernel
theorem d_Pt_moduleNamed_15 : decode prog_3_method_13_code 15 = .ok (.iaload, 1) := by decide +kernel
theorem d_Pt_moduleNamed_16 : decode prog_3_method_13_code 16 = .ok (.iload_n 1, 1) := by decide +kernel
theorem d_Pt_moduleNamed_17 : decode prog_3_method_13_code 17 = .ok (.if_icmp .ne 5, 3) := by decide +kernel
theorem d_Pt_moduleNamed_20 : decode prog_3_method_13_code 20 = .ok (.iload_n 2, 1) := by decide +kernel
theorem d_Pt_moduleNamed_21 : decode prog_3_method_13_code 21 = .ok (.ireturn, 1) := by decide +kernel
theorem d_Pt_moduleNamed_22 : decode prog_3_method_13_code 22 = .ok (.iinc 2 1, 3) := by decide +kernel
theorem d_Pt_moduleNamed_25 : decode prog_3_method_13_code 25 = .ok (.goto (-23), 3) := by decide +kernel
theorem d_Pt_moduleNamed_28 : decode prog_3_method_13_code 28 = .ok (.iconst (-1), 1) := by decide +kernel
theorem d_Pt_moduleNamed_29 : decode prog_3_method_13_code 29 = .ok (.ireturn, 1) := by decide +kernel
def f_Pt_moduleNamed_2b (k_2 : pv_S → Int32 → Int32 → Option (Int32 × pv_S)) (σ : pv_S) (x1 : Int32) (x2 : Int32) : Option (Int32 × pv_S) :=
  (if (σ.1 3 0) ≤ x2 then
  some ((-1 : Int32), σ)
  else
  (if pv_in x2 38 = true then
(if (σ.1 7 (x2).toNatClampNeg) = x1 then
  some (x2, σ)
  else
  k_2 σ x1 (x2 + (1 : Int32)))
  else none))
set_option maxHeartbeats 4000000 in
set_option maxRecDepth 100000 in
theorem s_Pt_moduleNamed_2b {p : Program} {l : Launch} {e : Env} {R : Room} {s : State} {m : MethodId} {args : Array Value} {below : List Frame} {meth : Method} {c : Code} {Q : State → Prop} {D : va_G} {q : Nat → ClassId} {a t : Nat → Nat} {A : Nat → Prop} (C : pv_C p s m args c prog_3_method_13_code 3 "PatchVoices$Patch" pv_TB D pv_cl (pv_ty q) 52 a A (pv_ZX t A)) (hmv : pv_mv A (pv_ZX t A)) (hRf : 0 ≤ R.frames) (hRl : 0 ≤ R.locals) {out : (Int32 × pv_S)} (hret : pv_Ri p l e R s m args below meth c prog_3_method_13_code D pv_cl 52 a (pv_FX q a) A Q out) {k_2 : pv_S → Int32 → Int32 → Option (Int32 × pv_S)} (hk_2 : ∀ (σ : pv_S) (x1 : Int32) (x2 : Int32) (H : Heap) (locs : List Loc) (ls : Array Slot), k_2 σ x1 x2 = some out → lv_has ls 3 [(0, .ref (a 3)), (1, .int x1), (2, .int x2)] → pv_W D pv_cl 52 a (pv_FX q a) σ H → va_S A s.heap H locs → W p l e R s m args below meth c H locs 0 0 Q (F0 m 2 ls [])) {σ : pv_S} {x1 : Int32} {x2 : Int32} {H : Heap} {locs : List Loc} {ls : Array Slot} (hl : lv_has ls 3 [(0, .ref (a 3)), (1, .int x1), (2, .int x2)]) (hP : pv_W D pv_cl 52 a (pv_FX q a) σ H) (hS : va_S A s.heap H locs) (hf : f_Pt_moduleNamed_2b k_2 σ x1 x2 = some out) : W p l e R s m args below meth c H locs 0 0 Q (F0 m 2 ls []) := by
  unfold f_Pt_moduleNamed_2b at hf
  have hx := C.1
  have hb := C.2.1
  refine lv_iload_n hx hb d_Pt_moduleNamed_2 rfl (lv_at hl 2 rfl) ?_
  refine lv_aload_n hx hb d_Pt_moduleNamed_3 rfl (lv_at hl 0 rfl) ?_
  refine pv_get C hP (v := .int (σ.1 3 0)) (j := 0) (by decide) (fx_3 _ _ _ _) fl_Pt_36 rfl d_Pt_moduleNamed_4 ?_
  refine lv_icmp_ge (tgt := 28) hx hb d_Pt_moduleNamed_7 (by decide) (fun h => ?_) (fun h => ?_)
  · have hf := pv_t hf h
    refine lv_iconst (v := (-1 : Int32)) hx hb d_Pt_moduleNamed_28 (by decide) ?_
    obtain rfl := Option.some.inj hf
    exact hret _ _ _ _ d_Pt_moduleNamed_29 hP hS
  · have hf := pv_f hf h
    refine lv_aload_n hx hb d_Pt_moduleNamed_10 rfl (lv_at hl 0 rfl) ?_
    refine pv_get C hP (v := .ref (a 7)) (j := 4) (by decide) (fx_3 _ _ _ _) fl_Pt_23 rfl d_Pt_moduleNamed_11 ?_
    refine lv_iload_n hx hb d_Pt_moduleNamed_14 rfl (lv_at hl 2 rfl) ?_
    obtain ⟨hg, hf⟩ := pv_g hf
    refine pv_iald C hP (t0 := 0) (by decide) (fx_7 _ _ _ _) rfl hg d_Pt_moduleNamed_15 ?_
    refine lv_iload_n hx hb d_Pt_moduleNamed_16 rfl (lv_at hl 1 rfl) ?_
    refine lv_icmp_ne (tgt := 22) hx hb d_Pt_moduleNamed_17 (by decide) (fun h => ?_) (fun h => ?_)
    · have hf := pv_f hf h
      refine lv_iinc (k := 2) (v := (x2 + (1 : Int32))) (lv' := [(2, .int (x2 + (1 : Int32))), (0, .ref (a 3)), (1, .int x1)]) hx hb d_Pt_moduleNamed_22 hl rfl (pv_inc (by decide)) (by decide) rfl (fun ls hl => ?_)
      refine lv_goto (tgt := 2) hx hb d_Pt_moduleNamed_25 (by decide) ?_
      exact hk_2 _ _ _ _ _ _ hf (lv_sub hl [1, 2, 0] rfl) hP hS
    · have hf := pv_t hf h
      refine lv_iload_n hx hb d_Pt_moduleNamed_20 rfl (lv_at hl 2 rfl) ?_
      obtain rfl := Option.some.inj hf
      exact hret _ _ _ _ d_Pt_moduleNamed_21 hP hS
def f_Pt_moduleNamed_2 : Nat → pv_S → Int32 → Int32 → Option (Int32 × pv_S)
  | 0 => fun _ _ _ => none
  | n + 1 => f_Pt_moduleNamed_2b (f_Pt_moduleNamed_2 n)
set_option maxHeartbeats 4000000 in
theorem s_Pt_moduleNamed_2 {p : Program} {l : Launch} {e : Env} {R : Room} {s : State} {m : MethodId} {args : Array Value} {below : List Frame} {meth : Method} {c : Code} {Q : State → Prop} {D : va_G} {q : Nat → ClassId} {a t : Nat → Nat} {A : Nat → Prop} (C : pv_C p s m args c prog_3_method_13_code 3 "PatchVoices$Patch" pv_TB D pv_cl (pv_ty q) 52 a A (pv_ZX t A)) (hmv : pv_mv A (pv_ZX t A)) (hRf : 0 ≤ R.frames) (hRl : 0 ≤ R.locals) {out : (Int32 × pv_S)} (hret : pv_Ri p l e R s m args below meth c prog_3_method_13_code D pv_cl 52 a (pv_FX q a) A Q out) (n : Nat) : ∀ {σ : pv_S} {x1 : Int32} {x2 : Int32} {H : Heap} {locs : List Loc} {ls : Array Slot}, lv_has ls 3 [(0, .ref (a 3)), (1, .int x1), (2, .int x2)] → pv_W D pv_cl 52 a (pv_FX q a) σ H → va_S A s.heap H locs → f_Pt_moduleNamed_2 n σ x1 x2 = some out → W p l e R s m args below meth c H locs 0 0 Q (F0 m 2 ls []) := by
  induction n with
  | zero => intro σ x1 x2 H locs ls hl hP hS hf; cases hf
  | succ n ih => intro σ x1 x2 H locs ls hl hP hS hf; exact s_Pt_moduleNamed_2b C hmv hRf hRl hret (fun σ x1 x2 H locs ls hf hl hP hS => ih hl hP hS hf) hl hP hS hf
def f_Pt_moduleNamed_0 (σ : pv_S) (x1 : Int32) : Option (Int32 × pv_S) :=
  f_Pt_moduleNamed_2 pv_fu σ x1 (0 : Int32)
set_option maxHeartbeats 4000000 in
set_option maxRecDepth 100000 in
theorem s_Pt_moduleNamed_0 {p : Program} {l : Launch} {e : Env} {R : Room} {s : State} {m : MethodId} {args : Array Value} {below : List Frame} {meth : Method} {c : Code} {Q : State → Prop} {D : va_G} {q : Nat → ClassId} {a t : Nat → Nat} {A : Nat → Prop} (C : pv_C p s m args c prog_3_method_13_code 3 "PatchVoices$Patch" pv_TB D pv_cl (pv_ty q) 52 a A (pv_ZX t A)) (hmv : pv_mv A (pv_ZX t A)) (hRf : 0 ≤ R.frames) (hRl : 0 ≤ R.locals) {out : (Int32 × pv_S)} (hret : pv_Ri p l e R s m args below meth c prog_3_method_13_code D pv_cl 52 a (pv_FX q a) A Q out) {σ : pv_S} {x1 : Int32} {H : Heap} {locs : List Loc} {ls : Array Slot} (hl : lv_has ls 3 [(0, .ref (a 3)), (1, .int x1)]) (hP : pv_W D pv_cl 52 a (pv_FX q a) σ H) (hS : va_S A s.heap H locs) (hf : f_Pt_moduleNamed_0 σ x1 = some out) : W p l e R s m args below meth c H locs 0 0 Q (F0 m 0 ls []) := by
  unfold f_Pt_moduleNamed_0 at hf
  have hx := C.1
  have hb := C.2.1
  refine lv_iconst (v := (0 : Int32)) hx hb d_Pt_moduleNamed_0 (by decide) ?_
  refine lv_istore_n (lv' := [(2, .int (0 : Int32)), (0, .ref (a 3)), (1, .int x1)]) hx hb d_Pt_moduleNamed_1 rfl hl (by decide) rfl (fun ls hl => ?_)
  exact s_Pt_moduleNamed_2 C hmv hRf hRl hret pv_fu (lv_sub hl [1, 2, 0] rfl) hP hS hf
def f_Pt_moduleNamed (σ : pv_S) (x1 : Int32) : Option (Int32 × pv_S) := f_Pt_moduleNamed_0 σ x1
def rm_Pt_moduleNamed : Room := { frames := 0, cells := 0, slots := 0, locals := 0 }
theorem c_Pt_moduleNamed {l : Launch} {D : va_G} {q : Nat → ClassId} {a t : Nat → Nat} {A : Nat → Prop} (hD : pv_D 52 a A) (hmv : pv_mv A (pv_ZX t A)) {σ : pv_S} {x1 : Int32} {out : (Int32 × pv_S)} (hf : f_Pt_moduleNamed σ x1 = some out) : pv_Mi l y_Pt_moduleNamed (Cond.code y_Pt_moduleNamed prog_3_method_13_code 3 (some .int) :: pv_TB) rm_Pt_moduleNamed D pv_cl (pv_ty q) 52 a (pv_FX q a) A (pv_ZX t A) [.ref (a 3), .int x1] σ out :=
  pv_ofI (by decide) (Nat.le_of_ble_eq_true rfl) hD (fun p e s m args below meth c Q ls C hret hl hP => s_Pt_moduleNamed_0 C hmv (Nat.le_refl _) (Nat.le_refl _) hret hl hP va_S.rf hf)
theorem d_Pt_isBehind_0 : decode prog_3_method_15_code 0 = .ok (.aload_n 0, 1) := by decide +kernel
theorem d_Pt_isBehind_1 : decode prog_3_method_15_code 1 = .ok (.getfield 32, 3) := by decide +kernel
theorem d_Pt_isBehind_4 : decode prog_3_method_15_code 4 = .ok (.iload_n 2, 1) := by decide +kernel
theorem d_Pt_isBehind_5 : decode prog_3_method_15_code 5 = .ok (.laload, 1) := by decide +kernel
theorem d_Pt_isBehind_6 : decode prog_3_method_15_code 6 = .ok (.iload_n 1, 1) := by decide +kernel
theorem d_Pt_isBehind_7 : decode prog_3_method_15_code 7 = .ok (.lshr, 1) := by decide +kernel
theorem d_Pt_isBehind_8 : decode prog_3_method_15_code 8 = .ok (.lconst 1, 1) := by decide +kernel
theorem d_Pt_isBehind_9 : decode prog_3_method_15_code 9 = .ok (.land, 1) := by decide +kernel
theorem d_Pt_isBehind_10 : decode prog_3_method_15_code 10 = .ok (.lconst 0, 1) := by decide +kernel
theorem d_Pt_isBehind_11 : decode prog_3_method_15_code 11 = .ok (.lcmp, 1) := by decide +kernel
theorem d_Pt_isBehind_12 : decode prog_3_method_15_code 12 = .ok (.ifCond .eq 7, 3) := by decide +kernel
theorem d_Pt_isBehind_15 : decode prog_3_method_15_code 15 = .ok (.iconst 1, 1) := by decide +kernel
theorem d_Pt_isBehind_16 : decode prog_3_method_15_code 16 = .ok (.goto 4, 3) := by decide +kernel
theorem d_Pt_isBehind_19 : decode prog_3_method_15_code 19 = .ok (.iconst 0, 1) := by decide +kernel
theorem d_Pt_isBehind_20 : decode prog_3_method_15_code 20 = .ok (.ireturn, 1) := by decide +kernel
def f_Pt_isBehind_0 (σ : pv_S) (x1 : Int32) (x2 : Int32) : Option (Int32 × pv_S) :=
  (if pv_in x2 38 = true then
(if (lg_cmp (((σ.2 10 (x2).toNatClampNeg) >>> ((x1).toInt64 &&& 63)) &&& (1 : Int64)) (0 : Int64)) = 0 then
  some ((0 : Int32), σ)
  else
  some ((1 : Int32), σ))
  else none)
set_option maxHeartbeats 4000000 in
set_option maxRecDepth 100000 in
theorem s_Pt_isBehind_0 {p : Program} {l : Launch} {e : Env} {R : Room} {s : State} {m : MethodId} {args : Array Value} {below : List Frame} {meth : Method} {c : Code} {Q : State → Prop} {D : va_G} {q : Nat → ClassId} {a t : Nat → Nat} {A : Nat → Prop} (C : pv_C p s m args c prog_3_method_15_code 3 "PatchVoices$Patch" pv_TB D pv_cl (pv_ty q) 52 a A (pv_ZX t A)) (hmv : pv_mv A (pv_ZX t A)) (hRf : 0 ≤ R.frames) (hRl : 0 ≤ R.locals) {out : (Int32 × pv_S)} (hret : pv_Rz p l e R s m args below meth c prog_3_method_15_code D pv_cl 52 a (pv_FX q a) A Q out) {σ : pv_S} {x1 : Int32} {x2 : Int32} {H : Heap} {locs : List Loc} {ls : Array Slot} (hl : lv_has ls 3 [(0, .ref (a 3)), (1, .int x1), (2, .int x2)]) (hP : pv_W D pv_cl 52 a (pv_FX q a) σ H) (hS : va_S A s.heap H locs) (hf : f_Pt_isBehind_0 σ x1 x2 = some out) : W p l e R s m args below meth c H locs 0 0 Q (F0 m 0 ls []) := by
  unfold f_Pt_isBehind_0 at hf
  have hx := C.1
  have hb := C.2.1
  refine lv_aload_n hx hb d_Pt_isBehind_0 rfl (lv_at hl 0 rfl) ?_
  refine pv_get C hP (v := .ref (a 10)) (j := 7) (by decide) (fx_3 _ _ _ _) fl_Pt_32 rfl d_Pt_isBehind_1 ?_
  refine lv_iload_n hx hb d_Pt_isBehind_4 rfl (lv_at hl 2 rfl) ?_
  obtain ⟨hg, hf⟩ := pv_g hf
  refine pv_lald C hP (t0 := 3) (by decide) (fx_10 _ _ _ _) rfl hg d_Pt_isBehind_5 ?_
  refine lv_iload_n hx hb d_Pt_isBehind_6 rfl (lv_at hl 1 rfl) ?_
  refine lv_lshr (v := (σ.2 10 (x2).toNatClampNeg) >>> ((x1).toInt64 &&& 63)) hx hb d_Pt_isBehind_7 rfl ?_
  refine lv_lconst (v := (1 : Int64)) hx hb d_Pt_isBehind_8 (by decide) ?_
  refine lv_land hx hb d_Pt_isBehind_9 ?_
  refine lv_lconst (v := (0 : Int64)) hx hb d_Pt_isBehind_10 (by decide) ?_
  refine W.lcmp hx hb d_Pt_isBehind_11 ?_
  refine lv_if_eq (tgt := 19) hx hb d_Pt_isBehind_12 (by decide) (fun h => ?_) (fun h => ?_)
  · have hf := pv_t hf h
    refine lv_iconst (v := (0 : Int32)) hx hb d_Pt_isBehind_19 (by decide) ?_
    obtain rfl := Option.some.inj hf
    exact hret _ _ _ _ d_Pt_isBehind_20 rfl hP hS
  · have hf := pv_f hf h
    refine lv_iconst (v := (1 : Int32)) hx hb d_Pt_isBehind_15 (by decide) ?_
    refine lv_goto (tgt := 20) hx hb d_Pt_isBehind_16 (by decide) ?_
    obtain rfl := Option.some.inj hf
    exact hret _ _ _ _ d_Pt_isBehind_20 rfl hP hS
def f_Pt_isBehind (σ : pv_S) (x1 : Int32) (x2 : Int32) : Option (Int32 × pv_S) := f_Pt_isBehind_0 σ x1 x2
def rm_Pt_isBehind : Room := { frames := 0, cells := 0, slots := 0, locals := 0 }
theorem c_Pt_isBehind {l : Launch} {D : va_G} {q : Nat → ClassId} {a t : Nat → Nat} {A : Nat → Prop} (hD : pv_D 52 a A) (hmv : pv_mv A (pv_ZX t A)) {σ : pv_S} {x1 : Int32} {x2 : Int32} {out : (Int32 × pv_S)} (hf : f_Pt_isBehind σ x1 x2 = some out) : pv_Mi l y_Pt_isBehind (Cond.code y_Pt_isBehind prog_3_method_15_code 3 (some .boolean) :: pv_TB) rm_Pt_isBehind D pv_cl (pv_ty q) 52 a (pv_FX q a) A (pv_ZX t A) [.ref (a 3), .int x1, .int x2] σ out :=
  pv_ofZ (by decide) (Nat.le_of_ble_eq_true rfl) hD (fun p e s m args below meth c Q ls C hret hl hP => s_Pt_isBehind_0 C hmv (Nat.le_refl _) (Nat.le_refl _) hret hl hP va_S.rf hf)
theorem d_Pt_followCords_0 : decode prog_3_method_14_code 0 = .ok (.iconst 0, 1) := by decide +kernel
theorem d_Pt_followCords_1 : decode prog_3_method_14_code 1 = .ok (.istore_n 1, 1) := by decide +kernel
theorem d_Pt_followCords_2 : decode prog_3_method_14_code 2 = .ok (.iload_n 1, 1) := by decide +kernel
theorem d_Pt_followCords_3 : decode prog_3_method_14_code 3 = .ok (.aload_n 0, 1) := by decide +kernel
theorem d_Pt_followCords_4 : decode prog_3_method_14_code 4 = .ok (.getfield 36, 3) := by decide +kernel
theorem d_Pt_followCords_7 : decode prog_3_method_14_code 7 = .ok (.if_icmp .ge 77, 3) := by decide +kernel
theorem d_Pt_followCords_10 : decode prog_3_method_14_code 10 = .ok (.aload_n 0, 1) := by decide +kernel
theorem d_Pt_followCords_11 : decode prog_3_method_14_code 11 = .ok (.getfield 32, 3) := by decide +kernel
theorem d_Pt_followCords_14 : decode prog_3_method_14_code 14 = .ok (.iload_n 1, 1) := by decide +kernel
theorem d_Pt_followCords_15 : decode prog_3_method_14_code 15 = .ok (.lconst 0, 1) := by decide +kernel
theorem d_Pt_followCords_16 : decode prog_3_method_14_code 16 = .ok (.lastore, 1) := by decide +kernel
theorem d_Pt_followCords_17 : decode prog_3_method_14_code 17 = .ok (.iconst 0, 1) := by decide +kernel
theorem d_Pt_followCords_18 : decode prog_3_method_14_code 18 = .ok (.istore_n 2, 1) := by decide +kernel
theorem d_Pt_followCords_19 : decode prog_3_method_14_code 19 = .ok (.iload_n 2, 1) := by decide +kernel
theorem d_Pt_followCords_20 : decode prog_3_method_14_code 20 = .ok (.aload_n 0, 1) := by decide +kernel
theorem d_Pt_followCords_21 : decode prog_3_method_14_code 21 = .ok (.getfield 26, 3) := by decide +kernel
theorem d_Pt_followCords_24 : decode prog_3_method_14_code 24 = .ok (.iload_n 1, 1) := by decide +kernel
theorem d_Pt_followCords_25 : decode prog_3_method_14_code 25 = .ok (.iaload, 1) := by decide +kernel
theorem d_Pt_followCords_26 : decode prog_3_method_14_code 26 = .ok (.if_icmp .ge 52, 3) := by decide +kernel
theorem d_Pt_followCords_29 : decode prog_3_method_14_code 29 = .ok (.aload_n 0, 1) := by decide +kernel
theorem d_Pt_followCords_30 : decode prog_3_method_14_code 30 = .ok (.getfield 11, 3) := by decide +kernel
theorem d_Pt_followCords_33 : decode prog_3_method_14_code 33 = .ok (.iload_n 1, 1) := by decide +kernel
theorem d_Pt_followCords_34 : decode prog_3_method_14_code 34 = .ok (.iaload, 1) := by decide +kernel
theorem d_Pt_followCords_35 : decode prog_3_method_14_code 35 = .ok (.bipush 18, 2) := by decide +kernel
theorem d_Pt_followCords_37 : decode prog_3_method_14_code 37 = .ok (.if_icmp .eq 41, 3) := by decide +kernel
theorem d_Pt_followCords_40 : decode prog_3_method_14_code 40 = .ok (.aload_n 0, 1) := by decide +kernel
theorem d_Pt_followCords_41 : decode prog_3_method_14_code 41 = .ok (.getfield 17, 3) := by decide +kernel
theorem d_Pt_followCords_44 : decode prog_3_method_14_code 44 = .ok (.iconst 4, 1) := by decide +kernel
theorem d_Pt_followCords_45 : decode prog_3_method_14_code 45 = .ok (.iload_n 1, 1) := by decide +kernel
theorem d_Pt_followCords_46 : decode prog_3_method_14_code 46 = .ok (.imul, 1) := by decide +kernel
theorem d_Pt_followCords_47 : decode prog_3_method_14_code 47 = .ok (.iload_n 2, 1) := by decide +kernel
theorem d_Pt_followCords_48 : decode prog_3_method_14_code 48 = .ok (.iadd, 1) := by decide +kernel
theorem d_Pt_followCords_49 : decode prog_3_method_14_code 49 = .ok (.iaload, 1) := by decide +kernel
theorem d_Pt_followCords_50 : decode prog_3_method_14_code 50 = .ok (.istore_n 3, 1) := by decide +kernel
theorem d_Pt_followCords_51 : decode prog_3_method_14_code 51 = .ok (.aload_n 0, 1) := by decide +kernel
theorem d_Pt_followCords_52 : decode prog_3_method_14_code 52 = .ok (.getfield 32, 3) := by decide +kernel
theorem d_Pt_followCords_55 : decode prog_3_method_14_code 55 = .ok (.iload_n 1, 1) := by decide +kernel
theorem d_Pt_followCords_56 : decode prog_3_method_14_code 56 = .ok (.dup2, 1) := by decide +kernel
theorem d_Pt_followCords_57 : decode prog_3_method_14_code 57 = .ok (.laload, 1) := by decide +kernel
theorem d_Pt_followCords_58 : decode prog_3_method_14_code 58 = .ok (.iload_n 3, 1) := by decide +kernel
theorem d_Pt_followCords_59 : decode prog_3_method_14_code 59 = .ok (.iconst (-1), 1) := by decide +kernel
theorem d_Pt_followCords_60 : decode prog_3_method_14_code 60 = .ok (.if_icmp .ne 7, 3) := by decide +kernel
theorem d_Pt_followCords_63 : decode prog_3_method_14_code 63 = .ok (.lconst 0, 1) := by decide +kernel
theorem d_Pt_followCords_64 : decode prog_3_method_14_code 64 = .ok (.goto 6, 3) := by decide +kernel
theorem d_Pt_followCords_67 : decode prog_3_method_14_code 67 = .ok (.lconst 1, 1) := by decide +kernel
theorem d_Pt_followCords_68 : decode prog_3_method_14_code 68 = .ok (.iload_n 3, 1) := by decide +kernel
theorem d_Pt_followCords_69 : decode prog_3_method_14_code 69 = .ok (.lshl, 1) := by decide +kernel
theorem d_Pt_followCords_70 : decode prog_3_method_14_code 70 = .ok (.lor, 1) := by decide +kernel
theorem d_Pt_followCords_71 : decode prog_3_method_14_code 71 = .ok (.lastore, 1) := by decide +kernel
theorem d_Pt_followCords_72 : decode prog_3_method_14_code 72 = .ok (.iinc 2 1, 3) := by decide +kernel
theorem d_Pt_followCords_75 : decode prog_3_method_14_code 75 = .ok (.goto (-56), 3) := by decide +kernel
theorem d_Pt_followCords_78 : decode prog_3_method_14_code 78 = .ok (.iinc 1 1, 3) := by decide +kernel
theorem d_Pt_followCords_81 : decode prog_3_method_14_code 81 = .ok (.goto (-79), 3) := by decide +kernel
theorem d_Pt_followCords_84 : decode prog_3_method_14_code 84 = .ok (.iconst 0, 1) := by decide +kernel
theorem d_Pt_followCords_85 : decode prog_3_method_14_code 85 = .ok (.istore_n 1, 1) := by decide +kernel
theorem d_Pt_followCords_86 : decode prog_3_method_14_code 86 = .ok (.iload_n 1, 1) := by decide +kernel
theorem d_Pt_followCords_87 : decode prog_3_method_14_code 87 = .ok (.aload_n 0, 1) := by decide +kernel
theorem d_Pt_followCords_88 : decode prog_3_method_14_code 88 = .ok (.getfield 36, 3) := by decide +kernel
theorem d_Pt_followCords_91 : decode prog_3_method_14_code 91 = .ok (.if_icmp .ge 49, 3) := by decide +kernel
theorem d_Pt_followCords_94 : decode prog_3_method_14_code 94 = .ok (.iconst 0, 1) := by decide +kernel
theorem d_Pt_followCords_95 : decode prog_3_method_14_code 95 = .ok (.istore_n 2, 1) := by decide +kernel
theorem d_Pt_followCords_96 : decode prog_3_method_14_code 96 = .ok (.iload_n 2, 1) := by decide +kernel
theorem d_Pt_followCords_97 : decode prog_3_method_14_code 97 = .ok (.aload_n 0, 1) := by decide +kernel
theorem d_Pt_followCords_98 : decode prog_3_method_14_code 98 = .ok (.getfield 36, 3) := by decide +kernel
theorem d_Pt_followCords_101 : decode prog_3_method_14_code 101 = .ok (.if_icmp .ge 33, 3) := by decide +kernel
theorem d_Pt_followCords_104 : decode prog_3_method_14_code 104 = .ok (.aload_n 0, 1) := by decide +kernel
theorem d_Pt_followCords_105 : decode prog_3_method_14_code 105 = .ok (.iload_n 1, 1) := by decide +kernel
theorem d_Pt_followCords_106 : decode prog_3_method_14_code 106 = .ok (.iload_n 2, 1) := by decide +kernel
theorem d_Pt_followCords_107 : decode prog_3_method_14_code 107 = .ok (.invokevirtual 61, 3) := by decide +kernel
theorem d_Pt_followCords_110 : decode prog_3_method_14_code 110 = .ok (.ifCond .eq 18, 3) := by decide +kernel
theorem d_Pt_followCords_113 : decode prog_3_method_14_code 113 = .ok (.aload_n 0, 1) := by decide +kernel
theorem d_Pt_followCords_114 : decode prog_3_method_14_code 114 = .ok (.getfield 32, 3) := by decide +kernel
theorem d_Pt_followCords_117 : decode prog_3_method_14_code 117 = .ok (.iload_n 2, 1) := by decide +kernel
theorem d_Pt_followCords_118 : decode prog_3_method_14_code 118 = .ok (.dup2, 1) := by decide +kernel
theorem d_Pt_followCords_119 : decode prog_3_method_14_code 119 = .ok (.laload, 1) := by decide +kernel
theorem d_Pt_followCords_120 : decode prog_3_method_14_code 120 = .ok (.aload_n 0, 1) := by decide +kernel
theorem d_Pt_followCords_121 : decode prog_3_method_14_code 121 = .ok (.getfield 32, 3) := by decide +kernel
theorem d_Pt_followCords_124 : decode prog_3_method_14_code 124 = .ok (.iload_n 1, 1) := by decide +kernel
theorem d_Pt_followCords_125 : decode prog_3_method_14_code 125 = .ok (.laload, 1) := by decide +kernel
theorem d_Pt_followCords_126 : decode prog_3_method_14_code 126 = .ok (.lor, 1) := by decide +kernel
theorem d_Pt_followCords_127 : decode prog_3_method_14_code 127 = .ok (.lastore, 1) := by decide +kernel
theorem d_Pt_followCords_128 : decode prog_3_method_14_code 128 = .ok (.iinc 2 1, 3) := by decide +kernel
theorem d_Pt_followCords_131 : decode prog_3_method_14_code 131 = .ok (.goto (-35), 3) := by decide +kernel
theorem d_Pt_followCords_134 : decode prog_3_method_14_code 134 = .ok (.iinc 1 1, 3) := by decide +kernel
theorem d_Pt_followCords_137 : decode prog_3_method_14_code 137 = .ok (.goto (-51), 3) := by decide +kernel
theorem d_Pt_followCords_140 : decode prog_3_method_14_code 140 = .ok (.return_, 1) := by decide +kernel
def f_Pt_followCords_128 (k_86 : pv_S → Int32 → Option pv_S) (k_96 : pv_S → Int32 → Int32 → Option pv_S) (σ : pv_S) (x1 : Int32) (x2 : Int32) : Option pv_S :=
  k_96 σ x1 (x2 + (1 : Int32))
set_option maxHeartbeats 4000000 in
set_option maxRecDepth 100000 in
theorem s_Pt_followCords_128 {p : Program} {l : Launch} {e : Env} {R : Room} {s : State} {m : MethodId} {args : Array Value} {below : List Frame} {meth : Method} {c : Code} {Q : State → Prop} {D : va_G} {q : Nat → ClassId} {a t : Nat → Nat} {A : Nat → Prop} (C : pv_C p s m args c prog_3_method_14_code 4 "PatchVoices$Patch" pv_TB D pv_cl (pv_ty q) 52 a A (pv_ZX t A)) (hmv : pv_mv A (pv_ZX t A)) (hRf : 1 ≤ R.frames) (hRl : 22 ≤ R.locals) {out : pv_S} (hret : pv_Rv p l e R s m args below meth c prog_3_method_14_code D pv_cl 52 a (pv_FX q a) A Q out) {k_86 : pv_S → Int32 → Option pv_S} (hk_86 : ∀ (σ : pv_S) (x1 : Int32) (H : Heap) (locs : List Loc) (ls : Array Slot), k_86 σ x1 = some out → lv_has ls 4 [(0, .ref (a 3)), (1, .int x1)] → pv_W D pv_cl 52 a (pv_FX q a) σ H → va_S A s.heap H locs → W p l e R s m args below meth c H locs 0 0 Q (F0 m 86 ls [])) {k_96 : pv_S → Int32 → Int32 → Option pv_S} (hk_96 : ∀ (σ : pv_S) (x1 : Int32) (x2 : Int32) (H : Heap) (locs : List Loc) (ls : Array Slot), k_96 σ x1 x2 = some out → lv_has ls 4 [(0, .ref (a 3)), (1, .int x1), (2, .int x2)] → pv_W D pv_cl 52 a (pv_FX q a) σ H → va_S A s.heap H locs → W p l e R s m args below meth c H locs 0 0 Q (F0 m 96 ls [])) {σ : pv_S} {x1 : Int32} {x2 : Int32} {H : Heap} {locs : List Loc} {ls : Array Slot} (hl : lv_has ls 4 [(0, .ref (a 3)), (1, .int x1), (2, .int x2)]) (hP : pv_W D pv_cl 52 a (pv_FX q a) σ H) (hS : va_S A s.heap H locs) (hf : f_Pt_followCords_128 k_86 k_96 σ x1 x2 = some out) : W p l e R s m args below meth c H locs 0 0 Q (F0 m 128 ls []) := by
  unfold f_Pt_followCords_128 at hf
  have hx := C.1
  have hb := C.2.1
  refine lv_iinc (k := 2) (v := (x2 + (1 : Int32))) (lv' := [(2, .int (x2 + (1 : Int32))), (0, .ref (a 3)), (1, .int x1)]) hx hb d_Pt_followCords_128 hl rfl (pv_inc (by decide)) (by decide) rfl (fun ls hl => ?_)
  refine lv_goto (tgt := 96) hx hb d_Pt_followCords_131 (by decide) ?_
  exact hk_96 _ _ _ _ _ _ hf (lv_sub hl [1, 2, 0] rfl) hP hS
def f_Pt_followCords_96b (k_86 : pv_S → Int32 → Option pv_S) (k_96 : pv_S → Int32 → Int32 → Option pv_S) (σ : pv_S) (x1 : Int32) (x2 : Int32) : Option pv_S :=
  (if (σ.1 3 0) ≤ x2 then
  k_86 σ (x1 + (1 : Int32))
  else
  ((f_Pt_isBehind σ x1 x2).bind fun q1 =>
(if q1.1 = 0 then
  f_Pt_followCords_128 k_86 k_96 q1.2 x1 x2
  else
  (if pv_in x2 38 = true then
(if pv_in x1 38 = true then
(if pv_in x2 38 = true then
f_Pt_followCords_128 k_86 k_96 (pv_uL q1.2 10 (x2).toNatClampNeg ((q1.2.2 10 (x2).toNatClampNeg) ||| (q1.2.2 10 (x1).toNatClampNeg))) x1 x2
  else none)
  else none)
  else none))))
set_option maxHeartbeats 4000000 in
set_option maxRecDepth 100000 in
theorem s_Pt_followCords_96b {p : Program} {l : Launch} {e : Env} {R : Room} {s : State} {m : MethodId} {args : Array Value} {below : List Frame} {meth : Method} {c : Code} {Q : State → Prop} {D : va_G} {q : Nat → ClassId} {a t : Nat → Nat} {A : Nat → Prop} (C : pv_C p s m args c prog_3_method_14_code 4 "PatchVoices$Patch" pv_TB D pv_cl (pv_ty q) 52 a A (pv_ZX t A)) (hmv : pv_mv A (pv_ZX t A)) (hRf : 1 ≤ R.frames) (hRl : 22 ≤ R.locals) {out : pv_S} (hret : pv_Rv p l e R s m args below meth c prog_3_method_14_code D pv_cl 52 a (pv_FX q a) A Q out) {k_86 : pv_S → Int32 → Option pv_S} (hk_86 : ∀ (σ : pv_S) (x1 : Int32) (H : Heap) (locs : List Loc) (ls : Array Slot), k_86 σ x1 = some out → lv_has ls 4 [(0, .ref (a 3)), (1, .int x1)] → pv_W D pv_cl 52 a (pv_FX q a) σ H → va_S A s.heap H locs → W p l e R s m args below meth c H locs 0 0 Q (F0 m 86 ls [])) {k_96 : pv_S → Int32 → Int32 → Option pv_S} (hk_96 : ∀ (σ : pv_S) (x1 : Int32) (x2 : Int32) (H : Heap) (locs : List Loc) (ls : Array Slot), k_96 σ x1 x2 = some out → lv_has ls 4 [(0, .ref (a 3)), (1, .int x1), (2, .int x2)] → pv_W D pv_cl 52 a (pv_FX q a) σ H → va_S A s.heap H locs → W p l e R s m args below meth c H locs 0 0 Q (F0 m 96 ls [])) {σ : pv_S} {x1 : Int32} {x2 : Int32} {H : Heap} {locs : List Loc} {ls : Array Slot} (hl : lv_has ls 4 [(0, .ref (a 3)), (1, .int x1), (2, .int x2)]) (hP : pv_W D pv_cl 52 a (pv_FX q a) σ H) (hS : va_S A s.heap H locs) (hf : f_Pt_followCords_96b k_86 k_96 σ x1 x2 = some out) : W p l e R s m args below meth c H locs 0 0 Q (F0 m 96 ls []) := by
  unfold f_Pt_followCords_96b at hf
  have hx := C.1
  have hb := C.2.1
  refine lv_iload_n hx hb d_Pt_followCords_96 rfl (lv_at hl 2 rfl) ?_
  refine lv_aload_n hx hb d_Pt_followCords_97 rfl (lv_at hl 0 rfl) ?_
  refine pv_get C hP (v := .int (σ.1 3 0)) (j := 0) (by decide) (fx_3 _ _ _ _) fl_Pt_36 rfl d_Pt_followCords_98 ?_
  refine lv_icmp_ge (tgt := 134) hx hb d_Pt_followCords_101 (by decide) (fun h => ?_) (fun h => ?_)
  · have hf := pv_t hf h
    refine lv_iinc (k := 1) (v := (x1 + (1 : Int32))) (lv' := [(1, .int (x1 + (1 : Int32))), (0, .ref (a 3)), (2, .int x2)]) hx hb d_Pt_followCords_134 hl rfl (pv_inc (by decide)) (by decide) rfl (fun ls hl => ?_)
    refine lv_goto (tgt := 86) hx hb d_Pt_followCords_137 (by decide) ?_
    exact hk_86 _ _ _ _ _ hf (lv_sub hl [1, 0] rfl) hP hS
  · have hf := pv_f hf h
    refine lv_aload_n hx hb d_Pt_followCords_104 rfl (lv_at hl 0 rfl) ?_
    refine lv_iload_n hx hb d_Pt_followCords_105 rfl (lv_at hl 1 rfl) ?_
    refine lv_iload_n hx hb d_Pt_followCords_106 rfl (lv_at hl 2 rfl) ?_
    obtain ⟨q1, hc, hf⟩ := pv_b hf
    refine pv_callVi C hmv pv_good hP hS (As := [.int x1, .int x2]) (rest := []) (by decide) (fx_3 _ _ _ _) rfl (c_Pt_isBehind C.2.2.2.2.2.2.1 hmv hc) cv_Pt_61 ⟨rfl, rfl, Nat.le_trans (Nat.le_of_ble_eq_true rfl) hRf, Nat.le_trans (Nat.le_of_ble_eq_true rfl) hRl⟩ rfl hl.1 rfl (Nat.le_of_ble_eq_true rfl) d_Pt_followCords_107 ⟨Nat.zero_le _, Nat.zero_le _⟩ (fun H locs hP hS => ?_)
    refine lv_if_eq (tgt := 128) hx hb d_Pt_followCords_110 (by decide) (fun h => ?_) (fun h => ?_)
    · have hf := pv_t hf h
      exact s_Pt_followCords_128 C hmv hRf hRl hret hk_86 hk_96 (lv_sub hl [0, 1, 2] rfl) hP hS hf
    · have hf := pv_f hf h
      refine lv_aload_n hx hb d_Pt_followCords_113 rfl (lv_at hl 0 rfl) ?_
      refine pv_get C hP (v := .ref (a 10)) (j := 7) (by decide) (fx_3 _ _ _ _) fl_Pt_32 rfl d_Pt_followCords_114 ?_
      refine lv_iload_n hx hb d_Pt_followCords_117 rfl (lv_at hl 2 rfl) ?_
      refine lv_dup2_11 hx hb d_Pt_followCords_118 rfl rfl ?_
      obtain ⟨hg, hf⟩ := pv_g hf
      refine pv_lald C hP (t0 := 3) (by decide) (fx_10 _ _ _ _) rfl hg d_Pt_followCords_119 ?_
      refine lv_aload_n hx hb d_Pt_followCords_120 rfl (lv_at hl 0 rfl) ?_
      refine pv_get C hP (v := .ref (a 10)) (j := 7) (by decide) (fx_3 _ _ _ _) fl_Pt_32 rfl d_Pt_followCords_121 ?_
      refine lv_iload_n hx hb d_Pt_followCords_124 rfl (lv_at hl 1 rfl) ?_
      obtain ⟨hg, hf⟩ := pv_g hf
      refine pv_lald C hP (t0 := 3) (by decide) (fx_10 _ _ _ _) rfl hg d_Pt_followCords_125 ?_
      refine lv_lor hx hb d_Pt_followCords_126 ?_
      obtain ⟨hg, hf⟩ := pv_g hf
      refine pv_last C hP hS (t0 := 3) (x := ((q1.2.2 10 (x2).toNatClampNeg) ||| (q1.2.2 10 (x1).toNatClampNeg))) (by decide) (fun f g => (fx_10 _ _ f g)) rfl hg d_Pt_followCords_127 (fun H locs hP hS => ?_)
      exact s_Pt_followCords_128 C hmv hRf hRl hret hk_86 hk_96 (lv_sub hl [0, 1, 2] rfl) hP hS hf
def f_Pt_followCords_96 (k_86 : pv_S → Int32 → Option pv_S) : Nat → pv_S → Int32 → Int32 → Option pv_S
  | 0 => fun _ _ _ => none
  | n + 1 => f_Pt_followCords_96b k_86 (f_Pt_followCords_96 k_86 n)
set_option maxHeartbeats 4000000 in
theorem s_Pt_followCords_96 {p : Program} {l : Launch} {e : Env} {R : Room} {s : State} {m : MethodId} {args : Array Value} {below : List Frame} {meth : Method} {c : Code} {Q : State → Prop} {D : va_G} {q : Nat → ClassId} {a t : Nat → Nat} {A : Nat → Prop} (C : pv_C p s m args c prog_3_method_14_code 4 "PatchVoices$Patch" pv_TB D pv_cl (pv_ty q) 52 a A (pv_ZX t A)) (hmv : pv_mv A (pv_ZX t A)) (hRf : 1 ≤ R.frames) (hRl : 22 ≤ R.locals) {out : pv_S} (hret : pv_Rv p l e R s m args below meth c prog_3_method_14_code D pv_cl 52 a (pv_FX q a) A Q out) {k_86 : pv_S → Int32 → Option pv_S} (hk_86 : ∀ (σ : pv_S) (x1 : Int32) (H : Heap) (locs : List Loc) (ls : Array Slot), k_86 σ x1 = some out → lv_has ls 4 [(0, .ref (a 3)), (1, .int x1)] → pv_W D pv_cl 52 a (pv_FX q a) σ H → va_S A s.heap H locs → W p l e R s m args below meth c H locs 0 0 Q (F0 m 86 ls [])) (n : Nat) : ∀ {σ : pv_S} {x1 : Int32} {x2 : Int32} {H : Heap} {locs : List Loc} {ls : Array Slot}, lv_has ls 4 [(0, .ref (a 3)), (1, .int x1), (2, .int x2)] → pv_W D pv_cl 52 a (pv_FX q a) σ H → va_S A s.heap H locs → f_Pt_followCords_96 k_86 n σ x1 x2 = some out → W p l e R s m args below meth c H locs 0 0 Q (F0 m 96 ls []) := by
  induction n with
  | zero => intro σ x1 x2 H locs ls hl hP hS hf; cases hf
  | succ n ih => intro σ x1 x2 H locs ls hl hP hS hf; exact s_Pt_followCords_96b C hmv hRf hRl hret hk_86 (fun σ x1 x2 H locs ls hf hl hP hS => ih hl hP hS hf) hl hP hS hf
def f_Pt_followCords_86b (k_86 : pv_S → Int32 → Option pv_S) (σ : pv_S) (x1 : Int32) : Option pv_S :=
  (if (σ.1 3 0) ≤ x1 then
  some σ
  else
  f_Pt_followCords_96 k_86 pv_fu σ x1 (0 : Int32))
set_option maxHeartbeats 4000000 in
set_option maxRecDepth 100000 in
theorem s_Pt_followCords_86b {p : Program} {l : Launch} {e : Env} {R : Room} {s : State} {m : MethodId} {args : Array Value} {below : List Frame} {meth : Method} {c : Code} {Q : State → Prop} {D : va_G} {q : Nat → ClassId} {a t : Nat → Nat} {A : Nat → Prop} (C : pv_C p s m args c prog_3_method_14_code 4 "PatchVoices$Patch" pv_TB D pv_cl (pv_ty q) 52 a A (pv_ZX t A)) (hmv : pv_mv A (pv_ZX t A)) (hRf : 1 ≤ R.frames) (hRl : 22 ≤ R.locals) {out : pv_S} (hret : pv_Rv p l e R s m args below meth c prog_3_method_14_code D pv_cl 52 a (pv_FX q a) A Q out) {k_86 : pv_S → Int32 → Option pv_S} (hk_86 : ∀ (σ : pv_S) (x1 : Int32) (H : Heap) (locs : List Loc) (ls : Array Slot), k_86 σ x1 = some out → lv_has ls 4 [(0, .ref (a 3)), (1, .int x1)] → pv_W D pv_cl 52 a (pv_FX q a) σ H → va_S A s.heap H locs → W p l e R s m args below meth c H locs 0 0 Q (F0 m 86 ls [])) {σ : pv_S} {x1 : Int32} {H : Heap} {locs : List Loc} {ls : Array Slot} (hl : lv_has ls 4 [(0, .ref (a 3)), (1, .int x1)]) (hP : pv_W D pv_cl 52 a (pv_FX q a) σ H) (hS : va_S A s.heap H locs) (hf : f_Pt_followCords_86b k_86 σ x1 = some out) : W p l e R s m args below meth c H locs 0 0 Q (F0 m 86 ls []) := by
  unfold f_Pt_followCords_86b at hf
  have hx := C.1
  have hb := C.2.1
  refine lv_iload_n hx hb d_Pt_followCords_86 rfl (lv_at hl 1 rfl) ?_
  refine lv_aload_n hx hb d_Pt_followCords_87 rfl (lv_at hl 0 rfl) ?_
  refine pv_get C hP (v := .int (σ.1 3 0)) (j := 0) (by decide) (fx_3 _ _ _ _) fl_Pt_36 rfl d_Pt_followCords_88 ?_
  refine lv_icmp_ge (tgt := 140) hx hb d_Pt_followCords_91 (by decide) (fun h => ?_) (fun h => ?_)
  · have hf := pv_t hf h
    obtain rfl := Option.some.inj hf
    exact hret _ _ _ _ d_Pt_followCords_140 hP hS
  · have hf := pv_f hf h
    refine lv_iconst (v := (0 : Int32)) hx hb d_Pt_followCords_94 (by decide) ?_
    refine lv_istore_n (lv' := [(2, .int (0 : Int32)), (0, .ref (a 3)), (1, .int x1)]) hx hb d_Pt_followCords_95 rfl hl (by decide) rfl (fun ls hl => ?_)
    exact s_Pt_followCords_96 C hmv hRf hRl hret hk_86 pv_fu (lv_sub hl [1, 2, 0] rfl) hP hS hf
def f_Pt_followCords_86 : Nat → pv_S → Int32 → Option pv_S
  | 0 => fun _ _ => none
  | n + 1 => f_Pt_followCords_86b (f_Pt_followCords_86 n)
set_option maxHeartbeats 4000000 in
theorem s_Pt_followCords_86 {p : Program} {l : Launch} {e : Env} {R : Room} {s : State} {m : MethodId} {args : Array Value} {below : List Frame} {meth : Method} {c : Code} {Q : State → Prop} {D : va_G} {q : Nat → ClassId} {a t : Nat → Nat} {A : Nat → Prop} (C : pv_C p s m args c prog_3_method_14_code 4 "PatchVoices$Patch" pv_TB D pv_cl (pv_ty q) 52 a A (pv_ZX t A)) (hmv : pv_mv A (pv_ZX t A)) (hRf : 1 ≤ R.frames) (hRl : 22 ≤ R.locals) {out : pv_S} (hret : pv_Rv p l e R s m args below meth c prog_3_method_14_code D pv_cl 52 a (pv_FX q a) A Q out) (n : Nat) : ∀ {σ : pv_S} {x1 : Int32} {H : Heap} {locs : List Loc} {ls : Array Slot}, lv_has ls 4 [(0, .ref (a 3)), (1, .int x1)] → pv_W D pv_cl 52 a (pv_FX q a) σ H → va_S A s.heap H locs → f_Pt_followCords_86 n σ x1 = some out → W p l e R s m args below meth c H locs 0 0 Q (F0 m 86 ls []) := by
  induction n with
  | zero => intro σ x1 H locs ls hl hP hS hf; cases hf
  | succ n ih => intro σ x1 H locs ls hl hP hS hf; exact s_Pt_followCords_86b C hmv hRf hRl hret (fun σ x1 H locs ls hf hl hP hS => ih hl hP hS hf) hl hP hS hf
def f_Pt_followCords_78 (k_2 : pv_S → Int32 → Option pv_S) (σ : pv_S) (x1 : Int32) : Option pv_S :=
  k_2 σ (x1 + (1 : Int32))
set_option maxHeartbeats 4000000 in
set_option maxRecDepth 100000 in
theorem s_Pt_followCords_78 {p : Program} {l : Launch} {e : Env} {R : Room} {s : State} {m : MethodId} {args : Array Value} {below : List Frame} {meth : Method} {c : Code} {Q : State → Prop} {D : va_G} {q : Nat → ClassId} {a t : Nat → Nat} {A : Nat → Prop} (C : pv_C p s m args c prog_3_method_14_code 4 "PatchVoices$Patch" pv_TB D pv_cl (pv_ty q) 52 a A (pv_ZX t A)) (hmv : pv_mv A (pv_ZX t A)) (hRf : 1 ≤ R.frames) (hRl : 22 ≤ R.locals) {out : pv_S} (hret : pv_Rv p l e R s m args below meth c prog_3_method_14_code D pv_cl 52 a (pv_FX q a) A Q out) {k_2 : pv_S → Int32 → Option pv_S} (hk_2 : ∀ (σ : pv_S) (x1 : Int32) (H : Heap) (locs : List Loc) (ls : Array Slot), k_2 σ x1 = some out → lv_has ls 4 [(0, .ref (a 3)), (1, .int x1)] → pv_W D pv_cl 52 a (pv_FX q a) σ H → va_S A s.heap H locs → W p l e R s m args below meth c H locs 0 0 Q (F0 m 2 ls [])) {σ : pv_S} {x1 : Int32} {H : Heap} {locs : List Loc} {ls : Array Slot} (hl : lv_has ls 4 [(0, .ref (a 3)), (1, .int x1)]) (hP : pv_W D pv_cl 52 a (pv_FX q a) σ H) (hS : va_S A s.heap H locs) (hf : f_Pt_followCords_78 k_2 σ x1 = some out) : W p l e R s m args below meth c H locs 0 0 Q (F0 m 78 ls []) := by
  unfold f_Pt_followCords_78 at hf
  have hx := C.1
  have hb := C.2.1
  refine lv_iinc (k := 1) (v := (x1 + (1 : Int32))) (lv' := [(1, .int (x1 + (1 : Int32))), (0, .ref (a 3))]) hx hb d_Pt_followCords_78 hl rfl (pv_inc (by decide)) (by decide) rfl (fun ls hl => ?_)
  refine lv_goto (tgt := 2) hx hb d_Pt_followCords_81 (by decide) ?_
  exact hk_2 _ _ _ _ _ hf (lv_sub hl [1, 0] rfl) hP hS
def f_Pt_followCords_70 (k_2 : pv_S → Int32 → Option pv_S) (k_19 : pv_S → Int32 → Int32 → Option pv_S) (σ : pv_S) (x1 : Int32) (x2 : Int32) (s0 : Int64) (s1 : Int64) (s2 : Int32) : Option pv_S :=
  (if pv_in s2 38 = true then
k_19 (pv_uL σ 10 (s2).toNatClampNeg (s1 ||| s0)) x1 (x2 + (1 : Int32))
  else none)
set_option maxHeartbeats 4000000 in
set_option maxRecDepth 100000 in
theorem s_Pt_followCords_70 {p : Program} {l : Launch} {e : Env} {R : Room} {s : State} {m : MethodId} {args : Array Value} {below : List Frame} {meth : Method} {c : Code} {Q : State → Prop} {D : va_G} {q : Nat → ClassId} {a t : Nat → Nat} {A : Nat → Prop} (C : pv_C p s m args c prog_3_method_14_code 4 "PatchVoices$Patch" pv_TB D pv_cl (pv_ty q) 52 a A (pv_ZX t A)) (hmv : pv_mv A (pv_ZX t A)) (hRf : 1 ≤ R.frames) (hRl : 22 ≤ R.locals) {out : pv_S} (hret : pv_Rv p l e R s m args below meth c prog_3_method_14_code D pv_cl 52 a (pv_FX q a) A Q out) {k_2 : pv_S → Int32 → Option pv_S} (hk_2 : ∀ (σ : pv_S) (x1 : Int32) (H : Heap) (locs : List Loc) (ls : Array Slot), k_2 σ x1 = some out → lv_has ls 4 [(0, .ref (a 3)), (1, .int x1)] → pv_W D pv_cl 52 a (pv_FX q a) σ H → va_S A s.heap H locs → W p l e R s m args below meth c H locs 0 0 Q (F0 m 2 ls [])) {k_19 : pv_S → Int32 → Int32 → Option pv_S} (hk_19 : ∀ (σ : pv_S) (x1 : Int32) (x2 : Int32) (H : Heap) (locs : List Loc) (ls : Array Slot), k_19 σ x1 x2 = some out → lv_has ls 4 [(0, .ref (a 3)), (1, .int x1), (2, .int x2)] → pv_W D pv_cl 52 a (pv_FX q a) σ H → va_S A s.heap H locs → W p l e R s m args below meth c H locs 0 0 Q (F0 m 19 ls [])) {σ : pv_S} {x1 : Int32} {x2 : Int32} {s0 : Int64} {s1 : Int64} {s2 : Int32} {H : Heap} {locs : List Loc} {ls : Array Slot} (hl : lv_has ls 4 [(0, .ref (a 3)), (1, .int x1), (2, .int x2)]) (hP : pv_W D pv_cl 52 a (pv_FX q a) σ H) (hS : va_S A s.heap H locs) (hf : f_Pt_followCords_70 k_2 k_19 σ x1 x2 s0 s1 s2 = some out) : W p l e R s m args below meth c H locs 0 0 Q (F0 m 70 ls [.long s0, .long s1, .int s2, .ref (a 10)]) := by
  unfold f_Pt_followCords_70 at hf
  have hx := C.1
  have hb := C.2.1
  refine lv_lor hx hb d_Pt_followCords_70 ?_
  obtain ⟨hg, hf⟩ := pv_g hf
  refine pv_last C hP hS (t0 := 3) (x := (s1 ||| s0)) (by decide) (fun f g => (fx_10 _ _ f g)) rfl hg d_Pt_followCords_71 (fun H locs hP hS => ?_)
  refine lv_iinc (k := 2) (v := (x2 + (1 : Int32))) (lv' := [(2, .int (x2 + (1 : Int32))), (0, .ref (a 3)), (1, .int x1)]) hx hb d_Pt_followCords_72 hl rfl (pv_inc (by decide)) (by decide) rfl (fun ls hl => ?_)
  refine lv_goto (tgt := 19) hx hb d_Pt_followCords_75 (by decide) ?_
  exact hk_19 _ _ _ _ _ _ hf (lv_sub hl [1, 2, 0] rfl) hP hS
def f_Pt_followCords_19b (k_2 : pv_S → Int32 → Option pv_S) (k_19 : pv_S → Int32 → Int32 → Option pv_S) (σ : pv_S) (x1 : Int32) (x2 : Int32) : Option pv_S :=
  (if pv_in x1 38 = true then
(if (σ.1 8 (x1).toNatClampNeg) ≤ x2 then
  f_Pt_followCords_78 k_2 σ x1
  else
  (if pv_in x1 38 = true then
(if (σ.1 4 (x1).toNatClampNeg) = (18 : Int32) then
  f_Pt_followCords_78 k_2 σ x1
  else
  (if pv_in (((4 : Int32) * x1) + x2) 152 = true then
(if pv_in x1 38 = true then
(if (σ.1 5 ((((4 : Int32) * x1) + x2)).toNatClampNeg) = (-1 : Int32) then
  f_Pt_followCords_70 k_2 k_19 σ x1 x2 (0 : Int64) (σ.2 10 (x1).toNatClampNeg) x1
  else
  f_Pt_followCords_70 k_2 k_19 σ x1 x2 ((1 : Int64) <<< (((σ.1 5 ((((4 : Int32) * x1) + x2)).toNatClampNeg)).toInt64 &&& 63)) (σ.2 10 (x1).toNatClampNeg) x1)
  else none)
  else none))
  else none))
  else none)
set_option maxHeartbeats 4000000 in
set_option maxRecDepth 100000 in
theorem s_Pt_followCords_19b {p : Program} {l : Launch} {e : Env} {R : Room} {s : State} {m : MethodId} {args : Array Value} {below : List Frame} {meth : Method} {c : Code} {Q : State → Prop} {D : va_G} {q : Nat → ClassId} {a t : Nat → Nat} {A : Nat → Prop} (C : pv_C p s m args c prog_3_method_14_code 4 "PatchVoices$Patch" pv_TB D pv_cl (pv_ty q) 52 a A (pv_ZX t A)) (hmv : pv_mv A (pv_ZX t A)) (hRf : 1 ≤ R.frames) (hRl : 22 ≤ R.locals) {out : pv_S} (hret : pv_Rv p l e R s m args below meth c prog_3_method_14_code D pv_cl 52 a (pv_FX q a) A Q out) {k_2 : pv_S → Int32 → Option pv_S} (hk_2 : ∀ (σ : pv_S) (x1 : Int32) (H : Heap) (locs : List Loc) (ls : Array Slot), k_2 σ x1 = some out → lv_has ls 4 [(0, .ref (a 3)), (1, .int x1)] → pv_W D pv_cl 52 a (pv_FX q a) σ H → va_S A s.heap H locs → W p l e R s m args below meth c H locs 0 0 Q (F0 m 2 ls [])) {k_19 : pv_S → Int32 → Int32 → Option pv_S} (hk_19 : ∀ (σ : pv_S) (x1 : Int32) (x2 : Int32) (H : Heap) (locs : List Loc) (ls : Array Slot), k_19 σ x1 x2 = some out → lv_has ls 4 [(0, .ref (a 3)), (1, .int x1), (2, .int x2)] → pv_W D pv_cl 52 a (pv_FX q a) σ H → va_S A s.heap H locs → W p l e R s m args below meth c H locs 0 0 Q (F0 m 19 ls [])) {σ : pv_S} {x1 : Int32} {x2 : Int32} {H : Heap} {locs : List Loc} {ls : Array Slot} (hl : lv_has ls 4 [(0, .ref (a 3)), (1, .int x1), (2, .int x2)]) (hP : pv_W D pv_cl 52 a (pv_FX q a) σ H) (hS : va_S A s.heap H locs) (hf : f_Pt_followCords_19b k_2 k_19 σ x1 x2 = some out) : W p l e R s m args below meth c H locs 0 0 Q (F0 m 19 ls []) := by
  unfold f_Pt_followCords_19b at hf
  have hx := C.1
  have hb := C.2.1
  refine lv_iload_n hx hb d_Pt_followCords_19 rfl (lv_at hl 2 rfl) ?_
  refine lv_aload_n hx hb d_Pt_followCords_20 rfl (lv_at hl 0 rfl) ?_
  refine pv_get C hP (v := .ref (a 8)) (j := 5) (by decide) (fx_3 _ _ _ _) fl_Pt_26 rfl d_Pt_followCords_21 ?_
  refine lv_iload_n hx hb d_Pt_followCords_24 rfl (lv_at hl 1 rfl) ?_
  obtain ⟨hg, hf⟩ := pv_g hf
  refine pv_iald C hP (t0 := 0) (by decide) (fx_8 _ _ _ _) rfl hg d_Pt_followCords_25 ?_
  refine lv_icmp_ge (tgt := 78) hx hb d_Pt_followCords_26 (by decide) (fun h => ?_) (fun h => ?_)
  · have hf := pv_t hf h
    exact s_Pt_followCords_78 C hmv hRf hRl hret hk_2 (lv_sub hl [0, 1] rfl) hP hS hf
  · have hf := pv_f hf h
    refine lv_aload_n hx hb d_Pt_followCords_29 rfl (lv_at hl 0 rfl) ?_
    refine pv_get C hP (v := .ref (a 4)) (j := 1) (by decide) (fx_3 _ _ _ _) fl_Pt_11 rfl d_Pt_followCords_30 ?_
    refine lv_iload_n hx hb d_Pt_followCords_33 rfl (lv_at hl 1 rfl) ?_
    obtain ⟨hg, hf⟩ := pv_g hf
    refine pv_iald C hP (t0 := 0) (by decide) (fx_4 _ _ _ _) rfl hg d_Pt_followCords_34 ?_
    refine lv_bipush (v := (18 : Int32)) hx hb d_Pt_followCords_35 (by decide) ?_
    refine lv_icmp_eq (tgt := 78) hx hb d_Pt_followCords_37 (by decide) (fun h => ?_) (fun h => ?_)
    · have hf := pv_t hf h
      exact s_Pt_followCords_78 C hmv hRf hRl hret hk_2 (lv_sub hl [0, 1] rfl) hP hS hf
    · have hf := pv_f hf h
      refine lv_aload_n hx hb d_Pt_followCords_40 rfl (lv_at hl 0 rfl) ?_
      refine pv_get C hP (v := .ref (a 5)) (j := 2) (by decide) (fx_3 _ _ _ _) fl_Pt_17 rfl d_Pt_followCords_41 ?_
      refine lv_iconst (v := (4 : Int32)) hx hb d_Pt_followCords_44 (by decide) ?_
      refine lv_iload_n hx hb d_Pt_followCords_45 rfl (lv_at hl 1 rfl) ?_
      refine lv_imul hx hb d_Pt_followCords_46 ?_
      refine lv_iload_n hx hb d_Pt_followCords_47 rfl (lv_at hl 2 rfl) ?_
      refine lv_iadd hx hb d_Pt_followCords_48 ?_
      obtain ⟨hg, hf⟩ := pv_g hf
      refine pv_iald C hP (t0 := 0) (by decide) (fx_5 _ _ _ _) rfl hg d_Pt_followCords_49 ?_
      refine lv_istore_n (lv' := [(3, .int (σ.1 5 ((((4 : Int32) * x1) + x2)).toNatClampNeg)), (0, .ref (a 3)), (1, .int x1), (2, .int x2)]) hx hb d_Pt_followCords_50 rfl hl (by decide) rfl (fun ls hl => ?_)
      refine lv_aload_n hx hb d_Pt_followCords_51 rfl (lv_at hl 1 rfl) ?_
      refine pv_get C hP (v := .ref (a 10)) (j := 7) (by decide) (fx_3 _ _ _ _) fl_Pt_32 rfl d_Pt_followCords_52 ?_
      refine lv_iload_n hx hb d_Pt_followCords_55 rfl (lv_at hl 2 rfl) ?_
      refine lv_dup2_11 hx hb d_Pt_followCords_56 rfl rfl ?_
      obtain ⟨hg, hf⟩ := pv_g hf
      refine pv_lald C hP (t0 := 3) (by decide) (fx_10 _ _ _ _) rfl hg d_Pt_followCords_57 ?_
      refine lv_iload_n hx hb d_Pt_followCords_58 rfl (lv_at hl 0 rfl) ?_
      refine lv_iconst (v := (-1 : Int32)) hx hb d_Pt_followCords_59 (by decide) ?_
      refine lv_icmp_ne (tgt := 67) hx hb d_Pt_followCords_60 (by decide) (fun h => ?_) (fun h => ?_)
      · have hf := pv_f hf h
        refine lv_lconst (v := (1 : Int64)) hx hb d_Pt_followCords_67 (by decide) ?_
        refine lv_iload_n hx hb d_Pt_followCords_68 rfl (lv_at hl 0 rfl) ?_
        refine lv_lshl (v := (1 : Int64) <<< (((σ.1 5 ((((4 : Int32) * x1) + x2)).toNatClampNeg)).toInt64 &&& 63)) hx hb d_Pt_followCords_69 rfl ?_
        exact s_Pt_followCords_70 C hmv hRf hRl hret hk_2 hk_19 (lv_sub hl [1, 2, 3] rfl) hP hS hf
      · have hf := pv_t hf h
        refine lv_lconst (v := (0 : Int64)) hx hb d_Pt_followCords_63 (by decide) ?_
        refine lv_goto (tgt := 70) hx hb d_Pt_followCords_64 (by decide) ?_
        exact s_Pt_followCords_70 C hmv hRf hRl hret hk_2 hk_19 (lv_sub hl [1, 2, 3] rfl) hP hS hf
def f_Pt_followCords_19 (k_2 : pv_S → Int32 → Option pv_S) : Nat → pv_S → Int32 → Int32 → Option pv_S
  | 0 => fun _ _ _ => none
  | n + 1 => f_Pt_followCords_19b k_2 (f_Pt_followCords_19 k_2 n)
set_option maxHeartbeats 4000000 in
theorem s_Pt_followCords_19 {p : Program} {l : Launch} {e : Env} {R : Room} {s : State} {m : MethodId} {args : Array Value} {below : List Frame} {meth : Method} {c : Code} {Q : State → Prop} {D : va_G} {q : Nat → ClassId} {a t : Nat → Nat} {A : Nat → Prop} (C : pv_C p s m args c prog_3_method_14_code 4 "PatchVoices$Patch" pv_TB D pv_cl (pv_ty q) 52 a A (pv_ZX t A)) (hmv : pv_mv A (pv_ZX t A)) (hRf : 1 ≤ R.frames) (hRl : 22 ≤ R.locals) {out : pv_S} (hret : pv_Rv p l e R s m args below meth c prog_3_method_14_code D pv_cl 52 a (pv_FX q a) A Q out) {k_2 : pv_S → Int32 → Option pv_S} (hk_2 : ∀ (σ : pv_S) (x1 : Int32) (H : Heap) (locs : List Loc) (ls : Array Slot), k_2 σ x1 = some out → lv_has ls 4 [(0, .ref (a 3)), (1, .int x1)] → pv_W D pv_cl 52 a (pv_FX q a) σ H → va_S A s.heap H locs → W p l e R s m args below meth c H locs 0 0 Q (F0 m 2 ls [])) (n : Nat) : ∀ {σ : pv_S} {x1 : Int32} {x2 : Int32} {H : Heap} {locs : List Loc} {ls : Array Slot}, lv_has ls 4 [(0, .ref (a 3)), (1, .int x1), (2, .int x2)] → pv_W D pv_cl 52 a (pv_FX q a) σ H → va_S A s.heap H locs → f_Pt_followCords_19 k_2 n σ x1 x2 = some out → W p l e R s m args below meth c H locs 0 0 Q (F0 m 19 ls []) := by
  induction n with
  | zero => intro σ x1 x2 H locs ls hl hP hS hf; cases hf
  | succ n ih => intro σ x1 x2 H locs ls hl hP hS hf; exact s_Pt_followCords_19b C hmv hRf hRl hret hk_2 (fun σ x1 x2 H locs ls hf hl hP hS => ih hl hP hS hf) hl hP hS hf
def f_Pt_followCords_2b (k_2 : pv_S → Int32 → Option pv_S) (σ : pv_S) (x1 : Int32) : Option pv_S :=
  (if (σ.1 3 0) ≤ x1 then
  f_Pt_followCords_86 pv_fu σ (0 : Int32)
  else
  (if pv_in x1 38 = true then
f_Pt_followCords_19 k_2 pv_fu (pv_uL σ 10 (x1).toNatClampNeg (0 : Int64)) x1 (0 : Int32)
  else none))
set_option maxHeartbeats 4000000 in
set_option maxRecDepth 100000 in
theorem s_Pt_followCords_2b {p : Program} {l : Launch} {e : Env} {R : Room} {s : State} {m : MethodId} {args : Array Value} {below : List Frame} {meth : Method} {c : Code} {Q : State → Prop} {D : va_G} {q : Nat → ClassId} {a t : Nat → Nat} {A : Nat → Prop} (C : pv_C p s m args c prog_3_method_14_code 4 "PatchVoices$Patch" pv_TB D pv_cl (pv_ty q) 52 a A (pv_ZX t A)) (hmv : pv_mv A (pv_ZX t A)) (hRf : 1 ≤ R.frames) (hRl : 22 ≤ R.locals) {out : pv_S} (hret : pv_Rv p l e R s m args below meth c prog_3_method_14_code D pv_cl 52 a (pv_FX q a) A Q out) {k_2 : pv_S → Int32 → Option pv_S} (hk_2 : ∀ (σ : pv_S) (x1 : Int32) (H : Heap) (locs : List Loc) (ls : Array Slot), k_2 σ x1 = some out → lv_has ls 4 [(0, .ref (a 3)), (1, .int x1)] → pv_W D pv_cl 52 a (pv_FX q a) σ H → va_S A s.heap H locs → W p l e R s m args below meth c H locs 0 0 Q (F0 m 2 ls [])) {σ : pv_S} {x1 : Int32} {H : Heap} {locs : List Loc} {ls : Array Slot} (hl : lv_has ls 4 [(0, .ref (a 3)), (1, .int x1)]) (hP : pv_W D pv_cl 52 a (pv_FX q a) σ H) (hS : va_S A s.heap H locs) (hf : f_Pt_followCords_2b k_2 σ x1 = some out) : W p l e R s m args below meth c H locs 0 0 Q (F0 m 2 ls []) := by
  unfold f_Pt_followCords_2b at hf
  have hx := C.1
  have hb := C.2.1
  refine lv_iload_n hx hb d_Pt_followCords_2 rfl (lv_at hl 1 rfl) ?_
  refine lv_aload_n hx hb d_Pt_followCords_3 rfl (lv_at hl 0 rfl) ?_
  refine pv_get C hP (v := .int (σ.1 3 0)) (j := 0) (by decide) (fx_3 _ _ _ _) fl_Pt_36 rfl d_Pt_followCords_4 ?_
  refine lv_icmp_ge (tgt := 84) hx hb d_Pt_followCords_7 (by decide) (fun h => ?_) (fun h => ?_)
  · have hf := pv_t hf h
    refine lv_iconst (v := (0 : Int32)) hx hb d_Pt_followCords_84 (by decide) ?_
    refine lv_istore_n (lv' := [(1, .int (0 : Int32)), (0, .ref (a 3))]) hx hb d_Pt_followCords_85 rfl hl (by decide) rfl (fun ls hl => ?_)
    exact s_Pt_followCords_86 C hmv hRf hRl hret pv_fu (lv_sub hl [1, 0] rfl) hP hS hf
  · have hf := pv_f hf h
    refine lv_aload_n hx hb d_Pt_followCords_10 rfl (lv_at hl 0 rfl) ?_
    refine pv_get C hP (v := .ref (a 10)) (j := 7) (by decide) (fx_3 _ _ _ _) fl_Pt_32 rfl d_Pt_followCords_11 ?_
    refine lv_iload_n hx hb d_Pt_followCords_14 rfl (lv_at hl 1 rfl) ?_
    refine lv_lconst (v := (0 : Int64)) hx hb d_Pt_followCords_15 (by decide) ?_
    obtain ⟨hg, hf⟩ := pv_g hf
    refine pv_last C hP hS (t0 := 3) (x := (0 : Int64)) (by decide) (fun f g => (fx_10 _ _ f g)) rfl hg d_Pt_followCords_16 (fun H locs hP hS => ?_)
    refine lv_iconst (v := (0 : Int32)) hx hb d_Pt_followCords_17 (by decide) ?_
    refine lv_istore_n (lv' := [(2, .int (0 : Int32)), (0, .ref (a 3)), (1, .int x1)]) hx hb d_Pt_followCords_18 rfl hl (by decide) rfl (fun ls hl => ?_)
    exact s_Pt_followCords_19 C hmv hRf hRl hret hk_2 pv_fu (lv_sub hl [1, 2, 0] rfl) hP hS hf
def f_Pt_followCords_2 : Nat → pv_S → Int32 → Option pv_S
  | 0 => fun _ _ => none
  | n + 1 => f_Pt_followCords_2b (f_Pt_followCords_2 n)
set_option maxHeartbeats 4000000 in
theorem s_Pt_followCords_2 {p : Program} {l : Launch} {e : Env} {R : Room} {s : State} {m : MethodId} {args : Array Value} {below : List Frame} {meth : Method} {c : Code} {Q : State → Prop} {D : va_G} {q : Nat → ClassId} {a t : Nat → Nat} {A : Nat → Prop} (C : pv_C p s m args c prog_3_method_14_code 4 "PatchVoices$Patch" pv_TB D pv_cl (pv_ty q) 52 a A (pv_ZX t A)) (hmv : pv_mv A (pv_ZX t A)) (hRf : 1 ≤ R.frames) (hRl : 22 ≤ R.locals) {out : pv_S} (hret : pv_Rv p l e R s m args below meth c prog_3_method_14_code D pv_cl 52 a (pv_FX q a) A Q out) (n : Nat) : ∀ {σ : pv_S} {x1 : Int32} {H : Heap} {locs : List Loc} {ls : Array Slot}, lv_has ls 4 [(0, .ref (a 3)), (1, .int x1)] → pv_W D pv_cl 52 a (pv_FX q a) σ H → va_S A s.heap H locs → f_Pt_followCords_2 n σ x1 = some out → W p l e R s m args below meth c H locs 0 0 Q (F0 m 2 ls []) := by
  induction n with
  | zero => intro σ x1 H locs ls hl hP hS hf; cases hf
  | succ n ih => intro σ x1 H locs ls hl hP hS hf; exact s_Pt_followCords_2b C hmv hRf hRl hret (fun σ x1 H locs ls hf hl hP hS => ih hl hP hS hf) hl hP hS hf
def f_Pt_followCords_0 (σ : pv_S) : Option pv_S :=
  f_Pt_followCords_2 pv_fu σ (0 : Int32)
set_option maxHeartbeats 4000000 in
set_option maxRecDepth 100000 in
theorem s_Pt_followCords_0 {p : Program} {l : Launch} {e : Env} {R : Room} {s : State} {m : MethodId} {args : Array Value} {below : List Frame} {meth : Method} {c : Code} {Q : State → Prop} {D : va_G} {q : Nat → ClassId} {a t : Nat → Nat} {A : Nat → Prop} (C : pv_C p s m args c prog_3_method_14_code 4 "PatchVoices$Patch" pv_TB D pv_cl (pv_ty q) 52 a A (pv_ZX t A)) (hmv : pv_mv A (pv_ZX t A)) (hRf : 1 ≤ R.frames) (hRl : 22 ≤ R.locals) {out : pv_S} (hret : pv_Rv p l e R s m args below meth c prog_3_method_14_code D pv_cl 52 a (pv_FX q a) A Q out) {σ : pv_S} {H : Heap} {locs : List Loc} {ls : Array Slot} (hl : lv_has ls 4 [(0, .ref (a 3))]) (hP : pv_W D pv_cl 52 a (pv_FX q a) σ H) (hS : va_S A s.heap H locs) (hf : f_Pt_followCords_0 σ = some out) : W p l e R s m args below meth c H locs 0 0 Q (F0 m 0 ls []) := by
  unfold f_Pt_followCords_0 at hf
  have hx := C.1
  have hb := C.2.1
  refine lv_iconst (v := (0 : Int32)) hx hb d_Pt_followCords_0 (by decide) ?_
  refine lv_istore_n (lv' := [(1, .int (0 : Int32)), (0, .ref (a 3))]) hx hb d_Pt_followCords_1 rfl hl (by decide) rfl (fun ls hl => ?_)
  exact s_Pt_followCords_2 C hmv hRf hRl hret pv_fu (lv_sub hl [1, 0] rfl) hP hS hf
def f_Pt_followCords (σ : pv_S) : Option pv_S := f_Pt_followCords_0 σ
def rm_Pt_followCords : Room := { frames := 1, cells := 0, slots := 0, locals := 22 }
theorem c_Pt_followCords {l : Launch} {D : va_G} {q : Nat → ClassId} {a t : Nat → Nat} {A : Nat → Prop} (hD : pv_D 52 a A) (hmv : pv_mv A (pv_ZX t A)) {σ : pv_S} {out : pv_S} (hf : f_Pt_followCords σ = some out) : pv_Mv l y_Pt_followCords (Cond.code y_Pt_followCords prog_3_method_14_code 4 none :: pv_TB) rm_Pt_followCords D pv_cl (pv_ty q) 52 a (pv_FX q a) A (pv_ZX t A) [.ref (a 3)] σ out :=
  pv_ofV (by decide) (Nat.le_of_ble_eq_true rfl) hD (fun p e s m args below meth c Q ls C hret hl hP => s_Pt_followCords_0 C hmv (Nat.le_refl _) (Nat.le_refl _) hret hl hP va_S.rf hf)
theorem d_Pt_tieCords_0 : decode prog_3_method_12_code 0 = .ok (.iconst 0, 1) := by decide +kernel
theorem d_Pt_tieCords_1 : decode prog_3_method_12_code 1 = .ok (.istore_n 1, 1) := by decide +kernel
theorem d_Pt_tieCords_2 : decode prog_3_method_12_code 2 = .ok (.iload_n 1, 1) := by decide +kernel
theorem d_Pt_tieCords_3 : decode prog_3_method_12_code 3 = .ok (.iconst 4, 1) := by decide +kernel
theorem d_Pt_tieCords_4 : decode prog_3_method_12_code 4 = .ok (.aload_n 0, 1) := by decide +kernel
theorem d_Pt_tieCords_5 : decode prog_3_method_12_code 5 = .ok (.getfield 36, 3) := by decide +kernel
theorem d_Pt_tieCords_8 : decode prog_3_method_12_code 8 = .ok (.imul, 1) := by decide +kernel
theorem d_Pt_tieCords_9 : decode prog_3_method_12_code 9 = .ok (.if_icmp .ge 38, 3) := by decide +kernel
theorem d_Pt_tieCords_12 : decode prog_3_method_12_code 12 = .ok (.aload_n 0, 1) := by decide +kernel
theorem d_Pt_tieCords_13 : decode prog_3_method_12_code 13 = .ok (.getfield 17, 3) := by decide +kernel
theorem d_Pt_tieCords_16 : decode prog_3_method_12_code 16 = .ok (.iload_n 1, 1) := by decide +kernel
theorem d_Pt_tieCords_17 : decode prog_3_method_12_code 17 = .ok (.aload_n 0, 1) := by decide +kernel
theorem d_Pt_tieCords_18 : decode prog_3_method_12_code 18 = .ok (.getfield 29, 3) := by decide +kernel
theorem d_Pt_tieCords_21 : decode prog_3_method_12_code 21 = .ok (.iload_n 1, 1) := by decide +kernel
theorem d_Pt_tieCords_22 : decode prog_3_method_12_code 22 = .ok (.iaload, 1) := by decide +kernel
theorem d_Pt_tieCords_23 : decode prog_3_method_12_code 23 = .ok (.ifCond .ne 7, 3) := by decide +kernel
theorem d_Pt_tieCords_26 : decode prog_3_method_12_code 26 = .ok (.iconst (-1), 1) := by decide +kernel
theorem d_Pt_tieCords_27 : decode prog_3_method_12_code 27 = .ok (.goto 13, 3) := by decide +kernel
theorem d_Pt_tieCords_30 : decode prog_3_method_12_code 30 = .ok (.aload_n 0, 1) := by decide +kernel
theorem d_Pt_tieCords_31 : decode prog_3_method_12_code 31 = .ok (.aload_n 0, 1) := by decide +kernel
theorem d_Pt_tieCords_32 : decode prog_3_method_12_code 32 = .ok (.getfield 29, 3) := by decide +kernel
theorem d_Pt_tieCords_35 : decode prog_3_method_12_code 35 = .ok (.iload_n 1, 1) := by decide +kernel
theorem d_Pt_tieCords_36 : decode prog_3_method_12_code 36 = .ok (.iaload, 1) := by decide +kernel
theorem d_Pt_tieCords_37 : decode prog_3_method_12_code 37 = .ok (.invokevirtual 54, 3) := by decide +kernel
theorem d_Pt_tieCords_40 : decode prog_3_method_12_code 40 = .ok (.iastore, 1) := by decide +kernel
theorem d_Pt_tieCords_41 : decode prog_3_method_12_code 41 = .ok (.iinc 1 1, 3) := by decide +kernel
theorem d_Pt_tieCords_44 : decode prog_3_method_12_code 44 = .ok (.goto (-42), 3) := by decide +kernel
theorem d_Pt_tieCords_47 : decode prog_3_method_12_code 47 = .ok (.aload_n 0, 1) := by decide +kernel
theorem d_Pt_tieCords_48 : decode prog_3_method_12_code 48 = .ok (.invokevirtual 58, 3) := by decide +kernel
theorem d_Pt_tieCords_51 : decode prog_3_method_12_code 51 = .ok (.return_, 1) := by decide +kernel
def f_Pt_tieCords_40 (k_2 : pv_S → Int32 → Option pv_S) (σ : pv_S) (x1 : Int32) (s0 : Int32) (s1 : Int32) : Option pv_S :=
  (if pv_in s1 152 = true then
k_2 (pv_uI σ 5 (s1).toNatClampNeg s0) (x1 + (1 : Int32))
  else none)
set_option maxHeartbeats 4000000 in
set_option maxRecDepth 100000 in
theorem s_Pt_tieCords_40 {p : Program} {l : Launch} {e : Env} {R : Room} {s : State} {m : MethodId} {args : Array Value} {below : List Frame} {meth : Method} {c : Code} {Q : State → Prop} {D : va_G} {q : Nat → ClassId} {a t : Nat → Nat} {A : Nat → Prop} (C : pv_C p s m args c prog_3_method_12_code 2 "PatchVoices$Patch" pv_TB D pv_cl (pv_ty q) 52 a A (pv_ZX t A)) (hmv : pv_mv A (pv_ZX t A)) (hRf : 2 ≤ R.frames) (hRl : 45 ≤ R.locals) {out : pv_S} (hret : pv_Rv p l e R s m args below meth c prog_3_method_12_code D pv_cl 52 a (pv_FX q a) A Q out) {k_2 : pv_S → Int32 → Option pv_S} (hk_2 : ∀ (σ : pv_S) (x1 : Int32) (H : Heap) (locs : List Loc) (ls : Array Slot), k_2 σ x1 = some out → lv_has ls 2 [(0, .ref (a 3)), (1, .int x1)] → pv_W D pv_cl 52 a (pv_FX q a) σ H → va_S A s.heap H locs → W p l e R s m args below meth c H locs 0 0 Q (F0 m 2 ls [])) {σ : pv_S} {x1 : Int32} {s0 : Int32} {s1 : Int32} {H : Heap} {locs : List Loc} {ls : Array Slot} (hl : lv_has ls 2 [(0, .ref (a 3)), (1, .int x1)]) (hP : pv_W D pv_cl 52 a (pv_FX q a) σ H) (hS : va_S A s.heap H locs) (hf : f_Pt_tieCords_40 k_2 σ x1 s0 s1 = some out) : W p l e R s m args below meth c H locs 0 0 Q (F0 m 40 ls [.int s0, .int s1, .ref (a 5)]) := by
  unfold f_Pt_tieCords_40 at hf
  have hx := C.1
  have hb := C.2.1
  obtain ⟨hg, hf⟩ := pv_g hf
  refine pv_iast C hP hS (t0 := 0) (x := s0) (by decide) (fun f g => (fx_5 _ _ f g)) rfl hg d_Pt_tieCords_40 (fun H locs hP hS => ?_)
  refine lv_iinc (k := 1) (v := (x1 + (1 : Int32))) (lv' := [(1, .int (x1 + (1 : Int32))), (0, .ref (a 3))]) hx hb d_Pt_tieCords_41 hl rfl (pv_inc (by decide)) (by decide) rfl (fun ls hl => ?_)
  refine lv_goto (tgt := 2) hx hb d_Pt_tieCords_44 (by decide) ?_
  exact hk_2 _ _ _ _ _ hf (lv_sub hl [1, 0] rfl) hP hS
def f_Pt_tieCords_2b (k_2 : pv_S → Int32 → Option pv_S) (σ : pv_S) (x1 : Int32) : Option pv_S :=
  (if ((4 : Int32) * (σ.1 3 0)) ≤ x1 then
  ((f_Pt_followCords σ).bind fun q1 =>
some q1)
  else
  (if pv_in x1 152 = true then
(if (σ.1 9 (x1).toNatClampNeg) = 0 then
  f_Pt_tieCords_40 k_2 σ x1 (-1 : Int32) x1
  else
  (if pv_in x1 152 = true then
((f_Pt_moduleNamed σ (σ.1 9 (x1).toNatClampNeg)).bind fun q2 =>
f_Pt_tieCords_40 k_2 q2.2 x1 q2.1 x1)
  else none))
  else none))
set_option maxHeartbeats 4000000 in
set_option maxRecDepth 100000 in
theorem s_Pt_tieCords_2b {p : Program} {l : Launch} {e : Env} {R : Room} {s : State} {m : MethodId} {args : Array Value} {below : List Frame} {meth : Method} {c : Code} {Q : State → Prop} {D : va_G} {q : Nat → ClassId} {a t : Nat → Nat} {A : Nat → Prop} (C : pv_C p s m args c prog_3_method_12_code 2 "PatchVoices$Patch" pv_TB D pv_cl (pv_ty q) 52 a A (pv_ZX t A)) (hmv : pv_mv A (pv_ZX t A)) (hRf : 2 ≤ R.frames) (hRl : 45 ≤ R.locals) {out : pv_S} (hret : pv_Rv p l e R s m args below meth c prog_3_method_12_code D pv_cl 52 a (pv_FX q a) A Q out) {k_2 : pv_S → Int32 → Option pv_S} (hk_2 : ∀ (σ : pv_S) (x1 : Int32) (H : Heap) (locs : List Loc) (ls : Array Slot), k_2 σ x1 = some out → lv_has ls 2 [(0, .ref (a 3)), (1, .int x1)] → pv_W D pv_cl 52 a (pv_FX q a) σ H → va_S A s.heap H locs → W p l e R s m args below meth c H locs 0 0 Q (F0 m 2 ls [])) {σ : pv_S} {x1 : Int32} {H : Heap} {locs : List Loc} {ls : Array Slot} (hl : lv_has ls 2 [(0, .ref (a 3)), (1, .int x1)]) (hP : pv_W D pv_cl 52 a (pv_FX q a) σ H) (hS : va_S A s.heap H locs) (hf : f_Pt_tieCords_2b k_2 σ x1 = some out) : W p l e R s m args below meth c H locs 0 0 Q (F0 m 2 ls []) := by
  unfold f_Pt_tieCords_2b at hf
  have hx := C.1
  have hb := C.2.1
  refine lv_iload_n hx hb d_Pt_tieCords_2 rfl (lv_at hl 1 rfl) ?_
  refine lv_iconst (v := (4 : Int32)) hx hb d_Pt_tieCords_3 (by decide) ?_
  refine lv_aload_n hx hb d_Pt_tieCords_4 rfl (lv_at hl 0 rfl) ?_
  refine pv_get C hP (v := .int (σ.1 3 0)) (j := 0) (by decide) (fx_3 _ _ _ _) fl_Pt_36 rfl d_Pt_tieCords_5 ?_
  refine lv_imul hx hb d_Pt_tieCords_8 ?_
  refine lv_icmp_ge (tgt := 47) hx hb d_Pt_tieCords_9 (by decide) (fun h => ?_) (fun h => ?_)
  · have hf := pv_t hf h
    refine lv_aload_n hx hb d_Pt_tieCords_47 rfl (lv_at hl 0 rfl) ?_
    obtain ⟨q1, hc, hf⟩ := pv_b hf
    refine pv_callVv C hmv pv_good hP hS (As := []) (rest := []) (by decide) (fx_3 _ _ _ _) rfl (c_Pt_followCords C.2.2.2.2.2.2.1 hmv hc) cv_Pt_58 ⟨rfl, rfl, Nat.le_trans (Nat.le_of_ble_eq_true rfl) hRf, Nat.le_trans (Nat.le_of_ble_eq_true rfl) hRl⟩ rfl hl.1 rfl (Nat.le_of_ble_eq_true rfl) d_Pt_tieCords_48 ⟨Nat.zero_le _, Nat.zero_le _⟩ (fun H locs hP hS => ?_)
    obtain rfl := Option.some.inj hf
    exact hret _ _ _ _ d_Pt_tieCords_51 hP hS
  · have hf := pv_f hf h
    refine lv_aload_n hx hb d_Pt_tieCords_12 rfl (lv_at hl 0 rfl) ?_
    refine pv_get C hP (v := .ref (a 5)) (j := 2) (by decide) (fx_3 _ _ _ _) fl_Pt_17 rfl d_Pt_tieCords_13 ?_
    refine lv_iload_n hx hb d_Pt_tieCords_16 rfl (lv_at hl 1 rfl) ?_
    refine lv_aload_n hx hb d_Pt_tieCords_17 rfl (lv_at hl 0 rfl) ?_
    refine pv_get C hP (v := .ref (a 9)) (j := 6) (by decide) (fx_3 _ _ _ _) fl_Pt_29 rfl d_Pt_tieCords_18 ?_
    refine lv_iload_n hx hb d_Pt_tieCords_21 rfl (lv_at hl 1 rfl) ?_
    obtain ⟨hg, hf⟩ := pv_g hf
    refine pv_iald C hP (t0 := 0) (by decide) (fx_9 _ _ _ _) rfl hg d_Pt_tieCords_22 ?_
    refine lv_if_ne (tgt := 30) hx hb d_Pt_tieCords_23 (by decide) (fun h => ?_) (fun h => ?_)
    · have hf := pv_f hf h
      refine lv_aload_n hx hb d_Pt_tieCords_30 rfl (lv_at hl 0 rfl) ?_
      refine lv_aload_n hx hb d_Pt_tieCords_31 rfl (lv_at hl 0 rfl) ?_
      refine pv_get C hP (v := .ref (a 9)) (j := 6) (by decide) (fx_3 _ _ _ _) fl_Pt_29 rfl d_Pt_tieCords_32 ?_
      refine lv_iload_n hx hb d_Pt_tieCords_35 rfl (lv_at hl 1 rfl) ?_
      obtain ⟨hg, hf⟩ := pv_g hf
      refine pv_iald C hP (t0 := 0) (by decide) (fx_9 _ _ _ _) rfl hg d_Pt_tieCords_36 ?_
      obtain ⟨q2, hc, hf⟩ := pv_b hf
      refine pv_callVi C hmv pv_good hP hS (As := [.int (σ.1 9 (x1).toNatClampNeg)]) (rest := [.int x1, .ref (a 5)]) (by decide) (fx_3 _ _ _ _) rfl (c_Pt_moduleNamed C.2.2.2.2.2.2.1 hmv hc) cv_Pt_54 ⟨rfl, rfl, Nat.le_trans (Nat.le_of_ble_eq_true rfl) hRf, Nat.le_trans (Nat.le_of_ble_eq_true rfl) hRl⟩ rfl hl.1 rfl (Nat.le_of_ble_eq_true rfl) d_Pt_tieCords_37 ⟨Nat.zero_le _, Nat.zero_le _⟩ (fun H locs hP hS => ?_)
      exact s_Pt_tieCords_40 C hmv hRf hRl hret hk_2 (lv_sub hl [0, 1] rfl) hP hS hf
    · have hf := pv_t hf h
      refine lv_iconst (v := (-1 : Int32)) hx hb d_Pt_tieCords_26 (by decide) ?_
      refine lv_goto (tgt := 40) hx hb d_Pt_tieCords_27 (by decide) ?_
      exact s_Pt_tieCords_40 C hmv hRf hRl hret hk_2 (lv_sub hl [0, 1] rfl) hP hS hf
def f_Pt_tieCords_2 : Nat → pv_S → Int32 → Option pv_S
  | 0 => fun _ _ => none
  | n + 1 => f_Pt_tieCords_2b (f_Pt_tieCords_2 n)
set_option maxHeartbeats 4000000 in
theorem s_Pt_tieCords_2 {p : Program} {l : Launch} {e : Env} {R : Room} {s : State} {m : MethodId} {args : Array Value} {below : List Frame} {meth : Method} {c : Code} {Q : State → Prop} {D : va_G} {q : Nat → ClassId} {a t : Nat → Nat} {A : Nat → Prop} (C : pv_C p s m args c prog_3_method_12_code 2 "PatchVoices$Patch" pv_TB D pv_cl (pv_ty q) 52 a A (pv_ZX t A)) (hmv : pv_mv A (pv_ZX t A)) (hRf : 2 ≤ R.frames) (hRl : 45 ≤ R.locals) {out : pv_S} (hret : pv_Rv p l e R s m args below meth c prog_3_method_12_code D pv_cl 52 a (pv_FX q a) A Q out) (n : Nat) : ∀ {σ : pv_S} {x1 : Int32} {H : Heap} {locs : List Loc} {ls : Array Slot}, lv_has ls 2 [(0, .ref (a 3)), (1, .int x1)] → pv_W D pv_cl 52 a (pv_FX q a) σ H → va_S A s.heap H locs → f_Pt_tieCords_2 n σ x1 = some out → W p l e R s m args below meth c H locs 0 0 Q (F0 m 2 ls []) := by
  induction n with
  | zero => intro σ x1 H locs ls hl hP hS hf; cases hf
  | succ n ih => intro σ x1 H locs ls hl hP hS hf; exact s_Pt_tieCords_2b C hmv hRf hRl hret (fun σ x1 H locs ls hf hl hP hS => ih hl hP hS hf) hl hP hS hf
def f_Pt_tieCords_0 (σ : pv_S) : Option pv_S :=
  f_Pt_tieCords_2 pv_fu σ (0 : Int32)
set_option maxHeartbeats 4000000 in
set_option maxRecDepth 100000 in
theorem s_Pt_tieCords_0 {p : Program} {l : Launch} {e : Env} {R : Room} {s : State} {m : MethodId} {args : Array Value} {below : List Frame} {meth : Method} {c : Code} {Q : State → Prop} {D : va_G} {q : Nat → ClassId} {a t : Nat → Nat} {A : Nat → Prop} (C : pv_C p s m args c prog_3_method_12_code 2 "PatchVoices$Patch" pv_TB D pv_cl (pv_ty q) 52 a A (pv_ZX t A)) (hmv : pv_mv A (pv_ZX t A)) (hRf : 2 ≤ R.frames) (hRl : 45 ≤ R.locals) {out : pv_S} (hret : pv_Rv p l e R s m args below meth c prog_3_method_12_code D pv_cl 52 a (pv_FX q a) A Q out) {σ : pv_S} {H : Heap} {locs : List Loc} {ls : Array Slot} (hl : lv_has ls 2 [(0, .ref (a 3))]) (hP : pv_W D pv_cl 52 a (pv_FX q a) σ H) (hS : va_S A s.heap H locs) (hf : f_Pt_tieCords_0 σ = some out) : W p l e R s m args below meth c H locs 0 0 Q (F0 m 0 ls []) := by
  unfold f_Pt_tieCords_0 at hf
  have hx := C.1
  have hb := C.2.1
  refine lv_iconst (v := (0 : Int32)) hx hb d_Pt_tieCords_0 (by decide) ?_
  refine lv_istore_n (lv' := [(1, .int (0 : Int32)), (0, .ref (a 3))]) hx hb d_Pt_tieCords_1 rfl hl (by decide) rfl (fun ls hl => ?_)
  exact s_Pt_tieCords_2 C hmv hRf hRl hret pv_fu (lv_sub hl [1, 0] rfl) hP hS hf
def f_Pt_tieCords (σ : pv_S) : Option pv_S := f_Pt_tieCords_0 σ
def rm_Pt_tieCords : Room := { frames := 2, cells := 0, slots := 0, locals := 45 }
theorem c_Pt_tieCords {l : Launch} {D : va_G} {q : Nat → ClassId} {a t : Nat → Nat} {A : Nat → Prop} (hD : pv_D 52 a A) (hmv : pv_mv A (pv_ZX t A)) {σ : pv_S} {out : pv_S} (hf : f_Pt_tieCords σ = some out) : pv_Mv l y_Pt_tieCords (Cond.code y_Pt_tieCords prog_3_method_12_code 2 none :: pv_TB) rm_Pt_tieCords D pv_cl (pv_ty q) 52 a (pv_FX q a) A (pv_ZX t A) [.ref (a 3)] σ out :=
  pv_ofV (by decide) (Nat.le_of_ble_eq_true rfl) hD (fun p e s m args below meth c Q ls C hret hl hP => s_Pt_tieCords_0 C hmv (Nat.le_refl _) (Nat.le_refl _) hret hl hP va_S.rf hf)
theorem d_Pt_hasLooseCord_0 : decode prog_3_method_19_code 0 = .ok (.iconst 0, 1) := by decide +kernel
theorem d_Pt_hasLooseCord_1 : decode prog_3_method_19_code 1 = .ok (.istore_n 2, 1) := by decide +kernel
theorem d_Pt_hasLooseCord_2 : decode prog_3_method_19_code 2 = .ok (.iload_n 2, 1) := by decide +kernel
theorem d_Pt_hasLooseCord_3 : decode prog_3_method_19_code 3 = .ok (.aload_n 0, 1) := by decide +kernel
theorem d_Pt_hasLooseCord_4 : decode prog_3_method_19_code 4 = .ok (.getfield 26, 3) := by decide +kernel
theorem d_Pt_hasLooseCord_7 : decode prog_3_method_19_code 7 = .ok (.iload_n 1, 1) := by decide +kernel
theorem d_Pt_hasLooseCord_8 : decode prog_3_method_19_code 8 = .ok (.iaload, 1) := by decide +kernel
theorem d_Pt_hasLooseCord_9 : decode prog_3_method_19_code 9 = .ok (.if_icmp .ge 36, 3) := by decide +kernel
theorem d_Pt_hasLooseCord_12 : decode prog_3_method_19_code 12 = .ok (.iconst 4, 1) := by decide +kernel
theorem d_Pt_hasLooseCord_13 : decode prog_3_method_19_code 13 = .ok (.iload_n 1, 1) := by decide +kernel
theorem d_Pt_hasLooseCord_14 : decode prog_3_method_19_code 14 = .ok (.imul, 1) := by decide +kernel
theorem d_Pt_hasLooseCord_15 : decode prog_3_method_19_code 15 = .ok (.iload_n 2, 1) := by decide +kernel
theorem d_Pt_hasLooseCord_16 : decode prog_3_method_19_code 16 = .ok (.iadd, 1) := by decide +kernel
theorem d_Pt_hasLooseCord_17 : decode prog_3_method_19_code 17 = .ok (.istore_n 3, 1) := by decide +kernel
theorem d_Pt_hasLooseCord_18 : decode prog_3_method_19_code 18 = .ok (.aload_n 0, 1) := by decide +kernel
theorem d_Pt_hasLooseCord_19 : decode prog_3_method_19_code 19 = .ok (.getfield 29, 3) := by decide +kernel
theorem d_Pt_hasLooseCord_22 : decode prog_3_method_19_code 22 = .ok (.iload_n 3, 1) := by decide +kernel
theorem d_Pt_hasLooseCord_23 : decode prog_3_method_19_code 23 = .ok (.iaload, 1) := by decide +kernel
theorem d_Pt_hasLooseCord_24 : decode prog_3_method_19_code 24 = .ok (.ifCond .eq 15, 3) := by decide +kernel
theorem d_Pt_hasLooseCord_27 : decode prog_3_method_19_code 27 = .ok (.aload_n 0, 1) := by decide +kernel
theorem d_Pt_hasLooseCord_28 : decode prog_3_method_19_code 28 = .ok (.getfield 17, 3) := by decide +kernel
theorem d_Pt_hasLooseCord_31 : decode prog_3_method_19_code 31 = .ok (.iload_n 3, 1) := by decide +kernel
theorem d_Pt_hasLooseCord_32 : decode prog_3_method_19_code 32 = .ok (.iaload, 1) := by decide +kernel
theorem d_Pt_hasLooseCord_33 : decode prog_3_method_19_code 33 = .ok (.iconst (-1), 1) := by decide +kernel
theorem d_Pt_hasLooseCord_34 : decode prog_3_method_19_code 34 = .ok (.if_icmp .ne 5, 3) := by decide +kernel
theorem d_Pt_hasLooseCord_37 : decode prog_3_method_19_code 37 = .ok (.iconst 1, 1) := by decide +kernel
theorem d_Pt_hasLooseCord_38 : decode prog_3_method_19_code 38 = .ok (.ireturn, 1) := by decide +kernel
theorem d_Pt_hasLooseCord_39 : decode prog_3_method_19_code 39 = .ok (.iinc 2 1, 3) := by decide +kernel
theorem d_Pt_hasLooseCord_42 : decode prog_3_method_19_code 42 = .ok (.goto (-40), 3) := by decide +kernel
theorem d_Pt_hasLooseCord_45 : decode prog_3_method_19_code 45 = .ok (.iconst 0, 1) := by decide +kernel
theorem d_Pt_hasLooseCord_46 : decode prog_3_method_19_code 46 = .ok (.ireturn, 1) := by decide +kernel
def f_Pt_hasLooseCord_39 (k_2 : pv_S → Int32 → Int32 → Option (Int32 × pv_S)) (σ : pv_S) (x1 : Int32) (x2 : Int32) : Option (Int32 × pv_S) :=
  k_2 σ x1 (x2 + (1 : Int32))
set_option maxHeartbeats 4000000 in
set_option maxRecDepth 100000 in
theorem s_Pt_hasLooseCord_39 {p : Program} {l : Launch} {e : Env} {R : Room} {s : State} {m : MethodId} {args : Array Value} {below : List Frame} {meth : Method} {c : Code} {Q : State → Prop} {D : va_G} {q : Nat → ClassId} {a t : Nat → Nat} {A : Nat → Prop} (C : pv_C p s m args c prog_3_method_19_code 4 "PatchVoices$Patch" pv_TB D pv_cl (pv_ty q) 52 a A (pv_ZX t A)) (hmv : pv_mv A (pv_ZX t A)) (hRf : 0 ≤ R.frames) (hRl : 0 ≤ R.locals) {out : (Int32 × pv_S)} (hret : pv_Rz p l e R s m args below meth c prog_3_method_19_code D pv_cl 52 a (pv_FX q a) A Q out) {k_2 : pv_S → Int32 → Int32 → Option (Int32 × pv_S)} (hk_2 : ∀ (σ : pv_S) (x1 : Int32) (x2 : Int32) (H : Heap) (locs : List Loc) (ls : Array Slot), k_2 σ x1 x2 = some out → lv_has ls 4 [(0, .ref (a 3)), (1, .int x1), (2, .int x2)] → pv_W D pv_cl 52 a (pv_FX q a) σ H → va_S A s.heap H locs → W p l e R s m args below meth c H locs 0 0 Q (F0 m 2 ls [])) {σ : pv_S} {x1 : Int32} {x2 : Int32} {H : Heap} {locs : List Loc} {ls : Array Slot} (hl : lv_has ls 4 [(0, .ref (a 3)), (1, .int x1), (2, .int x2)]) (hP : pv_W D pv_cl 52 a (pv_FX q a) σ H) (hS : va_S A s.heap H locs) (hf : f_Pt_hasLooseCord_39 k_2 σ x1 x2 = some out) : W p l e R s m args below meth c H locs 0 0 Q (F0 m 39 ls []) := by
  unfold f_Pt_hasLooseCord_39 at hf
  have hx := C.1
  have hb := C.2.1
  refine lv_iinc (k := 2) (v := (x2 + (1 : Int32))) (lv' := [(2, .int (x2 + (1 : Int32))), (0, .ref (a 3)), (1, .int x1)]) hx hb d_Pt_hasLooseCord_39 hl rfl (pv_inc (by decide)) (by decide) rfl (fun ls hl => ?_)
  refine lv_goto (tgt := 2) hx hb d_Pt_hasLooseCord_42 (by decide) ?_
  exact hk_2 _ _ _ _ _ _ hf (lv_sub hl [1, 2, 0] rfl) hP hS
def f_Pt_hasLooseCord_2b (k_2 : pv_S → Int32 → Int32 → Option (Int32 × pv_S)) (σ : pv_S) (x1 : Int32) (x2 : Int32) : Option (Int32 × pv_S) :=
  (if pv_in x1 38 = true then
(if (σ.1 8 (x1).toNatClampNeg) ≤ x2 then
  some ((0 : Int32), σ)
  else
  (if pv_in (((4 : Int32) * x1) + x2) 152 = true then
(if (σ.1 9 ((((4 : Int32) * x1) + x2)).toNatClampNeg) = 0 then
  f_Pt_hasLooseCord_39 k_2 σ x1 x2
  else
  (if pv_in (((4 : Int32) * x1) + x2) 152 = true then
(if (σ.1 5 ((((4 : Int32) * x1) + x2)).toNatClampNeg) = (-1 : Int32) then
  some ((1 : Int32), σ)
  else
  f_Pt_hasLooseCord_39 k_2 σ x1 x2)
  else none))
  else none))
  else none)
set_option maxHeartbeats 4000000 in
set_option maxRecDepth 100000 in
theorem s_Pt_hasLooseCord_2b {p : Program} {l : Launch} {e : Env} {R : Room} {s : State} {m : MethodId} {args : Array Value} {below : List Frame} {meth : Method} {c : Code} {Q : State → Prop} {D : va_G} {q : Nat → ClassId} {a t : Nat → Nat} {A : Nat → Prop} (C : pv_C p s m args c prog_3_method_19_code 4 "PatchVoices$Patch" pv_TB D pv_cl (pv_ty q) 52 a A (pv_ZX t A)) (hmv : pv_mv A (pv_ZX t A)) (hRf : 0 ≤ R.frames) (hRl : 0 ≤ R.locals) {out : (Int32 × pv_S)} (hret : pv_Rz p l e R s m args below meth c prog_3_method_19_code D pv_cl 52 a (pv_FX q a) A Q out) {k_2 : pv_S → Int32 → Int32 → Option (Int32 × pv_S)} (hk_2 : ∀ (σ : pv_S) (x1 : Int32) (x2 : Int32) (H : Heap) (locs : List Loc) (ls : Array Slot), k_2 σ x1 x2 = some out → lv_has ls 4 [(0, .ref (a 3)), (1, .int x1), (2, .int x2)] → pv_W D pv_cl 52 a (pv_FX q a) σ H → va_S A s.heap H locs → W p l e R s m args below meth c H locs 0 0 Q (F0 m 2 ls [])) {σ : pv_S} {x1 : Int32} {x2 : Int32} {H : Heap} {locs : List Loc} {ls : Array Slot} (hl : lv_has ls 4 [(0, .ref (a 3)), (1, .int x1), (2, .int x2)]) (hP : pv_W D pv_cl 52 a (pv_FX q a) σ H) (hS : va_S A s.heap H locs) (hf : f_Pt_hasLooseCord_2b k_2 σ x1 x2 = some out) : W p l e R s m args below meth c H locs 0 0 Q (F0 m 2 ls []) := by
  unfold f_Pt_hasLooseCord_2b at hf
  have hx := C.1
  have hb := C.2.1
  refine lv_iload_n hx hb d_Pt_hasLooseCord_2 rfl (lv_at hl 2 rfl) ?_
  refine lv_aload_n hx hb d_Pt_hasLooseCord_3 rfl (lv_at hl 0 rfl) ?_
  refine pv_get C hP (v := .ref (a 8)) (j := 5) (by decide) (fx_3 _ _ _ _) fl_Pt_26 rfl d_Pt_hasLooseCord_4 ?_
  refine lv_iload_n hx hb d_Pt_hasLooseCord_7 rfl (lv_at hl 1 rfl) ?_
  obtain ⟨hg, hf⟩ := pv_g hf
  refine pv_iald C hP (t0 := 0) (by decide) (fx_8 _ _ _ _) rfl hg d_Pt_hasLooseCord_8 ?_
  refine lv_icmp_ge (tgt := 45) hx hb d_Pt_hasLooseCord_9 (by decide) (fun h => ?_) (fun h => ?_)
  · have hf := pv_t hf h
    refine lv_iconst (v := (0 : Int32)) hx hb d_Pt_hasLooseCord_45 (by decide) ?_
    obtain rfl := Option.some.inj hf
    exact hret _ _ _ _ d_Pt_hasLooseCord_46 rfl hP hS
  · have hf := pv_f hf h
    refine lv_iconst (v := (4 : Int32)) hx hb d_Pt_hasLooseCord_12 (by decide) ?_
    refine lv_iload_n hx hb d_Pt_hasLooseCord_13 rfl (lv_at hl 1 rfl) ?_
    refine lv_imul hx hb d_Pt_hasLooseCord_14 ?_
    refine lv_iload_n hx hb d_Pt_hasLooseCord_15 rfl (lv_at hl 2 rfl) ?_
    refine lv_iadd hx hb d_Pt_hasLooseCord_16 ?_
    refine lv_istore_n (lv' := [(3, .int (((4 : Int32) * x1) + x2)), (0, .ref (a 3)), (1, .int x1), (2, .int x2)]) hx hb d_Pt_hasLooseCord_17 rfl hl (by decide) rfl (fun ls hl => ?_)
    refine lv_aload_n hx hb d_Pt_hasLooseCord_18 rfl (lv_at hl 1 rfl) ?_
    refine pv_get C hP (v := .ref (a 9)) (j := 6) (by decide) (fx_3 _ _ _ _) fl_Pt_29 rfl d_Pt_hasLooseCord_19 ?_
    refine lv_iload_n hx hb d_Pt_hasLooseCord_22 rfl (lv_at hl 0 rfl) ?_
    obtain ⟨hg, hf⟩ := pv_g hf
    refine pv_iald C hP (t0 := 0) (by decide) (fx_9 _ _ _ _) rfl hg d_Pt_hasLooseCord_23 ?_
    refine lv_if_eq (tgt := 39) hx hb d_Pt_hasLooseCord_24 (by decide) (fun h => ?_) (fun h => ?_)
    · have hf := pv_t hf h
      exact s_Pt_hasLooseCord_39 C hmv hRf hRl hret hk_2 (lv_sub hl [1, 2, 3] rfl) hP hS hf
    · have hf := pv_f hf h
      refine lv_aload_n hx hb d_Pt_hasLooseCord_27 rfl (lv_at hl 1 rfl) ?_
      refine pv_get C hP (v := .ref (a 5)) (j := 2) (by decide) (fx_3 _ _ _ _) fl_Pt_17 rfl d_Pt_hasLooseCord_28 ?_
      refine lv_iload_n hx hb d_Pt_hasLooseCord_31 rfl (lv_at hl 0 rfl) ?_
      obtain ⟨hg, hf⟩ := pv_g hf
      refine pv_iald C hP (t0 := 0) (by decide) (fx_5 _ _ _ _) rfl hg d_Pt_hasLooseCord_32 ?_
      refine lv_iconst (v := (-1 : Int32)) hx hb d_Pt_hasLooseCord_33 (by decide) ?_
      refine lv_icmp_ne (tgt := 39) hx hb d_Pt_hasLooseCord_34 (by decide) (fun h => ?_) (fun h => ?_)
      · have hf := pv_f hf h
        exact s_Pt_hasLooseCord_39 C hmv hRf hRl hret hk_2 (lv_sub hl [1, 2, 3] rfl) hP hS hf
      · have hf := pv_t hf h
        refine lv_iconst (v := (1 : Int32)) hx hb d_Pt_hasLooseCord_37 (by decide) ?_
        obtain rfl := Option.some.inj hf
        exact hret _ _ _ _ d_Pt_hasLooseCord_38 rfl hP hS
def f_Pt_hasLooseCord_2 : Nat → pv_S → Int32 → Int32 → Option (Int32 × pv_S)
  | 0 => fun _ _ _ => none
  | n + 1 => f_Pt_hasLooseCord_2b (f_Pt_hasLooseCord_2 n)
set_option maxHeartbeats 4000000 in
theorem s_Pt_hasLooseCord_2 {p : Program} {l : Launch} {e : Env} {R : Room} {s : State} {m : MethodId} {args : Array Value} {below : List Frame} {meth : Method} {c : Code} {Q : State → Prop} {D : va_G} {q : Nat → ClassId} {a t : Nat → Nat} {A : Nat → Prop} (C : pv_C p s m args c prog_3_method_19_code 4 "PatchVoices$Patch" pv_TB D pv_cl (pv_ty q) 52 a A (pv_ZX t A)) (hmv : pv_mv A (pv_ZX t A)) (hRf : 0 ≤ R.frames) (hRl : 0 ≤ R.locals) {out : (Int32 × pv_S)} (hret : pv_Rz p l e R s m args below meth c prog_3_method_19_code D pv_cl 52 a (pv_FX q a) A Q out) (n : Nat) : ∀ {σ : pv_S} {x1 : Int32} {x2 : Int32} {H : Heap} {locs : List Loc} {ls : Array Slot}, lv_has ls 4 [(0, .ref (a 3)), (1, .int x1), (2, .int x2)] → pv_W D pv_cl 52 a (pv_FX q a) σ H → va_S A s.heap H locs → f_Pt_hasLooseCord_2 n σ x1 x2 = some out → W p l e R s m args below meth c H locs 0 0 Q (F0 m 2 ls []) := by
  induction n with
  | zero => intro σ x1 x2 H locs ls hl hP hS hf; cases hf
  | succ n ih => intro σ x1 x2 H locs ls hl hP hS hf; exact s_Pt_hasLooseCord_2b C hmv hRf hRl hret (fun σ x1 x2 H locs ls hf hl hP hS => ih hl hP hS hf) hl hP hS hf
def f_Pt_hasLooseCord_0 (σ : pv_S) (x1 : Int32) : Option (Int32 × pv_S) :=
  f_Pt_hasLooseCord_2 pv_fu σ x1 (0 : Int32)
set_option maxHeartbeats 4000000 in
set_option maxRecDepth 100000 in
theorem s_Pt_hasLooseCord_0 {p : Program} {l : Launch} {e : Env} {R : Room} {s : State} {m : MethodId} {args : Array Value} {below : List Frame} {meth : Method} {c : Code} {Q : State → Prop} {D : va_G} {q : Nat → ClassId} {a t : Nat → Nat} {A : Nat → Prop} (C : pv_C p s m args c prog_3_method_19_code 4 "PatchVoices$Patch" pv_TB D pv_cl (pv_ty q) 52 a A (pv_ZX t A)) (hmv : pv_mv A (pv_ZX t A)) (hRf : 0 ≤ R.frames) (hRl : 0 ≤ R.locals) {out : (Int32 × pv_S)} (hret : pv_Rz p l e R s m args below meth c prog_3_method_19_code D pv_cl 52 a (pv_FX q a) A Q out) {σ : pv_S} {x1 : Int32} {H : Heap} {locs : List Loc} {ls : Array Slot} (hl : lv_has ls 4 [(0, .ref (a 3)), (1, .int x1)]) (hP : pv_W D pv_cl 52 a (pv_FX q a) σ H) (hS : va_S A s.heap H locs) (hf : f_Pt_hasLooseCord_0 σ x1 = some out) : W p l e R s m args below meth c H locs 0 0 Q (F0 m 0 ls []) := by
  unfold f_Pt_hasLooseCord_0 at hf
  have hx := C.1
  have hb := C.2.1
  refine lv_iconst (v := (0 : Int32)) hx hb d_Pt_hasLooseCord_0 (by decide) ?_
  refine lv_istore_n (lv' := [(2, .int (0 : Int32)), (0, .ref (a 3)), (1, .int x1)]) hx hb d_Pt_hasLooseCord_1 rfl hl (by decide) rfl (fun ls hl => ?_)
  exact s_Pt_hasLooseCord_2 C hmv hRf hRl hret pv_fu (lv_sub hl [1, 2, 0] rfl) hP hS hf
def f_Pt_hasLooseCord (σ : pv_S) (x1 : Int32) : Option (Int32 × pv_S) := f_Pt_hasLooseCord_0 σ x1
def rm_Pt_hasLooseCord : Room := { frames := 0, cells := 0, slots := 0, locals := 0 }
theorem c_Pt_hasLooseCord {l : Launch} {D : va_G} {q : Nat → ClassId} {a t : Nat → Nat} {A : Nat → Prop} (hD : pv_D 52 a A) (hmv : pv_mv A (pv_ZX t A)) {σ : pv_S} {x1 : Int32} {out : (Int32 × pv_S)} (hf : f_Pt_hasLooseCord σ x1 = some out) : pv_Mi l y_Pt_hasLooseCord (Cond.code y_Pt_hasLooseCord prog_3_method_19_code 4 (some .boolean) :: pv_TB) rm_Pt_hasLooseCord D pv_cl (pv_ty q) 52 a (pv_FX q a) A (pv_ZX t A) [.ref (a 3), .int x1] σ out :=
  pv_ofZ (by decide) (Nat.le_of_ble_eq_true rfl) hD (fun p e s m args below meth c Q ls C hret hl hP => s_Pt_hasLooseCord_0 C hmv (Nat.le_refl _) (Nat.le_refl _) hret hl hP va_S.rf hf)
theorem d_Pt_isNumberWithin_0 : decode prog_3_method_21_code 0 = .ok (.aload_n 0, 1) := by decide +kernel
theorem d_Pt_isNumberWithin_1 : decode prog_3_method_21_code 1 = .ok (.getfield 29, 3) := by decide +kernel
theorem d_Pt_isNumberWithin_4 : decode prog_3_method_21_code 4 = .ok (.iload_n 1, 1) := by decide +kernel
theorem d_Pt_isNumberWithin_5 : decode prog_3_method_21_code 5 = .ok (.iaload, 1) := by decide +kernel
theorem d_Pt_isNumberWithin_6 : decode prog_3_method_21_code 6 = .ok (.ifCond .ne 27, 3) := by decide +kernel
theorem d_Pt_isNumberWithin_9 : decode prog_3_method_21_code 9 = .ok (.aload_n 0, 1) := by decide +kernel
theorem d_Pt_isNumberWithin_10 : decode prog_3_method_21_code 10 = .ok (.getfield 20, 3) := by decide +kernel
theorem d_Pt_isNumberWithin_13 : decode prog_3_method_21_code 13 = .ok (.iload_n 1, 1) := by decide +kernel
theorem d_Pt_isNumberWithin_14 : decode prog_3_method_21_code 14 = .ok (.iaload, 1) := by decide +kernel
theorem d_Pt_isNumberWithin_15 : decode prog_3_method_21_code 15 = .ok (.iload_n 2, 1) := by decide +kernel
theorem d_Pt_isNumberWithin_16 : decode prog_3_method_21_code 16 = .ok (.if_icmp .lt 17, 3) := by decide +kernel
theorem d_Pt_isNumberWithin_19 : decode prog_3_method_21_code 19 = .ok (.aload_n 0, 1) := by decide +kernel
theorem d_Pt_isNumberWithin_20 : decode prog_3_method_21_code 20 = .ok (.getfield 20, 3) := by decide +kernel
theorem d_Pt_isNumberWithin_23 : decode prog_3_method_21_code 23 = .ok (.iload_n 1, 1) := by decide +kernel
theorem d_Pt_isNumberWithin_24 : decode prog_3_method_21_code 24 = .ok (.iaload, 1) := by decide +kernel
theorem d_Pt_isNumberWithin_25 : decode prog_3_method_21_code 25 = .ok (.iload_n 3, 1) := by decide +kernel
theorem d_Pt_isNumberWithin_26 : decode prog_3_method_21_code 26 = .ok (.if_icmp .gt 7, 3) := by decide +kernel
theorem d_Pt_isNumberWithin_29 : decode prog_3_method_21_code 29 = .ok (.iconst 1, 1) := by decide +kernel
theorem d_Pt_isNumberWithin_30 : decode prog_3_method_21_code 30 = .ok (.goto 4, 3) := by decide +kernel
theorem d_Pt_isNumberWithin_33 : decode prog_3_method_21_code 33 = .ok (.iconst 0, 1) := by decide +kernel
theorem d_Pt_isNumberWithin_34 : decode prog_3_method_21_code 34 = .ok (.ireturn, 1) := by decide +kernel
def f_Pt_isNumberWithin_0 (σ : pv_S) (x1 : Int32) (x2 : Int32) (x3 : Int32) : Option (Int32 × pv_S) :=
  (if pv_in x1 152 = true then
(if (σ.1 9 (x1).toNatClampNeg) = 0 then
  (if pv_in x1 152 = true then
(if (σ.1 6 (x1).toNatClampNeg) < x2 then
  some ((0 : Int32), σ)
  else
  (if pv_in x1 152 = true then
(if x3 < (σ.1 6 (x1).toNatClampNeg) then
  some ((0 : Int32), σ)
  else
  some ((1 : Int32), σ))
  else none))
  else none)
  else
  some ((0 : Int32), σ))
  else none)
set_option maxHeartbeats 4000000 in
set_option maxRecDepth 100000 in
theorem s_Pt_isNumberWithin_0 {p : Program} {l : Launch} {e : Env} {R : Room} {s : State} {m : MethodId} {args : Array Value} {below : List Frame} {meth : Method} {c : Code} {Q : State → Prop} {D : va_G} {q : Nat → ClassId} {a t : Nat → Nat} {A : Nat → Prop} (C : pv_C p s m args c prog_3_method_21_code 4 "PatchVoices$Patch" pv_TB D pv_cl (pv_ty q) 52 a A (pv_ZX t A)) (hmv : pv_mv A (pv_ZX t A)) (hRf : 0 ≤ R.frames) (hRl : 0 ≤ R.locals) {out : (Int32 × pv_S)} (hret : pv_Rz p l e R s m args below meth c prog_3_method_21_code D pv_cl 52 a (pv_FX q a) A Q out) {σ : pv_S} {x1 : Int32} {x2 : Int32} {x3 : Int32} {H : Heap} {locs : List Loc} {ls : Array Slot} (hl : lv_has ls 4 [(0, .ref (a 3)), (1, .int x1), (2, .int x2), (3, .int x3)]) (hP : pv_W D pv_cl 52 a (pv_FX q a) σ H) (hS : va_S A s.heap H locs) (hf : f_Pt_isNumberWithin_0 σ x1 x2 x3 = some out) : W p l e R s m args below meth c H locs 0 0 Q (F0 m 0 ls []) := by
  unfold f_Pt_isNumberWithin_0 at hf
  have hx := C.1
  have hb := C.2.1
  refine lv_aload_n hx hb d_Pt_isNumberWithin_0 rfl (lv_at hl 0 rfl) ?_
  refine pv_get C hP (v := .ref (a 9)) (j := 6) (by decide) (fx_3 _ _ _ _) fl_Pt_29 rfl d_Pt_isNumberWithin_1 ?_
  refine lv_iload_n hx hb d_Pt_isNumberWithin_4 rfl (lv_at hl 1 rfl) ?_
  obtain ⟨hg, hf⟩ := pv_g hf
  refine pv_iald C hP (t0 := 0) (by decide) (fx_9 _ _ _ _) rfl hg d_Pt_isNumberWithin_5 ?_
  refine lv_if_ne (tgt := 33) hx hb d_Pt_isNumberWithin_6 (by decide) (fun h => ?_) (fun h => ?_)
  · have hf := pv_f hf h
    refine lv_iconst (v := (0 : Int32)) hx hb d_Pt_isNumberWithin_33 (by decide) ?_
    obtain rfl := Option.some.inj hf
    exact hret _ _ _ _ d_Pt_isNumberWithin_34 rfl hP hS
  · have hf := pv_t hf h
    refine lv_aload_n hx hb d_Pt_isNumberWithin_9 rfl (lv_at hl 0 rfl) ?_
    refine pv_get C hP (v := .ref (a 6)) (j := 3) (by decide) (fx_3 _ _ _ _) fl_Pt_20 rfl d_Pt_isNumberWithin_10 ?_
    refine lv_iload_n hx hb d_Pt_isNumberWithin_13 rfl (lv_at hl 1 rfl) ?_
    obtain ⟨hg, hf⟩ := pv_g hf
    refine pv_iald C hP (t0 := 0) (by decide) (fx_6 _ _ _ _) rfl hg d_Pt_isNumberWithin_14 ?_
    refine lv_iload_n hx hb d_Pt_isNumberWithin_15 rfl (lv_at hl 2 rfl) ?_
    refine lv_icmp_lt (tgt := 33) hx hb d_Pt_isNumberWithin_16 (by decide) (fun h => ?_) (fun h => ?_)
    · have hf := pv_t hf h
      refine lv_iconst (v := (0 : Int32)) hx hb d_Pt_isNumberWithin_33 (by decide) ?_
      obtain rfl := Option.some.inj hf
      exact hret _ _ _ _ d_Pt_isNumberWithin_34 rfl hP hS
    · have hf := pv_f hf h
      refine lv_aload_n hx hb d_Pt_isNumberWithin_19 rfl (lv_at hl 0 rfl) ?_
      refine pv_get C hP (v := .ref (a 6)) (j := 3) (by decide) (fx_3 _ _ _ _) fl_Pt_20 rfl d_Pt_isNumberWithin_20 ?_
      refine lv_iload_n hx hb d_Pt_isNumberWithin_23 rfl (lv_at hl 1 rfl) ?_
      obtain ⟨hg, hf⟩ := pv_g hf
      refine pv_iald C hP (t0 := 0) (by decide) (fx_6 _ _ _ _) rfl hg d_Pt_isNumberWithin_24 ?_
      refine lv_iload_n hx hb d_Pt_isNumberWithin_25 rfl (lv_at hl 3 rfl) ?_
      refine lv_icmp_gt (tgt := 33) hx hb d_Pt_isNumberWithin_26 (by decide) (fun h => ?_) (fun h => ?_)
      · have hf := pv_t hf h
        refine lv_iconst (v := (0 : Int32)) hx hb d_Pt_isNumberWithin_33 (by decide) ?_
        obtain rfl := Option.some.inj hf
        exact hret _ _ _ _ d_Pt_isNumberWithin_34 rfl hP hS
      · have hf := pv_f hf h
        refine lv_iconst (v := (1 : Int32)) hx hb d_Pt_isNumberWithin_29 (by decide) ?_
        refine lv_goto (tgt := 34) hx hb d_Pt_isNumberWithin_30 (by decide) ?_
        obtain rfl := Option.some.inj hf
        exact hret _ _ _ _ d_Pt_isNumberWithin_34 rfl hP hS
def f_Pt_isNumberWithin (σ : pv_S) (x1 : Int32) (x2 : Int32) (x3 : Int32) : Option (Int32 × pv_S) := f_Pt_isNumberWithin_0 σ x1 x2 x3
def rm_Pt_isNumberWithin : Room := { frames := 0, cells := 0, slots := 0, locals := 0 }
theorem c_Pt_isNumberWithin {l : Launch} {D : va_G} {q : Nat → ClassId} {a t : Nat → Nat} {A : Nat → Prop} (hD : pv_D 52 a A) (hmv : pv_mv A (pv_ZX t A)) {σ : pv_S} {x1 : Int32} {x2 : Int32} {x3 : Int32} {out : (Int32 × pv_S)} (hf : f_Pt_isNumberWithin σ x1 x2 x3 = some out) : pv_Mi l y_Pt_isNumberWithin (Cond.code y_Pt_isNumberWithin prog_3_method_21_code 4 (some .boolean) :: pv_TB) rm_Pt_isNumberWithin D pv_cl (pv_ty q) 52 a (pv_FX q a) A (pv_ZX t A) [.ref (a 3), .int x1, .int x2, .int x3] σ out :=
  pv_ofZ (by decide) (Nat.le_of_ble_eq_true rfl) hD (fun p e s m args below meth c Q ls C hret hl hP => s_Pt_isNumberWithin_0 C hmv (Nat.le_refl _) (Nat.le_refl _) hret hl hP va_S.rf hf)
theorem d_Pt_hasWrongInputs_0 : decode prog_3_method_20_code 0 = .ok (.aload_n 0, 1) := by decide +kernel
theorem d_Pt_hasWrongInputs_1 : decode prog_3_method_20_code 1 = .ok (.getfield 26, 3) := by decide +kernel
theorem d_Pt_hasWrongInputs_4 : decode prog_3_method_20_code 4 = .ok (.iload_n 1, 1) := by decide +kernel
theorem d_Pt_hasWrongInputs_5 : decode prog_3_method_20_code 5 = .ok (.iaload, 1) := by decide +kernel
theorem d_Pt_hasWrongInputs_6 : decode prog_3_method_20_code 6 = .ok (.aload_n 0, 1) := by decide +kernel
theorem d_Pt_hasWrongInputs_7 : decode prog_3_method_20_code 7 = .ok (.getfield 11, 3) := by decide +kernel
theorem d_Pt_hasWrongInputs_10 : decode prog_3_method_20_code 10 = .ok (.iload_n 1, 1) := by decide +kernel
theorem d_Pt_hasWrongInputs_11 : decode prog_3_method_20_code 11 = .ok (.iaload, 1) := by decide +kernel
theorem d_Pt_hasWrongInputs_12 : decode prog_3_method_20_code 12 = .ok (.invokestatic 84, 3) := by decide +kernel
theorem d_Pt_hasWrongInputs_15 : decode prog_3_method_20_code 15 = .ok (.if_icmp .eq 5, 3) := by decide +kernel
theorem d_Pt_hasWrongInputs_18 : decode prog_3_method_20_code 18 = .ok (.iconst 1, 1) := by decide +kernel
theorem d_Pt_hasWrongInputs_19 : decode prog_3_method_20_code 19 = .ok (.ireturn, 1) := by decide +kernel
theorem d_Pt_hasWrongInputs_20 : decode prog_3_method_20_code 20 = .ok (.iconst 4, 1) := by decide +kernel
theorem d_Pt_hasWrongInputs_21 : decode prog_3_method_20_code 21 = .ok (.iload_n 1, 1) := by decide +kernel
theorem d_Pt_hasWrongInputs_22 : decode prog_3_method_20_code 22 = .ok (.imul, 1) := by decide +kernel
theorem d_Pt_hasWrongInputs_23 : decode prog_3_method_20_code 23 = .ok (.istore_n 2, 1) := by decide +kernel
theorem d_Pt_hasWrongInputs_24 : decode prog_3_method_20_code 24 = .ok (.aload_n 0, 1) := by decide +kernel
theorem d_Pt_hasWrongInputs_25 : decode prog_3_method_20_code 25 = .ok (.getfield 11, 3) := by decide +kernel
theorem d_Pt_hasWrongInputs_28 : decode prog_3_method_20_code 28 = .ok (.iload_n 1, 1) := by decide +kernel
theorem d_Pt_hasWrongInputs_29 : decode prog_3_method_20_code 29 = .ok (.iaload, 1) := by decide +kernel
theorem d_Pt_hasWrongInputs_30 : decode prog_3_method_20_code 30 = .ok (.lookupswitch 61 #[(7, 45), (18, 26)], 26) := by decide +kernel
theorem d_Pt_hasWrongInputs_56 : decode prog_3_method_20_code 56 = .ok (.aload_n 0, 1) := by decide +kernel
theorem d_Pt_hasWrongInputs_57 : decode prog_3_method_20_code 57 = .ok (.iload_n 2, 1) := by decide +kernel
theorem d_Pt_hasWrongInputs_58 : decode prog_3_method_20_code 58 = .ok (.iconst 1, 1) := by decide +kernel
theorem d_Pt_hasWrongInputs_59 : decode prog_3_method_20_code 59 = .ok (.iadd, 1) := by decide +kernel
theorem d_Pt_hasWrongInputs_60 : decode prog_3_method_20_code 60 = .ok (.iconst 1, 1) := by decide +kernel
theorem d_Pt_hasWrongInputs_61 : decode prog_3_method_20_code 61 = .ok (.bipush 64, 2) := by decide +kernel
theorem d_Pt_hasWrongInputs_63 : decode prog_3_method_20_code 63 = .ok (.invokevirtual 87, 3) := by decide +kernel
theorem d_Pt_hasWrongInputs_66 : decode prog_3_method_20_code 66 = .ok (.ifCond .ne 7, 3) := by decide +kernel
theorem d_Pt_hasWrongInputs_69 : decode prog_3_method_20_code 69 = .ok (.iconst 1, 1) := by decide +kernel
theorem d_Pt_hasWrongInputs_70 : decode prog_3_method_20_code 70 = .ok (.goto 4, 3) := by decide +kernel
theorem d_Pt_hasWrongInputs_73 : decode prog_3_method_20_code 73 = .ok (.iconst 0, 1) := by decide +kernel
theorem d_Pt_hasWrongInputs_74 : decode prog_3_method_20_code 74 = .ok (.ireturn, 1) := by decide +kernel
theorem d_Pt_hasWrongInputs_75 : decode prog_3_method_20_code 75 = .ok (.aload_n 0, 1) := by decide +kernel
theorem d_Pt_hasWrongInputs_76 : decode prog_3_method_20_code 76 = .ok (.iload_n 2, 1) := by decide +kernel
theorem d_Pt_hasWrongInputs_77 : decode prog_3_method_20_code 77 = .ok (.iconst 0, 1) := by decide +kernel
theorem d_Pt_hasWrongInputs_78 : decode prog_3_method_20_code 78 = .ok (.iconst 3, 1) := by decide +kernel
theorem d_Pt_hasWrongInputs_79 : decode prog_3_method_20_code 79 = .ok (.invokevirtual 87, 3) := by decide +kernel
theorem d_Pt_hasWrongInputs_82 : decode prog_3_method_20_code 82 = .ok (.ifCond .ne 7, 3) := by decide +kernel
theorem d_Pt_hasWrongInputs_85 : decode prog_3_method_20_code 85 = .ok (.iconst 1, 1) := by decide +kernel
theorem d_Pt_hasWrongInputs_86 : decode prog_3_method_20_code 86 = .ok (.goto 4, 3) := by decide +kernel
theorem d_Pt_hasWrongInputs_89 : decode prog_3_method_20_code 89 = .ok (.iconst 0, 1) := by decide +kernel
theorem d_Pt_hasWrongInputs_90 : decode prog_3_method_20_code 90 = .ok (.ireturn, 1) := by decide +kernel
theorem d_Pt_hasWrongInputs_91 : decode prog_3_method_20_code 91 = .ok (.iconst 0, 1) := by decide +kernel
theorem d_Pt_hasWrongInputs_92 : decode prog_3_method_20_code 92 = .ok (.ireturn, 1) := by decide +kernel
def f_Pt_hasWrongInputs_0 (σ : pv_S) (x1 : Int32) : Option (Int32 × pv_S) :=
  (if pv_in x1 38 = true then
(if pv_in x1 38 = true then
((f_Kd_inputsOf σ (σ.1 4 (x1).toNatClampNeg)).bind fun q1 =>
(if (σ.1 8 (x1).toNatClampNeg) = q1.1 then
  (if pv_in x1 38 = true then
(if (q1.2.1 4 (x1).toNatClampNeg) = (7 : Int32) then
  ((f_Pt_isNumberWithin q1.2 ((4 : Int32) * x1) (0 : Int32) (3 : Int32)).bind fun q2 =>
(if q2.1 = 0 then
  some ((1 : Int32), q2.2)
  else
  some ((0 : Int32), q2.2)))
  else
(if (q1.2.1 4 (x1).toNatClampNeg) = (18 : Int32) then
  ((f_Pt_isNumberWithin q1.2 (((4 : Int32) * x1) + (1 : Int32)) (1 : Int32) (64 : Int32)).bind fun q3 =>
(if q3.1 = 0 then
  some ((1 : Int32), q3.2)
  else
  some ((0 : Int32), q3.2)))
  else
  some ((0 : Int32), q1.2)))
  else none)
  else
  some ((1 : Int32), q1.2)))
  else none)
  else none)
set_option maxHeartbeats 4000000 in
set_option maxRecDepth 100000 in
theorem s_Pt_hasWrongInputs_0 {p : Program} {l : Launch} {e : Env} {R : Room} {s : State} {m : MethodId} {args : Array Value} {below : List Frame} {meth : Method} {c : Code} {Q : State → Prop} {D : va_G} {q : Nat → ClassId} {a t : Nat → Nat} {A : Nat → Prop} (C : pv_C p s m args c prog_3_method_20_code 3 "PatchVoices$Patch" pv_TB D pv_cl (pv_ty q) 52 a A (pv_ZX t A)) (hmv : pv_mv A (pv_ZX t A)) (hRf : 1 ≤ R.frames) (hRl : 23 ≤ R.locals) {out : (Int32 × pv_S)} (hret : pv_Rz p l e R s m args below meth c prog_3_method_20_code D pv_cl 52 a (pv_FX q a) A Q out) {σ : pv_S} {x1 : Int32} {H : Heap} {locs : List Loc} {ls : Array Slot} (hl : lv_has ls 3 [(0, .ref (a 3)), (1, .int x1)]) (hP : pv_W D pv_cl 52 a (pv_FX q a) σ H) (hS : va_S A s.heap H locs) (hf : f_Pt_hasWrongInputs_0 σ x1 = some out) : W p l e R s m args below meth c H locs 0 0 Q (F0 m 0 ls []) := by
  unfold f_Pt_hasWrongInputs_0 at hf
  have hx := C.1
  have hb := C.2.1
  refine lv_aload_n hx hb d_Pt_hasWrongInputs_0 rfl (lv_at hl 0 rfl) ?_
  refine pv_get C hP (v := .ref (a 8)) (j := 5) (by decide) (fx_3 _ _ _ _) fl_Pt_26 rfl d_Pt_hasWrongInputs_1 ?_
  refine lv_iload_n hx hb d_Pt_hasWrongInputs_4 rfl (lv_at hl 1 rfl) ?_
  obtain ⟨hg, hf⟩ := pv_g hf
  refine pv_iald C hP (t0 := 0) (by decide) (fx_8 _ _ _ _) rfl hg d_Pt_hasWrongInputs_5 ?_
  refine lv_aload_n hx hb d_Pt_hasWrongInputs_6 rfl (lv_at hl 0 rfl) ?_
  refine pv_get C hP (v := .ref (a 4)) (j := 1) (by decide) (fx_3 _ _ _ _) fl_Pt_11 rfl d_Pt_hasWrongInputs_7 ?_
  refine lv_iload_n hx hb d_Pt_hasWrongInputs_10 rfl (lv_at hl 1 rfl) ?_
  obtain ⟨hg, hf⟩ := pv_g hf
  refine pv_iald C hP (t0 := 0) (by decide) (fx_4 _ _ _ _) rfl hg d_Pt_hasWrongInputs_11 ?_
  obtain ⟨q1, hc, hf⟩ := pv_b hf
  refine pv_callSi C hmv pv_good hP hS (As := [.int (σ.1 4 (x1).toNatClampNeg)]) (rest := [.int (σ.1 8 (x1).toNatClampNeg)]) (c_Kd_inputsOf C.2.2.2.2.2.2.1 hmv hc) cs_Pt_84 ⟨rfl, rfl, Nat.le_trans (Nat.le_of_ble_eq_true rfl) hRf, Nat.le_trans (Nat.le_of_ble_eq_true rfl) hRl⟩ rfl hl.1 rfl (Nat.le_of_ble_eq_true rfl) d_Pt_hasWrongInputs_12 ⟨Nat.zero_le _, Nat.zero_le _⟩ (fun H locs hP hS => ?_)
  refine lv_icmp_eq (tgt := 20) hx hb d_Pt_hasWrongInputs_15 (by decide) (fun h => ?_) (fun h => ?_)
  · have hf := pv_t hf h
    refine lv_iconst (v := (4 : Int32)) hx hb d_Pt_hasWrongInputs_20 (by decide) ?_
    refine lv_iload_n hx hb d_Pt_hasWrongInputs_21 rfl (lv_at hl 1 rfl) ?_
    refine lv_imul hx hb d_Pt_hasWrongInputs_22 ?_
    refine lv_istore_n (lv' := [(2, .int ((4 : Int32) * x1)), (0, .ref (a 3)), (1, .int x1)]) hx hb d_Pt_hasWrongInputs_23 rfl hl (by decide) rfl (fun ls hl => ?_)
    refine lv_aload_n hx hb d_Pt_hasWrongInputs_24 rfl (lv_at hl 1 rfl) ?_
    refine pv_get C hP (v := .ref (a 4)) (j := 1) (by decide) (fx_3 _ _ _ _) fl_Pt_11 rfl d_Pt_hasWrongInputs_25 ?_
    refine lv_iload_n hx hb d_Pt_hasWrongInputs_28 rfl (lv_at hl 2 rfl) ?_
    obtain ⟨hg, hf⟩ := pv_g hf
    refine pv_iald C hP (t0 := 0) (by decide) (fx_4 _ _ _ _) rfl hg d_Pt_hasWrongInputs_29 ?_
    by_cases h7 : (q1.2.1 4 (x1).toNatClampNeg) = (7 : Int32)
    · have hf := pv_t hf h7
      refine lv_lookup (tgt := 75) (off := 45) hx hb d_Pt_hasWrongInputs_30 (by decide) (by first | (rw [h7]; done) | (rw [h7]; rfl)) (by decide) ?_
      refine lv_aload_n hx hb d_Pt_hasWrongInputs_75 rfl (lv_at hl 1 rfl) ?_
      refine lv_iload_n hx hb d_Pt_hasWrongInputs_76 rfl (lv_at hl 0 rfl) ?_
      refine lv_iconst (v := (0 : Int32)) hx hb d_Pt_hasWrongInputs_77 (by decide) ?_
      refine lv_iconst (v := (3 : Int32)) hx hb d_Pt_hasWrongInputs_78 (by decide) ?_
      obtain ⟨q2, hc, hf⟩ := pv_b hf
      refine pv_callVi C hmv pv_good hP hS (As := [.int ((4 : Int32) * x1), .int (0 : Int32), .int (3 : Int32)]) (rest := []) (by decide) (fx_3 _ _ _ _) rfl (c_Pt_isNumberWithin C.2.2.2.2.2.2.1 hmv hc) cv_Pt_87 ⟨rfl, rfl, Nat.le_trans (Nat.le_of_ble_eq_true rfl) hRf, Nat.le_trans (Nat.le_of_ble_eq_true rfl) hRl⟩ rfl hl.1 rfl (Nat.le_of_ble_eq_true rfl) d_Pt_hasWrongInputs_79 ⟨Nat.zero_le _, Nat.zero_le _⟩ (fun H locs hP hS => ?_)
      refine lv_if_ne (tgt := 89) hx hb d_Pt_hasWrongInputs_82 (by decide) (fun h => ?_) (fun h => ?_)
      · have hf := pv_f hf h
        refine lv_iconst (v := (0 : Int32)) hx hb d_Pt_hasWrongInputs_89 (by decide) ?_
        obtain rfl := Option.some.inj hf
        exact hret _ _ _ _ d_Pt_hasWrongInputs_90 rfl hP hS
      · have hf := pv_t hf h
        refine lv_iconst (v := (1 : Int32)) hx hb d_Pt_hasWrongInputs_85 (by decide) ?_
        refine lv_goto (tgt := 90) hx hb d_Pt_hasWrongInputs_86 (by decide) ?_
        obtain rfl := Option.some.inj hf
        exact hret _ _ _ _ d_Pt_hasWrongInputs_90 rfl hP hS
    · have hf := pv_f hf h7
      by_cases h18 : (q1.2.1 4 (x1).toNatClampNeg) = (18 : Int32)
      · have hf := pv_t hf h18
        refine lv_lookup (tgt := 56) (off := 26) hx hb d_Pt_hasWrongInputs_30 (by decide) (by first | (rw [h18]; done) | (rw [h18]; rfl)) (by decide) ?_
        refine lv_aload_n hx hb d_Pt_hasWrongInputs_56 rfl (lv_at hl 1 rfl) ?_
        refine lv_iload_n hx hb d_Pt_hasWrongInputs_57 rfl (lv_at hl 0 rfl) ?_
        refine lv_iconst (v := (1 : Int32)) hx hb d_Pt_hasWrongInputs_58 (by decide) ?_
        refine lv_iadd hx hb d_Pt_hasWrongInputs_59 ?_
        refine lv_iconst (v := (1 : Int32)) hx hb d_Pt_hasWrongInputs_60 (by decide) ?_
        refine lv_bipush (v := (64 : Int32)) hx hb d_Pt_hasWrongInputs_61 (by decide) ?_
        obtain ⟨q3, hc, hf⟩ := pv_b hf
        refine pv_callVi C hmv pv_good hP hS (As := [.int (((4 : Int32) * x1) + (1 : Int32)), .int (1 : Int32), .int (64 : Int32)]) (rest := []) (by decide) (fx_3 _ _ _ _) rfl (c_Pt_isNumberWithin C.2.2.2.2.2.2.1 hmv hc) cv_Pt_87 ⟨rfl, rfl, Nat.le_trans (Nat.le_of_ble_eq_true rfl) hRf, Nat.le_trans (Nat.le_of_ble_eq_true rfl) hRl⟩ rfl hl.1 rfl (Nat.le_of_ble_eq_true rfl) d_Pt_hasWrongInputs_63 ⟨Nat.zero_le _, Nat.zero_le _⟩ (fun H locs hP hS => ?_)
        refine lv_if_ne (tgt := 73) hx hb d_Pt_hasWrongInputs_66 (by decide) (fun h => ?_) (fun h => ?_)
        · have hf := pv_f hf h
          refine lv_iconst (v := (0 : Int32)) hx hb d_Pt_hasWrongInputs_73 (by decide) ?_
          obtain rfl := Option.some.inj hf
          exact hret _ _ _ _ d_Pt_hasWrongInputs_74 rfl hP hS
        · have hf := pv_t hf h
          refine lv_iconst (v := (1 : Int32)) hx hb d_Pt_hasWrongInputs_69 (by decide) ?_
          refine lv_goto (tgt := 74) hx hb d_Pt_hasWrongInputs_70 (by decide) ?_
          obtain rfl := Option.some.inj hf
          exact hret _ _ _ _ d_Pt_hasWrongInputs_74 rfl hP hS
      · have hf := pv_f hf h18
        refine lv_lookup (tgt := 91) (off := 61) hx hb d_Pt_hasWrongInputs_30 (by decide) ((lv_osw h7 (by decide)).trans ((lv_osw h18 (by decide)).trans (rfl))) (by decide) ?_
        refine lv_iconst (v := (0 : Int32)) hx hb d_Pt_hasWrongInputs_91 (by decide) ?_
        obtain rfl := Option.some.inj hf
        exact hret _ _ _ _ d_Pt_hasWrongInputs_92 rfl hP hS
  · have hf := pv_f hf h
    refine lv_iconst (v := (1 : Int32)) hx hb d_Pt_hasWrongInputs_18 (by decide) ?_
    obtain rfl := Option.some.inj hf
    exact hret _ _ _ _ d_Pt_hasWrongInputs_19 rfl hP hS
def f_Pt_hasWrongInputs (σ : pv_S) (x1 : Int32) : Option (Int32 × pv_S) := f_Pt_hasWrongInputs_0 σ x1
def rm_Pt_hasWrongInputs : Room := { frames := 1, cells := 0, slots := 0, locals := 23 }
theorem c_Pt_hasWrongInputs {l : Launch} {D : va_G} {q : Nat → ClassId} {a t : Nat → Nat} {A : Nat → Prop} (hD : pv_D 52 a A) (hmv : pv_mv A (pv_ZX t A)) {σ : pv_S} {x1 : Int32} {out : (Int32 × pv_S)} (hf : f_Pt_hasWrongInputs σ x1 = some out) : pv_Mi l y_Pt_hasWrongInputs (Cond.code y_Pt_hasWrongInputs prog_3_method_20_code 3 (some .boolean) :: pv_TB) rm_Pt_hasWrongInputs D pv_cl (pv_ty q) 52 a (pv_FX q a) A (pv_ZX t A) [.ref (a 3), .int x1] σ out :=
  pv_ofZ (by decide) (Nat.le_of_ble_eq_true rfl) hD (fun p e s m args below meth c Q ls C hret hl hP => s_Pt_hasWrongInputs_0 C hmv (Nat.le_refl _) (Nat.le_refl _) hret hl hP va_S.rf hf)
theorem d_Pt_delaysUpTo_0 : decode prog_3_method_22_code 0 = .ok (.iconst 0, 1) := by decide +kernel
theorem d_Pt_delaysUpTo_1 : decode prog_3_method_22_code 1 = .ok (.istore_n 2, 1) := by decide +kernel
theorem d_Pt_delaysUpTo_2 : decode prog_3_method_22_code 2 = .ok (.iconst 0, 1) := by decide +kernel
theorem d_Pt_delaysUpTo_3 : decode prog_3_method_22_code 3 = .ok (.istore_n 3, 1) := by decide +kernel
theorem d_Pt_delaysUpTo_4 : decode prog_3_method_22_code 4 = .ok (.iload_n 3, 1) := by decide +kernel
theorem d_Pt_delaysUpTo_5 : decode prog_3_method_22_code 5 = .ok (.iload_n 1, 1) := by decide +kernel
theorem d_Pt_delaysUpTo_6 : decode prog_3_method_22_code 6 = .ok (.if_icmp .gt 37, 3) := by decide +kernel
theorem d_Pt_delaysUpTo_9 : decode prog_3_method_22_code 9 = .ok (.iload_n 2, 1) := by decide +kernel
theorem d_Pt_delaysUpTo_10 : decode prog_3_method_22_code 10 = .ok (.aload_n 0, 1) := by decide +kernel
theorem d_Pt_delaysUpTo_11 : decode prog_3_method_22_code 11 = .ok (.getfield 11, 3) := by decide +kernel
theorem d_Pt_delaysUpTo_14 : decode prog_3_method_22_code 14 = .ok (.iload_n 3, 1) := by decide +kernel
theorem d_Pt_delaysUpTo_15 : decode prog_3_method_22_code 15 = .ok (.iaload, 1) := by decide +kernel
theorem d_Pt_delaysUpTo_16 : decode prog_3_method_22_code 16 = .ok (.bipush 18, 2) := by decide +kernel
theorem d_Pt_delaysUpTo_18 : decode prog_3_method_22_code 18 = .ok (.if_icmp .ne 16, 3) := by decide +kernel
theorem d_Pt_delaysUpTo_21 : decode prog_3_method_22_code 21 = .ok (.aload_n 0, 1) := by decide +kernel
theorem d_Pt_delaysUpTo_22 : decode prog_3_method_22_code 22 = .ok (.getfield 20, 3) := by decide +kernel
theorem d_Pt_delaysUpTo_25 : decode prog_3_method_22_code 25 = .ok (.iconst 4, 1) := by decide +kernel
theorem d_Pt_delaysUpTo_26 : decode prog_3_method_22_code 26 = .ok (.iload_n 3, 1) := by decide +kernel
theorem d_Pt_delaysUpTo_27 : decode prog_3_method_22_code 27 = .ok (.imul, 1) := by decide +kernel
theorem d_Pt_delaysUpTo_28 : decode prog_3_method_22_code 28 = .ok (.iconst 1, 1) := by decide +kernel
theorem d_Pt_delaysUpTo_29 : decode prog_3_method_22_code 29 = .ok (.iadd, 1) := by decide +kernel
theorem d_Pt_delaysUpTo_30 : decode prog_3_method_22_code 30 = .ok (.iaload, 1) := by decide +kernel
theorem d_Pt_delaysUpTo_31 : decode prog_3_method_22_code 31 = .ok (.goto 4, 3) := by decide +kernel
theorem d_Pt_delaysUpTo_34 : decode prog_3_method_22_code 34 = .ok (.iconst 0, 1) := by decide +kernel
theorem d_Pt_delaysUpTo_35 : decode prog_3_method_22_code 35 = .ok (.iadd, 1) := by decide +kernel
theorem d_Pt_delaysUpTo_36 : decode prog_3_method_22_code 36 = .ok (.istore_n 2, 1) := by decide +kernel
theorem d_Pt_delaysUpTo_37 : decode prog_3_method_22_code 37 = .ok (.iinc 3 1, 3) := by decide +kernel
theorem d_Pt_delaysUpTo_40 : decode prog_3_method_22_code 40 = .ok (.goto (-36), 3) := by decide +kernel
theorem d_Pt_delaysUpTo_43 : decode prog_3_method_22_code 43 = .ok (.iload_n 2, 1) := by decide +kernel
theorem d_Pt_delaysUpTo_44 : decode prog_3_method_22_code 44 = .ok (.ireturn, 1) := by decide +kernel
def f_Pt_delaysUpTo_35 (k_4 : pv_S → Int32 → Int32 → Int32 → Option (Int32 × pv_S)) (σ : pv_S) (x1 : Int32) (x3 : Int32) (s0 : Int32) (s1 : Int32) : Option (Int32 × pv_S) :=
  k_4 σ x1 (s1 + s0) (x3 + (1 : Int32))
set_option maxHeartbeats 4000000 in
set_option maxRecDepth 100000 in
theorem s_Pt_delaysUpTo_35 {p : Program} {l : Launch} {e : Env} {R : Room} {s : State} {m : MethodId} {args : Array Value} {below : List Frame} {meth : Method} {c : Code} {Q : State → Prop} {D : va_G} {q : Nat → ClassId} {a t : Nat → Nat} {A : Nat → Prop} (C : pv_C p s m args c prog_3_method_22_code 4 "PatchVoices$Patch" pv_TB D pv_cl (pv_ty q) 52 a A (pv_ZX t A)) (hmv : pv_mv A (pv_ZX t A)) (hRf : 0 ≤ R.frames) (hRl : 0 ≤ R.locals) {out : (Int32 × pv_S)} (hret : pv_Ri p l e R s m args below meth c prog_3_method_22_code D pv_cl 52 a (pv_FX q a) A Q out) {k_4 : pv_S → Int32 → Int32 → Int32 → Option (Int32 × pv_S)} (hk_4 : ∀ (σ : pv_S) (x1 : Int32) (x2 : Int32) (x3 : Int32) (H : Heap) (locs : List Loc) (ls : Array Slot), k_4 σ x1 x2 x3 = some out → lv_has ls 4 [(0, .ref (a 3)), (1, .int x1), (2, .int x2), (3, .int x3)] → pv_W D pv_cl 52 a (pv_FX q a) σ H → va_S A s.heap H locs → W p l e R s m args below meth c H locs 0 0 Q (F0 m 4 ls [])) {σ : pv_S} {x1 : Int32} {x3 : Int32} {s0 : Int32} {s1 : Int32} {H : Heap} {locs : List Loc} {ls : Array Slot} (hl : lv_has ls 4 [(0, .ref (a 3)), (1, .int x1), (3, .int x3)]) (hP : pv_W D pv_cl 52 a (pv_FX q a) σ H) (hS : va_S A s.heap H locs) (hf : f_Pt_delaysUpTo_35 k_4 σ x1 x3 s0 s1 = some out) : W p l e R s m args below meth c H locs 0 0 Q (F0 m 35 ls [.int s0, .int s1]) := by
  unfold f_Pt_delaysUpTo_35 at hf
  have hx := C.1
  have hb := C.2.1
  refine lv_iadd hx hb d_Pt_delaysUpTo_35 ?_
  refine lv_istore_n (lv' := [(2, .int (s1 + s0)), (0, .ref (a 3)), (1, .int x1), (3, .int x3)]) hx hb d_Pt_delaysUpTo_36 rfl hl (by decide) rfl (fun ls hl => ?_)
  refine lv_iinc (k := 3) (v := (x3 + (1 : Int32))) (lv' := [(3, .int (x3 + (1 : Int32))), (2, .int (s1 + s0)), (0, .ref (a 3)), (1, .int x1)]) hx hb d_Pt_delaysUpTo_37 hl rfl (pv_inc (by decide)) (by decide) rfl (fun ls hl => ?_)
  refine lv_goto (tgt := 4) hx hb d_Pt_delaysUpTo_40 (by decide) ?_
  exact hk_4 _ _ _ _ _ _ _ hf (lv_sub hl [2, 3, 1, 0] rfl) hP hS
def f_Pt_delaysUpTo_4b (k_4 : pv_S → Int32 → Int32 → Int32 → Option (Int32 × pv_S)) (σ : pv_S) (x1 : Int32) (x2 : Int32) (x3 : Int32) : Option (Int32 × pv_S) :=
  (if x1 < x3 then
  some (x2, σ)
  else
  (if pv_in x3 38 = true then
(if (σ.1 4 (x3).toNatClampNeg) = (18 : Int32) then
  (if pv_in (((4 : Int32) * x3) + (1 : Int32)) 152 = true then
f_Pt_delaysUpTo_35 k_4 σ x1 x3 (σ.1 6 ((((4 : Int32) * x3) + (1 : Int32))).toNatClampNeg) x2
  else none)
  else
  f_Pt_delaysUpTo_35 k_4 σ x1 x3 (0 : Int32) x2)
  else none))
set_option maxHeartbeats 4000000 in
set_option maxRecDepth 100000 in
theorem s_Pt_delaysUpTo_4b {p : Program} {l : Launch} {e : Env} {R : Room} {s : State} {m : MethodId} {args : Array Value} {below : List Frame} {meth : Method} {c : Code} {Q : State → Prop} {D : va_G} {q : Nat → ClassId} {a t : Nat → Nat} {A : Nat → Prop} (C : pv_C p s m args c prog_3_method_22_code 4 "PatchVoices$Patch" pv_TB D pv_cl (pv_ty q) 52 a A (pv_ZX t A)) (hmv : pv_mv A (pv_ZX t A)) (hRf : 0 ≤ R.frames) (hRl : 0 ≤ R.locals) {out : (Int32 × pv_S)} (hret : pv_Ri p l e R s m args below meth c prog_3_method_22_code D pv_cl 52 a (pv_FX q a) A Q out) {k_4 : pv_S → Int32 → Int32 → Int32 → Option (Int32 × pv_S)} (hk_4 : ∀ (σ : pv_S) (x1 : Int32) (x2 : Int32) (x3 : Int32) (H : Heap) (locs : List Loc) (ls : Array Slot), k_4 σ x1 x2 x3 = some out → lv_has ls 4 [(0, .ref (a 3)), (1, .int x1), (2, .int x2), (3, .int x3)] → pv_W D pv_cl 52 a (pv_FX q a) σ H → va_S A s.heap H locs → W p l e R s m args below meth c H locs 0 0 Q (F0 m 4 ls [])) {σ : pv_S} {x1 : Int32} {x2 : Int32} {x3 : Int32} {H : Heap} {locs : List Loc} {ls : Array Slot} (hl : lv_has ls 4 [(0, .ref (a 3)), (1, .int x1), (2, .int x2), (3, .int x3)]) (hP : pv_W D pv_cl 52 a (pv_FX q a) σ H) (hS : va_S A s.heap H locs) (hf : f_Pt_delaysUpTo_4b k_4 σ x1 x2 x3 = some out) : W p l e R s m args below meth c H locs 0 0 Q (F0 m 4 ls []) := by
  unfold f_Pt_delaysUpTo_4b at hf
  have hx := C.1
  have hb := C.2.1
  refine lv_iload_n hx hb d_Pt_delaysUpTo_4 rfl (lv_at hl 3 rfl) ?_
  refine lv_iload_n hx hb d_Pt_delaysUpTo_5 rfl (lv_at hl 1 rfl) ?_
  refine lv_icmp_gt (tgt := 43) hx hb d_Pt_delaysUpTo_6 (by decide) (fun h => ?_) (fun h => ?_)
  · have hf := pv_t hf h
    refine lv_iload_n hx hb d_Pt_delaysUpTo_43 rfl (lv_at hl 2 rfl) ?_
    obtain rfl := Option.some.inj hf
    exact hret _ _ _ _ d_Pt_delaysUpTo_44 hP hS
  · have hf := pv_f hf h
    refine lv_iload_n hx hb d_Pt_delaysUpTo_9 rfl (lv_at hl 2 rfl) ?_
    refine lv_aload_n hx hb d_Pt_delaysUpTo_10 rfl (lv_at hl 0 rfl) ?_
    refine pv_get C hP (v := .ref (a 4)) (j := 1) (by decide) (fx_3 _ _ _ _) fl_Pt_11 rfl d_Pt_delaysUpTo_11 ?_
    refine lv_iload_n hx hb d_Pt_delaysUpTo_14 rfl (lv_at hl 3 rfl) ?_
    obtain ⟨hg, hf⟩ := pv_g hf
    refine pv_iald C hP (t0 := 0) (by decide) (fx_4 _ _ _ _) rfl hg d_Pt_delaysUpTo_15 ?_
    refine lv_bipush (v := (18 : Int32)) hx hb d_Pt_delaysUpTo_16 (by decide) ?_
    refine lv_icmp_ne (tgt := 34) hx hb d_Pt_delaysUpTo_18 (by decide) (fun h => ?_) (fun h => ?_)
    · have hf := pv_f hf h
      refine lv_iconst (v := (0 : Int32)) hx hb d_Pt_delaysUpTo_34 (by decide) ?_
      exact s_Pt_delaysUpTo_35 C hmv hRf hRl hret hk_4 (lv_sub hl [0, 1, 3] rfl) hP hS hf
    · have hf := pv_t hf h
      refine lv_aload_n hx hb d_Pt_delaysUpTo_21 rfl (lv_at hl 0 rfl) ?_
      refine pv_get C hP (v := .ref (a 6)) (j := 3) (by decide) (fx_3 _ _ _ _) fl_Pt_20 rfl d_Pt_delaysUpTo_22 ?_
      refine lv_iconst (v := (4 : Int32)) hx hb d_Pt_delaysUpTo_25 (by decide) ?_
      refine lv_iload_n hx hb d_Pt_delaysUpTo_26 rfl (lv_at hl 3 rfl) ?_
      refine lv_imul hx hb d_Pt_delaysUpTo_27 ?_
      refine lv_iconst (v := (1 : Int32)) hx hb d_Pt_delaysUpTo_28 (by decide) ?_
      refine lv_iadd hx hb d_Pt_delaysUpTo_29 ?_
      obtain ⟨hg, hf⟩ := pv_g hf
      refine pv_iald C hP (t0 := 0) (by decide) (fx_6 _ _ _ _) rfl hg d_Pt_delaysUpTo_30 ?_
      refine lv_goto (tgt := 35) hx hb d_Pt_delaysUpTo_31 (by decide) ?_
      exact s_Pt_delaysUpTo_35 C hmv hRf hRl hret hk_4 (lv_sub hl [0, 1, 3] rfl) hP hS hf
def f_Pt_delaysUpTo_4 : Nat → pv_S → Int32 → Int32 → Int32 → Option (Int32 × pv_S)
  | 0 => fun _ _ _ _ => none
  | n + 1 => f_Pt_delaysUpTo_4b (f_Pt_delaysUpTo_4 n)
set_option maxHeartbeats 4000000 in
theorem s_Pt_delaysUpTo_4 {p : Program} {l : Launch} {e : Env} {R : Room} {s : State} {m : MethodId} {args : Array Value} {below : List Frame} {meth : Method} {c : Code} {Q : State → Prop} {D : va_G} {q : Nat → ClassId} {a t : Nat → Nat} {A : Nat → Prop} (C : pv_C p s m args c prog_3_method_22_code 4 "PatchVoices$Patch" pv_TB D pv_cl (pv_ty q) 52 a A (pv_ZX t A)) (hmv : pv_mv A (pv_ZX t A)) (hRf : 0 ≤ R.frames) (hRl : 0 ≤ R.locals) {out : (Int32 × pv_S)} (hret : pv_Ri p l e R s m args below meth c prog_3_method_22_code D pv_cl 52 a (pv_FX q a) A Q out) (n : Nat) : ∀ {σ : pv_S} {x1 : Int32} {x2 : Int32} {x3 : Int32} {H : Heap} {locs : List Loc} {ls : Array Slot}, lv_has ls 4 [(0, .ref (a 3)), (1, .int x1), (2, .int x2), (3, .int x3)] → pv_W D pv_cl 52 a (pv_FX q a) σ H → va_S A s.heap H locs → f_Pt_delaysUpTo_4 n σ x1 x2 x3 = some out → W p l e R s m args below meth c H locs 0 0 Q (F0 m 4 ls []) := by
  induction n with
  | zero => intro σ x1 x2 x3 H locs ls hl hP hS hf; cases hf
  | succ n ih => intro σ x1 x2 x3 H locs ls hl hP hS hf; exact s_Pt_delaysUpTo_4b C hmv hRf hRl hret (fun σ x1 x2 x3 H locs ls hf hl hP hS => ih hl hP hS hf) hl hP hS hf
def f_Pt_delaysUpTo_0 (σ : pv_S) (x1 : Int32) : Option (Int32 × pv_S) :=
  f_Pt_delaysUpTo_4 pv_fu σ x1 (0 : Int32) (0 : Int32)
set_option maxHeartbeats 4000000 in
set_option maxRecDepth 100000 in
theorem s_Pt_delaysUpTo_0 {p : Program} {l : Launch} {e : Env} {R : Room} {s : State} {m : MethodId} {args : Array Value} {below : List Frame} {meth : Method} {c : Code} {Q : State → Prop} {D : va_G} {q : Nat → ClassId} {a t : Nat → Nat} {A : Nat → Prop} (C : pv_C p s m args c prog_3_method_22_code 4 "PatchVoices$Patch" pv_TB D pv_cl (pv_ty q) 52 a A (pv_ZX t A)) (hmv : pv_mv A (pv_ZX t A)) (hRf : 0 ≤ R.frames) (hRl : 0 ≤ R.locals) {out : (Int32 × pv_S)} (hret : pv_Ri p l e R s m args below meth c prog_3_method_22_code D pv_cl 52 a (pv_FX q a) A Q out) {σ : pv_S} {x1 : Int32} {H : Heap} {locs : List Loc} {ls : Array Slot} (hl : lv_has ls 4 [(0, .ref (a 3)), (1, .int x1)]) (hP : pv_W D pv_cl 52 a (pv_FX q a) σ H) (hS : va_S A s.heap H locs) (hf : f_Pt_delaysUpTo_0 σ x1 = some out) : W p l e R s m args below meth c H locs 0 0 Q (F0 m 0 ls []) := by
  unfold f_Pt_delaysUpTo_0 at hf
  have hx := C.1
  have hb := C.2.1
  refine lv_iconst (v := (0 : Int32)) hx hb d_Pt_delaysUpTo_0 (by decide) ?_
  refine lv_istore_n (lv' := [(2, .int (0 : Int32)), (0, .ref (a 3)), (1, .int x1)]) hx hb d_Pt_delaysUpTo_1 rfl hl (by decide) rfl (fun ls hl => ?_)
  refine lv_iconst (v := (0 : Int32)) hx hb d_Pt_delaysUpTo_2 (by decide) ?_
  refine lv_istore_n (lv' := [(3, .int (0 : Int32)), (2, .int (0 : Int32)), (0, .ref (a 3)), (1, .int x1)]) hx hb d_Pt_delaysUpTo_3 rfl hl (by decide) rfl (fun ls hl => ?_)
  exact s_Pt_delaysUpTo_4 C hmv hRf hRl hret pv_fu (lv_sub hl [2, 3, 1, 0] rfl) hP hS hf
def f_Pt_delaysUpTo (σ : pv_S) (x1 : Int32) : Option (Int32 × pv_S) := f_Pt_delaysUpTo_0 σ x1
def rm_Pt_delaysUpTo : Room := { frames := 0, cells := 0, slots := 0, locals := 0 }
theorem c_Pt_delaysUpTo {l : Launch} {D : va_G} {q : Nat → ClassId} {a t : Nat → Nat} {A : Nat → Prop} (hD : pv_D 52 a A) (hmv : pv_mv A (pv_ZX t A)) {σ : pv_S} {x1 : Int32} {out : (Int32 × pv_S)} (hf : f_Pt_delaysUpTo σ x1 = some out) : pv_Mi l y_Pt_delaysUpTo (Cond.code y_Pt_delaysUpTo prog_3_method_22_code 4 (some .int) :: pv_TB) rm_Pt_delaysUpTo D pv_cl (pv_ty q) 52 a (pv_FX q a) A (pv_ZX t A) [.ref (a 3), .int x1] σ out :=
  pv_ofI (by decide) (Nat.le_of_ble_eq_true rfl) hD (fun p e s m args below meth c Q ls C hret hl hP => s_Pt_delaysUpTo_0 C hmv (Nat.le_refl _) (Nat.le_refl _) hret hl hP va_S.rf hf)
theorem d_Pt_has_0 : decode prog_3_method_18_code 0 = .ok (.iload_n 1, 1) := by decide +kernel
theorem d_Pt_has_1 : decode prog_3_method_18_code 1 = .ok (.tableswitch 97 (1) (5) #[90, 55, 35, 61, 67], 35) := by decide +kernel
theorem d_Pt_has_36 : decode prog_3_method_18_code 36 = .ok (.aload_n 0, 1) := by decide +kernel
theorem d_Pt_has_37 : decode prog_3_method_18_code 37 = .ok (.aload_n 0, 1) := by decide +kernel
theorem d_Pt_has_38 : decode prog_3_method_18_code 38 = .ok (.getfield 23, 3) := by decide +kernel
theorem d_Pt_has_41 : decode prog_3_method_18_code 41 = .ok (.iload_n 2, 1) := by decide +kernel
theorem d_Pt_has_42 : decode prog_3_method_18_code 42 = .ok (.iaload, 1) := by decide +kernel
theorem d_Pt_has_43 : decode prog_3_method_18_code 43 = .ok (.invokevirtual 54, 3) := by decide +kernel
theorem d_Pt_has_46 : decode prog_3_method_18_code 46 = .ok (.iload_n 2, 1) := by decide +kernel
theorem d_Pt_has_47 : decode prog_3_method_18_code 47 = .ok (.if_icmp .ge 7, 3) := by decide +kernel
theorem d_Pt_has_50 : decode prog_3_method_18_code 50 = .ok (.iconst 1, 1) := by decide +kernel
theorem d_Pt_has_51 : decode prog_3_method_18_code 51 = .ok (.goto 4, 3) := by decide +kernel
theorem d_Pt_has_54 : decode prog_3_method_18_code 54 = .ok (.iconst 0, 1) := by decide +kernel
theorem d_Pt_has_55 : decode prog_3_method_18_code 55 = .ok (.ireturn, 1) := by decide +kernel
theorem d_Pt_has_56 : decode prog_3_method_18_code 56 = .ok (.aload_n 0, 1) := by decide +kernel
theorem d_Pt_has_57 : decode prog_3_method_18_code 57 = .ok (.iload_n 2, 1) := by decide +kernel
theorem d_Pt_has_58 : decode prog_3_method_18_code 58 = .ok (.invokevirtual 74, 3) := by decide +kernel
theorem d_Pt_has_61 : decode prog_3_method_18_code 61 = .ok (.ireturn, 1) := by decide +kernel
theorem d_Pt_has_62 : decode prog_3_method_18_code 62 = .ok (.aload_n 0, 1) := by decide +kernel
theorem d_Pt_has_63 : decode prog_3_method_18_code 63 = .ok (.iload_n 2, 1) := by decide +kernel
theorem d_Pt_has_64 : decode prog_3_method_18_code 64 = .ok (.invokevirtual 78, 3) := by decide +kernel
theorem d_Pt_has_67 : decode prog_3_method_18_code 67 = .ok (.ireturn, 1) := by decide +kernel
theorem d_Pt_has_68 : decode prog_3_method_18_code 68 = .ok (.iload_n 2, 1) := by decide +kernel
theorem d_Pt_has_69 : decode prog_3_method_18_code 69 = .ok (.bipush 24, 2) := by decide +kernel
theorem d_Pt_has_71 : decode prog_3_method_18_code 71 = .ok (.if_icmp .ge 14, 3) := by decide +kernel
theorem d_Pt_has_74 : decode prog_3_method_18_code 74 = .ok (.aload_n 0, 1) := by decide +kernel
theorem d_Pt_has_75 : decode prog_3_method_18_code 75 = .ok (.iload_n 2, 1) := by decide +kernel
theorem d_Pt_has_76 : decode prog_3_method_18_code 76 = .ok (.invokevirtual 81, 3) := by decide +kernel
theorem d_Pt_has_79 : decode prog_3_method_18_code 79 = .ok (.sipush 128, 3) := by decide +kernel
theorem d_Pt_has_82 : decode prog_3_method_18_code 82 = .ok (.if_icmp .le 7, 3) := by decide +kernel
theorem d_Pt_has_85 : decode prog_3_method_18_code 85 = .ok (.iconst 1, 1) := by decide +kernel
theorem d_Pt_has_86 : decode prog_3_method_18_code 86 = .ok (.goto 4, 3) := by decide +kernel
theorem d_Pt_has_89 : decode prog_3_method_18_code 89 = .ok (.iconst 0, 1) := by decide +kernel
theorem d_Pt_has_90 : decode prog_3_method_18_code 90 = .ok (.ireturn, 1) := by decide +kernel
theorem d_Pt_has_91 : decode prog_3_method_18_code 91 = .ok (.aload_n 0, 1) := by decide +kernel
theorem d_Pt_has_92 : decode prog_3_method_18_code 92 = .ok (.iload_n 2, 1) := by decide +kernel
theorem d_Pt_has_93 : decode prog_3_method_18_code 93 = .ok (.iload_n 2, 1) := by decide +kernel
theorem d_Pt_has_94 : decode prog_3_method_18_code 94 = .ok (.invokevirtual 61, 3) := by decide +kernel
theorem d_Pt_has_97 : decode prog_3_method_18_code 97 = .ok (.ireturn, 1) := by decide +kernel
theorem d_Pt_has_98 : decode prog_3_method_18_code 98 = .ok (.iconst 0, 1) := by decide +kernel
theorem d_Pt_has_99 : decode prog_3_method_18_code 99 = .ok (.ireturn, 1) := by decide +kernel
def f_Pt_has_0 (σ : pv_S) (x1 : Int32) (x2 : Int32) : Option (Int32 × pv_S) :=
  (if x1 = (1 : Int32) then
  ((f_Pt_isBehind σ x2 x2).bind fun q1 =>
(if pv_z q1.1 = true then
some (q1.1, q1.2)
  else none))
  else
(if x1 = (2 : Int32) then
  ((f_Pt_hasLooseCord σ x2).bind fun q2 =>
(if pv_z q2.1 = true then
some (q2.1, q2.2)
  else none))
  else
(if x1 = (3 : Int32) then
  (if pv_in x2 38 = true then
((f_Pt_moduleNamed σ (σ.1 7 (x2).toNatClampNeg)).bind fun q3 =>
(if x2 ≤ q3.1 then
  some ((0 : Int32), q3.2)
  else
  some ((1 : Int32), q3.2)))
  else none)
  else
(if x1 = (4 : Int32) then
  ((f_Pt_hasWrongInputs σ x2).bind fun q4 =>
(if pv_z q4.1 = true then
some (q4.1, q4.2)
  else none))
  else
(if x1 = (5 : Int32) then
  (if (24 : Int32) ≤ x2 then
  some ((1 : Int32), σ)
  else
  ((f_Pt_delaysUpTo σ x2).bind fun q5 =>
(if q5.1 ≤ (128 : Int32) then
  some ((0 : Int32), q5.2)
  else
  some ((1 : Int32), q5.2))))
  else
  some ((0 : Int32), σ))))))
set_option maxHeartbeats 4000000 in
set_option maxRecDepth 100000 in
theorem s_Pt_has_0 {p : Program} {l : Launch} {e : Env} {R : Room} {s : State} {m : MethodId} {args : Array Value} {below : List Frame} {meth : Method} {c : Code} {Q : State → Prop} {D : va_G} {q : Nat → ClassId} {a t : Nat → Nat} {A : Nat → Prop} (C : pv_C p s m args c prog_3_method_18_code 3 "PatchVoices$Patch" pv_TB D pv_cl (pv_ty q) 52 a A (pv_ZX t A)) (hmv : pv_mv A (pv_ZX t A)) (hRf : 2 ≤ R.frames) (hRl : 45 ≤ R.locals) {out : (Int32 × pv_S)} (hret : pv_Rz p l e R s m args below meth c prog_3_method_18_code D pv_cl 52 a (pv_FX q a) A Q out) {σ : pv_S} {x1 : Int32} {x2 : Int32} {H : Heap} {locs : List Loc} {ls : Array Slot} (hl : lv_has ls 3 [(0, .ref (a 3)), (1, .int x1), (2, .int x2)]) (hP : pv_W D pv_cl 52 a (pv_FX q a) σ H) (hS : va_S A s.heap H locs) (hf : f_Pt_has_0 σ x1 x2 = some out) : W p l e R s m args below meth c H locs 0 0 Q (F0 m 0 ls []) := by
  unfold f_Pt_has_0 at hf
  have hx := C.1
  have hb := C.2.1
  refine lv_iload_n hx hb d_Pt_has_0 rfl (lv_at hl 1 rfl) ?_
  by_cases h1 : x1 = (1 : Int32)
  · have hf := pv_t hf h1
    refine lv_tableIn (tgt := 91) hx hb d_Pt_has_1 (by rw [h1]; decide) (by rw [h1]; decide) (by first | (rw [h1]; done) | (rw [h1]; rfl)) (by decide) ?_
    refine lv_aload_n hx hb d_Pt_has_91 rfl (lv_at hl 0 rfl) ?_
    refine lv_iload_n hx hb d_Pt_has_92 rfl (lv_at hl 2 rfl) ?_
    refine lv_iload_n hx hb d_Pt_has_93 rfl (lv_at hl 2 rfl) ?_
    obtain ⟨q1, hc, hf⟩ := pv_b hf
    refine pv_callVi C hmv pv_good hP hS (As := [.int x2, .int x2]) (rest := []) (by decide) (fx_3 _ _ _ _) rfl (c_Pt_isBehind C.2.2.2.2.2.2.1 hmv hc) cv_Pt_61 ⟨rfl, rfl, Nat.le_trans (Nat.le_of_ble_eq_true rfl) hRf, Nat.le_trans (Nat.le_of_ble_eq_true rfl) hRl⟩ rfl hl.1 rfl (Nat.le_of_ble_eq_true rfl) d_Pt_has_94 ⟨Nat.zero_le _, Nat.zero_le _⟩ (fun H locs hP hS => ?_)
    obtain ⟨hg, hf⟩ := pv_g hf
    obtain rfl := Option.some.inj hf
    exact hret _ _ _ _ d_Pt_has_97 hg hP hS
  · have hf := pv_f hf h1
    by_cases h2 : x1 = (2 : Int32)
    · have hf := pv_t hf h2
      refine lv_tableIn (tgt := 56) hx hb d_Pt_has_1 (by rw [h2]; decide) (by rw [h2]; decide) (by first | (rw [h2]; done) | (rw [h2]; rfl)) (by decide) ?_
      refine lv_aload_n hx hb d_Pt_has_56 rfl (lv_at hl 0 rfl) ?_
      refine lv_iload_n hx hb d_Pt_has_57 rfl (lv_at hl 2 rfl) ?_
      obtain ⟨q2, hc, hf⟩ := pv_b hf
      refine pv_callVi C hmv pv_good hP hS (As := [.int x2]) (rest := []) (by decide) (fx_3 _ _ _ _) rfl (c_Pt_hasLooseCord C.2.2.2.2.2.2.1 hmv hc) cv_Pt_74 ⟨rfl, rfl, Nat.le_trans (Nat.le_of_ble_eq_true rfl) hRf, Nat.le_trans (Nat.le_of_ble_eq_true rfl) hRl⟩ rfl hl.1 rfl (Nat.le_of_ble_eq_true rfl) d_Pt_has_58 ⟨Nat.zero_le _, Nat.zero_le _⟩ (fun H locs hP hS => ?_)
      obtain ⟨hg, hf⟩ := pv_g hf
      obtain rfl := Option.some.inj hf
      exact hret _ _ _ _ d_Pt_has_61 hg hP hS
    · have hf := pv_f hf h2
      by_cases h3 : x1 = (3 : Int32)
      · have hf := pv_t hf h3
        refine lv_tableIn (tgt := 36) hx hb d_Pt_has_1 (by rw [h3]; decide) (by rw [h3]; decide) (by first | (rw [h3]; done) | (rw [h3]; rfl)) (by decide) ?_
        refine lv_aload_n hx hb d_Pt_has_36 rfl (lv_at hl 0 rfl) ?_
        refine lv_aload_n hx hb d_Pt_has_37 rfl (lv_at hl 0 rfl) ?_
        refine pv_get C hP (v := .ref (a 7)) (j := 4) (by decide) (fx_3 _ _ _ _) fl_Pt_23 rfl d_Pt_has_38 ?_
        refine lv_iload_n hx hb d_Pt_has_41 rfl (lv_at hl 2 rfl) ?_
        obtain ⟨hg, hf⟩ := pv_g hf
        refine pv_iald C hP (t0 := 0) (by decide) (fx_7 _ _ _ _) rfl hg d_Pt_has_42 ?_
        obtain ⟨q3, hc, hf⟩ := pv_b hf
        refine pv_callVi C hmv pv_good hP hS (As := [.int (σ.1 7 (x2).toNatClampNeg)]) (rest := []) (by decide) (fx_3 _ _ _ _) rfl (c_Pt_moduleNamed C.2.2.2.2.2.2.1 hmv hc) cv_Pt_54 ⟨rfl, rfl, Nat.le_trans (Nat.le_of_ble_eq_true rfl) hRf, Nat.le_trans (Nat.le_of_ble_eq_true rfl) hRl⟩ rfl hl.1 rfl (Nat.le_of_ble_eq_true rfl) d_Pt_has_43 ⟨Nat.zero_le _, Nat.zero_le _⟩ (fun H locs hP hS => ?_)
        refine lv_iload_n hx hb d_Pt_has_46 rfl (lv_at hl 2 rfl) ?_
        refine lv_icmp_ge (tgt := 54) hx hb d_Pt_has_47 (by decide) (fun h => ?_) (fun h => ?_)
        · have hf := pv_t hf h
          refine lv_iconst (v := (0 : Int32)) hx hb d_Pt_has_54 (by decide) ?_
          obtain rfl := Option.some.inj hf
          exact hret _ _ _ _ d_Pt_has_55 rfl hP hS
        · have hf := pv_f hf h
          refine lv_iconst (v := (1 : Int32)) hx hb d_Pt_has_50 (by decide) ?_
          refine lv_goto (tgt := 55) hx hb d_Pt_has_51 (by decide) ?_
          obtain rfl := Option.some.inj hf
          exact hret _ _ _ _ d_Pt_has_55 rfl hP hS
      · have hf := pv_f hf h3
        by_cases h4 : x1 = (4 : Int32)
        · have hf := pv_t hf h4
          refine lv_tableIn (tgt := 62) hx hb d_Pt_has_1 (by rw [h4]; decide) (by rw [h4]; decide) (by first | (rw [h4]; done) | (rw [h4]; rfl)) (by decide) ?_
          refine lv_aload_n hx hb d_Pt_has_62 rfl (lv_at hl 0 rfl) ?_
          refine lv_iload_n hx hb d_Pt_has_63 rfl (lv_at hl 2 rfl) ?_
          obtain ⟨q4, hc, hf⟩ := pv_b hf
          refine pv_callVi C hmv pv_good hP hS (As := [.int x2]) (rest := []) (by decide) (fx_3 _ _ _ _) rfl (c_Pt_hasWrongInputs C.2.2.2.2.2.2.1 hmv hc) cv_Pt_78 ⟨rfl, rfl, Nat.le_trans (Nat.le_of_ble_eq_true rfl) hRf, Nat.le_trans (Nat.le_of_ble_eq_true rfl) hRl⟩ rfl hl.1 rfl (Nat.le_of_ble_eq_true rfl) d_Pt_has_64 ⟨Nat.zero_le _, Nat.zero_le _⟩ (fun H locs hP hS => ?_)
          obtain ⟨hg, hf⟩ := pv_g hf
          obtain rfl := Option.some.inj hf
          exact hret _ _ _ _ d_Pt_has_67 hg hP hS
        · have hf := pv_f hf h4
          by_cases h5 : x1 = (5 : Int32)
          · have hf := pv_t hf h5
            refine lv_tableIn (tgt := 68) hx hb d_Pt_has_1 (by rw [h5]; decide) (by rw [h5]; decide) (by first | (rw [h5]; done) | (rw [h5]; rfl)) (by decide) ?_
            refine lv_iload_n hx hb d_Pt_has_68 rfl (lv_at hl 2 rfl) ?_
            refine lv_bipush (v := (24 : Int32)) hx hb d_Pt_has_69 (by decide) ?_
            refine lv_icmp_ge (tgt := 85) hx hb d_Pt_has_71 (by decide) (fun h => ?_) (fun h => ?_)
            · have hf := pv_t hf h
              refine lv_iconst (v := (1 : Int32)) hx hb d_Pt_has_85 (by decide) ?_
              refine lv_goto (tgt := 90) hx hb d_Pt_has_86 (by decide) ?_
              obtain rfl := Option.some.inj hf
              exact hret _ _ _ _ d_Pt_has_90 rfl hP hS
            · have hf := pv_f hf h
              refine lv_aload_n hx hb d_Pt_has_74 rfl (lv_at hl 0 rfl) ?_
              refine lv_iload_n hx hb d_Pt_has_75 rfl (lv_at hl 2 rfl) ?_
              obtain ⟨q5, hc, hf⟩ := pv_b hf
              refine pv_callVi C hmv pv_good hP hS (As := [.int x2]) (rest := []) (by decide) (fx_3 _ _ _ _) rfl (c_Pt_delaysUpTo C.2.2.2.2.2.2.1 hmv hc) cv_Pt_81 ⟨rfl, rfl, Nat.le_trans (Nat.le_of_ble_eq_true rfl) hRf, Nat.le_trans (Nat.le_of_ble_eq_true rfl) hRl⟩ rfl hl.1 rfl (Nat.le_of_ble_eq_true rfl) d_Pt_has_76 ⟨Nat.zero_le _, Nat.zero_le _⟩ (fun H locs hP hS => ?_)
              refine lv_sipush (v := (128 : Int32)) hx hb d_Pt_has_79 (by decide) ?_
              refine lv_icmp_le (tgt := 89) hx hb d_Pt_has_82 (by decide) (fun h => ?_) (fun h => ?_)
              · have hf := pv_t hf h
                refine lv_iconst (v := (0 : Int32)) hx hb d_Pt_has_89 (by decide) ?_
                obtain rfl := Option.some.inj hf
                exact hret _ _ _ _ d_Pt_has_90 rfl hP hS
              · have hf := pv_f hf h
                refine lv_iconst (v := (1 : Int32)) hx hb d_Pt_has_85 (by decide) ?_
                refine lv_goto (tgt := 90) hx hb d_Pt_has_86 (by decide) ?_
                obtain rfl := Option.some.inj hf
                exact hret _ _ _ _ d_Pt_has_90 rfl hP hS
          · have hf := pv_f hf h5
            refine lv_tableOut (tgt := 98) hx hb d_Pt_has_1 (by have z0 := lv_neT h1 (a := 1) (by decide); have z1 := lv_neT h2 (a := 2) (by decide); have z2 := lv_neT h3 (a := 3) (by decide); have z3 := lv_neT h4 (a := 4) (by decide); have z4 := lv_neT h5 (a := 5) (by decide); omega) (by decide) ?_
            refine lv_iconst (v := (0 : Int32)) hx hb d_Pt_has_98 (by decide) ?_
            obtain rfl := Option.some.inj hf
            exact hret _ _ _ _ d_Pt_has_99 rfl hP hS
def f_Pt_has (σ : pv_S) (x1 : Int32) (x2 : Int32) : Option (Int32 × pv_S) := f_Pt_has_0 σ x1 x2
def rm_Pt_has : Room := { frames := 2, cells := 0, slots := 0, locals := 45 }
theorem c_Pt_has {l : Launch} {D : va_G} {q : Nat → ClassId} {a t : Nat → Nat} {A : Nat → Prop} (hD : pv_D 52 a A) (hmv : pv_mv A (pv_ZX t A)) {σ : pv_S} {x1 : Int32} {x2 : Int32} {out : (Int32 × pv_S)} (hf : f_Pt_has σ x1 x2 = some out) : pv_Mi l y_Pt_has (Cond.code y_Pt_has prog_3_method_18_code 3 (some .boolean) :: pv_TB) rm_Pt_has D pv_cl (pv_ty q) 52 a (pv_FX q a) A (pv_ZX t A) [.ref (a 3), .int x1, .int x2] σ out :=
  pv_ofZ (by decide) (Nat.le_of_ble_eq_true rfl) hD (fun p e s m args below meth c Q ls C hret hl hP => s_Pt_has_0 C hmv (Nat.le_refl _) (Nat.le_refl _) hret hl hP va_S.rf hf)
theorem d_Pt_leastWith_0 : decode prog_3_method_17_code 0 = .ok (.iconst 0, 1) := by decide +kernel
theorem d_Pt_leastWith_1 : decode prog_3_method_17_code 1 = .ok (.istore_n 2, 1) := by decide +kernel
theorem d_Pt_leastWith_2 : decode prog_3_method_17_code 2 = .ok (.iload_n 2, 1) := by decide +kernel
theorem d_Pt_leastWith_3 : decode prog_3_method_17_code 3 = .ok (.aload_n 0, 1) := by decide +kernel
theorem d_Pt_leastWith_4 : decode prog_3_method_17_code 4 = .ok (.getfield 36, 3) := by decide +kernel
theorem d_Pt_leastWith_7 : decode prog_3_method_17_code 7 = .ok (.if_icmp .ge 20, 3) := by decide +kernel
theorem d_Pt_leastWith_10 : decode prog_3_method_17_code 10 = .ok (.aload_n 0, 1) := by decide +kernel
theorem d_Pt_leastWith_11 : decode prog_3_method_17_code 11 = .ok (.iload_n 1, 1) := by decide +kernel
theorem d_Pt_leastWith_12 : decode prog_3_method_17_code 12 = .ok (.iload_n 2, 1) := by decide +kernel
theorem d_Pt_leastWith_13 : decode prog_3_method_17_code 13 = .ok (.invokevirtual 71, 3) := by decide +kernel
theorem d_Pt_leastWith_16 : decode prog_3_method_17_code 16 = .ok (.ifCond .eq 5, 3) := by decide +kernel
theorem d_Pt_leastWith_19 : decode prog_3_method_17_code 19 = .ok (.iload_n 2, 1) := by decide +kernel
theorem d_Pt_leastWith_20 : decode prog_3_method_17_code 20 = .ok (.ireturn, 1) := by decide +kernel
theorem d_Pt_leastWith_21 : decode prog_3_method_17_code 21 = .ok (.iinc 2 1, 3) := by decide +kernel
theorem d_Pt_leastWith_24 : decode prog_3_method_17_code 24 = .ok (.goto (-22), 3) := by decide +kernel
theorem d_Pt_leastWith_27 : decode prog_3_method_17_code 27 = .ok (.iconst (-1), 1) := by decide +kernel
theorem d_Pt_leastWith_28 : decode prog_3_method_17_code 28 = .ok (.ireturn, 1) := by decide +kernel
def f_Pt_leastWith_2b (k_2 : pv_S → Int32 → Int32 → Option (Int32 × pv_S)) (σ : pv_S) (x1 : Int32) (x2 : Int32) : Option (Int32 × pv_S) :=
  (if (σ.1 3 0) ≤ x2 then
  some ((-1 : Int32), σ)
  else
  ((f_Pt_has σ x1 x2).bind fun q1 =>
(if q1.1 = 0 then
  k_2 q1.2 x1 (x2 + (1 : Int32))
  else
  some (x2, q1.2))))
set_option maxHeartbeats 4000000 in
set_option maxRecDepth 100000 in
theorem s_Pt_leastWith_2b {p : Program} {l : Launch} {e : Env} {R : Room} {s : State} {m : MethodId} {args : Array Value} {below : List Frame} {meth : Method} {c : Code} {Q : State → Prop} {D : va_G} {q : Nat → ClassId} {a t : Nat → Nat} {A : Nat → Prop} (C : pv_C p s m args c prog_3_method_17_code 3 "PatchVoices$Patch" pv_TB D pv_cl (pv_ty q) 52 a A (pv_ZX t A)) (hmv : pv_mv A (pv_ZX t A)) (hRf : 3 ≤ R.frames) (hRl : 67 ≤ R.locals) {out : (Int32 × pv_S)} (hret : pv_Ri p l e R s m args below meth c prog_3_method_17_code D pv_cl 52 a (pv_FX q a) A Q out) {k_2 : pv_S → Int32 → Int32 → Option (Int32 × pv_S)} (hk_2 : ∀ (σ : pv_S) (x1 : Int32) (x2 : Int32) (H : Heap) (locs : List Loc) (ls : Array Slot), k_2 σ x1 x2 = some out → lv_has ls 3 [(0, .ref (a 3)), (1, .int x1), (2, .int x2)] → pv_W D pv_cl 52 a (pv_FX q a) σ H → va_S A s.heap H locs → W p l e R s m args below meth c H locs 0 0 Q (F0 m 2 ls [])) {σ : pv_S} {x1 : Int32} {x2 : Int32} {H : Heap} {locs : List Loc} {ls : Array Slot} (hl : lv_has ls 3 [(0, .ref (a 3)), (1, .int x1), (2, .int x2)]) (hP : pv_W D pv_cl 52 a (pv_FX q a) σ H) (hS : va_S A s.heap H locs) (hf : f_Pt_leastWith_2b k_2 σ x1 x2 = some out) : W p l e R s m args below meth c H locs 0 0 Q (F0 m 2 ls []) := by
  unfold f_Pt_leastWith_2b at hf
  have hx := C.1
  have hb := C.2.1
  refine lv_iload_n hx hb d_Pt_leastWith_2 rfl (lv_at hl 2 rfl) ?_
  refine lv_aload_n hx hb d_Pt_leastWith_3 rfl (lv_at hl 0 rfl) ?_
  refine pv_get C hP (v := .int (σ.1 3 0)) (j := 0) (by decide) (fx_3 _ _ _ _) fl_Pt_36 rfl d_Pt_leastWith_4 ?_
  refine lv_icmp_ge (tgt := 27) hx hb d_Pt_leastWith_7 (by decide) (fun h => ?_) (fun h => ?_)
  · have hf := pv_t hf h
    refine lv_iconst (v := (-1 : Int32)) hx hb d_Pt_leastWith_27 (by decide) ?_
    obtain rfl := Option.some.inj hf
    exact hret _ _ _ _ d_Pt_leastWith_28 hP hS
  · have hf := pv_f hf h
    refine lv_aload_n hx hb d_Pt_leastWith_10 rfl (lv_at hl 0 rfl) ?_
    refine lv_iload_n hx hb d_Pt_leastWith_11 rfl (lv_at hl 1 rfl) ?_
    refine lv_iload_n hx hb d_Pt_leastWith_12 rfl (lv_at hl 2 rfl) ?_
    obtain ⟨q1, hc, hf⟩ := pv_b hf
    refine pv_callVi C hmv pv_good hP hS (As := [.int x1, .int x2]) (rest := []) (by decide) (fx_3 _ _ _ _) rfl (c_Pt_has C.2.2.2.2.2.2.1 hmv hc) cv_Pt_71 ⟨rfl, rfl, Nat.le_trans (Nat.le_of_ble_eq_true rfl) hRf, Nat.le_trans (Nat.le_of_ble_eq_true rfl) hRl⟩ rfl hl.1 rfl (Nat.le_of_ble_eq_true rfl) d_Pt_leastWith_13 ⟨Nat.zero_le _, Nat.zero_le _⟩ (fun H locs hP hS => ?_)
    refine lv_if_eq (tgt := 21) hx hb d_Pt_leastWith_16 (by decide) (fun h => ?_) (fun h => ?_)
    · have hf := pv_t hf h
      refine lv_iinc (k := 2) (v := (x2 + (1 : Int32))) (lv' := [(2, .int (x2 + (1 : Int32))), (0, .ref (a 3)), (1, .int x1)]) hx hb d_Pt_leastWith_21 hl rfl (pv_inc (by decide)) (by decide) rfl (fun ls hl => ?_)
      refine lv_goto (tgt := 2) hx hb d_Pt_leastWith_24 (by decide) ?_
      exact hk_2 _ _ _ _ _ _ hf (lv_sub hl [1, 2, 0] rfl) hP hS
    · have hf := pv_f hf h
      refine lv_iload_n hx hb d_Pt_leastWith_19 rfl (lv_at hl 2 rfl) ?_
      obtain rfl := Option.some.inj hf
      exact hret _ _ _ _ d_Pt_leastWith_20 hP hS
def f_Pt_leastWith_2 : Nat → pv_S → Int32 → Int32 → Option (Int32 × pv_S)
  | 0 => fun _ _ _ => none
  | n + 1 => f_Pt_leastWith_2b (f_Pt_leastWith_2 n)
set_option maxHeartbeats 4000000 in
theorem s_Pt_leastWith_2 {p : Program} {l : Launch} {e : Env} {R : Room} {s : State} {m : MethodId} {args : Array Value} {below : List Frame} {meth : Method} {c : Code} {Q : State → Prop} {D : va_G} {q : Nat → ClassId} {a t : Nat → Nat} {A : Nat → Prop} (C : pv_C p s m args c prog_3_method_17_code 3 "PatchVoices$Patch" pv_TB D pv_cl (pv_ty q) 52 a A (pv_ZX t A)) (hmv : pv_mv A (pv_ZX t A)) (hRf : 3 ≤ R.frames) (hRl : 67 ≤ R.locals) {out : (Int32 × pv_S)} (hret : pv_Ri p l e R s m args below meth c prog_3_method_17_code D pv_cl 52 a (pv_FX q a) A Q out) (n : Nat) : ∀ {σ : pv_S} {x1 : Int32} {x2 : Int32} {H : Heap} {locs : List Loc} {ls : Array Slot}, lv_has ls 3 [(0, .ref (a 3)), (1, .int x1), (2, .int x2)] → pv_W D pv_cl 52 a (pv_FX q a) σ H → va_S A s.heap H locs → f_Pt_leastWith_2 n σ x1 x2 = some out → W p l e R s m args below meth c H locs 0 0 Q (F0 m 2 ls []) := by
  induction n with
  | zero => intro σ x1 x2 H locs ls hl hP hS hf; cases hf
  | succ n ih => intro σ x1 x2 H locs ls hl hP hS hf; exact s_Pt_leastWith_2b C hmv hRf hRl hret (fun σ x1 x2 H locs ls hf hl hP hS => ih hl hP hS hf) hl hP hS hf
def f_Pt_leastWith_0 (σ : pv_S) (x1 : Int32) : Option (Int32 × pv_S) :=
  f_Pt_leastWith_2 pv_fu σ x1 (0 : Int32)
set_option maxHeartbeats 4000000 in
set_option maxRecDepth 100000 in
theorem s_Pt_leastWith_0 {p : Program} {l : Launch} {e : Env} {R : Room} {s : State} {m : MethodId} {args : Array Value} {below : List Frame} {meth : Method} {c : Code} {Q : State → Prop} {D : va_G} {q : Nat → ClassId} {a t : Nat → Nat} {A : Nat → Prop} (C : pv_C p s m args c prog_3_method_17_code 3 "PatchVoices$Patch" pv_TB D pv_cl (pv_ty q) 52 a A (pv_ZX t A)) (hmv : pv_mv A (pv_ZX t A)) (hRf : 3 ≤ R.frames) (hRl : 67 ≤ R.locals) {out : (Int32 × pv_S)} (hret : pv_Ri p l e R s m args below meth c prog_3_method_17_code D pv_cl 52 a (pv_FX q a) A Q out) {σ : pv_S} {x1 : Int32} {H : Heap} {locs : List Loc} {ls : Array Slot} (hl : lv_has ls 3 [(0, .ref (a 3)), (1, .int x1)]) (hP : pv_W D pv_cl 52 a (pv_FX q a) σ H) (hS : va_S A s.heap H locs) (hf : f_Pt_leastWith_0 σ x1 = some out) : W p l e R s m args below meth c H locs 0 0 Q (F0 m 0 ls []) := by
  unfold f_Pt_leastWith_0 at hf
  have hx := C.1
  have hb := C.2.1
  refine lv_iconst (v := (0 : Int32)) hx hb d_Pt_leastWith_0 (by decide) ?_
  refine lv_istore_n (lv' := [(2, .int (0 : Int32)), (0, .ref (a 3)), (1, .int x1)]) hx hb d_Pt_leastWith_1 rfl hl (by decide) rfl (fun ls hl => ?_)
  exact s_Pt_leastWith_2 C hmv hRf hRl hret pv_fu (lv_sub hl [1, 2, 0] rfl) hP hS hf
def f_Pt_leastWith (σ : pv_S) (x1 : Int32) : Option (Int32 × pv_S) := f_Pt_leastWith_0 σ x1
def rm_Pt_leastWith : Room := { frames := 3, cells := 0, slots := 0, locals := 67 }
theorem c_Pt_leastWith {l : Launch} {D : va_G} {q : Nat → ClassId} {a t : Nat → Nat} {A : Nat → Prop} (hD : pv_D 52 a A) (hmv : pv_mv A (pv_ZX t A)) {σ : pv_S} {x1 : Int32} {out : (Int32 × pv_S)} (hf : f_Pt_leastWith σ x1 = some out) : pv_Mi l y_Pt_leastWith (Cond.code y_Pt_leastWith prog_3_method_17_code 3 (some .int) :: pv_TB) rm_Pt_leastWith D pv_cl (pv_ty q) 52 a (pv_FX q a) A (pv_ZX t A) [.ref (a 3), .int x1] σ out :=
  pv_ofI (by decide) (Nat.le_of_ble_eq_true rfl) hD (fun p e s m args below meth c Q ls C hret hl hP => s_Pt_leastWith_0 C hmv (Nat.le_refl _) (Nat.le_refl _) hret hl hP va_S.rf hf)
theorem d_Pt_firstFault_0 : decode prog_3_method_16_code 0 = .ok (.iconst 0, 1) := by decide +kernel
theorem d_Pt_firstFault_1 : decode prog_3_method_16_code 1 = .ok (.istore_n 1, 1) := by decide +kernel
theorem d_Pt_firstFault_2 : decode prog_3_method_16_code 2 = .ok (.iload_n 1, 1) := by decide +kernel
theorem d_Pt_firstFault_3 : decode prog_3_method_16_code 3 = .ok (.getstatic 65, 3) := by decide +kernel
theorem d_Pt_firstFault_6 : decode prog_3_method_16_code 6 = .ok (.arraylength, 1) := by decide +kernel
theorem d_Pt_firstFault_7 : decode prog_3_method_16_code 7 = .ok (.if_icmp .ge 28, 3) := by decide +kernel
theorem d_Pt_firstFault_10 : decode prog_3_method_16_code 10 = .ok (.aload_n 0, 1) := by decide +kernel
theorem d_Pt_firstFault_11 : decode prog_3_method_16_code 11 = .ok (.getstatic 65, 3) := by decide +kernel
theorem d_Pt_firstFault_14 : decode prog_3_method_16_code 14 = .ok (.iload_n 1, 1) := by decide +kernel
theorem d_Pt_firstFault_15 : decode prog_3_method_16_code 15 = .ok (.iaload, 1) := by decide +kernel
theorem d_Pt_firstFault_16 : decode prog_3_method_16_code 16 = .ok (.invokevirtual 68, 3) := by decide +kernel
theorem d_Pt_firstFault_19 : decode prog_3_method_16_code 19 = .ok (.iconst (-1), 1) := by decide +kernel
theorem d_Pt_firstFault_20 : decode prog_3_method_16_code 20 = .ok (.if_icmp .eq 9, 3) := by decide +kernel
theorem d_Pt_firstFault_23 : decode prog_3_method_16_code 23 = .ok (.getstatic 65, 3) := by decide +kernel
theorem d_Pt_firstFault_26 : decode prog_3_method_16_code 26 = .ok (.iload_n 1, 1) := by decide +kernel
theorem d_Pt_firstFault_27 : decode prog_3_method_16_code 27 = .ok (.iaload, 1) := by decide +kernel
theorem d_Pt_firstFault_28 : decode prog_3_method_16_code 28 = .ok (.ireturn, 1) := by decide +kernel
theorem d_Pt_firstFault_29 : decode prog_3_method_16_code 29 = .ok (.iinc 1 1, 3) := by decide +kernel
theorem d_Pt_firstFault_32 : decode prog_3_method_16_code 32 = .ok (.goto (-30), 3) := by decide +kernel
theorem d_Pt_firstFault_35 : decode prog_3_method_16_code 35 = .ok (.iconst 0, 1) := by decide +kernel
theorem d_Pt_firstFault_36 : decode prog_3_method_16_code 36 = .ok (.ireturn, 1) := by decide +kernel
def f_Pt_firstFault_2b (k_2 : pv_S → Int32 → Option (Int32 × pv_S)) (σ : pv_S) (x1 : Int32) : Option (Int32 × pv_S) :=
  (if (5 : Int32) ≤ x1 then
  some ((0 : Int32), σ)
  else
  (if pv_in x1 5 = true then
((f_Pt_leastWith σ (pv_FAULTS_IN_TURN (x1).toNatClampNeg)).bind fun q1 =>
(if q1.1 = (-1 : Int32) then
  k_2 q1.2 (x1 + (1 : Int32))
  else
  (if pv_in x1 5 = true then
some ((pv_FAULTS_IN_TURN (x1).toNatClampNeg), q1.2)
  else none)))
  else none))
set_option maxHeartbeats 4000000 in
set_option maxRecDepth 100000 in
theorem s_Pt_firstFault_2b {p : Program} {l : Launch} {e : Env} {R : Room} {s : State} {m : MethodId} {args : Array Value} {below : List Frame} {meth : Method} {c : Code} {Q : State → Prop} {D : va_G} {q : Nat → ClassId} {a t : Nat → Nat} {A : Nat → Prop} (C : pv_C p s m args c prog_3_method_16_code 2 "PatchVoices$Patch" pv_TB D pv_cl (pv_ty q) 52 a A (pv_ZX t A)) (hmv : pv_mv A (pv_ZX t A)) (hRf : 4 ≤ R.frames) (hRl : 89 ≤ R.locals) {out : (Int32 × pv_S)} (hret : pv_Ri p l e R s m args below meth c prog_3_method_16_code D pv_cl 52 a (pv_FX q a) A Q out) {k_2 : pv_S → Int32 → Option (Int32 × pv_S)} (hk_2 : ∀ (σ : pv_S) (x1 : Int32) (H : Heap) (locs : List Loc) (ls : Array Slot), k_2 σ x1 = some out → lv_has ls 2 [(0, .ref (a 3)), (1, .int x1)] → pv_W D pv_cl 52 a (pv_FX q a) σ H → va_S A s.heap H locs → W p l e R s m args below meth c H locs 0 0 Q (F0 m 2 ls [])) {σ : pv_S} {x1 : Int32} {H : Heap} {locs : List Loc} {ls : Array Slot} (hl : lv_has ls 2 [(0, .ref (a 3)), (1, .int x1)]) (hP : pv_W D pv_cl 52 a (pv_FX q a) σ H) (hS : va_S A s.heap H locs) (hf : f_Pt_firstFault_2b k_2 σ x1 = some out) : W p l e R s m args below meth c H locs 0 0 Q (F0 m 2 ls []) := by
  unfold f_Pt_firstFault_2b at hf
  have hx := C.1
  have hb := C.2.1
  refine lv_iload_n hx hb d_Pt_firstFault_2 rfl (lv_at hl 1 rfl) ?_
  refine pv_sFAULTS_IN_TURN C hS w_556 d_Pt_firstFault_3 ?_
  refine pv_nFAULTS_IN_TURN C hS d_Pt_firstFault_6 ?_
  refine lv_icmp_ge (tgt := 35) hx hb d_Pt_firstFault_7 (by decide) (fun h => ?_) (fun h => ?_)
  · have hf := pv_t hf h
    refine lv_iconst (v := (0 : Int32)) hx hb d_Pt_firstFault_35 (by decide) ?_
    obtain rfl := Option.some.inj hf
    exact hret _ _ _ _ d_Pt_firstFault_36 hP hS
  · have hf := pv_f hf h
    refine lv_aload_n hx hb d_Pt_firstFault_10 rfl (lv_at hl 0 rfl) ?_
    refine pv_sFAULTS_IN_TURN C hS w_556 d_Pt_firstFault_11 ?_
    refine lv_iload_n hx hb d_Pt_firstFault_14 rfl (lv_at hl 1 rfl) ?_
    obtain ⟨hg, hf⟩ := pv_g hf
    refine pv_tFAULTS_IN_TURN C hS hg d_Pt_firstFault_15 ?_
    obtain ⟨q1, hc, hf⟩ := pv_b hf
    refine pv_callVi C hmv pv_good hP hS (As := [.int (pv_FAULTS_IN_TURN (x1).toNatClampNeg)]) (rest := []) (by decide) (fx_3 _ _ _ _) rfl (c_Pt_leastWith C.2.2.2.2.2.2.1 hmv hc) cv_Pt_68 ⟨rfl, rfl, Nat.le_trans (Nat.le_of_ble_eq_true rfl) hRf, Nat.le_trans (Nat.le_of_ble_eq_true rfl) hRl⟩ rfl hl.1 rfl (Nat.le_of_ble_eq_true rfl) d_Pt_firstFault_16 ⟨Nat.zero_le _, Nat.zero_le _⟩ (fun H locs hP hS => ?_)
    refine lv_iconst (v := (-1 : Int32)) hx hb d_Pt_firstFault_19 (by decide) ?_
    refine lv_icmp_eq (tgt := 29) hx hb d_Pt_firstFault_20 (by decide) (fun h => ?_) (fun h => ?_)
    · have hf := pv_t hf h
      refine lv_iinc (k := 1) (v := (x1 + (1 : Int32))) (lv' := [(1, .int (x1 + (1 : Int32))), (0, .ref (a 3))]) hx hb d_Pt_firstFault_29 hl rfl (pv_inc (by decide)) (by decide) rfl (fun ls hl => ?_)
      refine lv_goto (tgt := 2) hx hb d_Pt_firstFault_32 (by decide) ?_
      exact hk_2 _ _ _ _ _ hf (lv_sub hl [1, 0] rfl) hP hS
    · have hf := pv_f hf h
      refine pv_sFAULTS_IN_TURN C hS w_556 d_Pt_firstFault_23 ?_
      refine lv_iload_n hx hb d_Pt_firstFault_26 rfl (lv_at hl 1 rfl) ?_
      obtain ⟨hg, hf⟩ := pv_g hf
      refine pv_tFAULTS_IN_TURN C hS hg d_Pt_firstFault_27 ?_
      obtain rfl := Option.some.inj hf
      exact hret _ _ _ _ d_Pt_firstFault_28 hP hS
def f_Pt_firstFault_2 : Nat → pv_S → Int32 → Option (Int32 × pv_S)
  | 0 => fun _ _ => none
  | n + 1 => f_Pt_firstFault_2b (f_Pt_firstFault_2 n)
set_option maxHeartbeats 4000000 in
theorem s_Pt_firstFault_2 {p : Program} {l : Launch} {e : Env} {R : Room} {s : State} {m : MethodId} {args : Array Value} {below : List Frame} {meth : Method} {c : Code} {Q : State → Prop} {D : va_G} {q : Nat → ClassId} {a t : Nat → Nat} {A : Nat → Prop} (C : pv_C p s m args c prog_3_method_16_code 2 "PatchVoices$Patch" pv_TB D pv_cl (pv_ty q) 52 a A (pv_ZX t A)) (hmv : pv_mv A (pv_ZX t A)) (hRf : 4 ≤ R.frames) (hRl : 89 ≤ R.locals) {out : (Int32 × pv_S)} (hret : pv_Ri p l e R s m args below meth c prog_3_method_16_code D pv_cl 52 a (pv_FX q a) A Q out) (n : Nat) : ∀ {σ : pv_S} {x1 : Int32} {H : Heap} {locs : List Loc} {ls : Array Slot}, lv_has ls 2 [(0, .ref (a 3)), (1, .int x1)] → pv_W D pv_cl 52 a (pv_FX q a) σ H → va_S A s.heap H locs → f_Pt_firstFault_2 n σ x1 = some out → W p l e R s m args below meth c H locs 0 0 Q (F0 m 2 ls []) := by
  induction n with
  | zero => intro σ x1 H locs ls hl hP hS hf; cases hf
  | succ n ih => intro σ x1 H locs ls hl hP hS hf; exact s_Pt_firstFault_2b C hmv hRf hRl hret (fun σ x1 H locs ls hf hl hP hS => ih hl hP hS hf) hl hP hS hf
def f_Pt_firstFault_0 (σ : pv_S) : Option (Int32 × pv_S) :=
  f_Pt_firstFault_2 pv_fu σ (0 : Int32)
set_option maxHeartbeats 4000000 in
set_option maxRecDepth 100000 in
theorem s_Pt_firstFault_0 {p : Program} {l : Launch} {e : Env} {R : Room} {s : State} {m : MethodId} {args : Array Value} {below : List Frame} {meth : Method} {c : Code} {Q : State → Prop} {D : va_G} {q : Nat → ClassId} {a t : Nat → Nat} {A : Nat → Prop} (C : pv_C p s m args c prog_3_method_16_code 2 "PatchVoices$Patch" pv_TB D pv_cl (pv_ty q) 52 a A (pv_ZX t A)) (hmv : pv_mv A (pv_ZX t A)) (hRf : 4 ≤ R.frames) (hRl : 89 ≤ R.locals) {out : (Int32 × pv_S)} (hret : pv_Ri p l e R s m args below meth c prog_3_method_16_code D pv_cl 52 a (pv_FX q a) A Q out) {σ : pv_S} {H : Heap} {locs : List Loc} {ls : Array Slot} (hl : lv_has ls 2 [(0, .ref (a 3))]) (hP : pv_W D pv_cl 52 a (pv_FX q a) σ H) (hS : va_S A s.heap H locs) (hf : f_Pt_firstFault_0 σ = some out) : W p l e R s m args below meth c H locs 0 0 Q (F0 m 0 ls []) := by
  unfold f_Pt_firstFault_0 at hf
  have hx := C.1
  have hb := C.2.1
  refine lv_iconst (v := (0 : Int32)) hx hb d_Pt_firstFault_0 (by decide) ?_
  refine lv_istore_n (lv' := [(1, .int (0 : Int32)), (0, .ref (a 3))]) hx hb d_Pt_firstFault_1 rfl hl (by decide) rfl (fun ls hl => ?_)
  exact s_Pt_firstFault_2 C hmv hRf hRl hret pv_fu (lv_sub hl [1, 0] rfl) hP hS hf
def f_Pt_firstFault (σ : pv_S) : Option (Int32 × pv_S) := f_Pt_firstFault_0 σ
def rm_Pt_firstFault : Room := { frames := 4, cells := 0, slots := 0, locals := 89 }
theorem c_Pt_firstFault {l : Launch} {D : va_G} {q : Nat → ClassId} {a t : Nat → Nat} {A : Nat → Prop} (hD : pv_D 52 a A) (hmv : pv_mv A (pv_ZX t A)) {σ : pv_S} {out : (Int32 × pv_S)} (hf : f_Pt_firstFault σ = some out) : pv_Mi l y_Pt_firstFault (Cond.code y_Pt_firstFault prog_3_method_16_code 2 (some .int) :: pv_TB) rm_Pt_firstFault D pv_cl (pv_ty q) 52 a (pv_FX q a) A (pv_ZX t A) [.ref (a 3)] σ out :=
  pv_ofI (by decide) (Nat.le_of_ble_eq_true rfl) hD (fun p e s m args below meth c Q ls C hret hl hP => s_Pt_firstFault_0 C hmv (Nat.le_refl _) (Nat.le_refl _) hret hl hP va_S.rf hf)
