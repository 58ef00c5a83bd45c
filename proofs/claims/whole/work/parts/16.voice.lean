theorem d_Vc_release_0 : decode prog_6_method_2_code 0 = .ok (.aload_n 0, 1) := by decide +kernel
theorem d_Vc_release_1 : decode prog_6_method_2_code 1 = .ok (.iconst 0, 1) := by decide +kernel
theorem d_Vc_release_2 : decode prog_6_method_2_code 2 = .ok (.putfield 31, 3) := by decide +kernel
theorem d_Vc_release_5 : decode prog_6_method_2_code 5 = .ok (.aload_n 0, 1) := by decide +kernel
theorem d_Vc_release_6 : decode prog_6_method_2_code 6 = .ok (.iconst 0, 1) := by decide +kernel
theorem d_Vc_release_7 : decode prog_6_method_2_code 7 = .ok (.putfield 35, 3) := by decide +kernel
theorem d_Vc_release_10 : decode prog_6_method_2_code 10 = .ok (.aload_n 0, 1) := by decide +kernel
theorem d_Vc_release_11 : decode prog_6_method_2_code 11 = .ok (.iconst 0, 1) := by decide +kernel
theorem d_Vc_release_12 : decode prog_6_method_2_code 12 = .ok (.putfield 38, 3) := by decide +kernel
theorem d_Vc_release_15 : decode prog_6_method_2_code 15 = .ok (.aload_n 0, 1) := by decide +kernel
theorem d_Vc_release_16 : decode prog_6_method_2_code 16 = .ok (.iconst 0, 1) := by decide +kernel
theorem d_Vc_release_17 : decode prog_6_method_2_code 17 = .ok (.putfield 41, 3) := by decide +kernel
theorem d_Vc_release_20 : decode prog_6_method_2_code 20 = .ok (.return_, 1) := by decide +kernel
def f_Vc_release_0 (v : Nat) (σ : pv_S) : Option pv_S :=
  some (pv_uI (pv_uI (pv_uI (pv_uI σ (28 + 6 * v) 0 (0 : Int32)) (28 + 6 * v) 1 (0 : Int32)) (28 + 6 * v) 2 (0 : Int32)) (28 + 6 * v) 3 (0 : Int32))
set_option maxHeartbeats 4000000 in
set_option maxRecDepth 100000 in
theorem s_Vc_release_0 {p : Program} {l : Launch} {e : Env} {R : Room} {s : State} {m : MethodId} {args : Array Value} {below : List Frame} {meth : Method} {c : Code} {Q : State → Prop} {D : va_G} {q : Nat → ClassId} {a t : Nat → Nat} {A : Nat → Prop} {v : Nat} (hv : v < 4) (C : pv_C p s m args c prog_6_method_2_code 1 "PatchVoices$Voice" pv_TB D pv_cl (pv_ty q) 52 a A (pv_ZX t A)) (hmv : pv_mv A (pv_ZX t A)) (hRf : 0 ≤ R.frames) (hRl : 0 ≤ R.locals) {out : pv_S} (hret : pv_Rv p l e R s m args below meth c prog_6_method_2_code D pv_cl 52 a (pv_FX q a) A Q out) {σ : pv_S} {H : Heap} {locs : List Loc} {ls : Array Slot} (hl : lv_has ls 1 [(0, .ref (a (28 + 6 * v)))]) (hP : pv_W D pv_cl 52 a (pv_FX q a) σ H) (hS : va_S A s.heap H locs) (hf : f_Vc_release_0 v σ = some out) : W p l e R s m args below meth c H locs 0 0 Q (F0 m 0 ls []) := by
  unfold f_Vc_release_0 at hf
  have hx := C.1
  have hb := C.2.1
  refine lv_aload_n hx hb d_Vc_release_0 rfl (lv_at hl 0 rfl) ?_
  refine lv_iconst (v := (0 : Int32)) hx hb d_Vc_release_1 (by decide) ?_
  refine pv_putI C hP hS (x := (0 : Int32)) (by omega) (fx_v0 hv _ _ _ _) fw_Vc_31 rfl rfl (Nat.le_of_ble_eq_true rfl) (fxs_v0_0 hv _ _ _ _ _) d_Vc_release_2 (fun H locs hP hS => ?_)
  refine lv_aload_n hx hb d_Vc_release_5 rfl (lv_at hl 0 rfl) ?_
  refine lv_iconst (v := (0 : Int32)) hx hb d_Vc_release_6 (by decide) ?_
  refine pv_putI C hP hS (x := (0 : Int32)) (by omega) (fx_v0 hv _ _ _ _) fw_Vc_35 rfl rfl (Nat.le_of_ble_eq_true rfl) (fxs_v0_1 hv _ _ _ _ _) d_Vc_release_7 (fun H locs hP hS => ?_)
  refine lv_aload_n hx hb d_Vc_release_10 rfl (lv_at hl 0 rfl) ?_
  refine lv_iconst (v := (0 : Int32)) hx hb d_Vc_release_11 (by decide) ?_
  refine pv_putI C hP hS (x := (0 : Int32)) (by omega) (fx_v0 hv _ _ _ _) fw_Vc_38 rfl rfl (Nat.le_of_ble_eq_true rfl) (fxs_v0_2 hv _ _ _ _ _) d_Vc_release_12 (fun H locs hP hS => ?_)
  refine lv_aload_n hx hb d_Vc_release_15 rfl (lv_at hl 0 rfl) ?_
  refine lv_iconst (v := (0 : Int32)) hx hb d_Vc_release_16 (by decide) ?_
  refine pv_putI C hP hS (x := (0 : Int32)) (by omega) (fx_v0 hv _ _ _ _) fw_Vc_41 rfl rfl (Nat.le_of_ble_eq_true rfl) (fxs_v0_3 hv _ _ _ _ _) d_Vc_release_17 (fun H locs hP hS => ?_)
  obtain rfl := Option.some.inj hf
  exact hret _ _ _ _ d_Vc_release_20 hP hS
def f_Vc_release (v : Nat) (σ : pv_S) : Option pv_S := f_Vc_release_0 v σ
def rm_Vc_release : Room := { frames := 0, cells := 0, slots := 0, locals := 0 }
theorem c_Vc_release {l : Launch} {D : va_G} {q : Nat → ClassId} {a t : Nat → Nat} {A : Nat → Prop} {v : Nat} (hv : v < 4) (hD : pv_D 52 a A) (hmv : pv_mv A (pv_ZX t A)) {σ : pv_S} {out : pv_S} (hf : f_Vc_release v σ = some out) : pv_Mv l y_Vc_release (Cond.code y_Vc_release prog_6_method_2_code 1 none :: pv_TB) rm_Vc_release D pv_cl (pv_ty q) 52 a (pv_FX q a) A (pv_ZX t A) [.ref (a (28 + 6 * v))] σ out :=
  pv_ofV (by decide) (Nat.le_of_ble_eq_true rfl) hD (fun p e s m args below meth c Q ls C hret hl hP => s_Vc_release_0 hv C hmv (Nat.le_refl _) (Nat.le_refl _) hret hl hP va_S.rf hf)
theorem d_Vc_forget_0 : decode prog_6_method_4_code 0 = .ok (.iconst 0, 1) := by decide +kernel
theorem d_Vc_forget_1 : decode prog_6_method_4_code 1 = .ok (.istore_n 2, 1) := by decide +kernel
theorem d_Vc_forget_2 : decode prog_6_method_4_code 2 = .ok (.iload_n 2, 1) := by decide +kernel
theorem d_Vc_forget_3 : decode prog_6_method_4_code 3 = .ok (.aload_n 1, 1) := by decide +kernel
theorem d_Vc_forget_4 : decode prog_6_method_4_code 4 = .ok (.getfield 71, 3) := by decide +kernel
theorem d_Vc_forget_7 : decode prog_6_method_4_code 7 = .ok (.if_icmp .ge 31, 3) := by decide +kernel
theorem d_Vc_forget_10 : decode prog_6_method_4_code 10 = .ok (.aload_n 0, 1) := by decide +kernel
theorem d_Vc_forget_11 : decode prog_6_method_4_code 11 = .ok (.getfield 22, 3) := by decide +kernel
theorem d_Vc_forget_14 : decode prog_6_method_4_code 14 = .ok (.iload_n 2, 1) := by decide +kernel
theorem d_Vc_forget_15 : decode prog_6_method_4_code 15 = .ok (.aload_n 1, 1) := by decide +kernel
theorem d_Vc_forget_16 : decode prog_6_method_4_code 16 = .ok (.getfield 76, 3) := by decide +kernel
theorem d_Vc_forget_19 : decode prog_6_method_4_code 19 = .ok (.iload_n 2, 1) := by decide +kernel
theorem d_Vc_forget_20 : decode prog_6_method_4_code 20 = .ok (.iaload, 1) := by decide +kernel
theorem d_Vc_forget_21 : decode prog_6_method_4_code 21 = .ok (.bipush 15, 2) := by decide +kernel
theorem d_Vc_forget_23 : decode prog_6_method_4_code 23 = .ok (.if_icmp .ne 7, 3) := by decide +kernel
theorem d_Vc_forget_26 : decode prog_6_method_4_code 26 = .ok (.iconst 1, 1) := by decide +kernel
theorem d_Vc_forget_27 : decode prog_6_method_4_code 27 = .ok (.goto 4, 3) := by decide +kernel
theorem d_Vc_forget_30 : decode prog_6_method_4_code 30 = .ok (.iconst 0, 1) := by decide +kernel
theorem d_Vc_forget_31 : decode prog_6_method_4_code 31 = .ok (.iastore, 1) := by decide +kernel
theorem d_Vc_forget_32 : decode prog_6_method_4_code 32 = .ok (.iinc 2 1, 3) := by decide +kernel
theorem d_Vc_forget_35 : decode prog_6_method_4_code 35 = .ok (.goto (-33), 3) := by decide +kernel
theorem d_Vc_forget_38 : decode prog_6_method_4_code 38 = .ok (.aload_n 0, 1) := by decide +kernel
theorem d_Vc_forget_39 : decode prog_6_method_4_code 39 = .ok (.getfield 25, 3) := by decide +kernel
theorem d_Vc_forget_42 : decode prog_6_method_4_code 42 = .ok (.iconst 0, 1) := by decide +kernel
theorem d_Vc_forget_43 : decode prog_6_method_4_code 43 = .ok (.invokestatic 79, 3) := by decide +kernel
theorem d_Vc_forget_46 : decode prog_6_method_4_code 46 = .ok (.aload_n 0, 1) := by decide +kernel
theorem d_Vc_forget_47 : decode prog_6_method_4_code 47 = .ok (.getfield 28, 3) := by decide +kernel
theorem d_Vc_forget_50 : decode prog_6_method_4_code 50 = .ok (.iconst 0, 1) := by decide +kernel
theorem d_Vc_forget_51 : decode prog_6_method_4_code 51 = .ok (.invokestatic 79, 3) := by decide +kernel
theorem d_Vc_forget_54 : decode prog_6_method_4_code 54 = .ok (.return_, 1) := by decide +kernel
def f_Vc_forget_31 (v : Nat) (k_2 : pv_S → Int32 → Option pv_S) (σ : pv_S) (x2 : Int32) (s0 : Int32) (s1 : Int32) : Option pv_S :=
  (if pv_in s1 24 = true then
k_2 (pv_uI σ (28 + 6 * v + 3) (s1).toNatClampNeg s0) (x2 + (1 : Int32))
  else none)
set_option maxHeartbeats 4000000 in
set_option maxRecDepth 100000 in
theorem s_Vc_forget_31 {p : Program} {l : Launch} {e : Env} {R : Room} {s : State} {m : MethodId} {args : Array Value} {below : List Frame} {meth : Method} {c : Code} {Q : State → Prop} {D : va_G} {q : Nat → ClassId} {a t : Nat → Nat} {A : Nat → Prop} {v : Nat} (hv : v < 4) (C : pv_C p s m args c prog_6_method_4_code 3 "PatchVoices$Voice" pv_TB D pv_cl (pv_ty q) 52 a A (pv_ZX t A)) (hmv : pv_mv A (pv_ZX t A)) (hRf : 1 ≤ R.frames) (hRl : 23 ≤ R.locals) {out : pv_S} (hret : pv_Rv p l e R s m args below meth c prog_6_method_4_code D pv_cl 52 a (pv_FX q a) A Q out) {k_2 : pv_S → Int32 → Option pv_S} (hk_2 : ∀ (σ : pv_S) (x2 : Int32) (H : Heap) (locs : List Loc) (ls : Array Slot), k_2 σ x2 = some out → lv_has ls 3 [(0, .ref (a (28 + 6 * v))), (1, .ref (a 12)), (2, .int x2)] → pv_W D pv_cl 52 a (pv_FX q a) σ H → va_S A s.heap H locs → W p l e R s m args below meth c H locs 0 0 Q (F0 m 2 ls [])) {σ : pv_S} {x2 : Int32} {s0 : Int32} {s1 : Int32} {H : Heap} {locs : List Loc} {ls : Array Slot} (hl : lv_has ls 3 [(0, .ref (a (28 + 6 * v))), (1, .ref (a 12)), (2, .int x2)]) (hP : pv_W D pv_cl 52 a (pv_FX q a) σ H) (hS : va_S A s.heap H locs) (hf : f_Vc_forget_31 v k_2 σ x2 s0 s1 = some out) : W p l e R s m args below meth c H locs 0 0 Q (F0 m 31 ls [.int s0, .int s1, .ref (a (28 + 6 * v + 3))]) := by
  unfold f_Vc_forget_31 at hf
  have hx := C.1
  have hb := C.2.1
  obtain ⟨hg, hf⟩ := pv_g hf
  refine pv_iast C hP hS (t0 := 0) (x := s0) (by omega) (fun f g => (fx_v3 hv _ _ f g)) rfl hg d_Vc_forget_31 (fun H locs hP hS => ?_)
  refine lv_iinc (k := 2) (v := (x2 + (1 : Int32))) (lv' := [(2, .int (x2 + (1 : Int32))), (0, .ref (a (28 + 6 * v))), (1, .ref (a 12))]) hx hb d_Vc_forget_32 hl rfl (pv_inc (by decide)) (by decide) rfl (fun ls hl => ?_)
  refine lv_goto (tgt := 2) hx hb d_Vc_forget_35 (by decide) ?_
  exact hk_2 _ _ _ _ _ hf (lv_sub hl [1, 2, 0] rfl) hP hS
def f_Vc_forget_2b (v : Nat) (k_2 : pv_S → Int32 → Option pv_S) (σ : pv_S) (x2 : Int32) : Option pv_S :=
  (if (σ.1 12 0) ≤ x2 then
  ((f_Fill_v4 v σ (0 : Int32)).bind fun q1 =>
((f_Fill_v5 v q1 (0 : Int32)).bind fun q2 =>
some q2))
  else
  (if pv_in x2 24 = true then
(if (σ.1 13 (x2).toNatClampNeg) = (15 : Int32) then
  f_Vc_forget_31 v k_2 σ x2 (1 : Int32) x2
  else
  f_Vc_forget_31 v k_2 σ x2 (0 : Int32) x2)
  else none))
set_option maxHeartbeats 4000000 in
set_option maxRecDepth 100000 in
theorem s_Vc_forget_2b {p : Program} {l : Launch} {e : Env} {R : Room} {s : State} {m : MethodId} {args : Array Value} {below : List Frame} {meth : Method} {c : Code} {Q : State → Prop} {D : va_G} {q : Nat → ClassId} {a t : Nat → Nat} {A : Nat → Prop} {v : Nat} (hv : v < 4) (C : pv_C p s m args c prog_6_method_4_code 3 "PatchVoices$Voice" pv_TB D pv_cl (pv_ty q) 52 a A (pv_ZX t A)) (hmv : pv_mv A (pv_ZX t A)) (hRf : 1 ≤ R.frames) (hRl : 23 ≤ R.locals) {out : pv_S} (hret : pv_Rv p l e R s m args below meth c prog_6_method_4_code D pv_cl 52 a (pv_FX q a) A Q out) {k_2 : pv_S → Int32 → Option pv_S} (hk_2 : ∀ (σ : pv_S) (x2 : Int32) (H : Heap) (locs : List Loc) (ls : Array Slot), k_2 σ x2 = some out → lv_has ls 3 [(0, .ref (a (28 + 6 * v))), (1, .ref (a 12)), (2, .int x2)] → pv_W D pv_cl 52 a (pv_FX q a) σ H → va_S A s.heap H locs → W p l e R s m args below meth c H locs 0 0 Q (F0 m 2 ls [])) {σ : pv_S} {x2 : Int32} {H : Heap} {locs : List Loc} {ls : Array Slot} (hl : lv_has ls 3 [(0, .ref (a (28 + 6 * v))), (1, .ref (a 12)), (2, .int x2)]) (hP : pv_W D pv_cl 52 a (pv_FX q a) σ H) (hS : va_S A s.heap H locs) (hf : f_Vc_forget_2b v k_2 σ x2 = some out) : W p l e R s m args below meth c H locs 0 0 Q (F0 m 2 ls []) := by
  unfold f_Vc_forget_2b at hf
  have hx := C.1
  have hb := C.2.1
  refine lv_iload_n hx hb d_Vc_forget_2 rfl (lv_at hl 2 rfl) ?_
  refine lv_aload_n hx hb d_Vc_forget_3 rfl (lv_at hl 1 rfl) ?_
  refine pv_get C hP (v := .int (σ.1 12 0)) (j := 0) (by decide) (fx_12 _ _ _ _) fl_Vc_71 rfl d_Vc_forget_4 ?_
  refine lv_icmp_ge (tgt := 38) hx hb d_Vc_forget_7 (by decide) (fun h => ?_) (fun h => ?_)
  · have hf := pv_t hf h
    refine lv_aload_n hx hb d_Vc_forget_38 rfl (lv_at hl 0 rfl) ?_
    refine pv_get C hP (v := .ref (a (28 + 6 * v + 4))) (j := 12) (by omega) (fx_v0 hv _ _ _ _) fl_Vc_25 rfl d_Vc_forget_39 ?_
    refine lv_iconst (v := (0 : Int32)) hx hb d_Vc_forget_42 (by decide) ?_
    obtain ⟨q1, hc, hf⟩ := pv_b hf
    refine pv_callSv C hmv pv_good hP hS (As := [.ref (a (28 + 6 * v + 4)), .int (0 : Int32)]) (rest := []) (c_Fill_v4 hv C.2.2.2.2.2.2.1 hmv hc) cs_Vc_79 ⟨rfl, rfl, Nat.le_trans (Nat.le_of_ble_eq_true rfl) hRf, Nat.le_trans (Nat.le_of_ble_eq_true rfl) hRl⟩ rfl hl.1 rfl (Nat.le_of_ble_eq_true rfl) d_Vc_forget_43 ⟨Nat.zero_le _, Nat.zero_le _⟩ (fun H locs hP hS => ?_)
    refine lv_aload_n hx hb d_Vc_forget_46 rfl (lv_at hl 0 rfl) ?_
    refine pv_get C hP (v := .ref (a (28 + 6 * v + 5))) (j := 13) (by omega) (fx_v0 hv _ _ _ _) fl_Vc_28 rfl d_Vc_forget_47 ?_
    refine lv_iconst (v := (0 : Int32)) hx hb d_Vc_forget_50 (by decide) ?_
    obtain ⟨q2, hc, hf⟩ := pv_b hf
    refine pv_callSv C hmv pv_good hP hS (As := [.ref (a (28 + 6 * v + 5)), .int (0 : Int32)]) (rest := []) (c_Fill_v5 hv C.2.2.2.2.2.2.1 hmv hc) cs_Vc_79 ⟨rfl, rfl, Nat.le_trans (Nat.le_of_ble_eq_true rfl) hRf, Nat.le_trans (Nat.le_of_ble_eq_true rfl) hRl⟩ rfl hl.1 rfl (Nat.le_of_ble_eq_true rfl) d_Vc_forget_51 ⟨Nat.zero_le _, Nat.zero_le _⟩ (fun H locs hP hS => ?_)
    obtain rfl := Option.some.inj hf
    exact hret _ _ _ _ d_Vc_forget_54 hP hS
  · have hf := pv_f hf h
    refine lv_aload_n hx hb d_Vc_forget_10 rfl (lv_at hl 0 rfl) ?_
    refine pv_get C hP (v := .ref (a (28 + 6 * v + 3))) (j := 11) (by omega) (fx_v0 hv _ _ _ _) fl_Vc_22 rfl d_Vc_forget_11 ?_
    refine lv_iload_n hx hb d_Vc_forget_14 rfl (lv_at hl 2 rfl) ?_
    refine lv_aload_n hx hb d_Vc_forget_15 rfl (lv_at hl 1 rfl) ?_
    refine pv_get C hP (v := .ref (a 13)) (j := 1) (by decide) (fx_12 _ _ _ _) fl_Vc_76 rfl d_Vc_forget_16 ?_
    refine lv_iload_n hx hb d_Vc_forget_19 rfl (lv_at hl 2 rfl) ?_
    obtain ⟨hg, hf⟩ := pv_g hf
    refine pv_iald C hP (t0 := 0) (by decide) (fx_13 _ _ _ _) rfl hg d_Vc_forget_20 ?_
    refine lv_bipush (v := (15 : Int32)) hx hb d_Vc_forget_21 (by decide) ?_
    refine lv_icmp_ne (tgt := 30) hx hb d_Vc_forget_23 (by decide) (fun h => ?_) (fun h => ?_)
    · have hf := pv_f hf h
      refine lv_iconst (v := (0 : Int32)) hx hb d_Vc_forget_30 (by decide) ?_
      exact s_Vc_forget_31 hv C hmv hRf hRl hret hk_2 (lv_sub hl [0, 1, 2] rfl) hP hS hf
    · have hf := pv_t hf h
      refine lv_iconst (v := (1 : Int32)) hx hb d_Vc_forget_26 (by decide) ?_
      refine lv_goto (tgt := 31) hx hb d_Vc_forget_27 (by decide) ?_
      exact s_Vc_forget_31 hv C hmv hRf hRl hret hk_2 (lv_sub hl [0, 1, 2] rfl) hP hS hf
def f_Vc_forget_2 (v : Nat) : Nat → pv_S → Int32 → Option pv_S
  | 0 => fun _ _ => none
  | n + 1 => f_Vc_forget_2b v (f_Vc_forget_2 v n)
set_option maxHeartbeats 4000000 in
theorem s_Vc_forget_2 {p : Program} {l : Launch} {e : Env} {R : Room} {s : State} {m : MethodId} {args : Array Value} {below : List Frame} {meth : Method} {c : Code} {Q : State → Prop} {D : va_G} {q : Nat → ClassId} {a t : Nat → Nat} {A : Nat → Prop} {v : Nat} (hv : v < 4) (C : pv_C p s m args c prog_6_method_4_code 3 "PatchVoices$Voice" pv_TB D pv_cl (pv_ty q) 52 a A (pv_ZX t A)) (hmv : pv_mv A (pv_ZX t A)) (hRf : 1 ≤ R.frames) (hRl : 23 ≤ R.locals) {out : pv_S} (hret : pv_Rv p l e R s m args below meth c prog_6_method_4_code D pv_cl 52 a (pv_FX q a) A Q out) (n : Nat) : ∀ {σ : pv_S} {x2 : Int32} {H : Heap} {locs : List Loc} {ls : Array Slot}, lv_has ls 3 [(0, .ref (a (28 + 6 * v))), (1, .ref (a 12)), (2, .int x2)] → pv_W D pv_cl 52 a (pv_FX q a) σ H → va_S A s.heap H locs → f_Vc_forget_2 v n σ x2 = some out → W p l e R s m args below meth c H locs 0 0 Q (F0 m 2 ls []) := by
  induction n with
  | zero => intro σ x2 H locs ls hl hP hS hf; cases hf
  | succ n ih => intro σ x2 H locs ls hl hP hS hf; exact s_Vc_forget_2b hv C hmv hRf hRl hret (fun σ x2 H locs ls hf hl hP hS => ih hl hP hS hf) hl hP hS hf
def f_Vc_forget_0 (v : Nat) (σ : pv_S) : Option pv_S :=
  f_Vc_forget_2 v pv_fu σ (0 : Int32)
set_option maxHeartbeats 4000000 in
set_option maxRecDepth 100000 in
theorem s_Vc_forget_0 {p : Program} {l : Launch} {e : Env} {R : Room} {s : State} {m : MethodId} {args : Array Value} {below : List Frame} {meth : Method} {c : Code} {Q : State → Prop} {D : va_G} {q : Nat → ClassId} {a t : Nat → Nat} {A : Nat → Prop} {v : Nat} (hv : v < 4) (C : pv_C p s m args c prog_6_method_4_code 3 "PatchVoices$Voice" pv_TB D pv_cl (pv_ty q) 52 a A (pv_ZX t A)) (hmv : pv_mv A (pv_ZX t A)) (hRf : 1 ≤ R.frames) (hRl : 23 ≤ R.locals) {out : pv_S} (hret : pv_Rv p l e R s m args below meth c prog_6_method_4_code D pv_cl 52 a (pv_FX q a) A Q out) {σ : pv_S} {H : Heap} {locs : List Loc} {ls : Array Slot} (hl : lv_has ls 3 [(0, .ref (a (28 + 6 * v))), (1, .ref (a 12))]) (hP : pv_W D pv_cl 52 a (pv_FX q a) σ H) (hS : va_S A s.heap H locs) (hf : f_Vc_forget_0 v σ = some out) : W p l e R s m args below meth c H locs 0 0 Q (F0 m 0 ls []) := by
  unfold f_Vc_forget_0 at hf
  have hx := C.1
  have hb := C.2.1
  refine lv_iconst (v := (0 : Int32)) hx hb d_Vc_forget_0 (by decide) ?_
  refine lv_istore_n (lv' := [(2, .int (0 : Int32)), (0, .ref (a (28 + 6 * v))), (1, .ref (a 12))]) hx hb d_Vc_forget_1 rfl hl (by decide) rfl (fun ls hl => ?_)
  exact s_Vc_forget_2 hv C hmv hRf hRl hret pv_fu (lv_sub hl [1, 2, 0] rfl) hP hS hf
def f_Vc_forget (v : Nat) (σ : pv_S) : Option pv_S := f_Vc_forget_0 v σ
def rm_Vc_forget : Room := { frames := 1, cells := 0, slots := 0, locals := 23 }
theorem c_Vc_forget {l : Launch} {D : va_G} {q : Nat → ClassId} {a t : Nat → Nat} {A : Nat → Prop} {v : Nat} (hv : v < 4) (hD : pv_D 52 a A) (hmv : pv_mv A (pv_ZX t A)) {σ : pv_S} {out : pv_S} (hf : f_Vc_forget v σ = some out) : pv_Mv l y_Vc_forget (Cond.code y_Vc_forget prog_6_method_4_code 3 none :: pv_TB) rm_Vc_forget D pv_cl (pv_ty q) 52 a (pv_FX q a) A (pv_ZX t A) [.ref (a (28 + 6 * v)), .ref (a 12)] σ out :=
  pv_ofV (by decide) (Nat.le_of_ble_eq_true rfl) hD (fun p e s m args below meth c Q ls C hret hl hP => s_Vc_forget_0 hv C hmv (Nat.le_refl _) (Nat.le_refl _) hret hl hP va_S.rf hf)
theorem d_Vc_take_0 : decode prog_6_method_3_code 0 = .ok (.aload_n 0, 1) := by decide +kernel
theorem d_Vc_take_1 : decode prog_6_method_3_code 1 = .ok (.iconst 1, 1) := by decide +kernel
theorem d_Vc_take_2 : decode prog_6_method_3_code 2 = .ok (.putfield 31, 3) := by decide +kernel
theorem d_Vc_take_5 : decode prog_6_method_3_code 5 = .ok (.aload_n 0, 1) := by decide +kernel
theorem d_Vc_take_6 : decode prog_6_method_3_code 6 = .ok (.iconst 1, 1) := by decide +kernel
theorem d_Vc_take_7 : decode prog_6_method_3_code 7 = .ok (.putfield 35, 3) := by decide +kernel
theorem d_Vc_take_10 : decode prog_6_method_3_code 10 = .ok (.aload_n 0, 1) := by decide +kernel
theorem d_Vc_take_11 : decode prog_6_method_3_code 11 = .ok (.iconst 1, 1) := by decide +kernel
theorem d_Vc_take_12 : decode prog_6_method_3_code 12 = .ok (.putfield 38, 3) := by decide +kernel
theorem d_Vc_take_15 : decode prog_6_method_3_code 15 = .ok (.aload_n 0, 1) := by decide +kernel
theorem d_Vc_take_16 : decode prog_6_method_3_code 16 = .ok (.iconst 0, 1) := by decide +kernel
theorem d_Vc_take_17 : decode prog_6_method_3_code 17 = .ok (.putfield 41, 3) := by decide +kernel
theorem d_Vc_take_20 : decode prog_6_method_3_code 20 = .ok (.aload_n 0, 1) := by decide +kernel
theorem d_Vc_take_21 : decode prog_6_method_3_code 21 = .ok (.iconst 0, 1) := by decide +kernel
theorem d_Vc_take_22 : decode prog_6_method_3_code 22 = .ok (.putfield 44, 3) := by decide +kernel
theorem d_Vc_take_25 : decode prog_6_method_3_code 25 = .ok (.aload_n 0, 1) := by decide +kernel
theorem d_Vc_take_26 : decode prog_6_method_3_code 26 = .ok (.iconst 0, 1) := by decide +kernel
theorem d_Vc_take_27 : decode prog_6_method_3_code 27 = .ok (.putfield 48, 3) := by decide +kernel
theorem d_Vc_take_30 : decode prog_6_method_3_code 30 = .ok (.aload_n 0, 1) := by decide +kernel
theorem d_Vc_take_31 : decode prog_6_method_3_code 31 = .ok (.iload_n 2, 1) := by decide +kernel
theorem d_Vc_take_32 : decode prog_6_method_3_code 32 = .ok (.putfield 51, 3) := by decide +kernel
theorem d_Vc_take_35 : decode prog_6_method_3_code 35 = .ok (.aload_n 0, 1) := by decide +kernel
theorem d_Vc_take_36 : decode prog_6_method_3_code 36 = .ok (.iload_n 3, 1) := by decide +kernel
theorem d_Vc_take_37 : decode prog_6_method_3_code 37 = .ok (.putfield 54, 3) := by decide +kernel
theorem d_Vc_take_40 : decode prog_6_method_3_code 40 = .ok (.aload_n 0, 1) := by decide +kernel
theorem d_Vc_take_41 : decode prog_6_method_3_code 41 = .ok (.lload 4, 2) := by decide +kernel
theorem d_Vc_take_43 : decode prog_6_method_3_code 43 = .ok (.putfield 57, 3) := by decide +kernel
theorem d_Vc_take_46 : decode prog_6_method_3_code 46 = .ok (.aload_n 0, 1) := by decide +kernel
theorem d_Vc_take_47 : decode prog_6_method_3_code 47 = .ok (.aload_n 1, 1) := by decide +kernel
theorem d_Vc_take_48 : decode prog_6_method_3_code 48 = .ok (.getfield 61, 3) := by decide +kernel
theorem d_Vc_take_51 : decode prog_6_method_3_code 51 = .ok (.invokevirtual 67, 3) := by decide +kernel
theorem d_Vc_take_54 : decode prog_6_method_3_code 54 = .ok (.return_, 1) := by decide +kernel
def f_Vc_take_0 (v : Nat) (σ : pv_S) (x2 : Int32) (x3 : Int32) (x4 : Int64) : Option pv_S :=
  ((f_Vc_forget v (pv_uL (pv_uI (pv_uI (pv_uI (pv_uI (pv_uI (pv_uI (pv_uI (pv_uI σ (28 + 6 * v) 0 (1 : Int32)) (28 + 6 * v) 1 (1 : Int32)) (28 + 6 * v) 2 (1 : Int32)) (28 + 6 * v) 3 (0 : Int32)) (28 + 6 * v) 4 (0 : Int32)) (28 + 6 * v) 9 (0 : Int32)) (28 + 6 * v) 7 x2) (28 + 6 * v) 8 x3) (28 + 6 * v) 5 x4)).bind fun q1 =>
some q1)
set_option maxHeartbeats 4000000 in
set_option maxRecDepth 100000 in
theorem s_Vc_take_0 {p : Program} {l : Launch} {e : Env} {R : Room} {s : State} {m : MethodId} {args : Array Value} {below : List Frame} {meth : Method} {c : Code} {Q : State → Prop} {D : va_G} {q : Nat → ClassId} {a t : Nat → Nat} {A : Nat → Prop} {v : Nat} (hv : v < 4) (C : pv_C p s m args c prog_6_method_3_code 6 "PatchVoices$Voice" pv_TB D pv_cl (pv_ty q) 52 a A (pv_ZX t A)) (hmv : pv_mv A (pv_ZX t A)) (hRf : 2 ≤ R.frames) (hRl : 45 ≤ R.locals) {out : pv_S} (hret : pv_Rv p l e R s m args below meth c prog_6_method_3_code D pv_cl 52 a (pv_FX q a) A Q out) {σ : pv_S} {x2 : Int32} {x3 : Int32} {x4 : Int64} {H : Heap} {locs : List Loc} {ls : Array Slot} (hl : lv_has ls 6 [(0, .ref (a (28 + 6 * v))), (1, .ref (a 11)), (2, .int x2), (3, .int x3), (4, .long x4)]) (hP : pv_W D pv_cl 52 a (pv_FX q a) σ H) (hS : va_S A s.heap H locs) (hf : f_Vc_take_0 v σ x2 x3 x4 = some out) : W p l e R s m args below meth c H locs 0 0 Q (F0 m 0 ls []) := by
  unfold f_Vc_take_0 at hf
  have hx := C.1
  have hb := C.2.1
  refine lv_aload_n hx hb d_Vc_take_0 rfl (lv_at hl 0 rfl) ?_
  refine lv_iconst (v := (1 : Int32)) hx hb d_Vc_take_1 (by decide) ?_
  refine pv_putI C hP hS (x := (1 : Int32)) (by omega) (fx_v0 hv _ _ _ _) fw_Vc_31 rfl rfl (Nat.le_of_ble_eq_true rfl) (fxs_v0_0 hv _ _ _ _ _) d_Vc_take_2 (fun H locs hP hS => ?_)
  refine lv_aload_n hx hb d_Vc_take_5 rfl (lv_at hl 0 rfl) ?_
  refine lv_iconst (v := (1 : Int32)) hx hb d_Vc_take_6 (by decide) ?_
  refine pv_putI C hP hS (x := (1 : Int32)) (by omega) (fx_v0 hv _ _ _ _) fw_Vc_35 rfl rfl (Nat.le_of_ble_eq_true rfl) (fxs_v0_1 hv _ _ _ _ _) d_Vc_take_7 (fun H locs hP hS => ?_)
  refine lv_aload_n hx hb d_Vc_take_10 rfl (lv_at hl 0 rfl) ?_
  refine lv_iconst (v := (1 : Int32)) hx hb d_Vc_take_11 (by decide) ?_
  refine pv_putI C hP hS (x := (1 : Int32)) (by omega) (fx_v0 hv _ _ _ _) fw_Vc_38 rfl rfl (Nat.le_of_ble_eq_true rfl) (fxs_v0_2 hv _ _ _ _ _) d_Vc_take_12 (fun H locs hP hS => ?_)
  refine lv_aload_n hx hb d_Vc_take_15 rfl (lv_at hl 0 rfl) ?_
  refine lv_iconst (v := (0 : Int32)) hx hb d_Vc_take_16 (by decide) ?_
  refine pv_putI C hP hS (x := (0 : Int32)) (by omega) (fx_v0 hv _ _ _ _) fw_Vc_41 rfl rfl (Nat.le_of_ble_eq_true rfl) (fxs_v0_3 hv _ _ _ _ _) d_Vc_take_17 (fun H locs hP hS => ?_)
  refine lv_aload_n hx hb d_Vc_take_20 rfl (lv_at hl 0 rfl) ?_
  refine lv_iconst (v := (0 : Int32)) hx hb d_Vc_take_21 (by decide) ?_
  refine pv_putI C hP hS (x := (0 : Int32)) (by omega) (fx_v0 hv _ _ _ _) fw_Vc_44 rfl rfl (Nat.le_of_ble_eq_true rfl) (fxs_v0_4 hv _ _ _ _ _) d_Vc_take_22 (fun H locs hP hS => ?_)
  refine lv_aload_n hx hb d_Vc_take_25 rfl (lv_at hl 0 rfl) ?_
  refine lv_iconst (v := (0 : Int32)) hx hb d_Vc_take_26 (by decide) ?_
  refine pv_putI C hP hS (x := (0 : Int32)) (by omega) (fx_v0 hv _ _ _ _) fw_Vc_48 rfl rfl (Nat.le_of_ble_eq_true rfl) (fxs_v0_9 hv _ _ _ _ _) d_Vc_take_27 (fun H locs hP hS => ?_)
  refine lv_aload_n hx hb d_Vc_take_30 rfl (lv_at hl 0 rfl) ?_
  refine lv_iload_n hx hb d_Vc_take_31 rfl (lv_at hl 2 rfl) ?_
  refine pv_putI C hP hS (x := x2) (by omega) (fx_v0 hv _ _ _ _) fw_Vc_51 rfl rfl (Nat.le_of_ble_eq_true rfl) (fxs_v0_7 hv _ _ _ _ _) d_Vc_take_32 (fun H locs hP hS => ?_)
  refine lv_aload_n hx hb d_Vc_take_35 rfl (lv_at hl 0 rfl) ?_
  refine lv_iload_n hx hb d_Vc_take_36 rfl (lv_at hl 3 rfl) ?_
  refine pv_putI C hP hS (x := x3) (by omega) (fx_v0 hv _ _ _ _) fw_Vc_54 rfl rfl (Nat.le_of_ble_eq_true rfl) (fxs_v0_8 hv _ _ _ _ _) d_Vc_take_37 (fun H locs hP hS => ?_)
  refine lv_aload_n hx hb d_Vc_take_40 rfl (lv_at hl 0 rfl) ?_
  refine lv_lload hx hb d_Vc_take_41 (lv_at hl 4 rfl) ?_
  refine pv_putL C hP hS (x := x4) (by omega) (fx_v0 hv _ _ _ _) fw_Vc_57 (Nat.le_of_ble_eq_true rfl) (fxs_v0_5 hv _ _ _ _ _) d_Vc_take_43 (fun H locs hP hS => ?_)
  refine lv_aload_n hx hb d_Vc_take_46 rfl (lv_at hl 0 rfl) ?_
  refine lv_aload_n hx hb d_Vc_take_47 rfl (lv_at hl 1 rfl) ?_
  refine pv_get C hP (v := .ref (a 12)) (j := 0) (by decide) (fx_11 _ _ _ _) fl_Vc_61 rfl d_Vc_take_48 ?_
  obtain ⟨q1, hc, hf⟩ := pv_b hf
  refine pv_callVv C hmv pv_good hP hS (As := [.ref (a 12)]) (rest := []) (by omega) (fx_v0 hv _ _ _ _) rfl (c_Vc_forget hv C.2.2.2.2.2.2.1 hmv hc) cv_Vc_67 ⟨rfl, rfl, Nat.le_trans (Nat.le_of_ble_eq_true rfl) hRf, Nat.le_trans (Nat.le_of_ble_eq_true rfl) hRl⟩ rfl hl.1 rfl (Nat.le_of_ble_eq_true rfl) d_Vc_take_51 ⟨Nat.zero_le _, Nat.zero_le _⟩ (fun H locs hP hS => ?_)
  obtain rfl := Option.some.inj hf
  exact hret _ _ _ _ d_Vc_take_54 hP hS
def f_Vc_take (v : Nat) (σ : pv_S) (x2 : Int32) (x3 : Int32) (x4 : Int64) : Option pv_S := f_Vc_take_0 v σ x2 x3 x4
def rm_Vc_take : Room := { frames := 2, cells := 0, slots := 0, locals := 45 }
theorem c_Vc_take {l : Launch} {D : va_G} {q : Nat → ClassId} {a t : Nat → Nat} {A : Nat → Prop} {v : Nat} (hv : v < 4) (hD : pv_D 52 a A) (hmv : pv_mv A (pv_ZX t A)) {σ : pv_S} {x2 : Int32} {x3 : Int32} {x4 : Int64} {out : pv_S} (hf : f_Vc_take v σ x2 x3 x4 = some out) : pv_Mv l y_Vc_take (Cond.code y_Vc_take prog_6_method_3_code 6 none :: pv_TB) rm_Vc_take D pv_cl (pv_ty q) 52 a (pv_FX q a) A (pv_ZX t A) [.ref (a (28 + 6 * v)), .ref (a 11), .int x2, .int x3, .long x4] σ out :=
  pv_ofV (by decide) (Nat.le_of_ble_eq_true rfl) hD (fun p e s m args below meth c Q ls C hret hl hP => s_Vc_take_0 hv C hmv (Nat.le_refl _) (Nat.le_refl _) hret hl hP va_S.rf hf)
theorem d_Vc_valueRead_0 : decode prog_6_method_7_code 0 = .ok (.aload_n 1, 1) := by decide +kernel
theorem d_Vc_valueRead_1 : decode prog_6_method_7_code 1 = .ok (.getfield 124, 3) := by decide +kernel
theorem d_Vc_valueRead_4 : decode prog_6_method_7_code 4 = .ok (.iload_n 2, 1) := by decide +kernel
theorem d_Vc_valueRead_5 : decode prog_6_method_7_code 5 = .ok (.iaload, 1) := by decide +kernel
theorem d_Vc_valueRead_6 : decode prog_6_method_7_code 6 = .ok (.iconst (-1), 1) := by decide +kernel
theorem d_Vc_valueRead_7 : decode prog_6_method_7_code 7 = .ok (.if_icmp .ne 12, 3) := by decide +kernel
theorem d_Vc_valueRead_10 : decode prog_6_method_7_code 10 = .ok (.aload_n 1, 1) := by decide +kernel
theorem d_Vc_valueRead_11 : decode prog_6_method_7_code 11 = .ok (.getfield 127, 3) := by decide +kernel
theorem d_Vc_valueRead_14 : decode prog_6_method_7_code 14 = .ok (.iload_n 2, 1) := by decide +kernel
theorem d_Vc_valueRead_15 : decode prog_6_method_7_code 15 = .ok (.iaload, 1) := by decide +kernel
theorem d_Vc_valueRead_16 : decode prog_6_method_7_code 16 = .ok (.goto 14, 3) := by decide +kernel
theorem d_Vc_valueRead_19 : decode prog_6_method_7_code 19 = .ok (.aload_n 0, 1) := by decide +kernel
theorem d_Vc_valueRead_20 : decode prog_6_method_7_code 20 = .ok (.getfield 11, 3) := by decide +kernel
theorem d_Vc_valueRead_23 : decode prog_6_method_7_code 23 = .ok (.aload_n 1, 1) := by decide +kernel
theorem d_Vc_valueRead_24 : decode prog_6_method_7_code 24 = .ok (.getfield 124, 3) := by decide +kernel
theorem d_Vc_valueRead_27 : decode prog_6_method_7_code 27 = .ok (.iload_n 2, 1) := by decide +kernel
theorem d_Vc_valueRead_28 : decode prog_6_method_7_code 28 = .ok (.iaload, 1) := by decide +kernel
theorem d_Vc_valueRead_29 : decode prog_6_method_7_code 29 = .ok (.iaload, 1) := by decide +kernel
theorem d_Vc_valueRead_30 : decode prog_6_method_7_code 30 = .ok (.ireturn, 1) := by decide +kernel
def f_Vc_valueRead_0 (v : Nat) (σ : pv_S) (x2 : Int32) : Option (Int32 × pv_S) :=
  (if pv_in x2 96 = true then
(if (σ.1 14 (x2).toNatClampNeg) = (-1 : Int32) then
  (if pv_in x2 96 = true then
some ((σ.1 15 (x2).toNatClampNeg), σ)
  else none)
  else
  (if pv_in x2 96 = true then
(if pv_in (σ.1 14 (x2).toNatClampNeg) 24 = true then
some ((σ.1 (28 + 6 * v + 1) ((σ.1 14 (x2).toNatClampNeg)).toNatClampNeg), σ)
  else none)
  else none))
  else none)
set_option maxHeartbeats 4000000 in
set_option maxRecDepth 100000 in
theorem s_Vc_valueRead_0 {p : Program} {l : Launch} {e : Env} {R : Room} {s : State} {m : MethodId} {args : Array Value} {below : List Frame} {meth : Method} {c : Code} {Q : State → Prop} {D : va_G} {q : Nat → ClassId} {a t : Nat → Nat} {A : Nat → Prop} {v : Nat} (hv : v < 4) (C : pv_C p s m args c prog_6_method_7_code 3 "PatchVoices$Voice" pv_TB D pv_cl (pv_ty q) 52 a A (pv_ZX t A)) (hmv : pv_mv A (pv_ZX t A)) (hRf : 0 ≤ R.frames) (hRl : 0 ≤ R.locals) {out : (Int32 × pv_S)} (hret : pv_Ri p l e R s m args below meth c prog_6_method_7_code D pv_cl 52 a (pv_FX q a) A Q out) {σ : pv_S} {x2 : Int32} {H : Heap} {locs : List Loc} {ls : Array Slot} (hl : lv_has ls 3 [(0, .ref (a (28 + 6 * v))), (1, .ref (a 12)), (2, .int x2)]) (hP : pv_W D pv_cl 52 a (pv_FX q a) σ H) (hS : va_S A s.heap H locs) (hf : f_Vc_valueRead_0 v σ x2 = some out) : W p l e R s m args below meth c H locs 0 0 Q (F0 m 0 ls []) := by
  unfold f_Vc_valueRead_0 at hf
  have hx := C.1
  have hb := C.2.1
  refine lv_aload_n hx hb d_Vc_valueRead_0 rfl (lv_at hl 1 rfl) ?_
  refine pv_get C hP (v := .ref (a 14)) (j := 2) (by decide) (fx_12 _ _ _ _) fl_Vc_124 rfl d_Vc_valueRead_1 ?_
  refine lv_iload_n hx hb d_Vc_valueRead_4 rfl (lv_at hl 2 rfl) ?_
  obtain ⟨hg, hf⟩ := pv_g hf
  refine pv_iald C hP (t0 := 0) (by decide) (fx_14 _ _ _ _) rfl hg d_Vc_valueRead_5 ?_
  refine lv_iconst (v := (-1 : Int32)) hx hb d_Vc_valueRead_6 (by decide) ?_
  refine lv_icmp_ne (tgt := 19) hx hb d_Vc_valueRead_7 (by decide) (fun h => ?_) (fun h => ?_)
  · have hf := pv_f hf h
    refine lv_aload_n hx hb d_Vc_valueRead_19 rfl (lv_at hl 0 rfl) ?_
    refine pv_get C hP (v := .ref (a (28 + 6 * v + 1))) (j := 6) (by omega) (fx_v0 hv _ _ _ _) fl_Vc_11 rfl d_Vc_valueRead_20 ?_
    refine lv_aload_n hx hb d_Vc_valueRead_23 rfl (lv_at hl 1 rfl) ?_
    refine pv_get C hP (v := .ref (a 14)) (j := 2) (by decide) (fx_12 _ _ _ _) fl_Vc_124 rfl d_Vc_valueRead_24 ?_
    refine lv_iload_n hx hb d_Vc_valueRead_27 rfl (lv_at hl 2 rfl) ?_
    obtain ⟨hg, hf⟩ := pv_g hf
    refine pv_iald C hP (t0 := 0) (by decide) (fx_14 _ _ _ _) rfl hg d_Vc_valueRead_28 ?_
    obtain ⟨hg, hf⟩ := pv_g hf
    refine pv_iald C hP (t0 := 0) (by omega) (fx_v1 hv _ _ _ _) rfl hg d_Vc_valueRead_29 ?_
    obtain rfl := Option.some.inj hf
    exact hret _ _ _ _ d_Vc_valueRead_30 hP hS
  · have hf := pv_t hf h
    refine lv_aload_n hx hb d_Vc_valueRead_10 rfl (lv_at hl 1 rfl) ?_
    refine pv_get C hP (v := .ref (a 15)) (j := 3) (by decide) (fx_12 _ _ _ _) fl_Vc_127 rfl d_Vc_valueRead_11 ?_
    refine lv_iload_n hx hb d_Vc_valueRead_14 rfl (lv_at hl 2 rfl) ?_
    obtain ⟨hg, hf⟩ := pv_g hf
    refine pv_iald C hP (t0 := 0) (by decide) (fx_15 _ _ _ _) rfl hg d_Vc_valueRead_15 ?_
    refine lv_goto (tgt := 30) hx hb d_Vc_valueRead_16 (by decide) ?_
    obtain rfl := Option.some.inj hf
    exact hret _ _ _ _ d_Vc_valueRead_30 hP hS
def f_Vc_valueRead (v : Nat) (σ : pv_S) (x2 : Int32) : Option (Int32 × pv_S) := f_Vc_valueRead_0 v σ x2
def rm_Vc_valueRead : Room := { frames := 0, cells := 0, slots := 0, locals := 0 }
theorem c_Vc_valueRead {l : Launch} {D : va_G} {q : Nat → ClassId} {a t : Nat → Nat} {A : Nat → Prop} {v : Nat} (hv : v < 4) (hD : pv_D 52 a A) (hmv : pv_mv A (pv_ZX t A)) {σ : pv_S} {x2 : Int32} {out : (Int32 × pv_S)} (hf : f_Vc_valueRead v σ x2 = some out) : pv_Mi l y_Vc_valueRead (Cond.code y_Vc_valueRead prog_6_method_7_code 3 (some .int) :: pv_TB) rm_Vc_valueRead D pv_cl (pv_ty q) 52 a (pv_FX q a) A (pv_ZX t A) [.ref (a (28 + 6 * v)), .ref (a 12), .int x2] σ out :=
  pv_ofI (by decide) (Nat.le_of_ble_eq_true rfl) hD (fun p e s m args below meth c Q ls C hret hl hP => s_Vc_valueRead_0 hv C hmv (Nat.le_refl _) (Nat.le_refl _) hret hl hP va_S.rf hf)
theorem d_Vc_readInputs_0 : decode prog_6_method_6_code 0 = .ok (.iconst 0, 1) := by decide +kernel
theorem d_Vc_readInputs_1 : decode prog_6_method_6_code 1 = .ok (.istore_n 3, 1) := by decide +kernel
theorem d_Vc_readInputs_2 : decode prog_6_method_6_code 2 = .ok (.iload_n 3, 1) := by decide +kernel
theorem d_Vc_readInputs_3 : decode prog_6_method_6_code 3 = .ok (.iconst 4, 1) := by decide +kernel
theorem d_Vc_readInputs_4 : decode prog_6_method_6_code 4 = .ok (.if_icmp .ge 25, 3) := by decide +kernel
theorem d_Vc_readInputs_7 : decode prog_6_method_6_code 7 = .ok (.aload_n 0, 1) := by decide +kernel
theorem d_Vc_readInputs_8 : decode prog_6_method_6_code 8 = .ok (.getfield 19, 3) := by decide +kernel
theorem d_Vc_readInputs_11 : decode prog_6_method_6_code 11 = .ok (.iload_n 3, 1) := by decide +kernel
theorem d_Vc_readInputs_12 : decode prog_6_method_6_code 12 = .ok (.aload_n 0, 1) := by decide +kernel
theorem d_Vc_readInputs_13 : decode prog_6_method_6_code 13 = .ok (.aload_n 1, 1) := by decide +kernel
theorem d_Vc_readInputs_14 : decode prog_6_method_6_code 14 = .ok (.iconst 4, 1) := by decide +kernel
theorem d_Vc_readInputs_15 : decode prog_6_method_6_code 15 = .ok (.iload_n 2, 1) := by decide +kernel
theorem d_Vc_readInputs_16 : decode prog_6_method_6_code 16 = .ok (.imul, 1) := by decide +kernel
theorem d_Vc_readInputs_17 : decode prog_6_method_6_code 17 = .ok (.iload_n 3, 1) := by decide +kernel
theorem d_Vc_readInputs_18 : decode prog_6_method_6_code 18 = .ok (.iadd, 1) := by decide +kernel
theorem d_Vc_readInputs_19 : decode prog_6_method_6_code 19 = .ok (.invokevirtual 120, 3) := by decide +kernel
theorem d_Vc_readInputs_22 : decode prog_6_method_6_code 22 = .ok (.iastore, 1) := by decide +kernel
theorem d_Vc_readInputs_23 : decode prog_6_method_6_code 23 = .ok (.iinc 3 1, 3) := by decide +kernel
theorem d_Vc_readInputs_26 : decode prog_6_method_6_code 26 = .ok (.goto (-24), 3) := by decide +kernel
theorem d_Vc_readInputs_29 : decode prog_6_method_6_code 29 = .ok (.return_, 1) := by decide +kernel
def f_Vc_readInputs_2b (v : Nat) (k_2 : pv_S → Int32 → Int32 → Option pv_S) (σ : pv_S) (x2 : Int32) (x3 : Int32) : Option pv_S :=
  (if (4 : Int32) ≤ x3 then
  some σ
  else
  ((f_Vc_valueRead v σ (((4 : Int32) * x2) + x3)).bind fun q1 =>
(if pv_in x3 4 = true then
k_2 (pv_uI q1.2 (28 + 6 * v + 2) (x3).toNatClampNeg q1.1) x2 (x3 + (1 : Int32))
  else none)))
set_option maxHeartbeats 4000000 in
set_option maxRecDepth 100000 in
theorem s_Vc_readInputs_2b {p : Program} {l : Launch} {e : Env} {R : Room} {s : State} {m : MethodId} {args : Array Value} {below : List Frame} {meth : Method} {c : Code} {Q : State → Prop} {D : va_G} {q : Nat → ClassId} {a t : Nat → Nat} {A : Nat → Prop} {v : Nat} (hv : v < 4) (C : pv_C p s m args c prog_6_method_6_code 4 "PatchVoices$Voice" pv_TB D pv_cl (pv_ty q) 52 a A (pv_ZX t A)) (hmv : pv_mv A (pv_ZX t A)) (hRf : 1 ≤ R.frames) (hRl : 22 ≤ R.locals) {out : pv_S} (hret : pv_Rv p l e R s m args below meth c prog_6_method_6_code D pv_cl 52 a (pv_FX q a) A Q out) {k_2 : pv_S → Int32 → Int32 → Option pv_S} (hk_2 : ∀ (σ : pv_S) (x2 : Int32) (x3 : Int32) (H : Heap) (locs : List Loc) (ls : Array Slot), k_2 σ x2 x3 = some out → lv_has ls 4 [(0, .ref (a (28 + 6 * v))), (1, .ref (a 12)), (2, .int x2), (3, .int x3)] → pv_W D pv_cl 52 a (pv_FX q a) σ H → va_S A s.heap H locs → W p l e R s m args below meth c H locs 0 0 Q (F0 m 2 ls [])) {σ : pv_S} {x2 : Int32} {x3 : Int32} {H : Heap} {locs : List Loc} {ls : Array Slot} (hl : lv_has ls 4 [(0, .ref (a (28 + 6 * v))), (1, .ref (a 12)), (2, .int x2), (3, .int x3)]) (hP : pv_W D pv_cl 52 a (pv_FX q a) σ H) (hS : va_S A s.heap H locs) (hf : f_Vc_readInputs_2b v k_2 σ x2 x3 = some out) : W p l e R s m args below meth c H locs 0 0 Q (F0 m 2 ls []) := by
  unfold f_Vc_readInputs_2b at hf
  have hx := C.1
  have hb := C.2.1
  refine lv_iload_n hx hb d_Vc_readInputs_2 rfl (lv_at hl 3 rfl) ?_
  refine lv_iconst (v := (4 : Int32)) hx hb d_Vc_readInputs_3 (by decide) ?_
  refine lv_icmp_ge (tgt := 29) hx hb d_Vc_readInputs_4 (by decide) (fun h => ?_) (fun h => ?_)
  · have hf := pv_t hf h
    obtain rfl := Option.some.inj hf
    exact hret _ _ _ _ d_Vc_readInputs_29 hP hS
  · have hf := pv_f hf h
    refine lv_aload_n hx hb d_Vc_readInputs_7 rfl (lv_at hl 0 rfl) ?_
    refine pv_get C hP (v := .ref (a (28 + 6 * v + 2))) (j := 10) (by omega) (fx_v0 hv _ _ _ _) fl_Vc_19 rfl d_Vc_readInputs_8 ?_
    refine lv_iload_n hx hb d_Vc_readInputs_11 rfl (lv_at hl 3 rfl) ?_
    refine lv_aload_n hx hb d_Vc_readInputs_12 rfl (lv_at hl 0 rfl) ?_
    refine lv_aload_n hx hb d_Vc_readInputs_13 rfl (lv_at hl 1 rfl) ?_
    refine lv_iconst (v := (4 : Int32)) hx hb d_Vc_readInputs_14 (by decide) ?_
    refine lv_iload_n hx hb d_Vc_readInputs_15 rfl (lv_at hl 2 rfl) ?_
    refine lv_imul hx hb d_Vc_readInputs_16 ?_
    refine lv_iload_n hx hb d_Vc_readInputs_17 rfl (lv_at hl 3 rfl) ?_
    refine lv_iadd hx hb d_Vc_readInputs_18 ?_
    obtain ⟨q1, hc, hf⟩ := pv_b hf
    refine pv_callVi C hmv pv_good hP hS (As := [.ref (a 12), .int (((4 : Int32) * x2) + x3)]) (rest := [.int x3, .ref (a (28 + 6 * v + 2))]) (by omega) (fx_v0 hv _ _ _ _) rfl (c_Vc_valueRead hv C.2.2.2.2.2.2.1 hmv hc) cv_Vc_120 ⟨rfl, rfl, Nat.le_trans (Nat.le_of_ble_eq_true rfl) hRf, Nat.le_trans (Nat.le_of_ble_eq_true rfl) hRl⟩ rfl hl.1 rfl (Nat.le_of_ble_eq_true rfl) d_Vc_readInputs_19 ⟨Nat.zero_le _, Nat.zero_le _⟩ (fun H locs hP hS => ?_)
    obtain ⟨hg, hf⟩ := pv_g hf
    refine pv_iast C hP hS (t0 := 0) (x := q1.1) (by omega) (fun f g => (fx_v2 hv _ _ f g)) rfl hg d_Vc_readInputs_22 (fun H locs hP hS => ?_)
    refine lv_iinc (k := 3) (v := (x3 + (1 : Int32))) (lv' := [(3, .int (x3 + (1 : Int32))), (0, .ref (a (28 + 6 * v))), (1, .ref (a 12)), (2, .int x2)]) hx hb d_Vc_readInputs_23 hl rfl (pv_inc (by decide)) (by decide) rfl (fun ls hl => ?_)
    refine lv_goto (tgt := 2) hx hb d_Vc_readInputs_26 (by decide) ?_
    exact hk_2 _ _ _ _ _ _ hf (lv_sub hl [1, 2, 3, 0] rfl) hP hS
def f_Vc_readInputs_2 (v : Nat) : Nat → pv_S → Int32 → Int32 → Option pv_S
  | 0 => fun _ _ _ => none
  | n + 1 => f_Vc_readInputs_2b v (f_Vc_readInputs_2 v n)
set_option maxHeartbeats 4000000 in
theorem s_Vc_readInputs_2 {p : Program} {l : Launch} {e : Env} {R : Room} {s : State} {m : MethodId} {args : Array Value} {below : List Frame} {meth : Method} {c : Code} {Q : State → Prop} {D : va_G} {q : Nat → ClassId} {a t : Nat → Nat} {A : Nat → Prop} {v : Nat} (hv : v < 4) (C : pv_C p s m args c prog_6_method_6_code 4 "PatchVoices$Voice" pv_TB D pv_cl (pv_ty q) 52 a A (pv_ZX t A)) (hmv : pv_mv A (pv_ZX t A)) (hRf : 1 ≤ R.frames) (hRl : 22 ≤ R.locals) {out : pv_S} (hret : pv_Rv p l e R s m args below meth c prog_6_method_6_code D pv_cl 52 a (pv_FX q a) A Q out) (n : Nat) : ∀ {σ : pv_S} {x2 : Int32} {x3 : Int32} {H : Heap} {locs : List Loc} {ls : Array Slot}, lv_has ls 4 [(0, .ref (a (28 + 6 * v))), (1, .ref (a 12)), (2, .int x2), (3, .int x3)] → pv_W D pv_cl 52 a (pv_FX q a) σ H → va_S A s.heap H locs → f_Vc_readInputs_2 v n σ x2 x3 = some out → W p l e R s m args below meth c H locs 0 0 Q (F0 m 2 ls []) := by
  induction n with
  | zero => intro σ x2 x3 H locs ls hl hP hS hf; cases hf
  | succ n ih => intro σ x2 x3 H locs ls hl hP hS hf; exact s_Vc_readInputs_2b hv C hmv hRf hRl hret (fun σ x2 x3 H locs ls hf hl hP hS => ih hl hP hS hf) hl hP hS hf
def f_Vc_readInputs_0 (v : Nat) (σ : pv_S) (x2 : Int32) : Option pv_S :=
  f_Vc_readInputs_2 v pv_fu σ x2 (0 : Int32)
set_option maxHeartbeats 4000000 in
set_option maxRecDepth 100000 in
theorem s_Vc_readInputs_0 {p : Program} {l : Launch} {e : Env} {R : Room} {s : State} {m : MethodId} {args : Array Value} {below : List Frame} {meth : Method} {c : Code} {Q : State → Prop} {D : va_G} {q : Nat → ClassId} {a t : Nat → Nat} {A : Nat → Prop} {v : Nat} (hv : v < 4) (C : pv_C p s m args c prog_6_method_6_code 4 "PatchVoices$Voice" pv_TB D pv_cl (pv_ty q) 52 a A (pv_ZX t A)) (hmv : pv_mv A (pv_ZX t A)) (hRf : 1 ≤ R.frames) (hRl : 22 ≤ R.locals) {out : pv_S} (hret : pv_Rv p l e R s m args below meth c prog_6_method_6_code D pv_cl 52 a (pv_FX q a) A Q out) {σ : pv_S} {x2 : Int32} {H : Heap} {locs : List Loc} {ls : Array Slot} (hl : lv_has ls 4 [(0, .ref (a (28 + 6 * v))), (1, .ref (a 12)), (2, .int x2)]) (hP : pv_W D pv_cl 52 a (pv_FX q a) σ H) (hS : va_S A s.heap H locs) (hf : f_Vc_readInputs_0 v σ x2 = some out) : W p l e R s m args below meth c H locs 0 0 Q (F0 m 0 ls []) := by
  unfold f_Vc_readInputs_0 at hf
  have hx := C.1
  have hb := C.2.1
  refine lv_iconst (v := (0 : Int32)) hx hb d_Vc_readInputs_0 (by decide) ?_
  refine lv_istore_n (lv' := [(3, .int (0 : Int32)), (0, .ref (a (28 + 6 * v))), (1, .ref (a 12)), (2, .int x2)]) hx hb d_Vc_readInputs_1 rfl hl (by decide) rfl (fun ls hl => ?_)
  exact s_Vc_readInputs_2 hv C hmv hRf hRl hret pv_fu (lv_sub hl [1, 2, 3, 0] rfl) hP hS hf
def f_Vc_readInputs (v : Nat) (σ : pv_S) (x2 : Int32) : Option pv_S := f_Vc_readInputs_0 v σ x2
def rm_Vc_readInputs : Room := { frames := 1, cells := 0, slots := 0, locals := 22 }
theorem c_Vc_readInputs {l : Launch} {D : va_G} {q : Nat → ClassId} {a t : Nat → Nat} {A : Nat → Prop} {v : Nat} (hv : v < 4) (hD : pv_D 52 a A) (hmv : pv_mv A (pv_ZX t A)) {σ : pv_S} {x2 : Int32} {out : pv_S} (hf : f_Vc_readInputs v σ x2 = some out) : pv_Mv l y_Vc_readInputs (Cond.code y_Vc_readInputs prog_6_method_6_code 4 none :: pv_TB) rm_Vc_readInputs D pv_cl (pv_ty q) 52 a (pv_FX q a) A (pv_ZX t A) [.ref (a (28 + 6 * v)), .ref (a 12), .int x2] σ out :=
  pv_ofV (by decide) (Nat.le_of_ble_eq_true rfl) hD (fun p e s m args below meth c Q ls C hret hl hP => s_Vc_readInputs_0 hv C hmv (Nat.le_refl _) (Nat.le_refl _) hret hl hP va_S.rf hf)
theorem d_Vc_nextNoise_0 : decode prog_6_method_11_code 0 = .ok (.aload_n 0, 1) := by decide +kernel
theorem d_Vc_nextNoise_1 : decode prog_6_method_11_code 1 = .ok (.getfield 22, 3) := by decide +kernel
theorem d_Vc_nextNoise_4 : decode prog_6_method_11_code 4 = .ok (.iload_n 1, 1) := by decide +kernel
theorem d_Vc_nextNoise_5 : decode prog_6_method_11_code 5 = .ok (.iaload, 1) := by decide +kernel
theorem d_Vc_nextNoise_6 : decode prog_6_method_11_code 6 = .ok (.iconst 1, 1) := by decide +kernel
theorem d_Vc_nextNoise_7 : decode prog_6_method_11_code 7 = .ok (.iand, 1) := by decide +kernel
theorem d_Vc_nextNoise_8 : decode prog_6_method_11_code 8 = .ok (.ifCond .eq 7, 3) := by decide +kernel
theorem d_Vc_nextNoise_11 : decode prog_6_method_11_code 11 = .ok (.iconst 1, 1) := by decide +kernel
theorem d_Vc_nextNoise_12 : decode prog_6_method_11_code 12 = .ok (.goto 4, 3) := by decide +kernel
theorem d_Vc_nextNoise_15 : decode prog_6_method_11_code 15 = .ok (.iconst 0, 1) := by decide +kernel
theorem d_Vc_nextNoise_16 : decode prog_6_method_11_code 16 = .ok (.istore_n 2, 1) := by decide +kernel
theorem d_Vc_nextNoise_17 : decode prog_6_method_11_code 17 = .ok (.aload_n 0, 1) := by decide +kernel
theorem d_Vc_nextNoise_18 : decode prog_6_method_11_code 18 = .ok (.getfield 22, 3) := by decide +kernel
theorem d_Vc_nextNoise_21 : decode prog_6_method_11_code 21 = .ok (.iload_n 1, 1) := by decide +kernel
theorem d_Vc_nextNoise_22 : decode prog_6_method_11_code 22 = .ok (.aload_n 0, 1) := by decide +kernel
theorem d_Vc_nextNoise_23 : decode prog_6_method_11_code 23 = .ok (.getfield 22, 3) := by decide +kernel
theorem d_Vc_nextNoise_26 : decode prog_6_method_11_code 26 = .ok (.iload_n 1, 1) := by decide +kernel
theorem d_Vc_nextNoise_27 : decode prog_6_method_11_code 27 = .ok (.iaload, 1) := by decide +kernel
theorem d_Vc_nextNoise_28 : decode prog_6_method_11_code 28 = .ok (.iconst 1, 1) := by decide +kernel
theorem d_Vc_nextNoise_29 : decode prog_6_method_11_code 29 = .ok (.iushr, 1) := by decide +kernel
theorem d_Vc_nextNoise_30 : decode prog_6_method_11_code 30 = .ok (.iload_n 2, 1) := by decide +kernel
theorem d_Vc_nextNoise_31 : decode prog_6_method_11_code 31 = .ok (.ifCond .eq 8, 3) := by decide +kernel
theorem d_Vc_nextNoise_34 : decode prog_6_method_11_code 34 = .ok (.ldc 152, 2) := by decide +kernel
theorem d_Vc_nextNoise_36 : decode prog_6_method_11_code 36 = .ok (.goto 4, 3) := by decide +kernel
theorem d_Vc_nextNoise_39 : decode prog_6_method_11_code 39 = .ok (.iconst 0, 1) := by decide +kernel
theorem d_Vc_nextNoise_40 : decode prog_6_method_11_code 40 = .ok (.ixor, 1) := by decide +kernel
theorem d_Vc_nextNoise_41 : decode prog_6_method_11_code 41 = .ok (.iastore, 1) := by decide +kernel
theorem d_Vc_nextNoise_42 : decode prog_6_method_11_code 42 = .ok (.aload_n 0, 1) := by decide +kernel
theorem d_Vc_nextNoise_43 : decode prog_6_method_11_code 43 = .ok (.getfield 22, 3) := by decide +kernel
theorem d_Vc_nextNoise_46 : decode prog_6_method_11_code 46 = .ok (.iload_n 1, 1) := by decide +kernel
theorem d_Vc_nextNoise_47 : decode prog_6_method_11_code 47 = .ok (.iaload, 1) := by decide +kernel
theorem d_Vc_nextNoise_48 : decode prog_6_method_11_code 48 = .ok (.bipush 16, 2) := by decide +kernel
theorem d_Vc_nextNoise_50 : decode prog_6_method_11_code 50 = .ok (.ishr, 1) := by decide +kernel
theorem d_Vc_nextNoise_51 : decode prog_6_method_11_code 51 = .ok (.ireturn, 1) := by decide +kernel
def f_Vc_nextNoise_40 (v : Nat) (σ : pv_S) (x1 : Int32) (s0 : Int32) (s1 : Int32) (s2 : Int32) : Option (Int32 × pv_S) :=
  (if pv_in s2 24 = true then
(if pv_in x1 24 = true then
some ((((pv_uI σ (28 + 6 * v + 3) (s2).toNatClampNeg (s1 ^^^ s0)).1 (28 + 6 * v + 3) (x1).toNatClampNeg) >>> ((16 : Int32) &&& 31)), (pv_uI σ (28 + 6 * v + 3) (s2).toNatClampNeg (s1 ^^^ s0)))
  else none)
  else none)
set_option maxHeartbeats 4000000 in
set_option maxRecDepth 100000 in
theorem s_Vc_nextNoise_40 {p : Program} {l : Launch} {e : Env} {R : Room} {s : State} {m : MethodId} {args : Array Value} {below : List Frame} {meth : Method} {c : Code} {Q : State → Prop} {D : va_G} {q : Nat → ClassId} {a t : Nat → Nat} {A : Nat → Prop} {v : Nat} (hv : v < 4) (C : pv_C p s m args c prog_6_method_11_code 3 "PatchVoices$Voice" pv_TB D pv_cl (pv_ty q) 52 a A (pv_ZX t A)) (hmv : pv_mv A (pv_ZX t A)) (hRf : 0 ≤ R.frames) (hRl : 0 ≤ R.locals) {out : (Int32 × pv_S)} (hret : pv_Ri p l e R s m args below meth c prog_6_method_11_code D pv_cl 52 a (pv_FX q a) A Q out) {σ : pv_S} {x1 : Int32} {s0 : Int32} {s1 : Int32} {s2 : Int32} {H : Heap} {locs : List Loc} {ls : Array Slot} (hl : lv_has ls 3 [(0, .ref (a (28 + 6 * v))), (1, .int x1)]) (hP : pv_W D pv_cl 52 a (pv_FX q a) σ H) (hS : va_S A s.heap H locs) (hf : f_Vc_nextNoise_40 v σ x1 s0 s1 s2 = some out) : W p l e R s m args below meth c H locs 0 0 Q (F0 m 40 ls [.int s0, .int s1, .int s2, .ref (a (28 + 6 * v + 3))]) := by
  unfold f_Vc_nextNoise_40 at hf
  have hx := C.1
  have hb := C.2.1
  refine lv_ixor hx hb d_Vc_nextNoise_40 ?_
  obtain ⟨hg, hf⟩ := pv_g hf
  refine pv_iast C hP hS (t0 := 0) (x := (s1 ^^^ s0)) (by omega) (fun f g => (fx_v3 hv _ _ f g)) rfl hg d_Vc_nextNoise_41 (fun H locs hP hS => ?_)
  refine lv_aload_n hx hb d_Vc_nextNoise_42 rfl (lv_at hl 0 rfl) ?_
  refine pv_get C hP (v := .ref (a (28 + 6 * v + 3))) (j := 11) (by omega) (fx_v0 hv _ _ _ _) fl_Vc_22 rfl d_Vc_nextNoise_43 ?_
  refine lv_iload_n hx hb d_Vc_nextNoise_46 rfl (lv_at hl 1 rfl) ?_
  obtain ⟨hg, hf⟩ := pv_g hf
  refine pv_iald C hP (t0 := 0) (by omega) (fx_v3 hv _ _ _ _) rfl hg d_Vc_nextNoise_47 ?_
  refine lv_bipush (v := (16 : Int32)) hx hb d_Vc_nextNoise_48 (by decide) ?_
  refine lv_ishr hx hb d_Vc_nextNoise_50 ?_
  obtain rfl := Option.some.inj hf
  exact hret _ _ _ _ d_Vc_nextNoise_51 hP hS
def f_Vc_nextNoise_16 (v : Nat) (σ : pv_S) (x1 : Int32) (s0 : Int32) : Option (Int32 × pv_S) :=
  (if pv_in x1 24 = true then
(if s0 = 0 then
  f_Vc_nextNoise_40 v σ x1 (0 : Int32) ((((σ.1 (28 + 6 * v + 3) (x1).toNatClampNeg)).toUInt32 >>> (((1 : Int32)).toUInt32 &&& Int32.toUInt32 31)).toInt32) x1
  else
  f_Vc_nextNoise_40 v σ x1 (-1262693540 : Int32) ((((σ.1 (28 + 6 * v + 3) (x1).toNatClampNeg)).toUInt32 >>> (((1 : Int32)).toUInt32 &&& Int32.toUInt32 31)).toInt32) x1)
  else none)
set_option maxHeartbeats 4000000 in
set_option maxRecDepth 100000 in
theorem s_Vc_nextNoise_16 {p : Program} {l : Launch} {e : Env} {R : Room} {s : State} {m : MethodId} {args : Array Value} {below : List Frame} {meth : Method} {c : Code} {Q : State → Prop} {D : va_G} {q : Nat → ClassId} {a t : Nat → Nat} {A : Nat → Prop} {v : Nat} (hv : v < 4) (C : pv_C p s m args c prog_6_method_11_code 3 "PatchVoices$Voice" pv_TB D pv_cl (pv_ty q) 52 a A (pv_ZX t A)) (hmv : pv_mv A (pv_ZX t A)) (hRf : 0 ≤ R.frames) (hRl : 0 ≤ R.locals) {out : (Int32 × pv_S)} (hret : pv_Ri p l e R s m args below meth c prog_6_method_11_code D pv_cl 52 a (pv_FX q a) A Q out) {σ : pv_S} {x1 : Int32} {s0 : Int32} {H : Heap} {locs : List Loc} {ls : Array Slot} (hl : lv_has ls 3 [(0, .ref (a (28 + 6 * v))), (1, .int x1)]) (hP : pv_W D pv_cl 52 a (pv_FX q a) σ H) (hS : va_S A s.heap H locs) (hf : f_Vc_nextNoise_16 v σ x1 s0 = some out) : W p l e R s m args below meth c H locs 0 0 Q (F0 m 16 ls [.int s0]) := by
  unfold f_Vc_nextNoise_16 at hf
  have hx := C.1
  have hb := C.2.1
  refine lv_istore_n (lv' := [(2, .int s0), (0, .ref (a (28 + 6 * v))), (1, .int x1)]) hx hb d_Vc_nextNoise_16 rfl hl (by decide) rfl (fun ls hl => ?_)
  refine lv_aload_n hx hb d_Vc_nextNoise_17 rfl (lv_at hl 1 rfl) ?_
  refine pv_get C hP (v := .ref (a (28 + 6 * v + 3))) (j := 11) (by omega) (fx_v0 hv _ _ _ _) fl_Vc_22 rfl d_Vc_nextNoise_18 ?_
  refine lv_iload_n hx hb d_Vc_nextNoise_21 rfl (lv_at hl 2 rfl) ?_
  refine lv_aload_n hx hb d_Vc_nextNoise_22 rfl (lv_at hl 1 rfl) ?_
  refine pv_get C hP (v := .ref (a (28 + 6 * v + 3))) (j := 11) (by omega) (fx_v0 hv _ _ _ _) fl_Vc_22 rfl d_Vc_nextNoise_23 ?_
  refine lv_iload_n hx hb d_Vc_nextNoise_26 rfl (lv_at hl 2 rfl) ?_
  obtain ⟨hg, hf⟩ := pv_g hf
  refine pv_iald C hP (t0 := 0) (by omega) (fx_v3 hv _ _ _ _) rfl hg d_Vc_nextNoise_27 ?_
  refine lv_iconst (v := (1 : Int32)) hx hb d_Vc_nextNoise_28 (by decide) ?_
  refine lv_iushr (v := (((σ.1 (28 + 6 * v + 3) (x1).toNatClampNeg)).toUInt32 >>> (((1 : Int32)).toUInt32 &&& Int32.toUInt32 31)).toInt32) hx hb d_Vc_nextNoise_29 rfl ?_
  refine lv_iload_n hx hb d_Vc_nextNoise_30 rfl (lv_at hl 0 rfl) ?_
  refine lv_if_eq (tgt := 39) hx hb d_Vc_nextNoise_31 (by decide) (fun h => ?_) (fun h => ?_)
  · have hf := pv_t hf h
    refine lv_iconst (v := (0 : Int32)) hx hb d_Vc_nextNoise_39 (by decide) ?_
    exact s_Vc_nextNoise_40 hv C hmv hRf hRl hret (lv_sub hl [1, 2] rfl) hP hS hf
  · have hf := pv_f hf h
    refine lv_ldc (v := (-1262693540 : Int32)) hx hb C.2.2.2.1 (C.2.2.2.2.1 _ w_980) d_Vc_nextNoise_34 ?_
    refine lv_goto (tgt := 40) hx hb d_Vc_nextNoise_36 (by decide) ?_
    exact s_Vc_nextNoise_40 hv C hmv hRf hRl hret (lv_sub hl [1, 2] rfl) hP hS hf
def f_Vc_nextNoise_0 (v : Nat) (σ : pv_S) (x1 : Int32) : Option (Int32 × pv_S) :=
  (if pv_in x1 24 = true then
(if ((σ.1 (28 + 6 * v + 3) (x1).toNatClampNeg) &&& (1 : Int32)) = 0 then
  f_Vc_nextNoise_16 v σ x1 (0 : Int32)
  else
  f_Vc_nextNoise_16 v σ x1 (1 : Int32))
  else none)
set_option maxHeartbeats 4000000 in
set_option maxRecDepth 100000 in
theorem s_Vc_nextNoise_0 {p : Program} {l : Launch} {e : Env} {R : Room} {s : State} {m : MethodId} {args : Array Value} {below : List Frame} {meth : Method} {c : Code} {Q : State → Prop} {D : va_G} {q : Nat → ClassId} {a t : Nat → Nat} {A : Nat → Prop} {v : Nat} (hv : v < 4) (C : pv_C p s m args c prog_6_method_11_code 3 "PatchVoices$Voice" pv_TB D pv_cl (pv_ty q) 52 a A (pv_ZX t A)) (hmv : pv_mv A (pv_ZX t A)) (hRf : 0 ≤ R.frames) (hRl : 0 ≤ R.locals) {out : (Int32 × pv_S)} (hret : pv_Ri p l e R s m args below meth c prog_6_method_11_code D pv_cl 52 a (pv_FX q a) A Q out) {σ : pv_S} {x1 : Int32} {H : Heap} {locs : List Loc} {ls : Array Slot} (hl : lv_has ls 3 [(0, .ref (a (28 + 6 * v))), (1, .int x1)]) (hP : pv_W D pv_cl 52 a (pv_FX q a) σ H) (hS : va_S A s.heap H locs) (hf : f_Vc_nextNoise_0 v σ x1 = some out) : W p l e R s m args below meth c H locs 0 0 Q (F0 m 0 ls []) := by
  unfold f_Vc_nextNoise_0 at hf
  have hx := C.1
  have hb := C.2.1
  refine lv_aload_n hx hb d_Vc_nextNoise_0 rfl (lv_at hl 0 rfl) ?_
  refine pv_get C hP (v := .ref (a (28 + 6 * v + 3))) (j := 11) (by omega) (fx_v0 hv _ _ _ _) fl_Vc_22 rfl d_Vc_nextNoise_1 ?_
  refine lv_iload_n hx hb d_Vc_nextNoise_4 rfl (lv_at hl 1 rfl) ?_
  obtain ⟨hg, hf⟩ := pv_g hf
  refine pv_iald C hP (t0 := 0) (by omega) (fx_v3 hv _ _ _ _) rfl hg d_Vc_nextNoise_5 ?_
  refine lv_iconst (v := (1 : Int32)) hx hb d_Vc_nextNoise_6 (by decide) ?_
  refine lv_iand hx hb d_Vc_nextNoise_7 ?_
  refine lv_if_eq (tgt := 15) hx hb d_Vc_nextNoise_8 (by decide) (fun h => ?_) (fun h => ?_)
  · have hf := pv_t hf h
    refine lv_iconst (v := (0 : Int32)) hx hb d_Vc_nextNoise_15 (by decide) ?_
    exact s_Vc_nextNoise_16 hv C hmv hRf hRl hret (lv_sub hl [0, 1] rfl) hP hS hf
  · have hf := pv_f hf h
    refine lv_iconst (v := (1 : Int32)) hx hb d_Vc_nextNoise_11 (by decide) ?_
    refine lv_goto (tgt := 16) hx hb d_Vc_nextNoise_12 (by decide) ?_
    exact s_Vc_nextNoise_16 hv C hmv hRf hRl hret (lv_sub hl [0, 1] rfl) hP hS hf
def f_Vc_nextNoise (v : Nat) (σ : pv_S) (x1 : Int32) : Option (Int32 × pv_S) := f_Vc_nextNoise_0 v σ x1
def rm_Vc_nextNoise : Room := { frames := 0, cells := 0, slots := 0, locals := 0 }
theorem c_Vc_nextNoise {l : Launch} {D : va_G} {q : Nat → ClassId} {a t : Nat → Nat} {A : Nat → Prop} {v : Nat} (hv : v < 4) (hD : pv_D 52 a A) (hmv : pv_mv A (pv_ZX t A)) {σ : pv_S} {x1 : Int32} {out : (Int32 × pv_S)} (hf : f_Vc_nextNoise v σ x1 = some out) : pv_Mi l y_Vc_nextNoise (Cond.code y_Vc_nextNoise prog_6_method_11_code 3 (some .int) :: pv_TB) rm_Vc_nextNoise D pv_cl (pv_ty q) 52 a (pv_FX q a) A (pv_ZX t A) [.ref (a (28 + 6 * v)), .int x1] σ out :=
  pv_ofI (by decide) (Nat.le_of_ble_eq_true rfl) hD (fun p e s m args below meth c Q ls C hret hl hP => s_Vc_nextNoise_0 hv C hmv (Nat.le_refl _) (Nat.le_refl _) hret hl hP va_S.rf hf)
theorem d_Vc_turnStage_0 : decode prog_6_method_13_code 0 = .ok (.aload_n 0, 1) := by decide +kernel
theorem d_Vc_turnStage_1 : decode prog_6_method_13_code 1 = .ok (.getfield 25, 3) := by decide +kernel
theorem d_Vc_turnStage_4 : decode prog_6_method_13_code 4 = .ok (.iload_n 1, 1) := by decide +kernel
theorem d_Vc_turnStage_5 : decode prog_6_method_13_code 5 = .ok (.iaload, 1) := by decide +kernel
theorem d_Vc_turnStage_6 : decode prog_6_method_13_code 6 = .ok (.istore_n 3, 1) := by decide +kernel
theorem d_Vc_turnStage_7 : decode prog_6_method_13_code 7 = .ok (.iload_n 2, 1) := by decide +kernel
theorem d_Vc_turnStage_8 : decode prog_6_method_13_code 8 = .ok (.ifCond .eq 22, 3) := by decide +kernel
theorem d_Vc_turnStage_11 : decode prog_6_method_13_code 11 = .ok (.iload_n 3, 1) := by decide +kernel
theorem d_Vc_turnStage_12 : decode prog_6_method_13_code 12 = .ok (.ifCond .eq 8, 3) := by decide +kernel
theorem d_Vc_turnStage_15 : decode prog_6_method_13_code 15 = .ok (.iload_n 3, 1) := by decide +kernel
theorem d_Vc_turnStage_16 : decode prog_6_method_13_code 16 = .ok (.iconst 4, 1) := by decide +kernel
theorem d_Vc_turnStage_17 : decode prog_6_method_13_code 17 = .ok (.if_icmp .ne 13, 3) := by decide +kernel
theorem d_Vc_turnStage_20 : decode prog_6_method_13_code 20 = .ok (.aload_n 0, 1) := by decide +kernel
theorem d_Vc_turnStage_21 : decode prog_6_method_13_code 21 = .ok (.getfield 25, 3) := by decide +kernel
theorem d_Vc_turnStage_24 : decode prog_6_method_13_code 24 = .ok (.iload_n 1, 1) := by decide +kernel
theorem d_Vc_turnStage_25 : decode prog_6_method_13_code 25 = .ok (.iconst 1, 1) := by decide +kernel
theorem d_Vc_turnStage_26 : decode prog_6_method_13_code 26 = .ok (.iastore, 1) := by decide +kernel
theorem d_Vc_turnStage_27 : decode prog_6_method_13_code 27 = .ok (.goto 24, 3) := by decide +kernel
theorem d_Vc_turnStage_30 : decode prog_6_method_13_code 30 = .ok (.iload_n 2, 1) := by decide +kernel
theorem d_Vc_turnStage_31 : decode prog_6_method_13_code 31 = .ok (.ifCond .ne 20, 3) := by decide +kernel
theorem d_Vc_turnStage_34 : decode prog_6_method_13_code 34 = .ok (.iload_n 3, 1) := by decide +kernel
theorem d_Vc_turnStage_35 : decode prog_6_method_13_code 35 = .ok (.iconst 1, 1) := by decide +kernel
theorem d_Vc_turnStage_36 : decode prog_6_method_13_code 36 = .ok (.if_icmp .lt 15, 3) := by decide +kernel
theorem d_Vc_turnStage_39 : decode prog_6_method_13_code 39 = .ok (.iload_n 3, 1) := by decide +kernel
theorem d_Vc_turnStage_40 : decode prog_6_method_13_code 40 = .ok (.iconst 3, 1) := by decide +kernel
theorem d_Vc_turnStage_41 : decode prog_6_method_13_code 41 = .ok (.if_icmp .gt 10, 3) := by decide +kernel
theorem d_Vc_turnStage_44 : decode prog_6_method_13_code 44 = .ok (.aload_n 0, 1) := by decide +kernel
theorem d_Vc_turnStage_45 : decode prog_6_method_13_code 45 = .ok (.getfield 25, 3) := by decide +kernel
theorem d_Vc_turnStage_48 : decode prog_6_method_13_code 48 = .ok (.iload_n 1, 1) := by decide +kernel
theorem d_Vc_turnStage_49 : decode prog_6_method_13_code 49 = .ok (.iconst 4, 1) := by decide +kernel
theorem d_Vc_turnStage_50 : decode prog_6_method_13_code 50 = .ok (.iastore, 1) := by decide +kernel
theorem d_Vc_turnStage_51 : decode prog_6_method_13_code 51 = .ok (.return_, 1) := by decide +kernel
def f_Vc_turnStage_30 (v : Nat) (σ : pv_S) (x1 : Int32) (x2 : Int32) (x3 : Int32) : Option pv_S :=
  (if x2 = 0 then
  (if x3 < (1 : Int32) then
  some σ
  else
  (if (3 : Int32) < x3 then
  some σ
  else
  (if pv_in x1 24 = true then
some (pv_uI σ (28 + 6 * v + 4) (x1).toNatClampNeg (4 : Int32))
  else none)))
  else
  some σ)
set_option maxHeartbeats 4000000 in
set_option maxRecDepth 100000 in
theorem s_Vc_turnStage_30 {p : Program} {l : Launch} {e : Env} {R : Room} {s : State} {m : MethodId} {args : Array Value} {below : List Frame} {meth : Method} {c : Code} {Q : State → Prop} {D : va_G} {q : Nat → ClassId} {a t : Nat → Nat} {A : Nat → Prop} {v : Nat} (hv : v < 4) (C : pv_C p s m args c prog_6_method_13_code 4 "PatchVoices$Voice" pv_TB D pv_cl (pv_ty q) 52 a A (pv_ZX t A)) (hmv : pv_mv A (pv_ZX t A)) (hRf : 0 ≤ R.frames) (hRl : 0 ≤ R.locals) {out : pv_S} (hret : pv_Rv p l e R s m args below meth c prog_6_method_13_code D pv_cl 52 a (pv_FX q a) A Q out) {σ : pv_S} {x1 : Int32} {x2 : Int32} {x3 : Int32} {H : Heap} {locs : List Loc} {ls : Array Slot} (hl : lv_has ls 4 [(0, .ref (a (28 + 6 * v))), (1, .int x1), (2, .int x2), (3, .int x3)]) (hP : pv_W D pv_cl 52 a (pv_FX q a) σ H) (hS : va_S A s.heap H locs) (hf : f_Vc_turnStage_30 v σ x1 x2 x3 = some out) : W p l e R s m args below meth c H locs 0 0 Q (F0 m 30 ls []) := by
  unfold f_Vc_turnStage_30 at hf
  have hx := C.1
  have hb := C.2.1
  refine lv_iload_n hx hb d_Vc_turnStage_30 rfl (lv_at hl 2 rfl) ?_
  refine lv_if_ne (tgt := 51) hx hb d_Vc_turnStage_31 (by decide) (fun h => ?_) (fun h => ?_)
  · have hf := pv_f hf h
    obtain rfl := Option.some.inj hf
    exact hret _ _ _ _ d_Vc_turnStage_51 hP hS
  · have hf := pv_t hf h
    refine lv_iload_n hx hb d_Vc_turnStage_34 rfl (lv_at hl 3 rfl) ?_
    refine lv_iconst (v := (1 : Int32)) hx hb d_Vc_turnStage_35 (by decide) ?_
    refine lv_icmp_lt (tgt := 51) hx hb d_Vc_turnStage_36 (by decide) (fun h => ?_) (fun h => ?_)
    · have hf := pv_t hf h
      obtain rfl := Option.some.inj hf
      exact hret _ _ _ _ d_Vc_turnStage_51 hP hS
    · have hf := pv_f hf h
      refine lv_iload_n hx hb d_Vc_turnStage_39 rfl (lv_at hl 3 rfl) ?_
      refine lv_iconst (v := (3 : Int32)) hx hb d_Vc_turnStage_40 (by decide) ?_
      refine lv_icmp_gt (tgt := 51) hx hb d_Vc_turnStage_41 (by decide) (fun h => ?_) (fun h => ?_)
      · have hf := pv_t hf h
        obtain rfl := Option.some.inj hf
        exact hret _ _ _ _ d_Vc_turnStage_51 hP hS
      · have hf := pv_f hf h
        refine lv_aload_n hx hb d_Vc_turnStage_44 rfl (lv_at hl 0 rfl) ?_
        refine pv_get C hP (v := .ref (a (28 + 6 * v + 4))) (j := 12) (by omega) (fx_v0 hv _ _ _ _) fl_Vc_25 rfl d_Vc_turnStage_45 ?_
        refine lv_iload_n hx hb d_Vc_turnStage_48 rfl (lv_at hl 1 rfl) ?_
        refine lv_iconst (v := (4 : Int32)) hx hb d_Vc_turnStage_49 (by decide) ?_
        obtain ⟨hg, hf⟩ := pv_g hf
        refine pv_iast C hP hS (t0 := 0) (x := (4 : Int32)) (by omega) (fun f g => (fx_v4 hv _ _ f g)) rfl hg d_Vc_turnStage_50 (fun H locs hP hS => ?_)
        obtain rfl := Option.some.inj hf
        exact hret _ _ _ _ d_Vc_turnStage_51 hP hS
def f_Vc_turnStage_0 (v : Nat) (σ : pv_S) (x1 : Int32) (x2 : Int32) : Option pv_S :=
  (if pv_in x1 24 = true then
(if x2 = 0 then
  f_Vc_turnStage_30 v σ x1 x2 (σ.1 (28 + 6 * v + 4) (x1).toNatClampNeg)
  else
  (if (σ.1 (28 + 6 * v + 4) (x1).toNatClampNeg) = 0 then
  (if pv_in x1 24 = true then
some (pv_uI σ (28 + 6 * v + 4) (x1).toNatClampNeg (1 : Int32))
  else none)
  else
  (if (σ.1 (28 + 6 * v + 4) (x1).toNatClampNeg) = (4 : Int32) then
  (if pv_in x1 24 = true then
some (pv_uI σ (28 + 6 * v + 4) (x1).toNatClampNeg (1 : Int32))
  else none)
  else
  f_Vc_turnStage_30 v σ x1 x2 (σ.1 (28 + 6 * v + 4) (x1).toNatClampNeg))))
  else none)
set_option maxHeartbeats 4000000 in
set_option maxRecDepth 100000 in
theorem s_Vc_turnStage_0 {p : Program} {l : Launch} {e : Env} {R : Room} {s : State} {m : MethodId} {args : Array Value} {below : List Frame} {meth : Method} {c : Code} {Q : State → Prop} {D : va_G} {q : Nat → ClassId} {a t : Nat → Nat} {A : Nat → Prop} {v : Nat} (hv : v < 4) (C : pv_C p s m args c prog_6_method_13_code 4 "PatchVoices$Voice" pv_TB D pv_cl (pv_ty q) 52 a A (pv_ZX t A)) (hmv : pv_mv A (pv_ZX t A)) (hRf : 0 ≤ R.frames) (hRl : 0 ≤ R.locals) {out : pv_S} (hret : pv_Rv p l e R s m args below meth c prog_6_method_13_code D pv_cl 52 a (pv_FX q a) A Q out) {σ : pv_S} {x1 : Int32} {x2 : Int32} {H : Heap} {locs : List Loc} {ls : Array Slot} (hl : lv_has ls 4 [(0, .ref (a (28 + 6 * v))), (1, .int x1), (2, .int x2)]) (hP : pv_W D pv_cl 52 a (pv_FX q a) σ H) (hS : va_S A s.heap H locs) (hf : f_Vc_turnStage_0 v σ x1 x2 = some out) : W p l e R s m args below meth c H locs 0 0 Q (F0 m 0 ls []) := by
  unfold f_Vc_turnStage_0 at hf
  have hx := C.1
  have hb := C.2.1
  refine lv_aload_n hx hb d_Vc_turnStage_0 rfl (lv_at hl 0 rfl) ?_
  refine pv_get C hP (v := .ref (a (28 + 6 * v + 4))) (j := 12) (by omega) (fx_v0 hv _ _ _ _) fl_Vc_25 rfl d_Vc_turnStage_1 ?_
  refine lv_iload_n hx hb d_Vc_turnStage_4 rfl (lv_at hl 1 rfl) ?_
  obtain ⟨hg, hf⟩ := pv_g hf
  refine pv_iald C hP (t0 := 0) (by omega) (fx_v4 hv _ _ _ _) rfl hg d_Vc_turnStage_5 ?_
  refine lv_istore_n (lv' := [(3, .int (σ.1 (28 + 6 * v + 4) (x1).toNatClampNeg)), (0, .ref (a (28 + 6 * v))), (1, .int x1), (2, .int x2)]) hx hb d_Vc_turnStage_6 rfl hl (by decide) rfl (fun ls hl => ?_)
  refine lv_iload_n hx hb d_Vc_turnStage_7 rfl (lv_at hl 3 rfl) ?_
  refine lv_if_eq (tgt := 30) hx hb d_Vc_turnStage_8 (by decide) (fun h => ?_) (fun h => ?_)
  · have hf := pv_t hf h
    exact s_Vc_turnStage_30 hv C hmv hRf hRl hret (lv_sub hl [1, 2, 3, 0] rfl) hP hS hf
  · have hf := pv_f hf h
    refine lv_iload_n hx hb d_Vc_turnStage_11 rfl (lv_at hl 0 rfl) ?_
    refine lv_if_eq (tgt := 20) hx hb d_Vc_turnStage_12 (by decide) (fun h => ?_) (fun h => ?_)
    · have hf := pv_t hf h
      refine lv_aload_n hx hb d_Vc_turnStage_20 rfl (lv_at hl 1 rfl) ?_
      refine pv_get C hP (v := .ref (a (28 + 6 * v + 4))) (j := 12) (by omega) (fx_v0 hv _ _ _ _) fl_Vc_25 rfl d_Vc_turnStage_21 ?_
      refine lv_iload_n hx hb d_Vc_turnStage_24 rfl (lv_at hl 2 rfl) ?_
      refine lv_iconst (v := (1 : Int32)) hx hb d_Vc_turnStage_25 (by decide) ?_
      obtain ⟨hg, hf⟩ := pv_g hf
      refine pv_iast C hP hS (t0 := 0) (x := (1 : Int32)) (by omega) (fun f g => (fx_v4 hv _ _ f g)) rfl hg d_Vc_turnStage_26 (fun H locs hP hS => ?_)
      refine lv_goto (tgt := 51) hx hb d_Vc_turnStage_27 (by decide) ?_
      obtain rfl := Option.some.inj hf
      exact hret _ _ _ _ d_Vc_turnStage_51 hP hS
    · have hf := pv_f hf h
      refine lv_iload_n hx hb d_Vc_turnStage_15 rfl (lv_at hl 0 rfl) ?_
      refine lv_iconst (v := (4 : Int32)) hx hb d_Vc_turnStage_16 (by decide) ?_
      refine lv_icmp_ne (tgt := 30) hx hb d_Vc_turnStage_17 (by decide) (fun h => ?_) (fun h => ?_)
      · have hf := pv_f hf h
        exact s_Vc_turnStage_30 hv C hmv hRf hRl hret (lv_sub hl [1, 2, 3, 0] rfl) hP hS hf
      · have hf := pv_t hf h
        refine lv_aload_n hx hb d_Vc_turnStage_20 rfl (lv_at hl 1 rfl) ?_
        refine pv_get C hP (v := .ref (a (28 + 6 * v + 4))) (j := 12) (by omega) (fx_v0 hv _ _ _ _) fl_Vc_25 rfl d_Vc_turnStage_21 ?_
        refine lv_iload_n hx hb d_Vc_turnStage_24 rfl (lv_at hl 2 rfl) ?_
        refine lv_iconst (v := (1 : Int32)) hx hb d_Vc_turnStage_25 (by decide) ?_
        obtain ⟨hg, hf⟩ := pv_g hf
        refine pv_iast C hP hS (t0 := 0) (x := (1 : Int32)) (by omega) (fun f g => (fx_v4 hv _ _ f g)) rfl hg d_Vc_turnStage_26 (fun H locs hP hS => ?_)
        refine lv_goto (tgt := 51) hx hb d_Vc_turnStage_27 (by decide) ?_
        obtain rfl := Option.some.inj hf
        exact hret _ _ _ _ d_Vc_turnStage_51 hP hS
def f_Vc_turnStage (v : Nat) (σ : pv_S) (x1 : Int32) (x2 : Int32) : Option pv_S := f_Vc_turnStage_0 v σ x1 x2
def rm_Vc_turnStage : Room := { frames := 0, cells := 0, slots := 0, locals := 0 }
theorem c_Vc_turnStage {l : Launch} {D : va_G} {q : Nat → ClassId} {a t : Nat → Nat} {A : Nat → Prop} {v : Nat} (hv : v < 4) (hD : pv_D 52 a A) (hmv : pv_mv A (pv_ZX t A)) {σ : pv_S} {x1 : Int32} {x2 : Int32} {out : pv_S} (hf : f_Vc_turnStage v σ x1 x2 = some out) : pv_Mv l y_Vc_turnStage (Cond.code y_Vc_turnStage prog_6_method_13_code 4 none :: pv_TB) rm_Vc_turnStage D pv_cl (pv_ty q) 52 a (pv_FX q a) A (pv_ZX t A) [.ref (a (28 + 6 * v)), .int x1, .int x2] σ out :=
  pv_ofV (by decide) (Nat.le_of_ble_eq_true rfl) hD (fun p e s m args below meth c Q ls C hret hl hP => s_Vc_turnStage_0 hv C hmv (Nat.le_refl _) (Nat.le_refl _) hret hl hP va_S.rf hf)
theorem d_Vc_levelAt_0 : decode prog_6_method_14_code 0 = .ok (.aload_n 0, 1) := by decide +kernel
theorem d_Vc_levelAt_1 : decode prog_6_method_14_code 1 = .ok (.getfield 22, 3) := by decide +kernel
theorem d_Vc_levelAt_4 : decode prog_6_method_14_code 4 = .ok (.iload_n 1, 1) := by decide +kernel
theorem d_Vc_levelAt_5 : decode prog_6_method_14_code 5 = .ok (.lload_n 2, 1) := by decide +kernel
theorem d_Vc_levelAt_6 : decode prog_6_method_14_code 6 = .ok (.l2i, 1) := by decide +kernel
theorem d_Vc_levelAt_7 : decode prog_6_method_14_code 7 = .ok (.iastore, 1) := by decide +kernel
theorem d_Vc_levelAt_8 : decode prog_6_method_14_code 8 = .ok (.aload_n 0, 1) := by decide +kernel
theorem d_Vc_levelAt_9 : decode prog_6_method_14_code 9 = .ok (.getfield 22, 3) := by decide +kernel
theorem d_Vc_levelAt_12 : decode prog_6_method_14_code 12 = .ok (.iload_n 1, 1) := by decide +kernel
theorem d_Vc_levelAt_13 : decode prog_6_method_14_code 13 = .ok (.iaload, 1) := by decide +kernel
theorem d_Vc_levelAt_14 : decode prog_6_method_14_code 14 = .ok (.iload 4, 2) := by decide +kernel
theorem d_Vc_levelAt_16 : decode prog_6_method_14_code 16 = .ok (.if_icmp .ne 31, 3) := by decide +kernel
theorem d_Vc_levelAt_19 : decode prog_6_method_14_code 19 = .ok (.aload_n 0, 1) := by decide +kernel
theorem d_Vc_levelAt_20 : decode prog_6_method_14_code 20 = .ok (.getfield 25, 3) := by decide +kernel
theorem d_Vc_levelAt_23 : decode prog_6_method_14_code 23 = .ok (.iload_n 1, 1) := by decide +kernel
theorem d_Vc_levelAt_24 : decode prog_6_method_14_code 24 = .ok (.aload_n 0, 1) := by decide +kernel
theorem d_Vc_levelAt_25 : decode prog_6_method_14_code 25 = .ok (.getfield 25, 3) := by decide +kernel
theorem d_Vc_levelAt_28 : decode prog_6_method_14_code 28 = .ok (.iload_n 1, 1) := by decide +kernel
theorem d_Vc_levelAt_29 : decode prog_6_method_14_code 29 = .ok (.iaload, 1) := by decide +kernel
theorem d_Vc_levelAt_30 : decode prog_6_method_14_code 30 = .ok (.iconst 4, 1) := by decide +kernel
theorem d_Vc_levelAt_31 : decode prog_6_method_14_code 31 = .ok (.if_icmp .ne 7, 3) := by decide +kernel
theorem d_Vc_levelAt_34 : decode prog_6_method_14_code 34 = .ok (.iconst 0, 1) := by decide +kernel
theorem d_Vc_levelAt_35 : decode prog_6_method_14_code 35 = .ok (.goto 11, 3) := by decide +kernel
theorem d_Vc_levelAt_38 : decode prog_6_method_14_code 38 = .ok (.aload_n 0, 1) := by decide +kernel
theorem d_Vc_levelAt_39 : decode prog_6_method_14_code 39 = .ok (.getfield 25, 3) := by decide +kernel
theorem d_Vc_levelAt_42 : decode prog_6_method_14_code 42 = .ok (.iload_n 1, 1) := by decide +kernel
theorem d_Vc_levelAt_43 : decode prog_6_method_14_code 43 = .ok (.iaload, 1) := by decide +kernel
theorem d_Vc_levelAt_44 : decode prog_6_method_14_code 44 = .ok (.iconst 1, 1) := by decide +kernel
theorem d_Vc_levelAt_45 : decode prog_6_method_14_code 45 = .ok (.iadd, 1) := by decide +kernel
theorem d_Vc_levelAt_46 : decode prog_6_method_14_code 46 = .ok (.iastore, 1) := by decide +kernel
theorem d_Vc_levelAt_47 : decode prog_6_method_14_code 47 = .ok (.aload_n 0, 1) := by decide +kernel
theorem d_Vc_levelAt_48 : decode prog_6_method_14_code 48 = .ok (.getfield 22, 3) := by decide +kernel
theorem d_Vc_levelAt_51 : decode prog_6_method_14_code 51 = .ok (.iload_n 1, 1) := by decide +kernel
theorem d_Vc_levelAt_52 : decode prog_6_method_14_code 52 = .ok (.iaload, 1) := by decide +kernel
theorem d_Vc_levelAt_53 : decode prog_6_method_14_code 53 = .ok (.ireturn, 1) := by decide +kernel
def f_Vc_levelAt_0 (v : Nat) (σ : pv_S) (x1 : Int32) (x2 : Int64) (x4 : Int32) : Option (Int32 × pv_S) :=
  (if pv_in x1 24 = true then
(if pv_in x1 24 = true then
(if ((pv_uI σ (28 + 6 * v + 3) (x1).toNatClampNeg ((x2).toInt32)).1 (28 + 6 * v + 3) (x1).toNatClampNeg) = x4 then
  (if pv_in x1 24 = true then
(if ((pv_uI σ (28 + 6 * v + 3) (x1).toNatClampNeg ((x2).toInt32)).1 (28 + 6 * v + 4) (x1).toNatClampNeg) = (4 : Int32) then
  (if pv_in x1 24 = true then
(if pv_in x1 24 = true then
some (((pv_uI (pv_uI σ (28 + 6 * v + 3) (x1).toNatClampNeg ((x2).toInt32)) (28 + 6 * v + 4) (x1).toNatClampNeg (0 : Int32)).1 (28 + 6 * v + 3) (x1).toNatClampNeg), (pv_uI (pv_uI σ (28 + 6 * v + 3) (x1).toNatClampNeg ((x2).toInt32)) (28 + 6 * v + 4) (x1).toNatClampNeg (0 : Int32)))
  else none)
  else none)
  else
  (if pv_in x1 24 = true then
(if pv_in x1 24 = true then
(if pv_in x1 24 = true then
some (((pv_uI (pv_uI σ (28 + 6 * v + 3) (x1).toNatClampNeg ((x2).toInt32)) (28 + 6 * v + 4) (x1).toNatClampNeg (((pv_uI σ (28 + 6 * v + 3) (x1).toNatClampNeg ((x2).toInt32)).1 (28 + 6 * v + 4) (x1).toNatClampNeg) + (1 : Int32))).1 (28 + 6 * v + 3) (x1).toNatClampNeg), (pv_uI (pv_uI σ (28 + 6 * v + 3) (x1).toNatClampNeg ((x2).toInt32)) (28 + 6 * v + 4) (x1).toNatClampNeg (((pv_uI σ (28 + 6 * v + 3) (x1).toNatClampNeg ((x2).toInt32)).1 (28 + 6 * v + 4) (x1).toNatClampNeg) + (1 : Int32))))
  else none)
  else none)
  else none))
  else none)
  else
  (if pv_in x1 24 = true then
some (((pv_uI σ (28 + 6 * v + 3) (x1).toNatClampNeg ((x2).toInt32)).1 (28 + 6 * v + 3) (x1).toNatClampNeg), (pv_uI σ (28 + 6 * v + 3) (x1).toNatClampNeg ((x2).toInt32)))
  else none))
  else none)
  else none)
set_option maxHeartbeats 4000000 in
set_option maxRecDepth 100000 in
theorem s_Vc_levelAt_0 {p : Program} {l : Launch} {e : Env} {R : Room} {s : State} {m : MethodId} {args : Array Value} {below : List Frame} {meth : Method} {c : Code} {Q : State → Prop} {D : va_G} {q : Nat → ClassId} {a t : Nat → Nat} {A : Nat → Prop} {v : Nat} (hv : v < 4) (C : pv_C p s m args c prog_6_method_14_code 5 "PatchVoices$Voice" pv_TB D pv_cl (pv_ty q) 52 a A (pv_ZX t A)) (hmv : pv_mv A (pv_ZX t A)) (hRf : 0 ≤ R.frames) (hRl : 0 ≤ R.locals) {out : (Int32 × pv_S)} (hret : pv_Ri p l e R s m args below meth c prog_6_method_14_code D pv_cl 52 a (pv_FX q a) A Q out) {σ : pv_S} {x1 : Int32} {x2 : Int64} {x4 : Int32} {H : Heap} {locs : List Loc} {ls : Array Slot} (hl : lv_has ls 5 [(0, .ref (a (28 + 6 * v))), (1, .int x1), (2, .long x2), (4, .int x4)]) (hP : pv_W D pv_cl 52 a (pv_FX q a) σ H) (hS : va_S A s.heap H locs) (hf : f_Vc_levelAt_0 v σ x1 x2 x4 = some out) : W p l e R s m args below meth c H locs 0 0 Q (F0 m 0 ls []) := by
  unfold f_Vc_levelAt_0 at hf
  have hx := C.1
  have hb := C.2.1
  refine lv_aload_n hx hb d_Vc_levelAt_0 rfl (lv_at hl 0 rfl) ?_
  refine pv_get C hP (v := .ref (a (28 + 6 * v + 3))) (j := 11) (by omega) (fx_v0 hv _ _ _ _) fl_Vc_22 rfl d_Vc_levelAt_1 ?_
  refine lv_iload_n hx hb d_Vc_levelAt_4 rfl (lv_at hl 1 rfl) ?_
  refine lv_lload_n hx hb d_Vc_levelAt_5 rfl (lv_at hl 2 rfl) ?_
  refine lv_l2i (v := (x2).toInt32) hx hb d_Vc_levelAt_6 rfl ?_
  obtain ⟨hg, hf⟩ := pv_g hf
  refine pv_iast C hP hS (t0 := 0) (x := ((x2).toInt32)) (by omega) (fun f g => (fx_v3 hv _ _ f g)) rfl hg d_Vc_levelAt_7 (fun H locs hP hS => ?_)
  refine lv_aload_n hx hb d_Vc_levelAt_8 rfl (lv_at hl 0 rfl) ?_
  refine pv_get C hP (v := .ref (a (28 + 6 * v + 3))) (j := 11) (by omega) (fx_v0 hv _ _ _ _) fl_Vc_22 rfl d_Vc_levelAt_9 ?_
  refine lv_iload_n hx hb d_Vc_levelAt_12 rfl (lv_at hl 1 rfl) ?_
  obtain ⟨hg, hf⟩ := pv_g hf
  refine pv_iald C hP (t0 := 0) (by omega) (fx_v3 hv _ _ _ _) rfl hg d_Vc_levelAt_13 ?_
  refine lv_iload hx hb d_Vc_levelAt_14 (lv_at hl 3 rfl) ?_
  refine lv_icmp_ne (tgt := 47) hx hb d_Vc_levelAt_16 (by decide) (fun h => ?_) (fun h => ?_)
  · have hf := pv_f hf h
    refine lv_aload_n hx hb d_Vc_levelAt_47 rfl (lv_at hl 0 rfl) ?_
    refine pv_get C hP (v := .ref (a (28 + 6 * v + 3))) (j := 11) (by omega) (fx_v0 hv _ _ _ _) fl_Vc_22 rfl d_Vc_levelAt_48 ?_
    refine lv_iload_n hx hb d_Vc_levelAt_51 rfl (lv_at hl 1 rfl) ?_
    obtain ⟨hg, hf⟩ := pv_g hf
    refine pv_iald C hP (t0 := 0) (by omega) (fx_v3 hv _ _ _ _) rfl hg d_Vc_levelAt_52 ?_
    obtain rfl := Option.some.inj hf
    exact hret _ _ _ _ d_Vc_levelAt_53 hP hS
  · have hf := pv_t hf h
    refine lv_aload_n hx hb d_Vc_levelAt_19 rfl (lv_at hl 0 rfl) ?_
    refine pv_get C hP (v := .ref (a (28 + 6 * v + 4))) (j := 12) (by omega) (fx_v0 hv _ _ _ _) fl_Vc_25 rfl d_Vc_levelAt_20 ?_
    refine lv_iload_n hx hb d_Vc_levelAt_23 rfl (lv_at hl 1 rfl) ?_
    refine lv_aload_n hx hb d_Vc_levelAt_24 rfl (lv_at hl 0 rfl) ?_
    refine pv_get C hP (v := .ref (a (28 + 6 * v + 4))) (j := 12) (by omega) (fx_v0 hv _ _ _ _) fl_Vc_25 rfl d_Vc_levelAt_25 ?_
    refine lv_iload_n hx hb d_Vc_levelAt_28 rfl (lv_at hl 1 rfl) ?_
    obtain ⟨hg, hf⟩ := pv_g hf
    refine pv_iald C hP (t0 := 0) (by omega) (fx_v4 hv _ _ _ _) rfl hg d_Vc_levelAt_29 ?_
    refine lv_iconst (v := (4 : Int32)) hx hb d_Vc_levelAt_30 (by decide) ?_
    refine lv_icmp_ne (tgt := 38) hx hb d_Vc_levelAt_31 (by decide) (fun h => ?_) (fun h => ?_)
    · have hf := pv_f hf h
      refine lv_aload_n hx hb d_Vc_levelAt_38 rfl (lv_at hl 0 rfl) ?_
      refine pv_get C hP (v := .ref (a (28 + 6 * v + 4))) (j := 12) (by omega) (fx_v0 hv _ _ _ _) fl_Vc_25 rfl d_Vc_levelAt_39 ?_
      refine lv_iload_n hx hb d_Vc_levelAt_42 rfl (lv_at hl 1 rfl) ?_
      obtain ⟨hg, hf⟩ := pv_g hf
      refine pv_iald C hP (t0 := 0) (by omega) (fx_v4 hv _ _ _ _) rfl hg d_Vc_levelAt_43 ?_
      refine lv_iconst (v := (1 : Int32)) hx hb d_Vc_levelAt_44 (by decide) ?_
      refine lv_iadd hx hb d_Vc_levelAt_45 ?_
      obtain ⟨hg, hf⟩ := pv_g hf
      refine pv_iast C hP hS (t0 := 0) (x := (((pv_uI σ (28 + 6 * v + 3) (x1).toNatClampNeg ((x2).toInt32)).1 (28 + 6 * v + 4) (x1).toNatClampNeg) + (1 : Int32))) (by omega) (fun f g => (fx_v4 hv _ _ f g)) rfl hg d_Vc_levelAt_46 (fun H locs hP hS => ?_)
      refine lv_aload_n hx hb d_Vc_levelAt_47 rfl (lv_at hl 0 rfl) ?_
      refine pv_get C hP (v := .ref (a (28 + 6 * v + 3))) (j := 11) (by omega) (fx_v0 hv _ _ _ _) fl_Vc_22 rfl d_Vc_levelAt_48 ?_
      refine lv_iload_n hx hb d_Vc_levelAt_51 rfl (lv_at hl 1 rfl) ?_
      obtain ⟨hg, hf⟩ := pv_g hf
      refine pv_iald C hP (t0 := 0) (by omega) (fx_v3 hv _ _ _ _) rfl hg d_Vc_levelAt_52 ?_
      obtain rfl := Option.some.inj hf
      exact hret _ _ _ _ d_Vc_levelAt_53 hP hS
    · have hf := pv_t hf h
      refine lv_iconst (v := (0 : Int32)) hx hb d_Vc_levelAt_34 (by decide) ?_
      refine lv_goto (tgt := 46) hx hb d_Vc_levelAt_35 (by decide) ?_
      obtain ⟨hg, hf⟩ := pv_g hf
      refine pv_iast C hP hS (t0 := 0) (x := (0 : Int32)) (by omega) (fun f g => (fx_v4 hv _ _ f g)) rfl hg d_Vc_levelAt_46 (fun H locs hP hS => ?_)
      refine lv_aload_n hx hb d_Vc_levelAt_47 rfl (lv_at hl 0 rfl) ?_
      refine pv_get C hP (v := .ref (a (28 + 6 * v + 3))) (j := 11) (by omega) (fx_v0 hv _ _ _ _) fl_Vc_22 rfl d_Vc_levelAt_48 ?_
      refine lv_iload_n hx hb d_Vc_levelAt_51 rfl (lv_at hl 1 rfl) ?_
      obtain ⟨hg, hf⟩ := pv_g hf
      refine pv_iald C hP (t0 := 0) (by omega) (fx_v3 hv _ _ _ _) rfl hg d_Vc_levelAt_52 ?_
      obtain rfl := Option.some.inj hf
      exact hret _ _ _ _ d_Vc_levelAt_53 hP hS
def f_Vc_levelAt (v : Nat) (σ : pv_S) (x1 : Int32) (x2 : Int64) (x4 : Int32) : Option (Int32 × pv_S) := f_Vc_levelAt_0 v σ x1 x2 x4
def rm_Vc_levelAt : Room := { frames := 0, cells := 0, slots := 0, locals := 0 }
theorem c_Vc_levelAt {l : Launch} {D : va_G} {q : Nat → ClassId} {a t : Nat → Nat} {A : Nat → Prop} {v : Nat} (hv : v < 4) (hD : pv_D 52 a A) (hmv : pv_mv A (pv_ZX t A)) {σ : pv_S} {x1 : Int32} {x2 : Int64} {x4 : Int32} {out : (Int32 × pv_S)} (hf : f_Vc_levelAt v σ x1 x2 x4 = some out) : pv_Mi l y_Vc_levelAt (Cond.code y_Vc_levelAt prog_6_method_14_code 5 (some .int) :: pv_TB) rm_Vc_levelAt D pv_cl (pv_ty q) 52 a (pv_FX q a) A (pv_ZX t A) [.ref (a (28 + 6 * v)), .int x1, .long x2, .int x4] σ out :=
  pv_ofI (by decide) (Nat.le_of_ble_eq_true rfl) hD (fun p e s m args below meth c Q ls C hret hl hP => s_Vc_levelAt_0 hv C hmv (Nat.le_refl _) (Nat.le_refl _) hret hl hP va_S.rf hf)
theorem d_Vc_nextLevel_0 : decode prog_6_method_12_code 0 = .ok (.aload_n 0, 1) := by decide +kernel
theorem d_Vc_nextLevel_1 : decode prog_6_method_12_code 1 = .ok (.iload_n 1, 1) := by decide +kernel
theorem d_Vc_nextLevel_2 : decode prog_6_method_12_code 2 = .ok (.aload_n 0, 1) := by decide +kernel
theorem d_Vc_nextLevel_3 : decode prog_6_method_12_code 3 = .ok (.getfield 19, 3) := by decide +kernel
theorem d_Vc_nextLevel_6 : decode prog_6_method_12_code 6 = .ok (.iconst 0, 1) := by decide +kernel
theorem d_Vc_nextLevel_7 : decode prog_6_method_12_code 7 = .ok (.iaload, 1) := by decide +kernel
theorem d_Vc_nextLevel_8 : decode prog_6_method_12_code 8 = .ok (.ifCond .le 7, 3) := by decide +kernel
theorem d_Vc_nextLevel_11 : decode prog_6_method_12_code 11 = .ok (.iconst 1, 1) := by decide +kernel
theorem d_Vc_nextLevel_12 : decode prog_6_method_12_code 12 = .ok (.goto 4, 3) := by decide +kernel
theorem d_Vc_nextLevel_15 : decode prog_6_method_12_code 15 = .ok (.iconst 0, 1) := by decide +kernel
theorem d_Vc_nextLevel_16 : decode prog_6_method_12_code 16 = .ok (.invokevirtual 153, 3) := by decide +kernel
theorem d_Vc_nextLevel_19 : decode prog_6_method_12_code 19 = .ok (.aload_n 0, 1) := by decide +kernel
theorem d_Vc_nextLevel_20 : decode prog_6_method_12_code 20 = .ok (.getfield 22, 3) := by decide +kernel
theorem d_Vc_nextLevel_23 : decode prog_6_method_12_code 23 = .ok (.iload_n 1, 1) := by decide +kernel
theorem d_Vc_nextLevel_24 : decode prog_6_method_12_code 24 = .ok (.iaload, 1) := by decide +kernel
theorem d_Vc_nextLevel_25 : decode prog_6_method_12_code 25 = .ok (.i2l, 1) := by decide +kernel
theorem d_Vc_nextLevel_26 : decode prog_6_method_12_code 26 = .ok (.lstore_n 2, 1) := by decide +kernel
theorem d_Vc_nextLevel_27 : decode prog_6_method_12_code 27 = .ok (.aload_n 0, 1) := by decide +kernel
theorem d_Vc_nextLevel_28 : decode prog_6_method_12_code 28 = .ok (.getfield 25, 3) := by decide +kernel
theorem d_Vc_nextLevel_31 : decode prog_6_method_12_code 31 = .ok (.iload_n 1, 1) := by decide +kernel
theorem d_Vc_nextLevel_32 : decode prog_6_method_12_code 32 = .ok (.iaload, 1) := by decide +kernel
theorem d_Vc_nextLevel_33 : decode prog_6_method_12_code 33 = .ok (.tableswitch 109 (1) (4) #[31, 58, 109, 85], 31) := by decide +kernel
theorem d_Vc_nextLevel_64 : decode prog_6_method_12_code 64 = .ok (.aload_n 0, 1) := by decide +kernel
theorem d_Vc_nextLevel_65 : decode prog_6_method_12_code 65 = .ok (.iload_n 1, 1) := by decide +kernel
theorem d_Vc_nextLevel_66 : decode prog_6_method_12_code 66 = .ok (.ldc2_w 157, 3) := by decide +kernel
theorem d_Vc_nextLevel_69 : decode prog_6_method_12_code 69 = .ok (.lload_n 2, 1) := by decide +kernel
theorem d_Vc_nextLevel_70 : decode prog_6_method_12_code 70 = .ok (.iconst 0, 1) := by decide +kernel
theorem d_Vc_nextLevel_71 : decode prog_6_method_12_code 71 = .ok (.aload_n 0, 1) := by decide +kernel
theorem d_Vc_nextLevel_72 : decode prog_6_method_12_code 72 = .ok (.getfield 19, 3) := by decide +kernel
theorem d_Vc_nextLevel_75 : decode prog_6_method_12_code 75 = .ok (.iconst 1, 1) := by decide +kernel
theorem d_Vc_nextLevel_76 : decode prog_6_method_12_code 76 = .ok (.iaload, 1) := by decide +kernel
theorem d_Vc_nextLevel_77 : decode prog_6_method_12_code 77 = .ok (.invokestatic 159, 3) := by decide +kernel
theorem d_Vc_nextLevel_80 : decode prog_6_method_12_code 80 = .ok (.i2l, 1) := by decide +kernel
theorem d_Vc_nextLevel_81 : decode prog_6_method_12_code 81 = .ok (.ladd, 1) := by decide +kernel
theorem d_Vc_nextLevel_82 : decode prog_6_method_12_code 82 = .ok (.invokestatic 164, 3) := by decide +kernel
theorem d_Vc_nextLevel_85 : decode prog_6_method_12_code 85 = .ok (.ldc 130, 2) := by decide +kernel
theorem d_Vc_nextLevel_87 : decode prog_6_method_12_code 87 = .ok (.invokevirtual 168, 3) := by decide +kernel
theorem d_Vc_nextLevel_90 : decode prog_6_method_12_code 90 = .ok (.ireturn, 1) := by decide +kernel
theorem d_Vc_nextLevel_91 : decode prog_6_method_12_code 91 = .ok (.aload_n 0, 1) := by decide +kernel
theorem d_Vc_nextLevel_92 : decode prog_6_method_12_code 92 = .ok (.iload_n 1, 1) := by decide +kernel
theorem d_Vc_nextLevel_93 : decode prog_6_method_12_code 93 = .ok (.ldc2_w 172, 3) := by decide +kernel
theorem d_Vc_nextLevel_96 : decode prog_6_method_12_code 96 = .ok (.lload_n 2, 1) := by decide +kernel
theorem d_Vc_nextLevel_97 : decode prog_6_method_12_code 97 = .ok (.iconst 0, 1) := by decide +kernel
theorem d_Vc_nextLevel_98 : decode prog_6_method_12_code 98 = .ok (.aload_n 0, 1) := by decide +kernel
theorem d_Vc_nextLevel_99 : decode prog_6_method_12_code 99 = .ok (.getfield 19, 3) := by decide +kernel
theorem d_Vc_nextLevel_102 : decode prog_6_method_12_code 102 = .ok (.iconst 2, 1) := by decide +kernel
theorem d_Vc_nextLevel_103 : decode prog_6_method_12_code 103 = .ok (.iaload, 1) := by decide +kernel
theorem d_Vc_nextLevel_104 : decode prog_6_method_12_code 104 = .ok (.invokestatic 159, 3) := by decide +kernel
theorem d_Vc_nextLevel_107 : decode prog_6_method_12_code 107 = .ok (.i2l, 1) := by decide +kernel
theorem d_Vc_nextLevel_108 : decode prog_6_method_12_code 108 = .ok (.lsub, 1) := by decide +kernel
theorem d_Vc_nextLevel_109 : decode prog_6_method_12_code 109 = .ok (.invokestatic 174, 3) := by decide +kernel
theorem d_Vc_nextLevel_112 : decode prog_6_method_12_code 112 = .ok (.ldc 176, 2) := by decide +kernel
theorem d_Vc_nextLevel_114 : decode prog_6_method_12_code 114 = .ok (.invokevirtual 168, 3) := by decide +kernel
theorem d_Vc_nextLevel_117 : decode prog_6_method_12_code 117 = .ok (.ireturn, 1) := by decide +kernel
theorem d_Vc_nextLevel_118 : decode prog_6_method_12_code 118 = .ok (.aload_n 0, 1) := by decide +kernel
theorem d_Vc_nextLevel_119 : decode prog_6_method_12_code 119 = .ok (.iload_n 1, 1) := by decide +kernel
theorem d_Vc_nextLevel_120 : decode prog_6_method_12_code 120 = .ok (.lconst 0, 1) := by decide +kernel
theorem d_Vc_nextLevel_121 : decode prog_6_method_12_code 121 = .ok (.lload_n 2, 1) := by decide +kernel
theorem d_Vc_nextLevel_122 : decode prog_6_method_12_code 122 = .ok (.iconst 0, 1) := by decide +kernel
theorem d_Vc_nextLevel_123 : decode prog_6_method_12_code 123 = .ok (.aload_n 0, 1) := by decide +kernel
theorem d_Vc_nextLevel_124 : decode prog_6_method_12_code 124 = .ok (.getfield 19, 3) := by decide +kernel
theorem d_Vc_nextLevel_127 : decode prog_6_method_12_code 127 = .ok (.iconst 3, 1) := by decide +kernel
theorem d_Vc_nextLevel_128 : decode prog_6_method_12_code 128 = .ok (.iaload, 1) := by decide +kernel
theorem d_Vc_nextLevel_129 : decode prog_6_method_12_code 129 = .ok (.invokestatic 159, 3) := by decide +kernel
theorem d_Vc_nextLevel_132 : decode prog_6_method_12_code 132 = .ok (.i2l, 1) := by decide +kernel
theorem d_Vc_nextLevel_133 : decode prog_6_method_12_code 133 = .ok (.lsub, 1) := by decide +kernel
theorem d_Vc_nextLevel_134 : decode prog_6_method_12_code 134 = .ok (.invokestatic 174, 3) := by decide +kernel
theorem d_Vc_nextLevel_137 : decode prog_6_method_12_code 137 = .ok (.iconst 0, 1) := by decide +kernel
theorem d_Vc_nextLevel_138 : decode prog_6_method_12_code 138 = .ok (.invokevirtual 168, 3) := by decide +kernel
theorem d_Vc_nextLevel_141 : decode prog_6_method_12_code 141 = .ok (.ireturn, 1) := by decide +kernel
theorem d_Vc_nextLevel_142 : decode prog_6_method_12_code 142 = .ok (.aload_n 0, 1) := by decide +kernel
theorem d_Vc_nextLevel_143 : decode prog_6_method_12_code 143 = .ok (.getfield 22, 3) := by decide +kernel
theorem d_Vc_nextLevel_146 : decode prog_6_method_12_code 146 = .ok (.iload_n 1, 1) := by decide +kernel
theorem d_Vc_nextLevel_147 : decode prog_6_method_12_code 147 = .ok (.iaload, 1) := by decide +kernel
theorem d_Vc_nextLevel_148 : decode prog_6_method_12_code 148 = .ok (.ireturn, 1) := by decide +kernel
def f_Vc_nextLevel_16 (v : Nat) (σ : pv_S) (x1 : Int32) (s0 : Int32) (s1 : Int32) : Option (Int32 × pv_S) :=
  ((f_Vc_turnStage v σ s1 s0).bind fun q1 =>
(if pv_in x1 24 = true then
(if pv_in x1 24 = true then
(if (q1.1 (28 + 6 * v + 4) (x1).toNatClampNeg) = (1 : Int32) then
  (if pv_in (1 : Int32) 4 = true then
((f_Vc_levelAt v q1 x1 (if ((((q1.1 (28 + 6 * v + 3) (x1).toNatClampNeg)).toInt64) + (((if (0 : Int32) < (q1.1 (28 + 6 * v + 2) ((1 : Int32)).toNatClampNeg) then (q1.1 (28 + 6 * v + 2) ((1 : Int32)).toNatClampNeg) else (0 : Int32))).toInt64)) < (65536 : Int64) then ((((q1.1 (28 + 6 * v + 3) (x1).toNatClampNeg)).toInt64) + (((if (0 : Int32) < (q1.1 (28 + 6 * v + 2) ((1 : Int32)).toNatClampNeg) then (q1.1 (28 + 6 * v + 2) ((1 : Int32)).toNatClampNeg) else (0 : Int32))).toInt64)) else (65536 : Int64)) (65536 : Int32)).bind fun q2 =>
some (q2.1, q2.2))
  else none)
  else
(if (q1.1 (28 + 6 * v + 4) (x1).toNatClampNeg) = (2 : Int32) then
  (if pv_in (2 : Int32) 4 = true then
((f_Vc_levelAt v q1 x1 (if ((((q1.1 (28 + 6 * v + 3) (x1).toNatClampNeg)).toInt64) - (((if (0 : Int32) < (q1.1 (28 + 6 * v + 2) ((2 : Int32)).toNatClampNeg) then (q1.1 (28 + 6 * v + 2) ((2 : Int32)).toNatClampNeg) else (0 : Int32))).toInt64)) < (32768 : Int64) then (32768 : Int64) else ((((q1.1 (28 + 6 * v + 3) (x1).toNatClampNeg)).toInt64) - (((if (0 : Int32) < (q1.1 (28 + 6 * v + 2) ((2 : Int32)).toNatClampNeg) then (q1.1 (28 + 6 * v + 2) ((2 : Int32)).toNatClampNeg) else (0 : Int32))).toInt64))) (32768 : Int32)).bind fun q3 =>
some (q3.1, q3.2))
  else none)
  else
(if (q1.1 (28 + 6 * v + 4) (x1).toNatClampNeg) = (3 : Int32) then
  (if pv_in x1 24 = true then
some ((q1.1 (28 + 6 * v + 3) (x1).toNatClampNeg), q1)
  else none)
  else
(if (q1.1 (28 + 6 * v + 4) (x1).toNatClampNeg) = (4 : Int32) then
  (if pv_in (3 : Int32) 4 = true then
((f_Vc_levelAt v q1 x1 (if ((((q1.1 (28 + 6 * v + 3) (x1).toNatClampNeg)).toInt64) - (((if (0 : Int32) < (q1.1 (28 + 6 * v + 2) ((3 : Int32)).toNatClampNeg) then (q1.1 (28 + 6 * v + 2) ((3 : Int32)).toNatClampNeg) else (0 : Int32))).toInt64)) < (0 : Int64) then (0 : Int64) else ((((q1.1 (28 + 6 * v + 3) (x1).toNatClampNeg)).toInt64) - (((if (0 : Int32) < (q1.1 (28 + 6 * v + 2) ((3 : Int32)).toNatClampNeg) then (q1.1 (28 + 6 * v + 2) ((3 : Int32)).toNatClampNeg) else (0 : Int32))).toInt64))) (0 : Int32)).bind fun q4 =>
some (q4.1, q4.2))
  else none)
  else
  (if pv_in x1 24 = true then
some ((q1.1 (28 + 6 * v + 3) (x1).toNatClampNeg), q1)
  else none)))))
  else none)
  else none))
set_option maxHeartbeats 4000000 in
set_option maxRecDepth 100000 in
theorem s_Vc_nextLevel_16 {p : Program} {l : Launch} {e : Env} {R : Room} {s : State} {m : MethodId} {args : Array Value} {below : List Frame} {meth : Method} {c : Code} {Q : State → Prop} {D : va_G} {q : Nat → ClassId} {a t : Nat → Nat} {A : Nat → Prop} {v : Nat} (hv : v < 4) (C : pv_C p s m args c prog_6_method_12_code 4 "PatchVoices$Voice" pv_TB D pv_cl (pv_ty q) 52 a A (pv_ZX t A)) (hmv : pv_mv A (pv_ZX t A)) (hRf : 1 ≤ R.frames) (hRl : 24 ≤ R.locals) {out : (Int32 × pv_S)} (hret : pv_Ri p l e R s m args below meth c prog_6_method_12_code D pv_cl 52 a (pv_FX q a) A Q out) {σ : pv_S} {x1 : Int32} {s0 : Int32} {s1 : Int32} {H : Heap} {locs : List Loc} {ls : Array Slot} (hl : lv_has ls 4 [(0, .ref (a (28 + 6 * v))), (1, .int x1)]) (hP : pv_W D pv_cl 52 a (pv_FX q a) σ H) (hS : va_S A s.heap H locs) (hf : f_Vc_nextLevel_16 v σ x1 s0 s1 = some out) : W p l e R s m args below meth c H locs 0 0 Q (F0 m 16 ls [.int s0, .int s1, .ref (a (28 + 6 * v))]) := by
  unfold f_Vc_nextLevel_16 at hf
  have hx := C.1
  have hb := C.2.1
  obtain ⟨q1, hc, hf⟩ := pv_b hf
  refine pv_callVv C hmv pv_good hP hS (As := [.int s1, .int s0]) (rest := []) (by omega) (fx_v0 hv _ _ _ _) rfl (c_Vc_turnStage hv C.2.2.2.2.2.2.1 hmv hc) cv_Vc_153 ⟨rfl, rfl, Nat.le_trans (Nat.le_of_ble_eq_true rfl) hRf, Nat.le_trans (Nat.le_of_ble_eq_true rfl) hRl⟩ rfl hl.1 rfl (Nat.le_of_ble_eq_true rfl) d_Vc_nextLevel_16 ⟨Nat.zero_le _, Nat.zero_le _⟩ (fun H locs hP hS => ?_)
  refine lv_aload_n hx hb d_Vc_nextLevel_19 rfl (lv_at hl 0 rfl) ?_
  refine pv_get C hP (v := .ref (a (28 + 6 * v + 3))) (j := 11) (by omega) (fx_v0 hv _ _ _ _) fl_Vc_22 rfl d_Vc_nextLevel_20 ?_
  refine lv_iload_n hx hb d_Vc_nextLevel_23 rfl (lv_at hl 1 rfl) ?_
  obtain ⟨hg, hf⟩ := pv_g hf
  refine pv_iald C hP (t0 := 0) (by omega) (fx_v3 hv _ _ _ _) rfl hg d_Vc_nextLevel_24 ?_
  refine lv_i2l (v := ((q1.1 (28 + 6 * v + 3) (x1).toNatClampNeg)).toInt64) hx hb d_Vc_nextLevel_25 rfl ?_
  refine lv_lstore_n (lv' := [(2, .long (((q1.1 (28 + 6 * v + 3) (x1).toNatClampNeg)).toInt64)), (0, .ref (a (28 + 6 * v))), (1, .int x1)]) hx hb d_Vc_nextLevel_26 rfl hl (by decide) rfl (fun ls hl => ?_)
  refine lv_aload_n hx hb d_Vc_nextLevel_27 rfl (lv_at hl 1 rfl) ?_
  refine pv_get C hP (v := .ref (a (28 + 6 * v + 4))) (j := 12) (by omega) (fx_v0 hv _ _ _ _) fl_Vc_25 rfl d_Vc_nextLevel_28 ?_
  refine lv_iload_n hx hb d_Vc_nextLevel_31 rfl (lv_at hl 2 rfl) ?_
  obtain ⟨hg, hf⟩ := pv_g hf
  refine pv_iald C hP (t0 := 0) (by omega) (fx_v4 hv _ _ _ _) rfl hg d_Vc_nextLevel_32 ?_
  by_cases h1 : (q1.1 (28 + 6 * v + 4) (x1).toNatClampNeg) = (1 : Int32)
  · have hf := pv_t hf h1
    refine lv_tableIn (tgt := 64) hx hb d_Vc_nextLevel_33 (by rw [h1]; decide) (by rw [h1]; decide) (by first | (rw [h1]; done) | (rw [h1]; rfl)) (by decide) ?_
    refine lv_aload_n hx hb d_Vc_nextLevel_64 rfl (lv_at hl 1 rfl) ?_
    refine lv_iload_n hx hb d_Vc_nextLevel_65 rfl (lv_at hl 2 rfl) ?_
    refine lv_ldc2 (v := (65536 : Int64)) hx hb C.2.2.2.1 (C.2.2.2.2.1 _ w_989) d_Vc_nextLevel_66 ?_
    refine lv_lload_n hx hb d_Vc_nextLevel_69 rfl (lv_at hl 0 rfl) ?_
    refine lv_iconst (v := (0 : Int32)) hx hb d_Vc_nextLevel_70 (by decide) ?_
    refine lv_aload_n hx hb d_Vc_nextLevel_71 rfl (lv_at hl 1 rfl) ?_
    refine pv_get C hP (v := .ref (a (28 + 6 * v + 2))) (j := 10) (by omega) (fx_v0 hv _ _ _ _) fl_Vc_19 rfl d_Vc_nextLevel_72 ?_
    refine lv_iconst (v := (1 : Int32)) hx hb d_Vc_nextLevel_75 (by decide) ?_
    obtain ⟨hg, hf⟩ := pv_g hf
    refine pv_iald C hP (t0 := 0) (by omega) (fx_v2 hv _ _ _ _) rfl hg d_Vc_nextLevel_76 ?_
    refine va_mmax hx hb (C.2.2.1.trans hl.1.symm) C.2.2.2.1 (C.2.2.2.2.1 _ w_990) (C.2.2.2.2.1 _ w_718) (C.2.2.2.2.1 _ w_123) (C.2.2.2.2.1 _ w_719) (by omega) (Nat.le_trans (Nat.le_of_ble_eq_true rfl) hRl) (Nat.zero_le _) (Nat.zero_le _) d_Vc_nextLevel_77 ?_
    refine lv_i2l (v := ((if (0 : Int32) < (q1.1 (28 + 6 * v + 2) ((1 : Int32)).toNatClampNeg) then (q1.1 (28 + 6 * v + 2) ((1 : Int32)).toNatClampNeg) else (0 : Int32))).toInt64) hx hb d_Vc_nextLevel_80 rfl ?_
    refine lv_ladd hx hb d_Vc_nextLevel_81 ?_
    refine va_mmin_long hx hb (C.2.2.1.trans hl.1.symm) C.2.2.2.1 (C.2.2.2.2.1 _ w_991) (C.2.2.2.2.1 _ w_643) (C.2.2.2.2.1 _ w_123) (C.2.2.2.2.1 _ w_644) (by omega) (Nat.le_trans (Nat.le_of_ble_eq_true rfl) hRl) (Nat.zero_le _) (Nat.zero_le _) d_Vc_nextLevel_82 ?_
    refine lv_ldc (v := (65536 : Int32)) hx hb C.2.2.2.1 (C.2.2.2.2.1 _ w_968) d_Vc_nextLevel_85 ?_
    obtain ⟨q2, hc, hf⟩ := pv_b hf
    refine pv_callVi C hmv pv_good hP hS (As := [.int x1, .long (if ((((q1.1 (28 + 6 * v + 3) (x1).toNatClampNeg)).toInt64) + (((if (0 : Int32) < (q1.1 (28 + 6 * v + 2) ((1 : Int32)).toNatClampNeg) then (q1.1 (28 + 6 * v + 2) ((1 : Int32)).toNatClampNeg) else (0 : Int32))).toInt64)) < (65536 : Int64) then ((((q1.1 (28 + 6 * v + 3) (x1).toNatClampNeg)).toInt64) + (((if (0 : Int32) < (q1.1 (28 + 6 * v + 2) ((1 : Int32)).toNatClampNeg) then (q1.1 (28 + 6 * v + 2) ((1 : Int32)).toNatClampNeg) else (0 : Int32))).toInt64)) else (65536 : Int64)), .int (65536 : Int32)]) (rest := []) (by omega) (fx_v0 hv _ _ _ _) rfl (c_Vc_levelAt hv C.2.2.2.2.2.2.1 hmv hc) cv_Vc_168 ⟨rfl, rfl, Nat.le_trans (Nat.le_of_ble_eq_true rfl) hRf, Nat.le_trans (Nat.le_of_ble_eq_true rfl) hRl⟩ rfl hl.1 rfl (Nat.le_of_ble_eq_true rfl) d_Vc_nextLevel_87 ⟨Nat.zero_le _, Nat.zero_le _⟩ (fun H locs hP hS => ?_)
    obtain rfl := Option.some.inj hf
    exact hret _ _ _ _ d_Vc_nextLevel_90 hP hS
  · have hf := pv_f hf h1
    by_cases h2 : (q1.1 (28 + 6 * v + 4) (x1).toNatClampNeg) = (2 : Int32)
    · have hf := pv_t hf h2
      refine lv_tableIn (tgt := 91) hx hb d_Vc_nextLevel_33 (by rw [h2]; decide) (by rw [h2]; decide) (by first | (rw [h2]; done) | (rw [h2]; rfl)) (by decide) ?_
      refine lv_aload_n hx hb d_Vc_nextLevel_91 rfl (lv_at hl 1 rfl) ?_
      refine lv_iload_n hx hb d_Vc_nextLevel_92 rfl (lv_at hl 2 rfl) ?_
      refine lv_ldc2 (v := (32768 : Int64)) hx hb C.2.2.2.1 (C.2.2.2.2.1 _ w_996) d_Vc_nextLevel_93 ?_
      refine lv_lload_n hx hb d_Vc_nextLevel_96 rfl (lv_at hl 0 rfl) ?_
      refine lv_iconst (v := (0 : Int32)) hx hb d_Vc_nextLevel_97 (by decide) ?_
      refine lv_aload_n hx hb d_Vc_nextLevel_98 rfl (lv_at hl 1 rfl) ?_
      refine pv_get C hP (v := .ref (a (28 + 6 * v + 2))) (j := 10) (by omega) (fx_v0 hv _ _ _ _) fl_Vc_19 rfl d_Vc_nextLevel_99 ?_
      refine lv_iconst (v := (2 : Int32)) hx hb d_Vc_nextLevel_102 (by decide) ?_
      obtain ⟨hg, hf⟩ := pv_g hf
      refine pv_iald C hP (t0 := 0) (by omega) (fx_v2 hv _ _ _ _) rfl hg d_Vc_nextLevel_103 ?_
      refine va_mmax hx hb (C.2.2.1.trans hl.1.symm) C.2.2.2.1 (C.2.2.2.2.1 _ w_990) (C.2.2.2.2.1 _ w_718) (C.2.2.2.2.1 _ w_123) (C.2.2.2.2.1 _ w_719) (by omega) (Nat.le_trans (Nat.le_of_ble_eq_true rfl) hRl) (Nat.zero_le _) (Nat.zero_le _) d_Vc_nextLevel_104 ?_
      refine lv_i2l (v := ((if (0 : Int32) < (q1.1 (28 + 6 * v + 2) ((2 : Int32)).toNatClampNeg) then (q1.1 (28 + 6 * v + 2) ((2 : Int32)).toNatClampNeg) else (0 : Int32))).toInt64) hx hb d_Vc_nextLevel_107 rfl ?_
      refine lv_lsub hx hb d_Vc_nextLevel_108 ?_
      refine va_mmax_long hx hb (C.2.2.1.trans hl.1.symm) C.2.2.2.1 (C.2.2.2.2.1 _ w_997) (C.2.2.2.2.1 _ w_646) (C.2.2.2.2.1 _ w_123) (C.2.2.2.2.1 _ w_647) (by omega) (Nat.le_trans (Nat.le_of_ble_eq_true rfl) hRl) (Nat.zero_le _) (Nat.zero_le _) d_Vc_nextLevel_109 ?_
      refine lv_ldc (v := (32768 : Int32)) hx hb C.2.2.2.1 (C.2.2.2.2.1 _ w_998) d_Vc_nextLevel_112 ?_
      obtain ⟨q3, hc, hf⟩ := pv_b hf
      refine pv_callVi C hmv pv_good hP hS (As := [.int x1, .long (if ((((q1.1 (28 + 6 * v + 3) (x1).toNatClampNeg)).toInt64) - (((if (0 : Int32) < (q1.1 (28 + 6 * v + 2) ((2 : Int32)).toNatClampNeg) then (q1.1 (28 + 6 * v + 2) ((2 : Int32)).toNatClampNeg) else (0 : Int32))).toInt64)) < (32768 : Int64) then (32768 : Int64) else ((((q1.1 (28 + 6 * v + 3) (x1).toNatClampNeg)).toInt64) - (((if (0 : Int32) < (q1.1 (28 + 6 * v + 2) ((2 : Int32)).toNatClampNeg) then (q1.1 (28 + 6 * v + 2) ((2 : Int32)).toNatClampNeg) else (0 : Int32))).toInt64))), .int (32768 : Int32)]) (rest := []) (by omega) (fx_v0 hv _ _ _ _) rfl (c_Vc_levelAt hv C.2.2.2.2.2.2.1 hmv hc) cv_Vc_168 ⟨rfl, rfl, Nat.le_trans (Nat.le_of_ble_eq_true rfl) hRf, Nat.le_trans (Nat.le_of_ble_eq_true rfl) hRl⟩ rfl hl.1 rfl (Nat.le_of_ble_eq_true rfl) d_Vc_nextLevel_114 ⟨Nat.zero_le _, Nat.zero_le _⟩ (fun H locs hP hS => ?_)
      obtain rfl := Option.some.inj hf
      exact hret _ _ _ _ d_Vc_nextLevel_117 hP hS
    · have hf := pv_f hf h2
      by_cases h3 : (q1.1 (28 + 6 * v + 4) (x1).toNatClampNeg) = (3 : Int32)
      · have hf := pv_t hf h3
        refine lv_tableIn (tgt := 142) hx hb d_Vc_nextLevel_33 (by rw [h3]; decide) (by rw [h3]; decide) (by first | (rw [h3]; done) | (rw [h3]; rfl)) (by decide) ?_
        refine lv_aload_n hx hb d_Vc_nextLevel_142 rfl (lv_at hl 1 rfl) ?_
        refine pv_get C hP (v := .ref (a (28 + 6 * v + 3))) (j := 11) (by omega) (fx_v0 hv _ _ _ _) fl_Vc_22 rfl d_Vc_nextLevel_143 ?_
        refine lv_iload_n hx hb d_Vc_nextLevel_146 rfl (lv_at hl 2 rfl) ?_
        obtain ⟨hg, hf⟩ := pv_g hf
        refine pv_iald C hP (t0 := 0) (by omega) (fx_v3 hv _ _ _ _) rfl hg d_Vc_nextLevel_147 ?_
        obtain rfl := Option.some.inj hf
        exact hret _ _ _ _ d_Vc_nextLevel_148 hP hS
      · have hf := pv_f hf h3
        by_cases h4 : (q1.1 (28 + 6 * v + 4) (x1).toNatClampNeg) = (4 : Int32)
        · have hf := pv_t hf h4
          refine lv_tableIn (tgt := 118) hx hb d_Vc_nextLevel_33 (by rw [h4]; decide) (by rw [h4]; decide) (by first | (rw [h4]; done) | (rw [h4]; rfl)) (by decide) ?_
          refine lv_aload_n hx hb d_Vc_nextLevel_118 rfl (lv_at hl 1 rfl) ?_
          refine lv_iload_n hx hb d_Vc_nextLevel_119 rfl (lv_at hl 2 rfl) ?_
          refine lv_lconst (v := (0 : Int64)) hx hb d_Vc_nextLevel_120 (by decide) ?_
          refine lv_lload_n hx hb d_Vc_nextLevel_121 rfl (lv_at hl 0 rfl) ?_
          refine lv_iconst (v := (0 : Int32)) hx hb d_Vc_nextLevel_122 (by decide) ?_
          refine lv_aload_n hx hb d_Vc_nextLevel_123 rfl (lv_at hl 1 rfl) ?_
          refine pv_get C hP (v := .ref (a (28 + 6 * v + 2))) (j := 10) (by omega) (fx_v0 hv _ _ _ _) fl_Vc_19 rfl d_Vc_nextLevel_124 ?_
          refine lv_iconst (v := (3 : Int32)) hx hb d_Vc_nextLevel_127 (by decide) ?_
          obtain ⟨hg, hf⟩ := pv_g hf
          refine pv_iald C hP (t0 := 0) (by omega) (fx_v2 hv _ _ _ _) rfl hg d_Vc_nextLevel_128 ?_
          refine va_mmax hx hb (C.2.2.1.trans hl.1.symm) C.2.2.2.1 (C.2.2.2.2.1 _ w_990) (C.2.2.2.2.1 _ w_718) (C.2.2.2.2.1 _ w_123) (C.2.2.2.2.1 _ w_719) (by omega) (Nat.le_trans (Nat.le_of_ble_eq_true rfl) hRl) (Nat.zero_le _) (Nat.zero_le _) d_Vc_nextLevel_129 ?_
          refine lv_i2l (v := ((if (0 : Int32) < (q1.1 (28 + 6 * v + 2) ((3 : Int32)).toNatClampNeg) then (q1.1 (28 + 6 * v + 2) ((3 : Int32)).toNatClampNeg) else (0 : Int32))).toInt64) hx hb d_Vc_nextLevel_132 rfl ?_
          refine lv_lsub hx hb d_Vc_nextLevel_133 ?_
          refine va_mmax_long hx hb (C.2.2.1.trans hl.1.symm) C.2.2.2.1 (C.2.2.2.2.1 _ w_997) (C.2.2.2.2.1 _ w_646) (C.2.2.2.2.1 _ w_123) (C.2.2.2.2.1 _ w_647) (by omega) (Nat.le_trans (Nat.le_of_ble_eq_true rfl) hRl) (Nat.zero_le _) (Nat.zero_le _) d_Vc_nextLevel_134 ?_
          refine lv_iconst (v := (0 : Int32)) hx hb d_Vc_nextLevel_137 (by decide) ?_
          obtain ⟨q4, hc, hf⟩ := pv_b hf
          refine pv_callVi C hmv pv_good hP hS (As := [.int x1, .long (if ((((q1.1 (28 + 6 * v + 3) (x1).toNatClampNeg)).toInt64) - (((if (0 : Int32) < (q1.1 (28 + 6 * v + 2) ((3 : Int32)).toNatClampNeg) then (q1.1 (28 + 6 * v + 2) ((3 : Int32)).toNatClampNeg) else (0 : Int32))).toInt64)) < (0 : Int64) then (0 : Int64) else ((((q1.1 (28 + 6 * v + 3) (x1).toNatClampNeg)).toInt64) - (((if (0 : Int32) < (q1.1 (28 + 6 * v + 2) ((3 : Int32)).toNatClampNeg) then (q1.1 (28 + 6 * v + 2) ((3 : Int32)).toNatClampNeg) else (0 : Int32))).toInt64))), .int (0 : Int32)]) (rest := []) (by omega) (fx_v0 hv _ _ _ _) rfl (c_Vc_levelAt hv C.2.2.2.2.2.2.1 hmv hc) cv_Vc_168 ⟨rfl, rfl, Nat.le_trans (Nat.le_of_ble_eq_true rfl) hRf, Nat.le_trans (Nat.le_of_ble_eq_true rfl) hRl⟩ rfl hl.1 rfl (Nat.le_of_ble_eq_true rfl) d_Vc_nextLevel_138 ⟨Nat.zero_le _, Nat.zero_le _⟩ (fun H locs hP hS => ?_)
          obtain rfl := Option.some.inj hf
          exact hret _ _ _ _ d_Vc_nextLevel_141 hP hS
        · have hf := pv_f hf h4
          refine lv_tableOut (tgt := 142) hx hb d_Vc_nextLevel_33 (by have z0 := lv_neT h1 (a := 1) (by decide); have z1 := lv_neT h2 (a := 2) (by decide); have z2 := lv_neT h3 (a := 3) (by decide); have z3 := lv_neT h4 (a := 4) (by decide); omega) (by decide) ?_
          refine lv_aload_n hx hb d_Vc_nextLevel_142 rfl (lv_at hl 1 rfl) ?_
          refine pv_get C hP (v := .ref (a (28 + 6 * v + 3))) (j := 11) (by omega) (fx_v0 hv _ _ _ _) fl_Vc_22 rfl d_Vc_nextLevel_143 ?_
          refine lv_iload_n hx hb d_Vc_nextLevel_146 rfl (lv_at hl 2 rfl) ?_
          obtain ⟨hg, hf⟩ := pv_g hf
          refine pv_iald C hP (t0 := 0) (by omega) (fx_v3 hv _ _ _ _) rfl hg d_Vc_nextLevel_147 ?_
          obtain rfl := Option.some.inj hf
          exact hret _ _ _ _ d_Vc_nextLevel_148 hP hS
def f_Vc_nextLevel_0 (v : Nat) (σ : pv_S) (x1 : Int32) : Option (Int32 × pv_S) :=
  (if pv_in (0 : Int32) 4 = true then
(if (σ.1 (28 + 6 * v + 2) ((0 : Int32)).toNatClampNeg) ≤ 0 then
  f_Vc_nextLevel_16 v σ x1 (0 : Int32) x1
  else
  f_Vc_nextLevel_16 v σ x1 (1 : Int32) x1)
  else none)
set_option maxHeartbeats 4000000 in
set_option maxRecDepth 100000 in
theorem s_Vc_nextLevel_0 {p : Program} {l : Launch} {e : Env} {R : Room} {s : State} {m : MethodId} {args : Array Value} {below : List Frame} {meth : Method} {c : Code} {Q : State → Prop} {D : va_G} {q : Nat → ClassId} {a t : Nat → Nat} {A : Nat → Prop} {v : Nat} (hv : v < 4) (C : pv_C p s m args c prog_6_method_12_code 4 "PatchVoices$Voice" pv_TB D pv_cl (pv_ty q) 52 a A (pv_ZX t A)) (hmv : pv_mv A (pv_ZX t A)) (hRf : 1 ≤ R.frames) (hRl : 24 ≤ R.locals) {out : (Int32 × pv_S)} (hret : pv_Ri p l e R s m args below meth c prog_6_method_12_code D pv_cl 52 a (pv_FX q a) A Q out) {σ : pv_S} {x1 : Int32} {H : Heap} {locs : List Loc} {ls : Array Slot} (hl : lv_has ls 4 [(0, .ref (a (28 + 6 * v))), (1, .int x1)]) (hP : pv_W D pv_cl 52 a (pv_FX q a) σ H) (hS : va_S A s.heap H locs) (hf : f_Vc_nextLevel_0 v σ x1 = some out) : W p l e R s m args below meth c H locs 0 0 Q (F0 m 0 ls []) := by
  unfold f_Vc_nextLevel_0 at hf
  have hx := C.1
  have hb := C.2.1
  refine lv_aload_n hx hb d_Vc_nextLevel_0 rfl (lv_at hl 0 rfl) ?_
  refine lv_iload_n hx hb d_Vc_nextLevel_1 rfl (lv_at hl 1 rfl) ?_
  refine lv_aload_n hx hb d_Vc_nextLevel_2 rfl (lv_at hl 0 rfl) ?_
  refine pv_get C hP (v := .ref (a (28 + 6 * v + 2))) (j := 10) (by omega) (fx_v0 hv _ _ _ _) fl_Vc_19 rfl d_Vc_nextLevel_3 ?_
  refine lv_iconst (v := (0 : Int32)) hx hb d_Vc_nextLevel_6 (by decide) ?_
  obtain ⟨hg, hf⟩ := pv_g hf
  refine pv_iald C hP (t0 := 0) (by omega) (fx_v2 hv _ _ _ _) rfl hg d_Vc_nextLevel_7 ?_
  refine lv_if_le (tgt := 15) hx hb d_Vc_nextLevel_8 (by decide) (fun h => ?_) (fun h => ?_)
  · have hf := pv_t hf h
    refine lv_iconst (v := (0 : Int32)) hx hb d_Vc_nextLevel_15 (by decide) ?_
    exact s_Vc_nextLevel_16 hv C hmv hRf hRl hret (lv_sub hl [0, 1] rfl) hP hS hf
  · have hf := pv_f hf h
    refine lv_iconst (v := (1 : Int32)) hx hb d_Vc_nextLevel_11 (by decide) ?_
    refine lv_goto (tgt := 16) hx hb d_Vc_nextLevel_12 (by decide) ?_
    exact s_Vc_nextLevel_16 hv C hmv hRf hRl hret (lv_sub hl [0, 1] rfl) hP hS hf
def f_Vc_nextLevel (v : Nat) (σ : pv_S) (x1 : Int32) : Option (Int32 × pv_S) := f_Vc_nextLevel_0 v σ x1
def rm_Vc_nextLevel : Room := { frames := 1, cells := 0, slots := 0, locals := 24 }
theorem c_Vc_nextLevel {l : Launch} {D : va_G} {q : Nat → ClassId} {a t : Nat → Nat} {A : Nat → Prop} {v : Nat} (hv : v < 4) (hD : pv_D 52 a A) (hmv : pv_mv A (pv_ZX t A)) {σ : pv_S} {x1 : Int32} {out : (Int32 × pv_S)} (hf : f_Vc_nextLevel v σ x1 = some out) : pv_Mi l y_Vc_nextLevel (Cond.code y_Vc_nextLevel prog_6_method_12_code 4 (some .int) :: pv_TB) rm_Vc_nextLevel D pv_cl (pv_ty q) 52 a (pv_FX q a) A (pv_ZX t A) [.ref (a (28 + 6 * v)), .int x1] σ out :=
  pv_ofI (by decide) (Nat.le_of_ble_eq_true rfl) hD (fun p e s m args below meth c Q ls C hret hl hP => s_Vc_nextLevel_0 hv C hmv (Nat.le_refl _) (Nat.le_refl _) hret hl hP va_S.rf hf)
theorem d_Vc_nextLow_0 : decode prog_6_method_15_code 0 = .ok (.aload_n 0, 1) := by decide +kernel
theorem d_Vc_nextLow_1 : decode prog_6_method_15_code 1 = .ok (.getfield 22, 3) := by decide +kernel
theorem d_Vc_nextLow_4 : decode prog_6_method_15_code 4 = .ok (.iload_n 1, 1) := by decide +kernel
theorem d_Vc_nextLow_5 : decode prog_6_method_15_code 5 = .ok (.iaload, 1) := by decide +kernel
theorem d_Vc_nextLow_6 : decode prog_6_method_15_code 6 = .ok (.istore_n 2, 1) := by decide +kernel
theorem d_Vc_nextLow_7 : decode prog_6_method_15_code 7 = .ok (.aload_n 0, 1) := by decide +kernel
theorem d_Vc_nextLow_8 : decode prog_6_method_15_code 8 = .ok (.getfield 25, 3) := by decide +kernel
theorem d_Vc_nextLow_11 : decode prog_6_method_15_code 11 = .ok (.iload_n 1, 1) := by decide +kernel
theorem d_Vc_nextLow_12 : decode prog_6_method_15_code 12 = .ok (.iaload, 1) := by decide +kernel
theorem d_Vc_nextLow_13 : decode prog_6_method_15_code 13 = .ok (.istore_n 3, 1) := by decide +kernel
theorem d_Vc_nextLow_14 : decode prog_6_method_15_code 14 = .ok (.aload_n 0, 1) := by decide +kernel
theorem d_Vc_nextLow_15 : decode prog_6_method_15_code 15 = .ok (.getfield 19, 3) := by decide +kernel
theorem d_Vc_nextLow_18 : decode prog_6_method_15_code 18 = .ok (.iconst 1, 1) := by decide +kernel
theorem d_Vc_nextLow_19 : decode prog_6_method_15_code 19 = .ok (.iaload, 1) := by decide +kernel
theorem d_Vc_nextLow_20 : decode prog_6_method_15_code 20 = .ok (.istore 4, 2) := by decide +kernel
theorem d_Vc_nextLow_22 : decode prog_6_method_15_code 22 = .ok (.aload_n 0, 1) := by decide +kernel
theorem d_Vc_nextLow_23 : decode prog_6_method_15_code 23 = .ok (.getfield 19, 3) := by decide +kernel
theorem d_Vc_nextLow_26 : decode prog_6_method_15_code 26 = .ok (.iconst 0, 1) := by decide +kernel
theorem d_Vc_nextLow_27 : decode prog_6_method_15_code 27 = .ok (.iaload, 1) := by decide +kernel
theorem d_Vc_nextLow_28 : decode prog_6_method_15_code 28 = .ok (.i2l, 1) := by decide +kernel
theorem d_Vc_nextLow_29 : decode prog_6_method_15_code 29 = .ok (.iload_n 2, 1) := by decide +kernel
theorem d_Vc_nextLow_30 : decode prog_6_method_15_code 30 = .ok (.i2l, 1) := by decide +kernel
theorem d_Vc_nextLow_31 : decode prog_6_method_15_code 31 = .ok (.lsub, 1) := by decide +kernel
theorem d_Vc_nextLow_32 : decode prog_6_method_15_code 32 = .ok (.aload_n 0, 1) := by decide +kernel
theorem d_Vc_nextLow_33 : decode prog_6_method_15_code 33 = .ok (.getfield 19, 3) := by decide +kernel
theorem d_Vc_nextLow_36 : decode prog_6_method_15_code 36 = .ok (.iconst 2, 1) := by decide +kernel
theorem d_Vc_nextLow_37 : decode prog_6_method_15_code 37 = .ok (.iaload, 1) := by decide +kernel
theorem d_Vc_nextLow_38 : decode prog_6_method_15_code 38 = .ok (.i2l, 1) := by decide +kernel
theorem d_Vc_nextLow_39 : decode prog_6_method_15_code 39 = .ok (.iload_n 3, 1) := by decide +kernel
theorem d_Vc_nextLow_40 : decode prog_6_method_15_code 40 = .ok (.invokestatic 177, 3) := by decide +kernel
theorem d_Vc_nextLow_43 : decode prog_6_method_15_code 43 = .ok (.lsub, 1) := by decide +kernel
theorem d_Vc_nextLow_44 : decode prog_6_method_15_code 44 = .ok (.invokestatic 181, 3) := by decide +kernel
theorem d_Vc_nextLow_47 : decode prog_6_method_15_code 47 = .ok (.istore 5, 2) := by decide +kernel
theorem d_Vc_nextLow_49 : decode prog_6_method_15_code 49 = .ok (.iload_n 3, 1) := by decide +kernel
theorem d_Vc_nextLow_50 : decode prog_6_method_15_code 50 = .ok (.i2l, 1) := by decide +kernel
theorem d_Vc_nextLow_51 : decode prog_6_method_15_code 51 = .ok (.iload 4, 2) := by decide +kernel
theorem d_Vc_nextLow_53 : decode prog_6_method_15_code 53 = .ok (.i2l, 1) := by decide +kernel
theorem d_Vc_nextLow_54 : decode prog_6_method_15_code 54 = .ok (.iload 5, 2) := by decide +kernel
theorem d_Vc_nextLow_56 : decode prog_6_method_15_code 56 = .ok (.invokestatic 177, 3) := by decide +kernel
theorem d_Vc_nextLow_59 : decode prog_6_method_15_code 59 = .ok (.ladd, 1) := by decide +kernel
theorem d_Vc_nextLow_60 : decode prog_6_method_15_code 60 = .ok (.invokestatic 181, 3) := by decide +kernel
theorem d_Vc_nextLow_63 : decode prog_6_method_15_code 63 = .ok (.istore_n 3, 1) := by decide +kernel
theorem d_Vc_nextLow_64 : decode prog_6_method_15_code 64 = .ok (.iload_n 2, 1) := by decide +kernel
theorem d_Vc_nextLow_65 : decode prog_6_method_15_code 65 = .ok (.i2l, 1) := by decide +kernel
theorem d_Vc_nextLow_66 : decode prog_6_method_15_code 66 = .ok (.iload 4, 2) := by decide +kernel
theorem d_Vc_nextLow_68 : decode prog_6_method_15_code 68 = .ok (.i2l, 1) := by decide +kernel
theorem d_Vc_nextLow_69 : decode prog_6_method_15_code 69 = .ok (.iload_n 3, 1) := by decide +kernel
theorem d_Vc_nextLow_70 : decode prog_6_method_15_code 70 = .ok (.invokestatic 177, 3) := by decide +kernel
theorem d_Vc_nextLow_73 : decode prog_6_method_15_code 73 = .ok (.ladd, 1) := by decide +kernel
theorem d_Vc_nextLow_74 : decode prog_6_method_15_code 74 = .ok (.invokestatic 181, 3) := by decide +kernel
theorem d_Vc_nextLow_77 : decode prog_6_method_15_code 77 = .ok (.istore_n 2, 1) := by decide +kernel
theorem d_Vc_nextLow_78 : decode prog_6_method_15_code 78 = .ok (.aload_n 0, 1) := by decide +kernel
theorem d_Vc_nextLow_79 : decode prog_6_method_15_code 79 = .ok (.getfield 22, 3) := by decide +kernel
theorem d_Vc_nextLow_82 : decode prog_6_method_15_code 82 = .ok (.iload_n 1, 1) := by decide +kernel
theorem d_Vc_nextLow_83 : decode prog_6_method_15_code 83 = .ok (.iload_n 2, 1) := by decide +kernel
theorem d_Vc_nextLow_84 : decode prog_6_method_15_code 84 = .ok (.iastore, 1) := by decide +kernel
theorem d_Vc_nextLow_85 : decode prog_6_method_15_code 85 = .ok (.aload_n 0, 1) := by decide +kernel
theorem d_Vc_nextLow_86 : decode prog_6_method_15_code 86 = .ok (.getfield 25, 3) := by decide +kernel
theorem d_Vc_nextLow_89 : decode prog_6_method_15_code 89 = .ok (.iload_n 1, 1) := by decide +kernel
theorem d_Vc_nextLow_90 : decode prog_6_method_15_code 90 = .ok (.iload_n 3, 1) := by decide +kernel
theorem d_Vc_nextLow_91 : decode prog_6_method_15_code 91 = .ok (.iastore, 1) := by decide +kernel
theorem d_Vc_nextLow_92 : decode prog_6_method_15_code 92 = .ok (.iload_n 2, 1) := by decide +kernel
theorem d_Vc_nextLow_93 : decode prog_6_method_15_code 93 = .ok (.ireturn, 1) := by decide +kernel
def f_Vc_nextLow_0 (v : Nat) (σ : pv_S) (x1 : Int32) : Option (Int32 × pv_S) :=
  (if pv_in x1 24 = true then
(if pv_in x1 24 = true then
(if pv_in (1 : Int32) 4 = true then
(if pv_in (0 : Int32) 4 = true then
(if pv_in (2 : Int32) 4 = true then
((f_Kd_scaled σ (((σ.1 (28 + 6 * v + 2) ((2 : Int32)).toNatClampNeg)).toInt64) (σ.1 (28 + 6 * v + 4) (x1).toNatClampNeg)).bind fun q1 =>
((f_Kd_stopped q1.2 (((((σ.1 (28 + 6 * v + 2) ((0 : Int32)).toNatClampNeg)).toInt64) - (((σ.1 (28 + 6 * v + 3) (x1).toNatClampNeg)).toInt64)) - q1.1)).bind fun q2 =>
((f_Kd_scaled q2.2 (((σ.1 (28 + 6 * v + 2) ((1 : Int32)).toNatClampNeg)).toInt64) q2.1).bind fun q3 =>
((f_Kd_stopped q3.2 ((((σ.1 (28 + 6 * v + 4) (x1).toNatClampNeg)).toInt64) + q3.1)).bind fun q4 =>
((f_Kd_scaled q4.2 (((σ.1 (28 + 6 * v + 2) ((1 : Int32)).toNatClampNeg)).toInt64) q4.1).bind fun q5 =>
((f_Kd_stopped q5.2 ((((σ.1 (28 + 6 * v + 3) (x1).toNatClampNeg)).toInt64) + q5.1)).bind fun q6 =>
(if pv_in x1 24 = true then
(if pv_in x1 24 = true then
some (q6.1, (pv_uI (pv_uI q6.2 (28 + 6 * v + 3) (x1).toNatClampNeg q6.1) (28 + 6 * v + 4) (x1).toNatClampNeg q4.1))
  else none)
  else none)))))))
  else none)
  else none)
  else none)
  else none)
  else none)
set_option maxHeartbeats 4000000 in
set_option maxRecDepth 100000 in
theorem s_Vc_nextLow_0 {p : Program} {l : Launch} {e : Env} {R : Room} {s : State} {m : MethodId} {args : Array Value} {below : List Frame} {meth : Method} {c : Code} {Q : State → Prop} {D : va_G} {q : Nat → ClassId} {a t : Nat → Nat} {A : Nat → Prop} {v : Nat} (hv : v < 4) (C : pv_C p s m args c prog_6_method_15_code 6 "PatchVoices$Voice" pv_TB D pv_cl (pv_ty q) 52 a A (pv_ZX t A)) (hmv : pv_mv A (pv_ZX t A)) (hRf : 2 ≤ R.frames) (hRl : 38 ≤ R.locals) {out : (Int32 × pv_S)} (hret : pv_Ri p l e R s m args below meth c prog_6_method_15_code D pv_cl 52 a (pv_FX q a) A Q out) {σ : pv_S} {x1 : Int32} {H : Heap} {locs : List Loc} {ls : Array Slot} (hl : lv_has ls 6 [(0, .ref (a (28 + 6 * v))), (1, .int x1)]) (hP : pv_W D pv_cl 52 a (pv_FX q a) σ H) (hS : va_S A s.heap H locs) (hf : f_Vc_nextLow_0 v σ x1 = some out) : W p l e R s m args below meth c H locs 0 0 Q (F0 m 0 ls []) := by
  unfold f_Vc_nextLow_0 at hf
  have hx := C.1
  have hb := C.2.1
  refine lv_aload_n hx hb d_Vc_nextLow_0 rfl (lv_at hl 0 rfl) ?_
  refine pv_get C hP (v := .ref (a (28 + 6 * v + 3))) (j := 11) (by omega) (fx_v0 hv _ _ _ _) fl_Vc_22 rfl d_Vc_nextLow_1 ?_
  refine lv_iload_n hx hb d_Vc_nextLow_4 rfl (lv_at hl 1 rfl) ?_
  obtain ⟨hg, hf⟩ := pv_g hf
  refine pv_iald C hP (t0 := 0) (by omega) (fx_v3 hv _ _ _ _) rfl hg d_Vc_nextLow_5 ?_
  refine lv_istore_n (lv' := [(2, .int (σ.1 (28 + 6 * v + 3) (x1).toNatClampNeg)), (0, .ref (a (28 + 6 * v))), (1, .int x1)]) hx hb d_Vc_nextLow_6 rfl hl (by decide) rfl (fun ls hl => ?_)
  refine lv_aload_n hx hb d_Vc_nextLow_7 rfl (lv_at hl 1 rfl) ?_
  refine pv_get C hP (v := .ref (a (28 + 6 * v + 4))) (j := 12) (by omega) (fx_v0 hv _ _ _ _) fl_Vc_25 rfl d_Vc_nextLow_8 ?_
  refine lv_iload_n hx hb d_Vc_nextLow_11 rfl (lv_at hl 2 rfl) ?_
  obtain ⟨hg, hf⟩ := pv_g hf
  refine pv_iald C hP (t0 := 0) (by omega) (fx_v4 hv _ _ _ _) rfl hg d_Vc_nextLow_12 ?_
  refine lv_istore_n (lv' := [(3, .int (σ.1 (28 + 6 * v + 4) (x1).toNatClampNeg)), (2, .int (σ.1 (28 + 6 * v + 3) (x1).toNatClampNeg)), (0, .ref (a (28 + 6 * v))), (1, .int x1)]) hx hb d_Vc_nextLow_13 rfl hl (by decide) rfl (fun ls hl => ?_)
  refine lv_aload_n hx hb d_Vc_nextLow_14 rfl (lv_at hl 2 rfl) ?_
  refine pv_get C hP (v := .ref (a (28 + 6 * v + 2))) (j := 10) (by omega) (fx_v0 hv _ _ _ _) fl_Vc_19 rfl d_Vc_nextLow_15 ?_
  refine lv_iconst (v := (1 : Int32)) hx hb d_Vc_nextLow_18 (by decide) ?_
  obtain ⟨hg, hf⟩ := pv_g hf
  refine pv_iald C hP (t0 := 0) (by omega) (fx_v2 hv _ _ _ _) rfl hg d_Vc_nextLow_19 ?_
  refine lv_istore (lv' := [(4, .int (σ.1 (28 + 6 * v + 2) ((1 : Int32)).toNatClampNeg)), (3, .int (σ.1 (28 + 6 * v + 4) (x1).toNatClampNeg)), (2, .int (σ.1 (28 + 6 * v + 3) (x1).toNatClampNeg)), (0, .ref (a (28 + 6 * v))), (1, .int x1)]) hx hb d_Vc_nextLow_20 hl (by decide) rfl (fun ls hl => ?_)
  refine lv_aload_n hx hb d_Vc_nextLow_22 rfl (lv_at hl 3 rfl) ?_
  refine pv_get C hP (v := .ref (a (28 + 6 * v + 2))) (j := 10) (by omega) (fx_v0 hv _ _ _ _) fl_Vc_19 rfl d_Vc_nextLow_23 ?_
  refine lv_iconst (v := (0 : Int32)) hx hb d_Vc_nextLow_26 (by decide) ?_
  obtain ⟨hg, hf⟩ := pv_g hf
  refine pv_iald C hP (t0 := 0) (by omega) (fx_v2 hv _ _ _ _) rfl hg d_Vc_nextLow_27 ?_
  refine lv_i2l (v := ((σ.1 (28 + 6 * v + 2) ((0 : Int32)).toNatClampNeg)).toInt64) hx hb d_Vc_nextLow_28 rfl ?_
  refine lv_iload_n hx hb d_Vc_nextLow_29 rfl (lv_at hl 2 rfl) ?_
  refine lv_i2l (v := ((σ.1 (28 + 6 * v + 3) (x1).toNatClampNeg)).toInt64) hx hb d_Vc_nextLow_30 rfl ?_
  refine lv_lsub hx hb d_Vc_nextLow_31 ?_
  refine lv_aload_n hx hb d_Vc_nextLow_32 rfl (lv_at hl 3 rfl) ?_
  refine pv_get C hP (v := .ref (a (28 + 6 * v + 2))) (j := 10) (by omega) (fx_v0 hv _ _ _ _) fl_Vc_19 rfl d_Vc_nextLow_33 ?_
  refine lv_iconst (v := (2 : Int32)) hx hb d_Vc_nextLow_36 (by decide) ?_
  obtain ⟨hg, hf⟩ := pv_g hf
  refine pv_iald C hP (t0 := 0) (by omega) (fx_v2 hv _ _ _ _) rfl hg d_Vc_nextLow_37 ?_
  refine lv_i2l (v := ((σ.1 (28 + 6 * v + 2) ((2 : Int32)).toNatClampNeg)).toInt64) hx hb d_Vc_nextLow_38 rfl ?_
  refine lv_iload_n hx hb d_Vc_nextLow_39 rfl (lv_at hl 1 rfl) ?_
  obtain ⟨q1, hc, hf⟩ := pv_b hf
  refine pv_callSl C hmv pv_good hP hS (As := [.long (((σ.1 (28 + 6 * v + 2) ((2 : Int32)).toNatClampNeg)).toInt64), .int (σ.1 (28 + 6 * v + 4) (x1).toNatClampNeg)]) (rest := [.long ((((σ.1 (28 + 6 * v + 2) ((0 : Int32)).toNatClampNeg)).toInt64) - (((σ.1 (28 + 6 * v + 3) (x1).toNatClampNeg)).toInt64))]) (c_Kd_scaled C.2.2.2.2.2.2.1 hmv hc) cs_Vc_177 ⟨rfl, rfl, Nat.le_trans (Nat.le_of_ble_eq_true rfl) hRf, Nat.le_trans (Nat.le_of_ble_eq_true rfl) hRl⟩ rfl hl.1 rfl (Nat.le_of_ble_eq_true rfl) d_Vc_nextLow_40 ⟨Nat.zero_le _, Nat.zero_le _⟩ (fun H locs hP hS => ?_)
  refine lv_lsub hx hb d_Vc_nextLow_43 ?_
  obtain ⟨q2, hc, hf⟩ := pv_b hf
  refine pv_callSi C hmv pv_good hP hS (As := [.long (((((σ.1 (28 + 6 * v + 2) ((0 : Int32)).toNatClampNeg)).toInt64) - (((σ.1 (28 + 6 * v + 3) (x1).toNatClampNeg)).toInt64)) - q1.1)]) (rest := []) (c_Kd_stopped C.2.2.2.2.2.2.1 hmv hc) cs_Vc_181 ⟨rfl, rfl, Nat.le_trans (Nat.le_of_ble_eq_true rfl) hRf, Nat.le_trans (Nat.le_of_ble_eq_true rfl) hRl⟩ rfl hl.1 rfl (Nat.le_of_ble_eq_true rfl) d_Vc_nextLow_44 ⟨Nat.zero_le _, Nat.zero_le _⟩ (fun H locs hP hS => ?_)
  refine lv_istore (lv' := [(5, .int q2.1), (4, .int (σ.1 (28 + 6 * v + 2) ((1 : Int32)).toNatClampNeg)), (3, .int (σ.1 (28 + 6 * v + 4) (x1).toNatClampNeg)), (2, .int (σ.1 (28 + 6 * v + 3) (x1).toNatClampNeg)), (0, .ref (a (28 + 6 * v))), (1, .int x1)]) hx hb d_Vc_nextLow_47 hl (by decide) rfl (fun ls hl => ?_)
  refine lv_iload_n hx hb d_Vc_nextLow_49 rfl (lv_at hl 2 rfl) ?_
  refine lv_i2l (v := ((σ.1 (28 + 6 * v + 4) (x1).toNatClampNeg)).toInt64) hx hb d_Vc_nextLow_50 rfl ?_
  refine lv_iload hx hb d_Vc_nextLow_51 (lv_at hl 1 rfl) ?_
  refine lv_i2l (v := ((σ.1 (28 + 6 * v + 2) ((1 : Int32)).toNatClampNeg)).toInt64) hx hb d_Vc_nextLow_53 rfl ?_
  refine lv_iload hx hb d_Vc_nextLow_54 (lv_at hl 0 rfl) ?_
  obtain ⟨q3, hc, hf⟩ := pv_b hf
  refine pv_callSl C hmv pv_good hP hS (As := [.long (((σ.1 (28 + 6 * v + 2) ((1 : Int32)).toNatClampNeg)).toInt64), .int q2.1]) (rest := [.long (((σ.1 (28 + 6 * v + 4) (x1).toNatClampNeg)).toInt64)]) (c_Kd_scaled C.2.2.2.2.2.2.1 hmv hc) cs_Vc_177 ⟨rfl, rfl, Nat.le_trans (Nat.le_of_ble_eq_true rfl) hRf, Nat.le_trans (Nat.le_of_ble_eq_true rfl) hRl⟩ rfl hl.1 rfl (Nat.le_of_ble_eq_true rfl) d_Vc_nextLow_56 ⟨Nat.zero_le _, Nat.zero_le _⟩ (fun H locs hP hS => ?_)
  refine lv_ladd hx hb d_Vc_nextLow_59 ?_
  obtain ⟨q4, hc, hf⟩ := pv_b hf
  refine pv_callSi C hmv pv_good hP hS (As := [.long ((((σ.1 (28 + 6 * v + 4) (x1).toNatClampNeg)).toInt64) + q3.1)]) (rest := []) (c_Kd_stopped C.2.2.2.2.2.2.1 hmv hc) cs_Vc_181 ⟨rfl, rfl, Nat.le_trans (Nat.le_of_ble_eq_true rfl) hRf, Nat.le_trans (Nat.le_of_ble_eq_true rfl) hRl⟩ rfl hl.1 rfl (Nat.le_of_ble_eq_true rfl) d_Vc_nextLow_60 ⟨Nat.zero_le _, Nat.zero_le _⟩ (fun H locs hP hS => ?_)
  refine lv_istore_n (lv' := [(3, .int q4.1), (5, .int q2.1), (4, .int (σ.1 (28 + 6 * v + 2) ((1 : Int32)).toNatClampNeg)), (2, .int (σ.1 (28 + 6 * v + 3) (x1).toNatClampNeg)), (0, .ref (a (28 + 6 * v))), (1, .int x1)]) hx hb d_Vc_nextLow_63 rfl hl (by decide) rfl (fun ls hl => ?_)
  refine lv_iload_n hx hb d_Vc_nextLow_64 rfl (lv_at hl 3 rfl) ?_
  refine lv_i2l (v := ((σ.1 (28 + 6 * v + 3) (x1).toNatClampNeg)).toInt64) hx hb d_Vc_nextLow_65 rfl ?_
  refine lv_iload hx hb d_Vc_nextLow_66 (lv_at hl 2 rfl) ?_
  refine lv_i2l (v := ((σ.1 (28 + 6 * v + 2) ((1 : Int32)).toNatClampNeg)).toInt64) hx hb d_Vc_nextLow_68 rfl ?_
  refine lv_iload_n hx hb d_Vc_nextLow_69 rfl (lv_at hl 0 rfl) ?_
  obtain ⟨q5, hc, hf⟩ := pv_b hf
  refine pv_callSl C hmv pv_good hP hS (As := [.long (((σ.1 (28 + 6 * v + 2) ((1 : Int32)).toNatClampNeg)).toInt64), .int q4.1]) (rest := [.long (((σ.1 (28 + 6 * v + 3) (x1).toNatClampNeg)).toInt64)]) (c_Kd_scaled C.2.2.2.2.2.2.1 hmv hc) cs_Vc_177 ⟨rfl, rfl, Nat.le_trans (Nat.le_of_ble_eq_true rfl) hRf, Nat.le_trans (Nat.le_of_ble_eq_true rfl) hRl⟩ rfl hl.1 rfl (Nat.le_of_ble_eq_true rfl) d_Vc_nextLow_70 ⟨Nat.zero_le _, Nat.zero_le _⟩ (fun H locs hP hS => ?_)
  refine lv_ladd hx hb d_Vc_nextLow_73 ?_
  obtain ⟨q6, hc, hf⟩ := pv_b hf
  refine pv_callSi C hmv pv_good hP hS (As := [.long ((((σ.1 (28 + 6 * v + 3) (x1).toNatClampNeg)).toInt64) + q5.1)]) (rest := []) (c_Kd_stopped C.2.2.2.2.2.2.1 hmv hc) cs_Vc_181 ⟨rfl, rfl, Nat.le_trans (Nat.le_of_ble_eq_true rfl) hRf, Nat.le_trans (Nat.le_of_ble_eq_true rfl) hRl⟩ rfl hl.1 rfl (Nat.le_of_ble_eq_true rfl) d_Vc_nextLow_74 ⟨Nat.zero_le _, Nat.zero_le _⟩ (fun H locs hP hS => ?_)
  refine lv_istore_n (lv' := [(2, .int q6.1), (3, .int q4.1), (5, .int q2.1), (4, .int (σ.1 (28 + 6 * v + 2) ((1 : Int32)).toNatClampNeg)), (0, .ref (a (28 + 6 * v))), (1, .int x1)]) hx hb d_Vc_nextLow_77 rfl hl (by decide) rfl (fun ls hl => ?_)
  refine lv_aload_n hx hb d_Vc_nextLow_78 rfl (lv_at hl 4 rfl) ?_
  refine pv_get C hP (v := .ref (a (28 + 6 * v + 3))) (j := 11) (by omega) (fx_v0 hv _ _ _ _) fl_Vc_22 rfl d_Vc_nextLow_79 ?_
  refine lv_iload_n hx hb d_Vc_nextLow_82 rfl (lv_at hl 5 rfl) ?_
  refine lv_iload_n hx hb d_Vc_nextLow_83 rfl (lv_at hl 0 rfl) ?_
  obtain ⟨hg, hf⟩ := pv_g hf
  refine pv_iast C hP hS (t0 := 0) (x := q6.1) (by omega) (fun f g => (fx_v3 hv _ _ f g)) rfl hg d_Vc_nextLow_84 (fun H locs hP hS => ?_)
  refine lv_aload_n hx hb d_Vc_nextLow_85 rfl (lv_at hl 4 rfl) ?_
  refine pv_get C hP (v := .ref (a (28 + 6 * v + 4))) (j := 12) (by omega) (fx_v0 hv _ _ _ _) fl_Vc_25 rfl d_Vc_nextLow_86 ?_
  refine lv_iload_n hx hb d_Vc_nextLow_89 rfl (lv_at hl 5 rfl) ?_
  refine lv_iload_n hx hb d_Vc_nextLow_90 rfl (lv_at hl 1 rfl) ?_
  obtain ⟨hg, hf⟩ := pv_g hf
  refine pv_iast C hP hS (t0 := 0) (x := q4.1) (by omega) (fun f g => (fx_v4 hv _ _ f g)) rfl hg d_Vc_nextLow_91 (fun H locs hP hS => ?_)
  refine lv_iload_n hx hb d_Vc_nextLow_92 rfl (lv_at hl 0 rfl) ?_
  obtain rfl := Option.some.inj hf
  exact hret _ _ _ _ d_Vc_nextLow_93 hP hS
def f_Vc_nextLow (v : Nat) (σ : pv_S) (x1 : Int32) : Option (Int32 × pv_S) := f_Vc_nextLow_0 v σ x1
def rm_Vc_nextLow : Room := { frames := 2, cells := 0, slots := 0, locals := 38 }
theorem c_Vc_nextLow {l : Launch} {D : va_G} {q : Nat → ClassId} {a t : Nat → Nat} {A : Nat → Prop} {v : Nat} (hv : v < 4) (hD : pv_D 52 a A) (hmv : pv_mv A (pv_ZX t A)) {σ : pv_S} {x1 : Int32} {out : (Int32 × pv_S)} (hf : f_Vc_nextLow v σ x1 = some out) : pv_Mi l y_Vc_nextLow (Cond.code y_Vc_nextLow prog_6_method_15_code 6 (some .int) :: pv_TB) rm_Vc_nextLow D pv_cl (pv_ty q) 52 a (pv_FX q a) A (pv_ZX t A) [.ref (a (28 + 6 * v)), .int x1] σ out :=
  pv_ofI (by decide) (Nat.le_of_ble_eq_true rfl) hD (fun p e s m args below meth c Q ls C hret hl hP => s_Vc_nextLow_0 hv C hmv (Nat.le_refl _) (Nat.le_refl _) hret hl hP va_S.rf hf)
theorem d_Vc_nextHeld_0 : decode prog_6_method_16_code 0 = .ok (.aload_n 0, 1) := by decide +kernel
theorem d_Vc_nextHeld_1 : decode prog_6_method_16_code 1 = .ok (.getfield 19, 3) := by decide +kernel
theorem d_Vc_nextHeld_4 : decode prog_6_method_16_code 4 = .ok (.iconst 1, 1) := by decide +kernel
theorem d_Vc_nextHeld_5 : decode prog_6_method_16_code 5 = .ok (.iaload, 1) := by decide +kernel
theorem d_Vc_nextHeld_6 : decode prog_6_method_16_code 6 = .ok (.ifCond .le 7, 3) := by decide +kernel
theorem d_Vc_nextHeld_9 : decode prog_6_method_16_code 9 = .ok (.iconst 1, 1) := by decide +kernel
theorem d_Vc_nextHeld_10 : decode prog_6_method_16_code 10 = .ok (.goto 4, 3) := by decide +kernel
theorem d_Vc_nextHeld_13 : decode prog_6_method_16_code 13 = .ok (.iconst 0, 1) := by decide +kernel
theorem d_Vc_nextHeld_14 : decode prog_6_method_16_code 14 = .ok (.istore_n 2, 1) := by decide +kernel
theorem d_Vc_nextHeld_15 : decode prog_6_method_16_code 15 = .ok (.iload_n 2, 1) := by decide +kernel
theorem d_Vc_nextHeld_16 : decode prog_6_method_16_code 16 = .ok (.ifCond .eq 24, 3) := by decide +kernel
theorem d_Vc_nextHeld_19 : decode prog_6_method_16_code 19 = .ok (.aload_n 0, 1) := by decide +kernel
theorem d_Vc_nextHeld_20 : decode prog_6_method_16_code 20 = .ok (.getfield 25, 3) := by decide +kernel
theorem d_Vc_nextHeld_23 : decode prog_6_method_16_code 23 = .ok (.iload_n 1, 1) := by decide +kernel
theorem d_Vc_nextHeld_24 : decode prog_6_method_16_code 24 = .ok (.iaload, 1) := by decide +kernel
theorem d_Vc_nextHeld_25 : decode prog_6_method_16_code 25 = .ok (.ifCond .ne 15, 3) := by decide +kernel
theorem d_Vc_nextHeld_28 : decode prog_6_method_16_code 28 = .ok (.aload_n 0, 1) := by decide +kernel
theorem d_Vc_nextHeld_29 : decode prog_6_method_16_code 29 = .ok (.getfield 22, 3) := by decide +kernel
theorem d_Vc_nextHeld_32 : decode prog_6_method_16_code 32 = .ok (.iload_n 1, 1) := by decide +kernel
theorem d_Vc_nextHeld_33 : decode prog_6_method_16_code 33 = .ok (.aload_n 0, 1) := by decide +kernel
theorem d_Vc_nextHeld_34 : decode prog_6_method_16_code 34 = .ok (.getfield 19, 3) := by decide +kernel
theorem d_Vc_nextHeld_37 : decode prog_6_method_16_code 37 = .ok (.iconst 0, 1) := by decide +kernel
theorem d_Vc_nextHeld_38 : decode prog_6_method_16_code 38 = .ok (.iaload, 1) := by decide +kernel
theorem d_Vc_nextHeld_39 : decode prog_6_method_16_code 39 = .ok (.iastore, 1) := by decide +kernel
theorem d_Vc_nextHeld_40 : decode prog_6_method_16_code 40 = .ok (.aload_n 0, 1) := by decide +kernel
theorem d_Vc_nextHeld_41 : decode prog_6_method_16_code 41 = .ok (.getfield 25, 3) := by decide +kernel
theorem d_Vc_nextHeld_44 : decode prog_6_method_16_code 44 = .ok (.iload_n 1, 1) := by decide +kernel
theorem d_Vc_nextHeld_45 : decode prog_6_method_16_code 45 = .ok (.iload_n 2, 1) := by decide +kernel
theorem d_Vc_nextHeld_46 : decode prog_6_method_16_code 46 = .ok (.ifCond .eq 7, 3) := by decide +kernel
theorem d_Vc_nextHeld_49 : decode prog_6_method_16_code 49 = .ok (.iconst 1, 1) := by decide +kernel
theorem d_Vc_nextHeld_50 : decode prog_6_method_16_code 50 = .ok (.goto 4, 3) := by decide +kernel
theorem d_Vc_nextHeld_53 : decode prog_6_method_16_code 53 = .ok (.iconst 0, 1) := by decide +kernel
theorem d_Vc_nextHeld_54 : decode prog_6_method_16_code 54 = .ok (.iastore, 1) := by decide +kernel
theorem d_Vc_nextHeld_55 : decode prog_6_method_16_code 55 = .ok (.aload_n 0, 1) := by decide +kernel
theorem d_Vc_nextHeld_56 : decode prog_6_method_16_code 56 = .ok (.getfield 22, 3) := by decide +kernel
theorem d_Vc_nextHeld_59 : decode prog_6_method_16_code 59 = .ok (.iload_n 1, 1) := by decide +kernel
theorem d_Vc_nextHeld_60 : decode prog_6_method_16_code 60 = .ok (.iaload, 1) := by decide +kernel
theorem d_Vc_nextHeld_61 : decode prog_6_method_16_code 61 = .ok (.ireturn, 1) := by decide +kernel
def f_Vc_nextHeld_40 (v : Nat) (σ : pv_S) (x1 : Int32) (x2 : Int32) : Option (Int32 × pv_S) :=
  (if x2 = 0 then
  (if pv_in x1 24 = true then
(if pv_in x1 24 = true then
some (((pv_uI σ (28 + 6 * v + 4) (x1).toNatClampNeg (0 : Int32)).1 (28 + 6 * v + 3) (x1).toNatClampNeg), (pv_uI σ (28 + 6 * v + 4) (x1).toNatClampNeg (0 : Int32)))
  else none)
  else none)
  else
  (if pv_in x1 24 = true then
(if pv_in x1 24 = true then
some (((pv_uI σ (28 + 6 * v + 4) (x1).toNatClampNeg (1 : Int32)).1 (28 + 6 * v + 3) (x1).toNatClampNeg), (pv_uI σ (28 + 6 * v + 4) (x1).toNatClampNeg (1 : Int32)))
  else none)
  else none))
set_option maxHeartbeats 4000000 in
set_option maxRecDepth 100000 in
theorem s_Vc_nextHeld_40 {p : Program} {l : Launch} {e : Env} {R : Room} {s : State} {m : MethodId} {args : Array Value} {below : List Frame} {meth : Method} {c : Code} {Q : State → Prop} {D : va_G} {q : Nat → ClassId} {a t : Nat → Nat} {A : Nat → Prop} {v : Nat} (hv : v < 4) (C : pv_C p s m args c prog_6_method_16_code 3 "PatchVoices$Voice" pv_TB D pv_cl (pv_ty q) 52 a A (pv_ZX t A)) (hmv : pv_mv A (pv_ZX t A)) (hRf : 0 ≤ R.frames) (hRl : 0 ≤ R.locals) {out : (Int32 × pv_S)} (hret : pv_Ri p l e R s m args below meth c prog_6_method_16_code D pv_cl 52 a (pv_FX q a) A Q out) {σ : pv_S} {x1 : Int32} {x2 : Int32} {H : Heap} {locs : List Loc} {ls : Array Slot} (hl : lv_has ls 3 [(0, .ref (a (28 + 6 * v))), (1, .int x1), (2, .int x2)]) (hP : pv_W D pv_cl 52 a (pv_FX q a) σ H) (hS : va_S A s.heap H locs) (hf : f_Vc_nextHeld_40 v σ x1 x2 = some out) : W p l e R s m args below meth c H locs 0 0 Q (F0 m 40 ls []) := by
  unfold f_Vc_nextHeld_40 at hf
  have hx := C.1
  have hb := C.2.1
  refine lv_aload_n hx hb d_Vc_nextHeld_40 rfl (lv_at hl 0 rfl) ?_
  refine pv_get C hP (v := .ref (a (28 + 6 * v + 4))) (j := 12) (by omega) (fx_v0 hv _ _ _ _) fl_Vc_25 rfl d_Vc_nextHeld_41 ?_
  refine lv_iload_n hx hb d_Vc_nextHeld_44 rfl (lv_at hl 1 rfl) ?_
  refine lv_iload_n hx hb d_Vc_nextHeld_45 rfl (lv_at hl 2 rfl) ?_
  refine lv_if_eq (tgt := 53) hx hb d_Vc_nextHeld_46 (by decide) (fun h => ?_) (fun h => ?_)
  · have hf := pv_t hf h
    refine lv_iconst (v := (0 : Int32)) hx hb d_Vc_nextHeld_53 (by decide) ?_
    obtain ⟨hg, hf⟩ := pv_g hf
    refine pv_iast C hP hS (t0 := 0) (x := (0 : Int32)) (by omega) (fun f g => (fx_v4 hv _ _ f g)) rfl hg d_Vc_nextHeld_54 (fun H locs hP hS => ?_)
    refine lv_aload_n hx hb d_Vc_nextHeld_55 rfl (lv_at hl 0 rfl) ?_
    refine pv_get C hP (v := .ref (a (28 + 6 * v + 3))) (j := 11) (by omega) (fx_v0 hv _ _ _ _) fl_Vc_22 rfl d_Vc_nextHeld_56 ?_
    refine lv_iload_n hx hb d_Vc_nextHeld_59 rfl (lv_at hl 1 rfl) ?_
    obtain ⟨hg, hf⟩ := pv_g hf
    refine pv_iald C hP (t0 := 0) (by omega) (fx_v3 hv _ _ _ _) rfl hg d_Vc_nextHeld_60 ?_
    obtain rfl := Option.some.inj hf
    exact hret _ _ _ _ d_Vc_nextHeld_61 hP hS
  · have hf := pv_f hf h
    refine lv_iconst (v := (1 : Int32)) hx hb d_Vc_nextHeld_49 (by decide) ?_
    refine lv_goto (tgt := 54) hx hb d_Vc_nextHeld_50 (by decide) ?_
    obtain ⟨hg, hf⟩ := pv_g hf
    refine pv_iast C hP hS (t0 := 0) (x := (1 : Int32)) (by omega) (fun f g => (fx_v4 hv _ _ f g)) rfl hg d_Vc_nextHeld_54 (fun H locs hP hS => ?_)
    refine lv_aload_n hx hb d_Vc_nextHeld_55 rfl (lv_at hl 0 rfl) ?_
    refine pv_get C hP (v := .ref (a (28 + 6 * v + 3))) (j := 11) (by omega) (fx_v0 hv _ _ _ _) fl_Vc_22 rfl d_Vc_nextHeld_56 ?_
    refine lv_iload_n hx hb d_Vc_nextHeld_59 rfl (lv_at hl 1 rfl) ?_
    obtain ⟨hg, hf⟩ := pv_g hf
    refine pv_iald C hP (t0 := 0) (by omega) (fx_v3 hv _ _ _ _) rfl hg d_Vc_nextHeld_60 ?_
    obtain rfl := Option.some.inj hf
    exact hret _ _ _ _ d_Vc_nextHeld_61 hP hS
def f_Vc_nextHeld_14 (v : Nat) (σ : pv_S) (x1 : Int32) (s0 : Int32) : Option (Int32 × pv_S) :=
  (if s0 = 0 then
  f_Vc_nextHeld_40 v σ x1 s0
  else
  (if pv_in x1 24 = true then
(if (σ.1 (28 + 6 * v + 4) (x1).toNatClampNeg) = 0 then
  (if pv_in (0 : Int32) 4 = true then
(if pv_in x1 24 = true then
f_Vc_nextHeld_40 v (pv_uI σ (28 + 6 * v + 3) (x1).toNatClampNeg (σ.1 (28 + 6 * v + 2) ((0 : Int32)).toNatClampNeg)) x1 s0
  else none)
  else none)
  else
  f_Vc_nextHeld_40 v σ x1 s0)
  else none))
set_option maxHeartbeats 4000000 in
set_option maxRecDepth 100000 in
theorem s_Vc_nextHeld_14 {p : Program} {l : Launch} {e : Env} {R : Room} {s : State} {m : MethodId} {args : Array Value} {below : List Frame} {meth : Method} {c : Code} {Q : State → Prop} {D : va_G} {q : Nat → ClassId} {a t : Nat → Nat} {A : Nat → Prop} {v : Nat} (hv : v < 4) (C : pv_C p s m args c prog_6_method_16_code 3 "PatchVoices$Voice" pv_TB D pv_cl (pv_ty q) 52 a A (pv_ZX t A)) (hmv : pv_mv A (pv_ZX t A)) (hRf : 0 ≤ R.frames) (hRl : 0 ≤ R.locals) {out : (Int32 × pv_S)} (hret : pv_Ri p l e R s m args below meth c prog_6_method_16_code D pv_cl 52 a (pv_FX q a) A Q out) {σ : pv_S} {x1 : Int32} {s0 : Int32} {H : Heap} {locs : List Loc} {ls : Array Slot} (hl : lv_has ls 3 [(0, .ref (a (28 + 6 * v))), (1, .int x1)]) (hP : pv_W D pv_cl 52 a (pv_FX q a) σ H) (hS : va_S A s.heap H locs) (hf : f_Vc_nextHeld_14 v σ x1 s0 = some out) : W p l e R s m args below meth c H locs 0 0 Q (F0 m 14 ls [.int s0]) := by
  unfold f_Vc_nextHeld_14 at hf
  have hx := C.1
  have hb := C.2.1
  refine lv_istore_n (lv' := [(2, .int s0), (0, .ref (a (28 + 6 * v))), (1, .int x1)]) hx hb d_Vc_nextHeld_14 rfl hl (by decide) rfl (fun ls hl => ?_)
  refine lv_iload_n hx hb d_Vc_nextHeld_15 rfl (lv_at hl 0 rfl) ?_
  refine lv_if_eq (tgt := 40) hx hb d_Vc_nextHeld_16 (by decide) (fun h => ?_) (fun h => ?_)
  · have hf := pv_t hf h
    exact s_Vc_nextHeld_40 hv C hmv hRf hRl hret (lv_sub hl [1, 2, 0] rfl) hP hS hf
  · have hf := pv_f hf h
    refine lv_aload_n hx hb d_Vc_nextHeld_19 rfl (lv_at hl 1 rfl) ?_
    refine pv_get C hP (v := .ref (a (28 + 6 * v + 4))) (j := 12) (by omega) (fx_v0 hv _ _ _ _) fl_Vc_25 rfl d_Vc_nextHeld_20 ?_
    refine lv_iload_n hx hb d_Vc_nextHeld_23 rfl (lv_at hl 2 rfl) ?_
    obtain ⟨hg, hf⟩ := pv_g hf
    refine pv_iald C hP (t0 := 0) (by omega) (fx_v4 hv _ _ _ _) rfl hg d_Vc_nextHeld_24 ?_
    refine lv_if_ne (tgt := 40) hx hb d_Vc_nextHeld_25 (by decide) (fun h => ?_) (fun h => ?_)
    · have hf := pv_f hf h
      exact s_Vc_nextHeld_40 hv C hmv hRf hRl hret (lv_sub hl [1, 2, 0] rfl) hP hS hf
    · have hf := pv_t hf h
      refine lv_aload_n hx hb d_Vc_nextHeld_28 rfl (lv_at hl 1 rfl) ?_
      refine pv_get C hP (v := .ref (a (28 + 6 * v + 3))) (j := 11) (by omega) (fx_v0 hv _ _ _ _) fl_Vc_22 rfl d_Vc_nextHeld_29 ?_
      refine lv_iload_n hx hb d_Vc_nextHeld_32 rfl (lv_at hl 2 rfl) ?_
      refine lv_aload_n hx hb d_Vc_nextHeld_33 rfl (lv_at hl 1 rfl) ?_
      refine pv_get C hP (v := .ref (a (28 + 6 * v + 2))) (j := 10) (by omega) (fx_v0 hv _ _ _ _) fl_Vc_19 rfl d_Vc_nextHeld_34 ?_
      refine lv_iconst (v := (0 : Int32)) hx hb d_Vc_nextHeld_37 (by decide) ?_
      obtain ⟨hg, hf⟩ := pv_g hf
      refine pv_iald C hP (t0 := 0) (by omega) (fx_v2 hv _ _ _ _) rfl hg d_Vc_nextHeld_38 ?_
      obtain ⟨hg, hf⟩ := pv_g hf
      refine pv_iast C hP hS (t0 := 0) (x := (σ.1 (28 + 6 * v + 2) ((0 : Int32)).toNatClampNeg)) (by omega) (fun f g => (fx_v3 hv _ _ f g)) rfl hg d_Vc_nextHeld_39 (fun H locs hP hS => ?_)
      exact s_Vc_nextHeld_40 hv C hmv hRf hRl hret (lv_sub hl [1, 2, 0] rfl) hP hS hf
def f_Vc_nextHeld_0 (v : Nat) (σ : pv_S) (x1 : Int32) : Option (Int32 × pv_S) :=
  (if pv_in (1 : Int32) 4 = true then
(if (σ.1 (28 + 6 * v + 2) ((1 : Int32)).toNatClampNeg) ≤ 0 then
  f_Vc_nextHeld_14 v σ x1 (0 : Int32)
  else
  f_Vc_nextHeld_14 v σ x1 (1 : Int32))
  else none)
set_option maxHeartbeats 4000000 in
set_option maxRecDepth 100000 in
theorem s_Vc_nextHeld_0 {p : Program} {l : Launch} {e : Env} {R : Room} {s : State} {m : MethodId} {args : Array Value} {below : List Frame} {meth : Method} {c : Code} {Q : State → Prop} {D : va_G} {q : Nat → ClassId} {a t : Nat → Nat} {A : Nat → Prop} {v : Nat} (hv : v < 4) (C : pv_C p s m args c prog_6_method_16_code 3 "PatchVoices$Voice" pv_TB D pv_cl (pv_ty q) 52 a A (pv_ZX t A)) (hmv : pv_mv A (pv_ZX t A)) (hRf : 0 ≤ R.frames) (hRl : 0 ≤ R.locals) {out : (Int32 × pv_S)} (hret : pv_Ri p l e R s m args below meth c prog_6_method_16_code D pv_cl 52 a (pv_FX q a) A Q out) {σ : pv_S} {x1 : Int32} {H : Heap} {locs : List Loc} {ls : Array Slot} (hl : lv_has ls 3 [(0, .ref (a (28 + 6 * v))), (1, .int x1)]) (hP : pv_W D pv_cl 52 a (pv_FX q a) σ H) (hS : va_S A s.heap H locs) (hf : f_Vc_nextHeld_0 v σ x1 = some out) : W p l e R s m args below meth c H locs 0 0 Q (F0 m 0 ls []) := by
  unfold f_Vc_nextHeld_0 at hf
  have hx := C.1
  have hb := C.2.1
  refine lv_aload_n hx hb d_Vc_nextHeld_0 rfl (lv_at hl 0 rfl) ?_
  refine pv_get C hP (v := .ref (a (28 + 6 * v + 2))) (j := 10) (by omega) (fx_v0 hv _ _ _ _) fl_Vc_19 rfl d_Vc_nextHeld_1 ?_
  refine lv_iconst (v := (1 : Int32)) hx hb d_Vc_nextHeld_4 (by decide) ?_
  obtain ⟨hg, hf⟩ := pv_g hf
  refine pv_iald C hP (t0 := 0) (by omega) (fx_v2 hv _ _ _ _) rfl hg d_Vc_nextHeld_5 ?_
  refine lv_if_le (tgt := 13) hx hb d_Vc_nextHeld_6 (by decide) (fun h => ?_) (fun h => ?_)
  · have hf := pv_t hf h
    refine lv_iconst (v := (0 : Int32)) hx hb d_Vc_nextHeld_13 (by decide) ?_
    exact s_Vc_nextHeld_14 hv C hmv hRf hRl hret (lv_sub hl [0, 1] rfl) hP hS hf
  · have hf := pv_f hf h
    refine lv_iconst (v := (1 : Int32)) hx hb d_Vc_nextHeld_9 (by decide) ?_
    refine lv_goto (tgt := 14) hx hb d_Vc_nextHeld_10 (by decide) ?_
    exact s_Vc_nextHeld_14 hv C hmv hRf hRl hret (lv_sub hl [0, 1] rfl) hP hS hf
def f_Vc_nextHeld (v : Nat) (σ : pv_S) (x1 : Int32) : Option (Int32 × pv_S) := f_Vc_nextHeld_0 v σ x1
def rm_Vc_nextHeld : Room := { frames := 0, cells := 0, slots := 0, locals := 0 }
theorem c_Vc_nextHeld {l : Launch} {D : va_G} {q : Nat → ClassId} {a t : Nat → Nat} {A : Nat → Prop} {v : Nat} (hv : v < 4) (hD : pv_D 52 a A) (hmv : pv_mv A (pv_ZX t A)) {σ : pv_S} {x1 : Int32} {out : (Int32 × pv_S)} (hf : f_Vc_nextHeld v σ x1 = some out) : pv_Mi l y_Vc_nextHeld (Cond.code y_Vc_nextHeld prog_6_method_16_code 3 (some .int) :: pv_TB) rm_Vc_nextHeld D pv_cl (pv_ty q) 52 a (pv_FX q a) A (pv_ZX t A) [.ref (a (28 + 6 * v)), .int x1] σ out :=
  pv_ofI (by decide) (Nat.le_of_ble_eq_true rfl) hD (fun p e s m args below meth c Q ls C hret hl hP => s_Vc_nextHeld_0 hv C hmv (Nat.le_refl _) (Nat.le_refl _) hret hl hP va_S.rf hf)
theorem d_Vc_nextValue_0 : decode prog_6_method_10_code 0 = .ok (.iload_n 1, 1) := by decide +kernel
theorem d_Vc_nextValue_1 : decode prog_6_method_10_code 1 = .ok (.tableswitch 154 (7) (19) #[67, 76, 81, 95, 104, 104, 104, 104, 130, 136, 142, 154, 148], 67) := by decide +kernel
theorem d_Vc_nextValue_68 : decode prog_6_method_10_code 68 = .ok (.aload_n 3, 1) := by decide +kernel
theorem d_Vc_nextValue_69 : decode prog_6_method_10_code 69 = .ok (.aload_n 0, 1) := by decide +kernel
theorem d_Vc_nextValue_70 : decode prog_6_method_10_code 70 = .ok (.getfield 19, 3) := by decide +kernel
theorem d_Vc_nextValue_73 : decode prog_6_method_10_code 73 = .ok (.iconst 0, 1) := by decide +kernel
theorem d_Vc_nextValue_74 : decode prog_6_method_10_code 74 = .ok (.iaload, 1) := by decide +kernel
theorem d_Vc_nextValue_75 : decode prog_6_method_10_code 75 = .ok (.iaload, 1) := by decide +kernel
theorem d_Vc_nextValue_76 : decode prog_6_method_10_code 76 = .ok (.ireturn, 1) := by decide +kernel
theorem d_Vc_nextValue_77 : decode prog_6_method_10_code 77 = .ok (.aload_n 0, 1) := by decide +kernel
theorem d_Vc_nextValue_78 : decode prog_6_method_10_code 78 = .ok (.getfield 51, 3) := by decide +kernel
theorem d_Vc_nextValue_81 : decode prog_6_method_10_code 81 = .ok (.ireturn, 1) := by decide +kernel
theorem d_Vc_nextValue_82 : decode prog_6_method_10_code 82 = .ok (.aload_n 0, 1) := by decide +kernel
theorem d_Vc_nextValue_83 : decode prog_6_method_10_code 83 = .ok (.getfield 35, 3) := by decide +kernel
theorem d_Vc_nextValue_86 : decode prog_6_method_10_code 86 = .ok (.ifCond .eq 8, 3) := by decide +kernel
theorem d_Vc_nextValue_89 : decode prog_6_method_10_code 89 = .ok (.ldc 130, 2) := by decide +kernel
theorem d_Vc_nextValue_91 : decode prog_6_method_10_code 91 = .ok (.goto 4, 3) := by decide +kernel
theorem d_Vc_nextValue_94 : decode prog_6_method_10_code 94 = .ok (.iconst 0, 1) := by decide +kernel
theorem d_Vc_nextValue_95 : decode prog_6_method_10_code 95 = .ok (.ireturn, 1) := by decide +kernel
theorem d_Vc_nextValue_96 : decode prog_6_method_10_code 96 = .ok (.sipush 512, 3) := by decide +kernel
theorem d_Vc_nextValue_99 : decode prog_6_method_10_code 99 = .ok (.aload_n 0, 1) := by decide +kernel
theorem d_Vc_nextValue_100 : decode prog_6_method_10_code 100 = .ok (.getfield 54, 3) := by decide +kernel
theorem d_Vc_nextValue_103 : decode prog_6_method_10_code 103 = .ok (.imul, 1) := by decide +kernel
theorem d_Vc_nextValue_104 : decode prog_6_method_10_code 104 = .ok (.ireturn, 1) := by decide +kernel
theorem d_Vc_nextValue_105 : decode prog_6_method_10_code 105 = .ok (.aload_n 0, 1) := by decide +kernel
theorem d_Vc_nextValue_106 : decode prog_6_method_10_code 106 = .ok (.getfield 22, 3) := by decide +kernel
theorem d_Vc_nextValue_109 : decode prog_6_method_10_code 109 = .ok (.iload_n 2, 1) := by decide +kernel
theorem d_Vc_nextValue_110 : decode prog_6_method_10_code 110 = .ok (.dup2, 1) := by decide +kernel
theorem d_Vc_nextValue_111 : decode prog_6_method_10_code 111 = .ok (.iaload, 1) := by decide +kernel
theorem d_Vc_nextValue_112 : decode prog_6_method_10_code 112 = .ok (.aload_n 0, 1) := by decide +kernel
theorem d_Vc_nextValue_113 : decode prog_6_method_10_code 113 = .ok (.getfield 19, 3) := by decide +kernel
theorem d_Vc_nextValue_116 : decode prog_6_method_10_code 116 = .ok (.iconst 0, 1) := by decide +kernel
theorem d_Vc_nextValue_117 : decode prog_6_method_10_code 117 = .ok (.iaload, 1) := by decide +kernel
theorem d_Vc_nextValue_118 : decode prog_6_method_10_code 118 = .ok (.iadd, 1) := by decide +kernel
theorem d_Vc_nextValue_119 : decode prog_6_method_10_code 119 = .ok (.iastore, 1) := by decide +kernel
theorem d_Vc_nextValue_120 : decode prog_6_method_10_code 120 = .ok (.iload_n 1, 1) := by decide +kernel
theorem d_Vc_nextValue_121 : decode prog_6_method_10_code 121 = .ok (.aload_n 0, 1) := by decide +kernel
theorem d_Vc_nextValue_122 : decode prog_6_method_10_code 122 = .ok (.getfield 22, 3) := by decide +kernel
theorem d_Vc_nextValue_125 : decode prog_6_method_10_code 125 = .ok (.iload_n 2, 1) := by decide +kernel
theorem d_Vc_nextValue_126 : decode prog_6_method_10_code 126 = .ok (.iaload, 1) := by decide +kernel
theorem d_Vc_nextValue_127 : decode prog_6_method_10_code 127 = .ok (.invokestatic 131, 3) := by decide +kernel
theorem d_Vc_nextValue_130 : decode prog_6_method_10_code 130 = .ok (.ireturn, 1) := by decide +kernel
theorem d_Vc_nextValue_131 : decode prog_6_method_10_code 131 = .ok (.aload_n 0, 1) := by decide +kernel
theorem d_Vc_nextValue_132 : decode prog_6_method_10_code 132 = .ok (.iload_n 2, 1) := by decide +kernel
theorem d_Vc_nextValue_133 : decode prog_6_method_10_code 133 = .ok (.invokevirtual 135, 3) := by decide +kernel
theorem d_Vc_nextValue_136 : decode prog_6_method_10_code 136 = .ok (.ireturn, 1) := by decide +kernel
theorem d_Vc_nextValue_137 : decode prog_6_method_10_code 137 = .ok (.aload_n 0, 1) := by decide +kernel
theorem d_Vc_nextValue_138 : decode prog_6_method_10_code 138 = .ok (.iload_n 2, 1) := by decide +kernel
theorem d_Vc_nextValue_139 : decode prog_6_method_10_code 139 = .ok (.invokevirtual 139, 3) := by decide +kernel
theorem d_Vc_nextValue_142 : decode prog_6_method_10_code 142 = .ok (.ireturn, 1) := by decide +kernel
theorem d_Vc_nextValue_143 : decode prog_6_method_10_code 143 = .ok (.aload_n 0, 1) := by decide +kernel
theorem d_Vc_nextValue_144 : decode prog_6_method_10_code 144 = .ok (.iload_n 2, 1) := by decide +kernel
theorem d_Vc_nextValue_145 : decode prog_6_method_10_code 145 = .ok (.invokevirtual 142, 3) := by decide +kernel
theorem d_Vc_nextValue_148 : decode prog_6_method_10_code 148 = .ok (.ireturn, 1) := by decide +kernel
theorem d_Vc_nextValue_149 : decode prog_6_method_10_code 149 = .ok (.aload_n 0, 1) := by decide +kernel
theorem d_Vc_nextValue_150 : decode prog_6_method_10_code 150 = .ok (.iload_n 2, 1) := by decide +kernel
theorem d_Vc_nextValue_151 : decode prog_6_method_10_code 151 = .ok (.invokevirtual 145, 3) := by decide +kernel
theorem d_Vc_nextValue_154 : decode prog_6_method_10_code 154 = .ok (.ireturn, 1) := by decide +kernel
theorem d_Vc_nextValue_155 : decode prog_6_method_10_code 155 = .ok (.iload_n 1, 1) := by decide +kernel
theorem d_Vc_nextValue_156 : decode prog_6_method_10_code 156 = .ok (.aload_n 0, 1) := by decide +kernel
theorem d_Vc_nextValue_157 : decode prog_6_method_10_code 157 = .ok (.getfield 19, 3) := by decide +kernel
theorem d_Vc_nextValue_160 : decode prog_6_method_10_code 160 = .ok (.iconst 0, 1) := by decide +kernel
theorem d_Vc_nextValue_161 : decode prog_6_method_10_code 161 = .ok (.iaload, 1) := by decide +kernel
theorem d_Vc_nextValue_162 : decode prog_6_method_10_code 162 = .ok (.aload_n 0, 1) := by decide +kernel
theorem d_Vc_nextValue_163 : decode prog_6_method_10_code 163 = .ok (.getfield 19, 3) := by decide +kernel
theorem d_Vc_nextValue_166 : decode prog_6_method_10_code 166 = .ok (.iconst 1, 1) := by decide +kernel
theorem d_Vc_nextValue_167 : decode prog_6_method_10_code 167 = .ok (.iaload, 1) := by decide +kernel
theorem d_Vc_nextValue_168 : decode prog_6_method_10_code 168 = .ok (.aload_n 0, 1) := by decide +kernel
theorem d_Vc_nextValue_169 : decode prog_6_method_10_code 169 = .ok (.getfield 19, 3) := by decide +kernel
theorem d_Vc_nextValue_172 : decode prog_6_method_10_code 172 = .ok (.iconst 2, 1) := by decide +kernel
theorem d_Vc_nextValue_173 : decode prog_6_method_10_code 173 = .ok (.iaload, 1) := by decide +kernel
theorem d_Vc_nextValue_174 : decode prog_6_method_10_code 174 = .ok (.invokestatic 148, 3) := by decide +kernel
theorem d_Vc_nextValue_177 : decode prog_6_method_10_code 177 = .ok (.ireturn, 1) := by decide +kernel
def f_Vc_nextValue_0 (v : Nat) (σ : pv_S) (x1 : Int32) (x2 : Int32) : Option (Int32 × pv_S) :=
  (if x1 = (7 : Int32) then
  (if pv_in (0 : Int32) 4 = true then
(if pv_in (σ.1 (28 + 6 * v + 2) ((0 : Int32)).toNatClampNeg) 4 = true then
some ((σ.1 26 ((σ.1 (28 + 6 * v + 2) ((0 : Int32)).toNatClampNeg)).toNatClampNeg), σ)
  else none)
  else none)
  else
(if x1 = (8 : Int32) then
  some ((σ.1 (28 + 6 * v) 7), σ)
  else
(if x1 = (9 : Int32) then
  (if (σ.1 (28 + 6 * v) 1) = 0 then
  some ((0 : Int32), σ)
  else
  some ((65536 : Int32), σ))
  else
(if x1 = (10 : Int32) then
  some (((512 : Int32) * (σ.1 (28 + 6 * v) 8)), σ)
  else
(if x1 = (11 : Int32) then
  (if pv_in x2 24 = true then
(if pv_in (0 : Int32) 4 = true then
(if pv_in x2 24 = true then
(if pv_in x2 24 = true then
((f_Kd_waveValue (pv_uI σ (28 + 6 * v + 3) (x2).toNatClampNeg ((σ.1 (28 + 6 * v + 3) (x2).toNatClampNeg) + (σ.1 (28 + 6 * v + 2) ((0 : Int32)).toNatClampNeg))) x1 ((pv_uI σ (28 + 6 * v + 3) (x2).toNatClampNeg ((σ.1 (28 + 6 * v + 3) (x2).toNatClampNeg) + (σ.1 (28 + 6 * v + 2) ((0 : Int32)).toNatClampNeg))).1 (28 + 6 * v + 3) (x2).toNatClampNeg)).bind fun q1 =>
some (q1.1, q1.2))
  else none)
  else none)
  else none)
  else none)
  else
(if x1 = (12 : Int32) then
  (if pv_in x2 24 = true then
(if pv_in (0 : Int32) 4 = true then
(if pv_in x2 24 = true then
(if pv_in x2 24 = true then
((f_Kd_waveValue (pv_uI σ (28 + 6 * v + 3) (x2).toNatClampNeg ((σ.1 (28 + 6 * v + 3) (x2).toNatClampNeg) + (σ.1 (28 + 6 * v + 2) ((0 : Int32)).toNatClampNeg))) x1 ((pv_uI σ (28 + 6 * v + 3) (x2).toNatClampNeg ((σ.1 (28 + 6 * v + 3) (x2).toNatClampNeg) + (σ.1 (28 + 6 * v + 2) ((0 : Int32)).toNatClampNeg))).1 (28 + 6 * v + 3) (x2).toNatClampNeg)).bind fun q2 =>
some (q2.1, q2.2))
  else none)
  else none)
  else none)
  else none)
  else
(if x1 = (13 : Int32) then
  (if pv_in x2 24 = true then
(if pv_in (0 : Int32) 4 = true then
(if pv_in x2 24 = true then
(if pv_in x2 24 = true then
((f_Kd_waveValue (pv_uI σ (28 + 6 * v + 3) (x2).toNatClampNeg ((σ.1 (28 + 6 * v + 3) (x2).toNatClampNeg) + (σ.1 (28 + 6 * v + 2) ((0 : Int32)).toNatClampNeg))) x1 ((pv_uI σ (28 + 6 * v + 3) (x2).toNatClampNeg ((σ.1 (28 + 6 * v + 3) (x2).toNatClampNeg) + (σ.1 (28 + 6 * v + 2) ((0 : Int32)).toNatClampNeg))).1 (28 + 6 * v + 3) (x2).toNatClampNeg)).bind fun q3 =>
some (q3.1, q3.2))
  else none)
  else none)
  else none)
  else none)
  else
(if x1 = (14 : Int32) then
  (if pv_in x2 24 = true then
(if pv_in (0 : Int32) 4 = true then
(if pv_in x2 24 = true then
(if pv_in x2 24 = true then
((f_Kd_waveValue (pv_uI σ (28 + 6 * v + 3) (x2).toNatClampNeg ((σ.1 (28 + 6 * v + 3) (x2).toNatClampNeg) + (σ.1 (28 + 6 * v + 2) ((0 : Int32)).toNatClampNeg))) x1 ((pv_uI σ (28 + 6 * v + 3) (x2).toNatClampNeg ((σ.1 (28 + 6 * v + 3) (x2).toNatClampNeg) + (σ.1 (28 + 6 * v + 2) ((0 : Int32)).toNatClampNeg))).1 (28 + 6 * v + 3) (x2).toNatClampNeg)).bind fun q4 =>
some (q4.1, q4.2))
  else none)
  else none)
  else none)
  else none)
  else
(if x1 = (15 : Int32) then
  ((f_Vc_nextNoise v σ x2).bind fun q5 =>
some (q5.1, q5.2))
  else
(if x1 = (16 : Int32) then
  ((f_Vc_nextLevel v σ x2).bind fun q6 =>
some (q6.1, q6.2))
  else
(if x1 = (17 : Int32) then
  ((f_Vc_nextLow v σ x2).bind fun q7 =>
some (q7.1, q7.2))
  else
(if x1 = (18 : Int32) then
  (if pv_in (0 : Int32) 4 = true then
(if pv_in (1 : Int32) 4 = true then
(if pv_in (2 : Int32) 4 = true then
((f_Kd_plainValue σ x1 (σ.1 (28 + 6 * v + 2) ((0 : Int32)).toNatClampNeg) (σ.1 (28 + 6 * v + 2) ((1 : Int32)).toNatClampNeg) (σ.1 (28 + 6 * v + 2) ((2 : Int32)).toNatClampNeg)).bind fun q8 =>
some (q8.1, q8.2))
  else none)
  else none)
  else none)
  else
(if x1 = (19 : Int32) then
  ((f_Vc_nextHeld v σ x2).bind fun q9 =>
some (q9.1, q9.2))
  else
  (if pv_in (0 : Int32) 4 = true then
(if pv_in (1 : Int32) 4 = true then
(if pv_in (2 : Int32) 4 = true then
((f_Kd_plainValue σ x1 (σ.1 (28 + 6 * v + 2) ((0 : Int32)).toNatClampNeg) (σ.1 (28 + 6 * v + 2) ((1 : Int32)).toNatClampNeg) (σ.1 (28 + 6 * v + 2) ((2 : Int32)).toNatClampNeg)).bind fun q10 =>
some (q10.1, q10.2))
  else none)
  else none)
  else none))))))))))))))
set_option maxHeartbeats 4000000 in
set_option maxRecDepth 100000 in
theorem s_Vc_nextValue_0 {p : Program} {l : Launch} {e : Env} {R : Room} {s : State} {m : MethodId} {args : Array Value} {below : List Frame} {meth : Method} {c : Code} {Q : State → Prop} {D : va_G} {q : Nat → ClassId} {a t : Nat → Nat} {A : Nat → Prop} {v : Nat} (hv : v < 4) (C : pv_C p s m args c prog_6_method_10_code 4 "PatchVoices$Voice" pv_TB D pv_cl (pv_ty q) 52 a A (pv_ZX t A)) (hmv : pv_mv A (pv_ZX t A)) (hRf : 3 ≤ R.frames) (hRl : 63 ≤ R.locals) {out : (Int32 × pv_S)} (hret : pv_Ri p l e R s m args below meth c prog_6_method_10_code D pv_cl 52 a (pv_FX q a) A Q out) {σ : pv_S} {x1 : Int32} {x2 : Int32} {H : Heap} {locs : List Loc} {ls : Array Slot} (hl : lv_has ls 4 [(0, .ref (a (28 + 6 * v))), (1, .int x1), (2, .int x2), (3, .ref (a 26))]) (hP : pv_W D pv_cl 52 a (pv_FX q a) σ H) (hS : va_S A s.heap H locs) (hf : f_Vc_nextValue_0 v σ x1 x2 = some out) : W p l e R s m args below meth c H locs 0 0 Q (F0 m 0 ls []) := by
  unfold f_Vc_nextValue_0 at hf
  have hx := C.1
  have hb := C.2.1
  refine lv_iload_n hx hb d_Vc_nextValue_0 rfl (lv_at hl 1 rfl) ?_
  by_cases h7 : x1 = (7 : Int32)
  · have hf := pv_t hf h7
    refine lv_tableIn (tgt := 68) hx hb d_Vc_nextValue_1 (by rw [h7]; decide) (by rw [h7]; decide) (by first | (rw [h7]; done) | (rw [h7]; rfl)) (by decide) ?_
    refine lv_aload_n hx hb d_Vc_nextValue_68 rfl (lv_at hl 3 rfl) ?_
    refine lv_aload_n hx hb d_Vc_nextValue_69 rfl (lv_at hl 0 rfl) ?_
    refine pv_get C hP (v := .ref (a (28 + 6 * v + 2))) (j := 10) (by omega) (fx_v0 hv _ _ _ _) fl_Vc_19 rfl d_Vc_nextValue_70 ?_
    refine lv_iconst (v := (0 : Int32)) hx hb d_Vc_nextValue_73 (by decide) ?_
    obtain ⟨hg, hf⟩ := pv_g hf
    refine pv_iald C hP (t0 := 0) (by omega) (fx_v2 hv _ _ _ _) rfl hg d_Vc_nextValue_74 ?_
    obtain ⟨hg, hf⟩ := pv_g hf
    refine pv_iald C hP (t0 := 0) (by decide) (fx_26 _ _ _ _) rfl hg d_Vc_nextValue_75 ?_
    obtain rfl := Option.some.inj hf
    exact hret _ _ _ _ d_Vc_nextValue_76 hP hS
  · have hf := pv_f hf h7
    by_cases h8 : x1 = (8 : Int32)
    · have hf := pv_t hf h8
      refine lv_tableIn (tgt := 77) hx hb d_Vc_nextValue_1 (by rw [h8]; decide) (by rw [h8]; decide) (by first | (rw [h8]; done) | (rw [h8]; rfl)) (by decide) ?_
      refine lv_aload_n hx hb d_Vc_nextValue_77 rfl (lv_at hl 0 rfl) ?_
      refine pv_get C hP (v := .int (σ.1 (28 + 6 * v) 7)) (j := 7) (by omega) (fx_v0 hv _ _ _ _) fl_Vc_51 rfl d_Vc_nextValue_78 ?_
      obtain rfl := Option.some.inj hf
      exact hret _ _ _ _ d_Vc_nextValue_81 hP hS
    · have hf := pv_f hf h8
      by_cases h9 : x1 = (9 : Int32)
      · have hf := pv_t hf h9
        refine lv_tableIn (tgt := 82) hx hb d_Vc_nextValue_1 (by rw [h9]; decide) (by rw [h9]; decide) (by first | (rw [h9]; done) | (rw [h9]; rfl)) (by decide) ?_
        refine lv_aload_n hx hb d_Vc_nextValue_82 rfl (lv_at hl 0 rfl) ?_
        refine pv_get C hP (v := .int (σ.1 (28 + 6 * v) 1)) (j := 1) (by omega) (fx_v0 hv _ _ _ _) fl_Vc_35 rfl d_Vc_nextValue_83 ?_
        refine lv_if_eq (tgt := 94) hx hb d_Vc_nextValue_86 (by decide) (fun h => ?_) (fun h => ?_)
        · have hf := pv_t hf h
          refine lv_iconst (v := (0 : Int32)) hx hb d_Vc_nextValue_94 (by decide) ?_
          obtain rfl := Option.some.inj hf
          exact hret _ _ _ _ d_Vc_nextValue_95 hP hS
        · have hf := pv_f hf h
          refine lv_ldc (v := (65536 : Int32)) hx hb C.2.2.2.1 (C.2.2.2.2.1 _ w_968) d_Vc_nextValue_89 ?_
          refine lv_goto (tgt := 95) hx hb d_Vc_nextValue_91 (by decide) ?_
          obtain rfl := Option.some.inj hf
          exact hret _ _ _ _ d_Vc_nextValue_95 hP hS
      · have hf := pv_f hf h9
        by_cases h10 : x1 = (10 : Int32)
        · have hf := pv_t hf h10
          refine lv_tableIn (tgt := 96) hx hb d_Vc_nextValue_1 (by rw [h10]; decide) (by rw [h10]; decide) (by first | (rw [h10]; done) | (rw [h10]; rfl)) (by decide) ?_
          refine lv_sipush (v := (512 : Int32)) hx hb d_Vc_nextValue_96 (by decide) ?_
          refine lv_aload_n hx hb d_Vc_nextValue_99 rfl (lv_at hl 0 rfl) ?_
          refine pv_get C hP (v := .int (σ.1 (28 + 6 * v) 8)) (j := 8) (by omega) (fx_v0 hv _ _ _ _) fl_Vc_54 rfl d_Vc_nextValue_100 ?_
          refine lv_imul hx hb d_Vc_nextValue_103 ?_
          obtain rfl := Option.some.inj hf
          exact hret _ _ _ _ d_Vc_nextValue_104 hP hS
        · have hf := pv_f hf h10
          by_cases h11 : x1 = (11 : Int32)
          · have hf := pv_t hf h11
            refine lv_tableIn (tgt := 105) hx hb d_Vc_nextValue_1 (by rw [h11]; decide) (by rw [h11]; decide) (by first | (rw [h11]; done) | (rw [h11]; rfl)) (by decide) ?_
            refine lv_aload_n hx hb d_Vc_nextValue_105 rfl (lv_at hl 0 rfl) ?_
            refine pv_get C hP (v := .ref (a (28 + 6 * v + 3))) (j := 11) (by omega) (fx_v0 hv _ _ _ _) fl_Vc_22 rfl d_Vc_nextValue_106 ?_
            refine lv_iload_n hx hb d_Vc_nextValue_109 rfl (lv_at hl 2 rfl) ?_
            refine lv_dup2_11 hx hb d_Vc_nextValue_110 rfl rfl ?_
            obtain ⟨hg, hf⟩ := pv_g hf
            refine pv_iald C hP (t0 := 0) (by omega) (fx_v3 hv _ _ _ _) rfl hg d_Vc_nextValue_111 ?_
            refine lv_aload_n hx hb d_Vc_nextValue_112 rfl (lv_at hl 0 rfl) ?_
            refine pv_get C hP (v := .ref (a (28 + 6 * v + 2))) (j := 10) (by omega) (fx_v0 hv _ _ _ _) fl_Vc_19 rfl d_Vc_nextValue_113 ?_
            refine lv_iconst (v := (0 : Int32)) hx hb d_Vc_nextValue_116 (by decide) ?_
            obtain ⟨hg, hf⟩ := pv_g hf
            refine pv_iald C hP (t0 := 0) (by omega) (fx_v2 hv _ _ _ _) rfl hg d_Vc_nextValue_117 ?_
            refine lv_iadd hx hb d_Vc_nextValue_118 ?_
            obtain ⟨hg, hf⟩ := pv_g hf
            refine pv_iast C hP hS (t0 := 0) (x := ((σ.1 (28 + 6 * v + 3) (x2).toNatClampNeg) + (σ.1 (28 + 6 * v + 2) ((0 : Int32)).toNatClampNeg))) (by omega) (fun f g => (fx_v3 hv _ _ f g)) rfl hg d_Vc_nextValue_119 (fun H locs hP hS => ?_)
            refine lv_iload_n hx hb d_Vc_nextValue_120 rfl (lv_at hl 1 rfl) ?_
            refine lv_aload_n hx hb d_Vc_nextValue_121 rfl (lv_at hl 0 rfl) ?_
            refine pv_get C hP (v := .ref (a (28 + 6 * v + 3))) (j := 11) (by omega) (fx_v0 hv _ _ _ _) fl_Vc_22 rfl d_Vc_nextValue_122 ?_
            refine lv_iload_n hx hb d_Vc_nextValue_125 rfl (lv_at hl 2 rfl) ?_
            obtain ⟨hg, hf⟩ := pv_g hf
            refine pv_iald C hP (t0 := 0) (by omega) (fx_v3 hv _ _ _ _) rfl hg d_Vc_nextValue_126 ?_
            obtain ⟨q1, hc, hf⟩ := pv_b hf
            refine pv_callSi C hmv pv_good hP hS (As := [.int x1, .int ((pv_uI σ (28 + 6 * v + 3) (x2).toNatClampNeg ((σ.1 (28 + 6 * v + 3) (x2).toNatClampNeg) + (σ.1 (28 + 6 * v + 2) ((0 : Int32)).toNatClampNeg))).1 (28 + 6 * v + 3) (x2).toNatClampNeg)]) (rest := []) (c_Kd_waveValue C.2.2.2.2.2.2.1 hmv hc) cs_Vc_131 ⟨rfl, rfl, Nat.le_trans (Nat.le_of_ble_eq_true rfl) hRf, Nat.le_trans (Nat.le_of_ble_eq_true rfl) hRl⟩ rfl hl.1 rfl (Nat.le_of_ble_eq_true rfl) d_Vc_nextValue_127 ⟨Nat.zero_le _, Nat.zero_le _⟩ (fun H locs hP hS => ?_)
            obtain rfl := Option.some.inj hf
            exact hret _ _ _ _ d_Vc_nextValue_130 hP hS
          · have hf := pv_f hf h11
            by_cases h12 : x1 = (12 : Int32)
            · have hf := pv_t hf h12
              refine lv_tableIn (tgt := 105) hx hb d_Vc_nextValue_1 (by rw [h12]; decide) (by rw [h12]; decide) (by first | (rw [h12]; done) | (rw [h12]; rfl)) (by decide) ?_
              refine lv_aload_n hx hb d_Vc_nextValue_105 rfl (lv_at hl 0 rfl) ?_
              refine pv_get C hP (v := .ref (a (28 + 6 * v + 3))) (j := 11) (by omega) (fx_v0 hv _ _ _ _) fl_Vc_22 rfl d_Vc_nextValue_106 ?_
              refine lv_iload_n hx hb d_Vc_nextValue_109 rfl (lv_at hl 2 rfl) ?_
              refine lv_dup2_11 hx hb d_Vc_nextValue_110 rfl rfl ?_
              obtain ⟨hg, hf⟩ := pv_g hf
              refine pv_iald C hP (t0 := 0) (by omega) (fx_v3 hv _ _ _ _) rfl hg d_Vc_nextValue_111 ?_
              refine lv_aload_n hx hb d_Vc_nextValue_112 rfl (lv_at hl 0 rfl) ?_
              refine pv_get C hP (v := .ref (a (28 + 6 * v + 2))) (j := 10) (by omega) (fx_v0 hv _ _ _ _) fl_Vc_19 rfl d_Vc_nextValue_113 ?_
              refine lv_iconst (v := (0 : Int32)) hx hb d_Vc_nextValue_116 (by decide) ?_
              obtain ⟨hg, hf⟩ := pv_g hf
              refine pv_iald C hP (t0 := 0) (by omega) (fx_v2 hv _ _ _ _) rfl hg d_Vc_nextValue_117 ?_
              refine lv_iadd hx hb d_Vc_nextValue_118 ?_
              obtain ⟨hg, hf⟩ := pv_g hf
              refine pv_iast C hP hS (t0 := 0) (x := ((σ.1 (28 + 6 * v + 3) (x2).toNatClampNeg) + (σ.1 (28 + 6 * v + 2) ((0 : Int32)).toNatClampNeg))) (by omega) (fun f g => (fx_v3 hv _ _ f g)) rfl hg d_Vc_nextValue_119 (fun H locs hP hS => ?_)
              refine lv_iload_n hx hb d_Vc_nextValue_120 rfl (lv_at hl 1 rfl) ?_
              refine lv_aload_n hx hb d_Vc_nextValue_121 rfl (lv_at hl 0 rfl) ?_
              refine pv_get C hP (v := .ref (a (28 + 6 * v + 3))) (j := 11) (by omega) (fx_v0 hv _ _ _ _) fl_Vc_22 rfl d_Vc_nextValue_122 ?_
              refine lv_iload_n hx hb d_Vc_nextValue_125 rfl (lv_at hl 2 rfl) ?_
              obtain ⟨hg, hf⟩ := pv_g hf
              refine pv_iald C hP (t0 := 0) (by omega) (fx_v3 hv _ _ _ _) rfl hg d_Vc_nextValue_126 ?_
              obtain ⟨q2, hc, hf⟩ := pv_b hf
              refine pv_callSi C hmv pv_good hP hS (As := [.int x1, .int ((pv_uI σ (28 + 6 * v + 3) (x2).toNatClampNeg ((σ.1 (28 + 6 * v + 3) (x2).toNatClampNeg) + (σ.1 (28 + 6 * v + 2) ((0 : Int32)).toNatClampNeg))).1 (28 + 6 * v + 3) (x2).toNatClampNeg)]) (rest := []) (c_Kd_waveValue C.2.2.2.2.2.2.1 hmv hc) cs_Vc_131 ⟨rfl, rfl, Nat.le_trans (Nat.le_of_ble_eq_true rfl) hRf, Nat.le_trans (Nat.le_of_ble_eq_true rfl) hRl⟩ rfl hl.1 rfl (Nat.le_of_ble_eq_true rfl) d_Vc_nextValue_127 ⟨Nat.zero_le _, Nat.zero_le _⟩ (fun H locs hP hS => ?_)
              obtain rfl := Option.some.inj hf
              exact hret _ _ _ _ d_Vc_nextValue_130 hP hS
            · have hf := pv_f hf h12
              by_cases h13 : x1 = (13 : Int32)
              · have hf := pv_t hf h13
                refine lv_tableIn (tgt := 105) hx hb d_Vc_nextValue_1 (by rw [h13]; decide) (by rw [h13]; decide) (by first | (rw [h13]; done) | (rw [h13]; rfl)) (by decide) ?_
                refine lv_aload_n hx hb d_Vc_nextValue_105 rfl (lv_at hl 0 rfl) ?_
                refine pv_get C hP (v := .ref (a (28 + 6 * v + 3))) (j := 11) (by omega) (fx_v0 hv _ _ _ _) fl_Vc_22 rfl d_Vc_nextValue_106 ?_
                refine lv_iload_n hx hb d_Vc_nextValue_109 rfl (lv_at hl 2 rfl) ?_
                refine lv_dup2_11 hx hb d_Vc_nextValue_110 rfl rfl ?_
                obtain ⟨hg, hf⟩ := pv_g hf
                refine pv_iald C hP (t0 := 0) (by omega) (fx_v3 hv _ _ _ _) rfl hg d_Vc_nextValue_111 ?_
                refine lv_aload_n hx hb d_Vc_nextValue_112 rfl (lv_at hl 0 rfl) ?_
                refine pv_get C hP (v := .ref (a (28 + 6 * v + 2))) (j := 10) (by omega) (fx_v0 hv _ _ _ _) fl_Vc_19 rfl d_Vc_nextValue_113 ?_
                refine lv_iconst (v := (0 : Int32)) hx hb d_Vc_nextValue_116 (by decide) ?_
                obtain ⟨hg, hf⟩ := pv_g hf
                refine pv_iald C hP (t0 := 0) (by omega) (fx_v2 hv _ _ _ _) rfl hg d_Vc_nextValue_117 ?_
                refine lv_iadd hx hb d_Vc_nextValue_118 ?_
                obtain ⟨hg, hf⟩ := pv_g hf
                refine pv_iast C hP hS (t0 := 0) (x := ((σ.1 (28 + 6 * v + 3) (x2).toNatClampNeg) + (σ.1 (28 + 6 * v + 2) ((0 : Int32)).toNatClampNeg))) (by omega) (fun f g => (fx_v3 hv _ _ f g)) rfl hg d_Vc_nextValue_119 (fun H locs hP hS => ?_)
                refine lv_iload_n hx hb d_Vc_nextValue_120 rfl (lv_at hl 1 rfl) ?_
                refine lv_aload_n hx hb d_Vc_nextValue_121 rfl (lv_at hl 0 rfl) ?_
                refine pv_get C hP (v := .ref (a (28 + 6 * v + 3))) (j := 11) (by omega) (fx_v0 hv _ _ _ _) fl_Vc_22 rfl d_Vc_nextValue_122 ?_
                refine lv_iload_n hx hb d_Vc_nextValue_125 rfl (lv_at hl 2 rfl) ?_
                obtain ⟨hg, hf⟩ := pv_g hf
                refine pv_iald C hP (t0 := 0) (by omega) (fx_v3 hv _ _ _ _) rfl hg d_Vc_nextValue_126 ?_
                obtain ⟨q3, hc, hf⟩ := pv_b hf
                refine pv_callSi C hmv pv_good hP hS (As := [.int x1, .int ((pv_uI σ (28 + 6 * v + 3) (x2).toNatClampNeg ((σ.1 (28 + 6 * v + 3) (x2).toNatClampNeg) + (σ.1 (28 + 6 * v + 2) ((0 : Int32)).toNatClampNeg))).1 (28 + 6 * v + 3) (x2).toNatClampNeg)]) (rest := []) (c_Kd_waveValue C.2.2.2.2.2.2.1 hmv hc) cs_Vc_131 ⟨rfl, rfl, Nat.le_trans (Nat.le_of_ble_eq_true rfl) hRf, Nat.le_trans (Nat.le_of_ble_eq_true rfl) hRl⟩ rfl hl.1 rfl (Nat.le_of_ble_eq_true rfl) d_Vc_nextValue_127 ⟨Nat.zero_le _, Nat.zero_le _⟩ (fun H locs hP hS => ?_)
                obtain rfl := Option.some.inj hf
                exact hret _ _ _ _ d_Vc_nextValue_130 hP hS
              · have hf := pv_f hf h13
                by_cases h14 : x1 = (14 : Int32)
                · have hf := pv_t hf h14
                  refine lv_tableIn (tgt := 105) hx hb d_Vc_nextValue_1 (by rw [h14]; decide) (by rw [h14]; decide) (by first | (rw [h14]; done) | (rw [h14]; rfl)) (by decide) ?_
                  refine lv_aload_n hx hb d_Vc_nextValue_105 rfl (lv_at hl 0 rfl) ?_
                  refine pv_get C hP (v := .ref (a (28 + 6 * v + 3))) (j := 11) (by omega) (fx_v0 hv _ _ _ _) fl_Vc_22 rfl d_Vc_nextValue_106 ?_
                  refine lv_iload_n hx hb d_Vc_nextValue_109 rfl (lv_at hl 2 rfl) ?_
                  refine lv_dup2_11 hx hb d_Vc_nextValue_110 rfl rfl ?_
                  obtain ⟨hg, hf⟩ := pv_g hf
                  refine pv_iald C hP (t0 := 0) (by omega) (fx_v3 hv _ _ _ _) rfl hg d_Vc_nextValue_111 ?_
                  refine lv_aload_n hx hb d_Vc_nextValue_112 rfl (lv_at hl 0 rfl) ?_
                  refine pv_get C hP (v := .ref (a (28 + 6 * v + 2))) (j := 10) (by omega) (fx_v0 hv _ _ _ _) fl_Vc_19 rfl d_Vc_nextValue_113 ?_
                  refine lv_iconst (v := (0 : Int32)) hx hb d_Vc_nextValue_116 (by decide) ?_
                  obtain ⟨hg, hf⟩ := pv_g hf
                  refine pv_iald C hP (t0 := 0) (by omega) (fx_v2 hv _ _ _ _) rfl hg d_Vc_nextValue_117 ?_
                  refine lv_iadd hx hb d_Vc_nextValue_118 ?_
                  obtain ⟨hg, hf⟩ := pv_g hf
                  refine pv_iast C hP hS (t0 := 0) (x := ((σ.1 (28 + 6 * v + 3) (x2).toNatClampNeg) + (σ.1 (28 + 6 * v + 2) ((0 : Int32)).toNatClampNeg))) (by omega) (fun f g => (fx_v3 hv _ _ f g)) rfl hg d_Vc_nextValue_119 (fun H locs hP hS => ?_)
                  refine lv_iload_n hx hb d_Vc_nextValue_120 rfl (lv_at hl 1 rfl) ?_
                  refine lv_aload_n hx hb d_Vc_nextValue_121 rfl (lv_at hl 0 rfl) ?_
                  refine pv_get C hP (v := .ref (a (28 + 6 * v + 3))) (j := 11) (by omega) (fx_v0 hv _ _ _ _) fl_Vc_22 rfl d_Vc_nextValue_122 ?_
                  refine lv_iload_n hx hb d_Vc_nextValue_125 rfl (lv_at hl 2 rfl) ?_
                  obtain ⟨hg, hf⟩ := pv_g hf
                  refine pv_iald C hP (t0 := 0) (by omega) (fx_v3 hv _ _ _ _) rfl hg d_Vc_nextValue_126 ?_
                  obtain ⟨q4, hc, hf⟩ := pv_b hf
                  refine pv_callSi C hmv pv_good hP hS (As := [.int x1, .int ((pv_uI σ (28 + 6 * v + 3) (x2).toNatClampNeg ((σ.1 (28 + 6 * v + 3) (x2).toNatClampNeg) + (σ.1 (28 + 6 * v + 2) ((0 : Int32)).toNatClampNeg))).1 (28 + 6 * v + 3) (x2).toNatClampNeg)]) (rest := []) (c_Kd_waveValue C.2.2.2.2.2.2.1 hmv hc) cs_Vc_131 ⟨rfl, rfl, Nat.le_trans (Nat.le_of_ble_eq_true rfl) hRf, Nat.le_trans (Nat.le_of_ble_eq_true rfl) hRl⟩ rfl hl.1 rfl (Nat.le_of_ble_eq_true rfl) d_Vc_nextValue_127 ⟨Nat.zero_le _, Nat.zero_le _⟩ (fun H locs hP hS => ?_)
                  obtain rfl := Option.some.inj hf
                  exact hret _ _ _ _ d_Vc_nextValue_130 hP hS
                · have hf := pv_f hf h14
                  by_cases h15 : x1 = (15 : Int32)
                  · have hf := pv_t hf h15
                    refine lv_tableIn (tgt := 131) hx hb d_Vc_nextValue_1 (by rw [h15]; decide) (by rw [h15]; decide) (by first | (rw [h15]; done) | (rw [h15]; rfl)) (by decide) ?_
                    refine lv_aload_n hx hb d_Vc_nextValue_131 rfl (lv_at hl 0 rfl) ?_
                    refine lv_iload_n hx hb d_Vc_nextValue_132 rfl (lv_at hl 2 rfl) ?_
                    obtain ⟨q5, hc, hf⟩ := pv_b hf
                    refine pv_callVi C hmv pv_good hP hS (As := [.int x2]) (rest := []) (by omega) (fx_v0 hv _ _ _ _) rfl (c_Vc_nextNoise hv C.2.2.2.2.2.2.1 hmv hc) cv_Vc_135 ⟨rfl, rfl, Nat.le_trans (Nat.le_of_ble_eq_true rfl) hRf, Nat.le_trans (Nat.le_of_ble_eq_true rfl) hRl⟩ rfl hl.1 rfl (Nat.le_of_ble_eq_true rfl) d_Vc_nextValue_133 ⟨Nat.zero_le _, Nat.zero_le _⟩ (fun H locs hP hS => ?_)
                    obtain rfl := Option.some.inj hf
                    exact hret _ _ _ _ d_Vc_nextValue_136 hP hS
                  · have hf := pv_f hf h15
                    by_cases h16 : x1 = (16 : Int32)
                    · have hf := pv_t hf h16
                      refine lv_tableIn (tgt := 137) hx hb d_Vc_nextValue_1 (by rw [h16]; decide) (by rw [h16]; decide) (by first | (rw [h16]; done) | (rw [h16]; rfl)) (by decide) ?_
                      refine lv_aload_n hx hb d_Vc_nextValue_137 rfl (lv_at hl 0 rfl) ?_
                      refine lv_iload_n hx hb d_Vc_nextValue_138 rfl (lv_at hl 2 rfl) ?_
                      obtain ⟨q6, hc, hf⟩ := pv_b hf
                      refine pv_callVi C hmv pv_good hP hS (As := [.int x2]) (rest := []) (by omega) (fx_v0 hv _ _ _ _) rfl (c_Vc_nextLevel hv C.2.2.2.2.2.2.1 hmv hc) cv_Vc_139 ⟨rfl, rfl, Nat.le_trans (Nat.le_of_ble_eq_true rfl) hRf, Nat.le_trans (Nat.le_of_ble_eq_true rfl) hRl⟩ rfl hl.1 rfl (Nat.le_of_ble_eq_true rfl) d_Vc_nextValue_139 ⟨Nat.zero_le _, Nat.zero_le _⟩ (fun H locs hP hS => ?_)
                      obtain rfl := Option.some.inj hf
                      exact hret _ _ _ _ d_Vc_nextValue_142 hP hS
                    · have hf := pv_f hf h16
                      by_cases h17 : x1 = (17 : Int32)
                      · have hf := pv_t hf h17
                        refine lv_tableIn (tgt := 143) hx hb d_Vc_nextValue_1 (by rw [h17]; decide) (by rw [h17]; decide) (by first | (rw [h17]; done) | (rw [h17]; rfl)) (by decide) ?_
                        refine lv_aload_n hx hb d_Vc_nextValue_143 rfl (lv_at hl 0 rfl) ?_
                        refine lv_iload_n hx hb d_Vc_nextValue_144 rfl (lv_at hl 2 rfl) ?_
                        obtain ⟨q7, hc, hf⟩ := pv_b hf
                        refine pv_callVi C hmv pv_good hP hS (As := [.int x2]) (rest := []) (by omega) (fx_v0 hv _ _ _ _) rfl (c_Vc_nextLow hv C.2.2.2.2.2.2.1 hmv hc) cv_Vc_142 ⟨rfl, rfl, Nat.le_trans (Nat.le_of_ble_eq_true rfl) hRf, Nat.le_trans (Nat.le_of_ble_eq_true rfl) hRl⟩ rfl hl.1 rfl (Nat.le_of_ble_eq_true rfl) d_Vc_nextValue_145 ⟨Nat.zero_le _, Nat.zero_le _⟩ (fun H locs hP hS => ?_)
                        obtain rfl := Option.some.inj hf
                        exact hret _ _ _ _ d_Vc_nextValue_148 hP hS
                      · have hf := pv_f hf h17
                        by_cases h18 : x1 = (18 : Int32)
                        · have hf := pv_t hf h18
                          refine lv_tableIn (tgt := 155) hx hb d_Vc_nextValue_1 (by rw [h18]; decide) (by rw [h18]; decide) (by first | (rw [h18]; done) | (rw [h18]; rfl)) (by decide) ?_
                          refine lv_iload_n hx hb d_Vc_nextValue_155 rfl (lv_at hl 1 rfl) ?_
                          refine lv_aload_n hx hb d_Vc_nextValue_156 rfl (lv_at hl 0 rfl) ?_
                          refine pv_get C hP (v := .ref (a (28 + 6 * v + 2))) (j := 10) (by omega) (fx_v0 hv _ _ _ _) fl_Vc_19 rfl d_Vc_nextValue_157 ?_
                          refine lv_iconst (v := (0 : Int32)) hx hb d_Vc_nextValue_160 (by decide) ?_
                          obtain ⟨hg, hf⟩ := pv_g hf
                          refine pv_iald C hP (t0 := 0) (by omega) (fx_v2 hv _ _ _ _) rfl hg d_Vc_nextValue_161 ?_
                          refine lv_aload_n hx hb d_Vc_nextValue_162 rfl (lv_at hl 0 rfl) ?_
                          refine pv_get C hP (v := .ref (a (28 + 6 * v + 2))) (j := 10) (by omega) (fx_v0 hv _ _ _ _) fl_Vc_19 rfl d_Vc_nextValue_163 ?_
                          refine lv_iconst (v := (1 : Int32)) hx hb d_Vc_nextValue_166 (by decide) ?_
                          obtain ⟨hg, hf⟩ := pv_g hf
                          refine pv_iald C hP (t0 := 0) (by omega) (fx_v2 hv _ _ _ _) rfl hg d_Vc_nextValue_167 ?_
                          refine lv_aload_n hx hb d_Vc_nextValue_168 rfl (lv_at hl 0 rfl) ?_
                          refine pv_get C hP (v := .ref (a (28 + 6 * v + 2))) (j := 10) (by omega) (fx_v0 hv _ _ _ _) fl_Vc_19 rfl d_Vc_nextValue_169 ?_
                          refine lv_iconst (v := (2 : Int32)) hx hb d_Vc_nextValue_172 (by decide) ?_
                          obtain ⟨hg, hf⟩ := pv_g hf
                          refine pv_iald C hP (t0 := 0) (by omega) (fx_v2 hv _ _ _ _) rfl hg d_Vc_nextValue_173 ?_
                          obtain ⟨q8, hc, hf⟩ := pv_b hf
                          refine pv_callSi C hmv pv_good hP hS (As := [.int x1, .int (σ.1 (28 + 6 * v + 2) ((0 : Int32)).toNatClampNeg), .int (σ.1 (28 + 6 * v + 2) ((1 : Int32)).toNatClampNeg), .int (σ.1 (28 + 6 * v + 2) ((2 : Int32)).toNatClampNeg)]) (rest := []) (c_Kd_plainValue C.2.2.2.2.2.2.1 hmv hc) cs_Vc_148 ⟨rfl, rfl, Nat.le_trans (Nat.le_of_ble_eq_true rfl) hRf, Nat.le_trans (Nat.le_of_ble_eq_true rfl) hRl⟩ rfl hl.1 rfl (Nat.le_of_ble_eq_true rfl) d_Vc_nextValue_174 ⟨Nat.zero_le _, Nat.zero_le _⟩ (fun H locs hP hS => ?_)
                          obtain rfl := Option.some.inj hf
                          exact hret _ _ _ _ d_Vc_nextValue_177 hP hS
                        · have hf := pv_f hf h18
                          by_cases h19 : x1 = (19 : Int32)
                          · have hf := pv_t hf h19
                            refine lv_tableIn (tgt := 149) hx hb d_Vc_nextValue_1 (by rw [h19]; decide) (by rw [h19]; decide) (by first | (rw [h19]; done) | (rw [h19]; rfl)) (by decide) ?_
                            refine lv_aload_n hx hb d_Vc_nextValue_149 rfl (lv_at hl 0 rfl) ?_
                            refine lv_iload_n hx hb d_Vc_nextValue_150 rfl (lv_at hl 2 rfl) ?_
                            obtain ⟨q9, hc, hf⟩ := pv_b hf
                            refine pv_callVi C hmv pv_good hP hS (As := [.int x2]) (rest := []) (by omega) (fx_v0 hv _ _ _ _) rfl (c_Vc_nextHeld hv C.2.2.2.2.2.2.1 hmv hc) cv_Vc_145 ⟨rfl, rfl, Nat.le_trans (Nat.le_of_ble_eq_true rfl) hRf, Nat.le_trans (Nat.le_of_ble_eq_true rfl) hRl⟩ rfl hl.1 rfl (Nat.le_of_ble_eq_true rfl) d_Vc_nextValue_151 ⟨Nat.zero_le _, Nat.zero_le _⟩ (fun H locs hP hS => ?_)
                            obtain rfl := Option.some.inj hf
                            exact hret _ _ _ _ d_Vc_nextValue_154 hP hS
                          · have hf := pv_f hf h19
                            refine lv_tableOut (tgt := 155) hx hb d_Vc_nextValue_1 (by have z0 := lv_neT h7 (a := 7) (by decide); have z1 := lv_neT h8 (a := 8) (by decide); have z2 := lv_neT h9 (a := 9) (by decide); have z3 := lv_neT h10 (a := 10) (by decide); have z4 := lv_neT h11 (a := 11) (by decide); have z5 := lv_neT h12 (a := 12) (by decide); have z6 := lv_neT h13 (a := 13) (by decide); have z7 := lv_neT h14 (a := 14) (by decide); have z8 := lv_neT h15 (a := 15) (by decide); have z9 := lv_neT h16 (a := 16) (by decide); have z10 := lv_neT h17 (a := 17) (by decide); have z11 := lv_neT h18 (a := 18) (by decide); have z12 := lv_neT h19 (a := 19) (by decide); omega) (by decide) ?_
                            refine lv_iload_n hx hb d_Vc_nextValue_155 rfl (lv_at hl 1 rfl) ?_
                            refine lv_aload_n hx hb d_Vc_nextValue_156 rfl (lv_at hl 0 rfl) ?_
                            refine pv_get C hP (v := .ref (a (28 + 6 * v + 2))) (j := 10) (by omega) (fx_v0 hv _ _ _ _) fl_Vc_19 rfl d_Vc_nextValue_157 ?_
                            refine lv_iconst (v := (0 : Int32)) hx hb d_Vc_nextValue_160 (by decide) ?_
                            obtain ⟨hg, hf⟩ := pv_g hf
                            refine pv_iald C hP (t0 := 0) (by omega) (fx_v2 hv _ _ _ _) rfl hg d_Vc_nextValue_161 ?_
                            refine lv_aload_n hx hb d_Vc_nextValue_162 rfl (lv_at hl 0 rfl) ?_
                            refine pv_get C hP (v := .ref (a (28 + 6 * v + 2))) (j := 10) (by omega) (fx_v0 hv _ _ _ _) fl_Vc_19 rfl d_Vc_nextValue_163 ?_
                            refine lv_iconst (v := (1 : Int32)) hx hb d_Vc_nextValue_166 (by decide) ?_
                            obtain ⟨hg, hf⟩ := pv_g hf
                            refine pv_iald C hP (t0 := 0) (by omega) (fx_v2 hv _ _ _ _) rfl hg d_Vc_nextValue_167 ?_
                            refine lv_aload_n hx hb d_Vc_nextValue_168 rfl (lv_at hl 0 rfl) ?_
                            refine pv_get C hP (v := .ref (a (28 + 6 * v + 2))) (j := 10) (by omega) (fx_v0 hv _ _ _ _) fl_Vc_19 rfl d_Vc_nextValue_169 ?_
                            refine lv_iconst (v := (2 : Int32)) hx hb d_Vc_nextValue_172 (by decide) ?_
                            obtain ⟨hg, hf⟩ := pv_g hf
                            refine pv_iald C hP (t0 := 0) (by omega) (fx_v2 hv _ _ _ _) rfl hg d_Vc_nextValue_173 ?_
                            obtain ⟨q10, hc, hf⟩ := pv_b hf
                            refine pv_callSi C hmv pv_good hP hS (As := [.int x1, .int (σ.1 (28 + 6 * v + 2) ((0 : Int32)).toNatClampNeg), .int (σ.1 (28 + 6 * v + 2) ((1 : Int32)).toNatClampNeg), .int (σ.1 (28 + 6 * v + 2) ((2 : Int32)).toNatClampNeg)]) (rest := []) (c_Kd_plainValue C.2.2.2.2.2.2.1 hmv hc) cs_Vc_148 ⟨rfl, rfl, Nat.le_trans (Nat.le_of_ble_eq_true rfl) hRf, Nat.le_trans (Nat.le_of_ble_eq_true rfl) hRl⟩ rfl hl.1 rfl (Nat.le_of_ble_eq_true rfl) d_Vc_nextValue_174 ⟨Nat.zero_le _, Nat.zero_le _⟩ (fun H locs hP hS => ?_)
                            obtain rfl := Option.some.inj hf
                            exact hret _ _ _ _ d_Vc_nextValue_177 hP hS
def f_Vc_nextValue (v : Nat) (σ : pv_S) (x1 : Int32) (x2 : Int32) : Option (Int32 × pv_S) := f_Vc_nextValue_0 v σ x1 x2
def rm_Vc_nextValue : Room := { frames := 3, cells := 0, slots := 0, locals := 63 }
theorem c_Vc_nextValue {l : Launch} {D : va_G} {q : Nat → ClassId} {a t : Nat → Nat} {A : Nat → Prop} {v : Nat} (hv : v < 4) (hD : pv_D 52 a A) (hmv : pv_mv A (pv_ZX t A)) {σ : pv_S} {x1 : Int32} {x2 : Int32} {out : (Int32 × pv_S)} (hf : f_Vc_nextValue v σ x1 x2 = some out) : pv_Mi l y_Vc_nextValue (Cond.code y_Vc_nextValue prog_6_method_10_code 4 (some .int) :: pv_TB) rm_Vc_nextValue D pv_cl (pv_ty q) 52 a (pv_FX q a) A (pv_ZX t A) [.ref (a (28 + 6 * v)), .int x1, .int x2, .ref (a 26)] σ out :=
  pv_ofI (by decide) (Nat.le_of_ble_eq_true rfl) hD (fun p e s m args below meth c Q ls C hret hl hP => s_Vc_nextValue_0 hv C hmv (Nat.le_refl _) (Nat.le_refl _) hret hl hP va_S.rf hf)
theorem d_Vc_put_0 : decode prog_6_method_8_code 0 = .ok (.iconst 4, 1) := by decide +kernel
theorem d_Vc_put_1 : decode prog_6_method_8_code 1 = .ok (.iload_n 2, 1) := by decide +kernel
theorem d_Vc_put_2 : decode prog_6_method_8_code 2 = .ok (.imul, 1) := by decide +kernel
theorem d_Vc_put_3 : decode prog_6_method_8_code 3 = .ok (.istore_n 3, 1) := by decide +kernel
theorem d_Vc_put_4 : decode prog_6_method_8_code 4 = .ok (.aload_n 0, 1) := by decide +kernel
theorem d_Vc_put_5 : decode prog_6_method_8_code 5 = .ok (.getfield 28, 3) := by decide +kernel
theorem d_Vc_put_8 : decode prog_6_method_8_code 8 = .ok (.aload_n 1, 1) := by decide +kernel
theorem d_Vc_put_9 : decode prog_6_method_8_code 9 = .ok (.getfield 91, 3) := by decide +kernel
theorem d_Vc_put_12 : decode prog_6_method_8_code 12 = .ok (.iload_n 2, 1) := by decide +kernel
theorem d_Vc_put_13 : decode prog_6_method_8_code 13 = .ok (.iaload, 1) := by decide +kernel
theorem d_Vc_put_14 : decode prog_6_method_8_code 14 = .ok (.aload_n 0, 1) := by decide +kernel
theorem d_Vc_put_15 : decode prog_6_method_8_code 15 = .ok (.getfield 22, 3) := by decide +kernel
theorem d_Vc_put_18 : decode prog_6_method_8_code 18 = .ok (.iload_n 2, 1) := by decide +kernel
theorem d_Vc_put_19 : decode prog_6_method_8_code 19 = .ok (.iaload, 1) := by decide +kernel
theorem d_Vc_put_20 : decode prog_6_method_8_code 20 = .ok (.iadd, 1) := by decide +kernel
theorem d_Vc_put_21 : decode prog_6_method_8_code 21 = .ok (.aload_n 0, 1) := by decide +kernel
theorem d_Vc_put_22 : decode prog_6_method_8_code 22 = .ok (.aload_n 1, 1) := by decide +kernel
theorem d_Vc_put_23 : decode prog_6_method_8_code 23 = .ok (.getfield 61, 3) := by decide +kernel
theorem d_Vc_put_26 : decode prog_6_method_8_code 26 = .ok (.iload_n 3, 1) := by decide +kernel
theorem d_Vc_put_27 : decode prog_6_method_8_code 27 = .ok (.invokevirtual 120, 3) := by decide +kernel
theorem d_Vc_put_30 : decode prog_6_method_8_code 30 = .ok (.iastore, 1) := by decide +kernel
theorem d_Vc_put_31 : decode prog_6_method_8_code 31 = .ok (.aload_n 0, 1) := by decide +kernel
theorem d_Vc_put_32 : decode prog_6_method_8_code 32 = .ok (.getfield 22, 3) := by decide +kernel
theorem d_Vc_put_35 : decode prog_6_method_8_code 35 = .ok (.iload_n 2, 1) := by decide +kernel
theorem d_Vc_put_36 : decode prog_6_method_8_code 36 = .ok (.iaload, 1) := by decide +kernel
theorem d_Vc_put_37 : decode prog_6_method_8_code 37 = .ok (.iconst 1, 1) := by decide +kernel
theorem d_Vc_put_38 : decode prog_6_method_8_code 38 = .ok (.iadd, 1) := by decide +kernel
theorem d_Vc_put_39 : decode prog_6_method_8_code 39 = .ok (.istore 4, 2) := by decide +kernel
theorem d_Vc_put_41 : decode prog_6_method_8_code 41 = .ok (.aload_n 0, 1) := by decide +kernel
theorem d_Vc_put_42 : decode prog_6_method_8_code 42 = .ok (.getfield 22, 3) := by decide +kernel
theorem d_Vc_put_45 : decode prog_6_method_8_code 45 = .ok (.iload_n 2, 1) := by decide +kernel
theorem d_Vc_put_46 : decode prog_6_method_8_code 46 = .ok (.iload 4, 2) := by decide +kernel
theorem d_Vc_put_48 : decode prog_6_method_8_code 48 = .ok (.aload_n 1, 1) := by decide +kernel
theorem d_Vc_put_49 : decode prog_6_method_8_code 49 = .ok (.getfield 61, 3) := by decide +kernel
theorem d_Vc_put_52 : decode prog_6_method_8_code 52 = .ok (.getfield 127, 3) := by decide +kernel
theorem d_Vc_put_55 : decode prog_6_method_8_code 55 = .ok (.iload_n 3, 1) := by decide +kernel
theorem d_Vc_put_56 : decode prog_6_method_8_code 56 = .ok (.iconst 1, 1) := by decide +kernel
theorem d_Vc_put_57 : decode prog_6_method_8_code 57 = .ok (.iadd, 1) := by decide +kernel
theorem d_Vc_put_58 : decode prog_6_method_8_code 58 = .ok (.iaload, 1) := by decide +kernel
theorem d_Vc_put_59 : decode prog_6_method_8_code 59 = .ok (.if_icmp .ge 8, 3) := by decide +kernel
theorem d_Vc_put_62 : decode prog_6_method_8_code 62 = .ok (.iload 4, 2) := by decide +kernel
theorem d_Vc_put_64 : decode prog_6_method_8_code 64 = .ok (.goto 4, 3) := by decide +kernel
theorem d_Vc_put_67 : decode prog_6_method_8_code 67 = .ok (.iconst 0, 1) := by decide +kernel
theorem d_Vc_put_68 : decode prog_6_method_8_code 68 = .ok (.iastore, 1) := by decide +kernel
theorem d_Vc_put_69 : decode prog_6_method_8_code 69 = .ok (.return_, 1) := by decide +kernel
def f_Vc_put_0 (v : Nat) (σ : pv_S) (x2 : Int32) : Option pv_S :=
  (if pv_in x2 24 = true then
(if pv_in x2 24 = true then
((f_Vc_valueRead v σ ((4 : Int32) * x2)).bind fun q1 =>
(if pv_in ((σ.1 21 (x2).toNatClampNeg) + (σ.1 (28 + 6 * v + 3) (x2).toNatClampNeg)) 128 = true then
(if pv_in x2 24 = true then
(if pv_in (((4 : Int32) * x2) + (1 : Int32)) 96 = true then
(if ((pv_uI q1.2 (28 + 6 * v + 5) (((σ.1 21 (x2).toNatClampNeg) + (σ.1 (28 + 6 * v + 3) (x2).toNatClampNeg))).toNatClampNeg q1.1).1 15 ((((4 : Int32) * x2) + (1 : Int32))).toNatClampNeg) ≤ (((pv_uI q1.2 (28 + 6 * v + 5) (((σ.1 21 (x2).toNatClampNeg) + (σ.1 (28 + 6 * v + 3) (x2).toNatClampNeg))).toNatClampNeg q1.1).1 (28 + 6 * v + 3) (x2).toNatClampNeg) + (1 : Int32)) then
  (if pv_in x2 24 = true then
some (pv_uI (pv_uI q1.2 (28 + 6 * v + 5) (((σ.1 21 (x2).toNatClampNeg) + (σ.1 (28 + 6 * v + 3) (x2).toNatClampNeg))).toNatClampNeg q1.1) (28 + 6 * v + 3) (x2).toNatClampNeg (0 : Int32))
  else none)
  else
  (if pv_in x2 24 = true then
some (pv_uI (pv_uI q1.2 (28 + 6 * v + 5) (((σ.1 21 (x2).toNatClampNeg) + (σ.1 (28 + 6 * v + 3) (x2).toNatClampNeg))).toNatClampNeg q1.1) (28 + 6 * v + 3) (x2).toNatClampNeg (((pv_uI q1.2 (28 + 6 * v + 5) (((σ.1 21 (x2).toNatClampNeg) + (σ.1 (28 + 6 * v + 3) (x2).toNatClampNeg))).toNatClampNeg q1.1).1 (28 + 6 * v + 3) (x2).toNatClampNeg) + (1 : Int32)))
  else none))
  else none)
  else none)
  else none))
  else none)
  else none)
set_option maxHeartbeats 4000000 in
set_option maxRecDepth 100000 in
theorem s_Vc_put_0 {p : Program} {l : Launch} {e : Env} {R : Room} {s : State} {m : MethodId} {args : Array Value} {below : List Frame} {meth : Method} {c : Code} {Q : State → Prop} {D : va_G} {q : Nat → ClassId} {a t : Nat → Nat} {A : Nat → Prop} {v : Nat} (hv : v < 4) (C : pv_C p s m args c prog_6_method_8_code 5 "PatchVoices$Voice" pv_TB D pv_cl (pv_ty q) 52 a A (pv_ZX t A)) (hmv : pv_mv A (pv_ZX t A)) (hRf : 1 ≤ R.frames) (hRl : 22 ≤ R.locals) {out : pv_S} (hret : pv_Rv p l e R s m args below meth c prog_6_method_8_code D pv_cl 52 a (pv_FX q a) A Q out) {σ : pv_S} {x2 : Int32} {H : Heap} {locs : List Loc} {ls : Array Slot} (hl : lv_has ls 5 [(0, .ref (a (28 + 6 * v))), (1, .ref (a 11)), (2, .int x2)]) (hP : pv_W D pv_cl 52 a (pv_FX q a) σ H) (hS : va_S A s.heap H locs) (hf : f_Vc_put_0 v σ x2 = some out) : W p l e R s m args below meth c H locs 0 0 Q (F0 m 0 ls []) := by
  unfold f_Vc_put_0 at hf
  have hx := C.1
  have hb := C.2.1
  refine lv_iconst (v := (4 : Int32)) hx hb d_Vc_put_0 (by decide) ?_
  refine lv_iload_n hx hb d_Vc_put_1 rfl (lv_at hl 2 rfl) ?_
  refine lv_imul hx hb d_Vc_put_2 ?_
  refine lv_istore_n (lv' := [(3, .int ((4 : Int32) * x2)), (0, .ref (a (28 + 6 * v))), (1, .ref (a 11)), (2, .int x2)]) hx hb d_Vc_put_3 rfl hl (by decide) rfl (fun ls hl => ?_)
  refine lv_aload_n hx hb d_Vc_put_4 rfl (lv_at hl 1 rfl) ?_
  refine pv_get C hP (v := .ref (a (28 + 6 * v + 5))) (j := 13) (by omega) (fx_v0 hv _ _ _ _) fl_Vc_28 rfl d_Vc_put_5 ?_
  refine lv_aload_n hx hb d_Vc_put_8 rfl (lv_at hl 2 rfl) ?_
  refine pv_get C hP (v := .ref (a 21)) (j := 5) (by decide) (fx_11 _ _ _ _) fl_Vc_91 rfl d_Vc_put_9 ?_
  refine lv_iload_n hx hb d_Vc_put_12 rfl (lv_at hl 3 rfl) ?_
  obtain ⟨hg, hf⟩ := pv_g hf
  refine pv_iald C hP (t0 := 0) (by decide) (fx_21 _ _ _ _) rfl hg d_Vc_put_13 ?_
  refine lv_aload_n hx hb d_Vc_put_14 rfl (lv_at hl 1 rfl) ?_
  refine pv_get C hP (v := .ref (a (28 + 6 * v + 3))) (j := 11) (by omega) (fx_v0 hv _ _ _ _) fl_Vc_22 rfl d_Vc_put_15 ?_
  refine lv_iload_n hx hb d_Vc_put_18 rfl (lv_at hl 3 rfl) ?_
  obtain ⟨hg, hf⟩ := pv_g hf
  refine pv_iald C hP (t0 := 0) (by omega) (fx_v3 hv _ _ _ _) rfl hg d_Vc_put_19 ?_
  refine lv_iadd hx hb d_Vc_put_20 ?_
  refine lv_aload_n hx hb d_Vc_put_21 rfl (lv_at hl 1 rfl) ?_
  refine lv_aload_n hx hb d_Vc_put_22 rfl (lv_at hl 2 rfl) ?_
  refine pv_get C hP (v := .ref (a 12)) (j := 0) (by decide) (fx_11 _ _ _ _) fl_Vc_61 rfl d_Vc_put_23 ?_
  refine lv_iload_n hx hb d_Vc_put_26 rfl (lv_at hl 0 rfl) ?_
  obtain ⟨q1, hc, hf⟩ := pv_b hf
  refine pv_callVi C hmv pv_good hP hS (As := [.ref (a 12), .int ((4 : Int32) * x2)]) (rest := [.int ((σ.1 21 (x2).toNatClampNeg) + (σ.1 (28 + 6 * v + 3) (x2).toNatClampNeg)), .ref (a (28 + 6 * v + 5))]) (by omega) (fx_v0 hv _ _ _ _) rfl (c_Vc_valueRead hv C.2.2.2.2.2.2.1 hmv hc) cv_Vc_120 ⟨rfl, rfl, Nat.le_trans (Nat.le_of_ble_eq_true rfl) hRf, Nat.le_trans (Nat.le_of_ble_eq_true rfl) hRl⟩ rfl hl.1 rfl (Nat.le_of_ble_eq_true rfl) d_Vc_put_27 ⟨Nat.zero_le _, Nat.zero_le _⟩ (fun H locs hP hS => ?_)
  obtain ⟨hg, hf⟩ := pv_g hf
  refine pv_iast C hP hS (t0 := 0) (x := q1.1) (by omega) (fun f g => (fx_v5 hv _ _ f g)) rfl hg d_Vc_put_30 (fun H locs hP hS => ?_)
  refine lv_aload_n hx hb d_Vc_put_31 rfl (lv_at hl 1 rfl) ?_
  refine pv_get C hP (v := .ref (a (28 + 6 * v + 3))) (j := 11) (by omega) (fx_v0 hv _ _ _ _) fl_Vc_22 rfl d_Vc_put_32 ?_
  refine lv_iload_n hx hb d_Vc_put_35 rfl (lv_at hl 3 rfl) ?_
  obtain ⟨hg, hf⟩ := pv_g hf
  refine pv_iald C hP (t0 := 0) (by omega) (fx_v3 hv _ _ _ _) rfl hg d_Vc_put_36 ?_
  refine lv_iconst (v := (1 : Int32)) hx hb d_Vc_put_37 (by decide) ?_
  refine lv_iadd hx hb d_Vc_put_38 ?_
  refine lv_istore (lv' := [(4, .int (((pv_uI q1.2 (28 + 6 * v + 5) (((σ.1 21 (x2).toNatClampNeg) + (σ.1 (28 + 6 * v + 3) (x2).toNatClampNeg))).toNatClampNeg q1.1).1 (28 + 6 * v + 3) (x2).toNatClampNeg) + (1 : Int32))), (3, .int ((4 : Int32) * x2)), (0, .ref (a (28 + 6 * v))), (1, .ref (a 11)), (2, .int x2)]) hx hb d_Vc_put_39 hl (by decide) rfl (fun ls hl => ?_)
  refine lv_aload_n hx hb d_Vc_put_41 rfl (lv_at hl 2 rfl) ?_
  refine pv_get C hP (v := .ref (a (28 + 6 * v + 3))) (j := 11) (by omega) (fx_v0 hv _ _ _ _) fl_Vc_22 rfl d_Vc_put_42 ?_
  refine lv_iload_n hx hb d_Vc_put_45 rfl (lv_at hl 4 rfl) ?_
  refine lv_iload hx hb d_Vc_put_46 (lv_at hl 0 rfl) ?_
  refine lv_aload_n hx hb d_Vc_put_48 rfl (lv_at hl 3 rfl) ?_
  refine pv_get C hP (v := .ref (a 12)) (j := 0) (by decide) (fx_11 _ _ _ _) fl_Vc_61 rfl d_Vc_put_49 ?_
  refine pv_get C hP (v := .ref (a 15)) (j := 3) (by decide) (fx_12 _ _ _ _) fl_Vc_127 rfl d_Vc_put_52 ?_
  refine lv_iload_n hx hb d_Vc_put_55 rfl (lv_at hl 1 rfl) ?_
  refine lv_iconst (v := (1 : Int32)) hx hb d_Vc_put_56 (by decide) ?_
  refine lv_iadd hx hb d_Vc_put_57 ?_
  obtain ⟨hg, hf⟩ := pv_g hf
  refine pv_iald C hP (t0 := 0) (by decide) (fx_15 _ _ _ _) rfl hg d_Vc_put_58 ?_
  refine lv_icmp_ge (tgt := 67) hx hb d_Vc_put_59 (by decide) (fun h => ?_) (fun h => ?_)
  · have hf := pv_t hf h
    refine lv_iconst (v := (0 : Int32)) hx hb d_Vc_put_67 (by decide) ?_
    obtain ⟨hg, hf⟩ := pv_g hf
    refine pv_iast C hP hS (t0 := 0) (x := (0 : Int32)) (by omega) (fun f g => (fx_v3 hv _ _ f g)) rfl hg d_Vc_put_68 (fun H locs hP hS => ?_)
    obtain rfl := Option.some.inj hf
    exact hret _ _ _ _ d_Vc_put_69 hP hS
  · have hf := pv_f hf h
    refine lv_iload hx hb d_Vc_put_62 (lv_at hl 0 rfl) ?_
    refine lv_goto (tgt := 68) hx hb d_Vc_put_64 (by decide) ?_
    obtain ⟨hg, hf⟩ := pv_g hf
    refine pv_iast C hP hS (t0 := 0) (x := (((pv_uI q1.2 (28 + 6 * v + 5) (((σ.1 21 (x2).toNatClampNeg) + (σ.1 (28 + 6 * v + 3) (x2).toNatClampNeg))).toNatClampNeg q1.1).1 (28 + 6 * v + 3) (x2).toNatClampNeg) + (1 : Int32))) (by omega) (fun f g => (fx_v3 hv _ _ f g)) rfl hg d_Vc_put_68 (fun H locs hP hS => ?_)
    obtain rfl := Option.some.inj hf
    exact hret _ _ _ _ d_Vc_put_69 hP hS
def f_Vc_put (v : Nat) (σ : pv_S) (x2 : Int32) : Option pv_S := f_Vc_put_0 v σ x2
def rm_Vc_put : Room := { frames := 1, cells := 0, slots := 0, locals := 22 }
theorem c_Vc_put {l : Launch} {D : va_G} {q : Nat → ClassId} {a t : Nat → Nat} {A : Nat → Prop} {v : Nat} (hv : v < 4) (hD : pv_D 52 a A) (hmv : pv_mv A (pv_ZX t A)) {σ : pv_S} {x2 : Int32} {out : pv_S} (hf : f_Vc_put v σ x2 = some out) : pv_Mv l y_Vc_put (Cond.code y_Vc_put prog_6_method_8_code 5 none :: pv_TB) rm_Vc_put D pv_cl (pv_ty q) 52 a (pv_FX q a) A (pv_ZX t A) [.ref (a (28 + 6 * v)), .ref (a 11), .int x2] σ out :=
  pv_ofV (by decide) (Nat.le_of_ble_eq_true rfl) hD (fun p e s m args below meth c Q ls C hret hl hP => s_Vc_put_0 hv C hmv (Nat.le_refl _) (Nat.le_refl _) hret hl hP va_S.rf hf)
theorem d_Vc_listen_0 : decode prog_6_method_9_code 0 = .ok (.aload_n 0, 1) := by decide +kernel
theorem d_Vc_listen_1 : decode prog_6_method_9_code 1 = .ok (.getfield 38, 3) := by decide +kernel
theorem d_Vc_listen_4 : decode prog_6_method_9_code 4 = .ok (.ifCond .ne 14, 3) := by decide +kernel
theorem d_Vc_listen_7 : decode prog_6_method_9_code 7 = .ok (.aload_n 0, 1) := by decide +kernel
theorem d_Vc_listen_8 : decode prog_6_method_9_code 8 = .ok (.dup, 1) := by decide +kernel
theorem d_Vc_listen_9 : decode prog_6_method_9_code 9 = .ok (.getfield 44, 3) := by decide +kernel
theorem d_Vc_listen_12 : decode prog_6_method_9_code 12 = .ok (.iconst 1, 1) := by decide +kernel
theorem d_Vc_listen_13 : decode prog_6_method_9_code 13 = .ok (.iadd, 1) := by decide +kernel
theorem d_Vc_listen_14 : decode prog_6_method_9_code 14 = .ok (.putfield 44, 3) := by decide +kernel
theorem d_Vc_listen_17 : decode prog_6_method_9_code 17 = .ok (.return_, 1) := by decide +kernel
theorem d_Vc_listen_18 : decode prog_6_method_9_code 18 = .ok (.aload_n 0, 1) := by decide +kernel
theorem d_Vc_listen_19 : decode prog_6_method_9_code 19 = .ok (.aload_n 0, 1) := by decide +kernel
theorem d_Vc_listen_20 : decode prog_6_method_9_code 20 = .ok (.getfield 35, 3) := by decide +kernel
theorem d_Vc_listen_23 : decode prog_6_method_9_code 23 = .ok (.ifCond .ne 7, 3) := by decide +kernel
theorem d_Vc_listen_26 : decode prog_6_method_9_code 26 = .ok (.iload_n 1, 1) := by decide +kernel
theorem d_Vc_listen_27 : decode prog_6_method_9_code 27 = .ok (.ifCond .eq 7, 3) := by decide +kernel
theorem d_Vc_listen_30 : decode prog_6_method_9_code 30 = .ok (.iconst 0, 1) := by decide +kernel
theorem d_Vc_listen_31 : decode prog_6_method_9_code 31 = .ok (.goto 9, 3) := by decide +kernel
theorem d_Vc_listen_34 : decode prog_6_method_9_code 34 = .ok (.aload_n 0, 1) := by decide +kernel
theorem d_Vc_listen_35 : decode prog_6_method_9_code 35 = .ok (.getfield 48, 3) := by decide +kernel
theorem d_Vc_listen_38 : decode prog_6_method_9_code 38 = .ok (.iconst 1, 1) := by decide +kernel
theorem d_Vc_listen_39 : decode prog_6_method_9_code 39 = .ok (.iadd, 1) := by decide +kernel
theorem d_Vc_listen_40 : decode prog_6_method_9_code 40 = .ok (.putfield 48, 3) := by decide +kernel
theorem d_Vc_listen_43 : decode prog_6_method_9_code 43 = .ok (.aload_n 0, 1) := by decide +kernel
theorem d_Vc_listen_44 : decode prog_6_method_9_code 44 = .ok (.aload_n 0, 1) := by decide +kernel
theorem d_Vc_listen_45 : decode prog_6_method_9_code 45 = .ok (.getfield 48, 3) := by decide +kernel
theorem d_Vc_listen_48 : decode prog_6_method_9_code 48 = .ok (.bipush 16, 2) := by decide +kernel
theorem d_Vc_listen_50 : decode prog_6_method_9_code 50 = .ok (.if_icmp .ge 7, 3) := by decide +kernel
theorem d_Vc_listen_53 : decode prog_6_method_9_code 53 = .ok (.iconst 1, 1) := by decide +kernel
theorem d_Vc_listen_54 : decode prog_6_method_9_code 54 = .ok (.goto 4, 3) := by decide +kernel
theorem d_Vc_listen_57 : decode prog_6_method_9_code 57 = .ok (.iconst 0, 1) := by decide +kernel
theorem d_Vc_listen_58 : decode prog_6_method_9_code 58 = .ok (.putfield 38, 3) := by decide +kernel
theorem d_Vc_listen_61 : decode prog_6_method_9_code 61 = .ok (.return_, 1) := by decide +kernel
def f_Vc_listen_40 (v : Nat) (σ : pv_S) (s0 : Int32) : Option pv_S :=
  (if (16 : Int32) ≤ ((pv_uI σ (28 + 6 * v) 9 s0).1 (28 + 6 * v) 9) then
  some (pv_uI (pv_uI σ (28 + 6 * v) 9 s0) (28 + 6 * v) 2 (0 : Int32))
  else
  some (pv_uI (pv_uI σ (28 + 6 * v) 9 s0) (28 + 6 * v) 2 (1 : Int32)))
set_option maxHeartbeats 4000000 in
set_option maxRecDepth 100000 in
theorem s_Vc_listen_40 {p : Program} {l : Launch} {e : Env} {R : Room} {s : State} {m : MethodId} {args : Array Value} {below : List Frame} {meth : Method} {c : Code} {Q : State → Prop} {D : va_G} {q : Nat → ClassId} {a t : Nat → Nat} {A : Nat → Prop} {v : Nat} (hv : v < 4) (C : pv_C p s m args c prog_6_method_9_code 2 "PatchVoices$Voice" pv_TB D pv_cl (pv_ty q) 52 a A (pv_ZX t A)) (hmv : pv_mv A (pv_ZX t A)) (hRf : 0 ≤ R.frames) (hRl : 0 ≤ R.locals) {out : pv_S} (hret : pv_Rv p l e R s m args below meth c prog_6_method_9_code D pv_cl 52 a (pv_FX q a) A Q out) {σ : pv_S} {s0 : Int32} {H : Heap} {locs : List Loc} {ls : Array Slot} (hl : lv_has ls 2 [(0, .ref (a (28 + 6 * v)))]) (hP : pv_W D pv_cl 52 a (pv_FX q a) σ H) (hS : va_S A s.heap H locs) (hf : f_Vc_listen_40 v σ s0 = some out) : W p l e R s m args below meth c H locs 0 0 Q (F0 m 40 ls [.int s0, .ref (a (28 + 6 * v))]) := by
  unfold f_Vc_listen_40 at hf
  have hx := C.1
  have hb := C.2.1
  refine pv_putI C hP hS (x := s0) (by omega) (fx_v0 hv _ _ _ _) fw_Vc_48 rfl rfl (Nat.le_of_ble_eq_true rfl) (fxs_v0_9 hv _ _ _ _ _) d_Vc_listen_40 (fun H locs hP hS => ?_)
  refine lv_aload_n hx hb d_Vc_listen_43 rfl (lv_at hl 0 rfl) ?_
  refine lv_aload_n hx hb d_Vc_listen_44 rfl (lv_at hl 0 rfl) ?_
  refine pv_get C hP (v := .int ((pv_uI σ (28 + 6 * v) 9 s0).1 (28 + 6 * v) 9)) (j := 9) (by omega) (fx_v0 hv _ _ _ _) fl_Vc_48 rfl d_Vc_listen_45 ?_
  refine lv_bipush (v := (16 : Int32)) hx hb d_Vc_listen_48 (by decide) ?_
  refine lv_icmp_ge (tgt := 57) hx hb d_Vc_listen_50 (by decide) (fun h => ?_) (fun h => ?_)
  · have hf := pv_t hf h
    refine lv_iconst (v := (0 : Int32)) hx hb d_Vc_listen_57 (by decide) ?_
    refine pv_putI C hP hS (x := (0 : Int32)) (by omega) (fx_v0 hv _ _ _ _) fw_Vc_38 rfl rfl (Nat.le_of_ble_eq_true rfl) (fxs_v0_2 hv _ _ _ _ _) d_Vc_listen_58 (fun H locs hP hS => ?_)
    obtain rfl := Option.some.inj hf
    exact hret _ _ _ _ d_Vc_listen_61 hP hS
  · have hf := pv_f hf h
    refine lv_iconst (v := (1 : Int32)) hx hb d_Vc_listen_53 (by decide) ?_
    refine lv_goto (tgt := 58) hx hb d_Vc_listen_54 (by decide) ?_
    refine pv_putI C hP hS (x := (1 : Int32)) (by omega) (fx_v0 hv _ _ _ _) fw_Vc_38 rfl rfl (Nat.le_of_ble_eq_true rfl) (fxs_v0_2 hv _ _ _ _ _) d_Vc_listen_58 (fun H locs hP hS => ?_)
    obtain rfl := Option.some.inj hf
    exact hret _ _ _ _ d_Vc_listen_61 hP hS
def f_Vc_listen_30 (v : Nat) (σ : pv_S) : Option pv_S :=
  f_Vc_listen_40 v σ (0 : Int32)
set_option maxHeartbeats 4000000 in
set_option maxRecDepth 100000 in
theorem s_Vc_listen_30 {p : Program} {l : Launch} {e : Env} {R : Room} {s : State} {m : MethodId} {args : Array Value} {below : List Frame} {meth : Method} {c : Code} {Q : State → Prop} {D : va_G} {q : Nat → ClassId} {a t : Nat → Nat} {A : Nat → Prop} {v : Nat} (hv : v < 4) (C : pv_C p s m args c prog_6_method_9_code 2 "PatchVoices$Voice" pv_TB D pv_cl (pv_ty q) 52 a A (pv_ZX t A)) (hmv : pv_mv A (pv_ZX t A)) (hRf : 0 ≤ R.frames) (hRl : 0 ≤ R.locals) {out : pv_S} (hret : pv_Rv p l e R s m args below meth c prog_6_method_9_code D pv_cl 52 a (pv_FX q a) A Q out) {σ : pv_S} {H : Heap} {locs : List Loc} {ls : Array Slot} (hl : lv_has ls 2 [(0, .ref (a (28 + 6 * v)))]) (hP : pv_W D pv_cl 52 a (pv_FX q a) σ H) (hS : va_S A s.heap H locs) (hf : f_Vc_listen_30 v σ = some out) : W p l e R s m args below meth c H locs 0 0 Q (F0 m 30 ls [.ref (a (28 + 6 * v))]) := by
  unfold f_Vc_listen_30 at hf
  have hx := C.1
  have hb := C.2.1
  refine lv_iconst (v := (0 : Int32)) hx hb d_Vc_listen_30 (by decide) ?_
  refine lv_goto (tgt := 40) hx hb d_Vc_listen_31 (by decide) ?_
  exact s_Vc_listen_40 hv C hmv hRf hRl hret (lv_sub hl [0] rfl) hP hS hf
def f_Vc_listen_0 (v : Nat) (σ : pv_S) (x1 : Int32) : Option pv_S :=
  (if (σ.1 (28 + 6 * v) 2) = 0 then
  some (pv_uI σ (28 + 6 * v) 4 ((σ.1 (28 + 6 * v) 4) + (1 : Int32)))
  else
  (if (σ.1 (28 + 6 * v) 1) = 0 then
  (if x1 = 0 then
  f_Vc_listen_40 v σ ((σ.1 (28 + 6 * v) 9) + (1 : Int32))
  else
  f_Vc_listen_30 v σ)
  else
  f_Vc_listen_30 v σ))
set_option maxHeartbeats 4000000 in
set_option maxRecDepth 100000 in
theorem s_Vc_listen_0 {p : Program} {l : Launch} {e : Env} {R : Room} {s : State} {m : MethodId} {args : Array Value} {below : List Frame} {meth : Method} {c : Code} {Q : State → Prop} {D : va_G} {q : Nat → ClassId} {a t : Nat → Nat} {A : Nat → Prop} {v : Nat} (hv : v < 4) (C : pv_C p s m args c prog_6_method_9_code 2 "PatchVoices$Voice" pv_TB D pv_cl (pv_ty q) 52 a A (pv_ZX t A)) (hmv : pv_mv A (pv_ZX t A)) (hRf : 0 ≤ R.frames) (hRl : 0 ≤ R.locals) {out : pv_S} (hret : pv_Rv p l e R s m args below meth c prog_6_method_9_code D pv_cl 52 a (pv_FX q a) A Q out) {σ : pv_S} {x1 : Int32} {H : Heap} {locs : List Loc} {ls : Array Slot} (hl : lv_has ls 2 [(0, .ref (a (28 + 6 * v))), (1, .int x1)]) (hP : pv_W D pv_cl 52 a (pv_FX q a) σ H) (hS : va_S A s.heap H locs) (hf : f_Vc_listen_0 v σ x1 = some out) : W p l e R s m args below meth c H locs 0 0 Q (F0 m 0 ls []) := by
  unfold f_Vc_listen_0 at hf
  have hx := C.1
  have hb := C.2.1
  refine lv_aload_n hx hb d_Vc_listen_0 rfl (lv_at hl 0 rfl) ?_
  refine pv_get C hP (v := .int (σ.1 (28 + 6 * v) 2)) (j := 2) (by omega) (fx_v0 hv _ _ _ _) fl_Vc_38 rfl d_Vc_listen_1 ?_
  refine lv_if_ne (tgt := 18) hx hb d_Vc_listen_4 (by decide) (fun h => ?_) (fun h => ?_)
  · have hf := pv_f hf h
    refine lv_aload_n hx hb d_Vc_listen_18 rfl (lv_at hl 0 rfl) ?_
    refine lv_aload_n hx hb d_Vc_listen_19 rfl (lv_at hl 0 rfl) ?_
    refine pv_get C hP (v := .int (σ.1 (28 + 6 * v) 1)) (j := 1) (by omega) (fx_v0 hv _ _ _ _) fl_Vc_35 rfl d_Vc_listen_20 ?_
    refine lv_if_ne (tgt := 30) hx hb d_Vc_listen_23 (by decide) (fun h => ?_) (fun h => ?_)
    · have hf := pv_f hf h
      exact s_Vc_listen_30 hv C hmv hRf hRl hret (lv_sub hl [0] rfl) hP hS hf
    · have hf := pv_t hf h
      refine lv_iload_n hx hb d_Vc_listen_26 rfl (lv_at hl 1 rfl) ?_
      refine lv_if_eq (tgt := 34) hx hb d_Vc_listen_27 (by decide) (fun h => ?_) (fun h => ?_)
      · have hf := pv_t hf h
        refine lv_aload_n hx hb d_Vc_listen_34 rfl (lv_at hl 0 rfl) ?_
        refine pv_get C hP (v := .int (σ.1 (28 + 6 * v) 9)) (j := 9) (by omega) (fx_v0 hv _ _ _ _) fl_Vc_48 rfl d_Vc_listen_35 ?_
        refine lv_iconst (v := (1 : Int32)) hx hb d_Vc_listen_38 (by decide) ?_
        refine lv_iadd hx hb d_Vc_listen_39 ?_
        exact s_Vc_listen_40 hv C hmv hRf hRl hret (lv_sub hl [0] rfl) hP hS hf
      · have hf := pv_f hf h
        exact s_Vc_listen_30 hv C hmv hRf hRl hret (lv_sub hl [0] rfl) hP hS hf
  · have hf := pv_t hf h
    refine lv_aload_n hx hb d_Vc_listen_7 rfl (lv_at hl 0 rfl) ?_
    refine lv_dup hx hb d_Vc_listen_8 rfl ?_
    refine pv_get C hP (v := .int (σ.1 (28 + 6 * v) 4)) (j := 4) (by omega) (fx_v0 hv _ _ _ _) fl_Vc_44 rfl d_Vc_listen_9 ?_
    refine lv_iconst (v := (1 : Int32)) hx hb d_Vc_listen_12 (by decide) ?_
    refine lv_iadd hx hb d_Vc_listen_13 ?_
    refine pv_putI C hP hS (x := ((σ.1 (28 + 6 * v) 4) + (1 : Int32))) (by omega) (fx_v0 hv _ _ _ _) fw_Vc_44 rfl rfl (Nat.le_of_ble_eq_true rfl) (fxs_v0_4 hv _ _ _ _ _) d_Vc_listen_14 (fun H locs hP hS => ?_)
    obtain rfl := Option.some.inj hf
    exact hret _ _ _ _ d_Vc_listen_17 hP hS
def f_Vc_listen (v : Nat) (σ : pv_S) (x1 : Int32) : Option pv_S := f_Vc_listen_0 v σ x1
def rm_Vc_listen : Room := { frames := 0, cells := 0, slots := 0, locals := 0 }
theorem c_Vc_listen {l : Launch} {D : va_G} {q : Nat → ClassId} {a t : Nat → Nat} {A : Nat → Prop} {v : Nat} (hv : v < 4) (hD : pv_D 52 a A) (hmv : pv_mv A (pv_ZX t A)) {σ : pv_S} {x1 : Int32} {out : pv_S} (hf : f_Vc_listen v σ x1 = some out) : pv_Mv l y_Vc_listen (Cond.code y_Vc_listen prog_6_method_9_code 2 none :: pv_TB) rm_Vc_listen D pv_cl (pv_ty q) 52 a (pv_FX q a) A (pv_ZX t A) [.ref (a (28 + 6 * v)), .int x1] σ out :=
  pv_ofV (by decide) (Nat.le_of_ble_eq_true rfl) hD (fun p e s m args below meth c Q ls C hret hl hP => s_Vc_listen_0 hv C hmv (Nat.le_refl _) (Nat.le_refl _) hret hl hP va_S.rf hf)
theorem d_Vc_play_0 : decode prog_6_method_5_code 0 = .ok (.aload_n 1, 1) := by decide +kernel
theorem d_Vc_play_1 : decode prog_6_method_5_code 1 = .ok (.getfield 61, 3) := by decide +kernel
theorem d_Vc_play_4 : decode prog_6_method_5_code 4 = .ok (.astore_n 3, 1) := by decide +kernel
theorem d_Vc_play_5 : decode prog_6_method_5_code 5 = .ok (.iconst 0, 1) := by decide +kernel
theorem d_Vc_play_6 : decode prog_6_method_5_code 6 = .ok (.istore 4, 2) := by decide +kernel
theorem d_Vc_play_8 : decode prog_6_method_5_code 8 = .ok (.iload 4, 2) := by decide +kernel
theorem d_Vc_play_10 : decode prog_6_method_5_code 10 = .ok (.aload_n 1, 1) := by decide +kernel
theorem d_Vc_play_11 : decode prog_6_method_5_code 11 = .ok (.getfield 85, 3) := by decide +kernel
theorem d_Vc_play_14 : decode prog_6_method_5_code 14 = .ok (.if_icmp .ge 88, 3) := by decide +kernel
theorem d_Vc_play_17 : decode prog_6_method_5_code 17 = .ok (.aload_n 1, 1) := by decide +kernel
theorem d_Vc_play_18 : decode prog_6_method_5_code 18 = .ok (.getfield 88, 3) := by decide +kernel
theorem d_Vc_play_21 : decode prog_6_method_5_code 21 = .ok (.iload 4, 2) := by decide +kernel
theorem d_Vc_play_23 : decode prog_6_method_5_code 23 = .ok (.iaload, 1) := by decide +kernel
theorem d_Vc_play_24 : decode prog_6_method_5_code 24 = .ok (.istore 5, 2) := by decide +kernel
theorem d_Vc_play_26 : decode prog_6_method_5_code 26 = .ok (.aload_n 3, 1) := by decide +kernel
theorem d_Vc_play_27 : decode prog_6_method_5_code 27 = .ok (.getfield 76, 3) := by decide +kernel
theorem d_Vc_play_30 : decode prog_6_method_5_code 30 = .ok (.iload 5, 2) := by decide +kernel
theorem d_Vc_play_32 : decode prog_6_method_5_code 32 = .ok (.iaload, 1) := by decide +kernel
theorem d_Vc_play_33 : decode prog_6_method_5_code 33 = .ok (.bipush 18, 2) := by decide +kernel
theorem d_Vc_play_35 : decode prog_6_method_5_code 35 = .ok (.if_icmp .ne 33, 3) := by decide +kernel
theorem d_Vc_play_38 : decode prog_6_method_5_code 38 = .ok (.aload_n 0, 1) := by decide +kernel
theorem d_Vc_play_39 : decode prog_6_method_5_code 39 = .ok (.getfield 11, 3) := by decide +kernel
theorem d_Vc_play_42 : decode prog_6_method_5_code 42 = .ok (.iload 5, 2) := by decide +kernel
theorem d_Vc_play_44 : decode prog_6_method_5_code 44 = .ok (.aload_n 0, 1) := by decide +kernel
theorem d_Vc_play_45 : decode prog_6_method_5_code 45 = .ok (.getfield 28, 3) := by decide +kernel
theorem d_Vc_play_48 : decode prog_6_method_5_code 48 = .ok (.aload_n 1, 1) := by decide +kernel
theorem d_Vc_play_49 : decode prog_6_method_5_code 49 = .ok (.getfield 91, 3) := by decide +kernel
theorem d_Vc_play_52 : decode prog_6_method_5_code 52 = .ok (.iload 5, 2) := by decide +kernel
theorem d_Vc_play_54 : decode prog_6_method_5_code 54 = .ok (.iaload, 1) := by decide +kernel
theorem d_Vc_play_55 : decode prog_6_method_5_code 55 = .ok (.aload_n 0, 1) := by decide +kernel
theorem d_Vc_play_56 : decode prog_6_method_5_code 56 = .ok (.getfield 22, 3) := by decide +kernel
theorem d_Vc_play_59 : decode prog_6_method_5_code 59 = .ok (.iload 5, 2) := by decide +kernel
theorem d_Vc_play_61 : decode prog_6_method_5_code 61 = .ok (.iaload, 1) := by decide +kernel
theorem d_Vc_play_62 : decode prog_6_method_5_code 62 = .ok (.iadd, 1) := by decide +kernel
theorem d_Vc_play_63 : decode prog_6_method_5_code 63 = .ok (.iaload, 1) := by decide +kernel
theorem d_Vc_play_64 : decode prog_6_method_5_code 64 = .ok (.iastore, 1) := by decide +kernel
theorem d_Vc_play_65 : decode prog_6_method_5_code 65 = .ok (.goto 31, 3) := by decide +kernel
theorem d_Vc_play_68 : decode prog_6_method_5_code 68 = .ok (.aload_n 0, 1) := by decide +kernel
theorem d_Vc_play_69 : decode prog_6_method_5_code 69 = .ok (.aload_n 3, 1) := by decide +kernel
theorem d_Vc_play_70 : decode prog_6_method_5_code 70 = .ok (.iload 5, 2) := by decide +kernel
theorem d_Vc_play_72 : decode prog_6_method_5_code 72 = .ok (.invokevirtual 94, 3) := by decide +kernel
theorem d_Vc_play_75 : decode prog_6_method_5_code 75 = .ok (.aload_n 0, 1) := by decide +kernel
theorem d_Vc_play_76 : decode prog_6_method_5_code 76 = .ok (.getfield 11, 3) := by decide +kernel
theorem d_Vc_play_79 : decode prog_6_method_5_code 79 = .ok (.iload 5, 2) := by decide +kernel
theorem d_Vc_play_81 : decode prog_6_method_5_code 81 = .ok (.aload_n 0, 1) := by decide +kernel
theorem d_Vc_play_82 : decode prog_6_method_5_code 82 = .ok (.aload_n 3, 1) := by decide +kernel
theorem d_Vc_play_83 : decode prog_6_method_5_code 83 = .ok (.getfield 76, 3) := by decide +kernel
theorem d_Vc_play_86 : decode prog_6_method_5_code 86 = .ok (.iload 5, 2) := by decide +kernel
theorem d_Vc_play_88 : decode prog_6_method_5_code 88 = .ok (.iaload, 1) := by decide +kernel
theorem d_Vc_play_89 : decode prog_6_method_5_code 89 = .ok (.iload 5, 2) := by decide +kernel
theorem d_Vc_play_91 : decode prog_6_method_5_code 91 = .ok (.aload_n 2, 1) := by decide +kernel
theorem d_Vc_play_92 : decode prog_6_method_5_code 92 = .ok (.invokevirtual 98, 3) := by decide +kernel
theorem d_Vc_play_95 : decode prog_6_method_5_code 95 = .ok (.iastore, 1) := by decide +kernel
theorem d_Vc_play_96 : decode prog_6_method_5_code 96 = .ok (.iinc 4 1, 3) := by decide +kernel
theorem d_Vc_play_99 : decode prog_6_method_5_code 99 = .ok (.goto (-91), 3) := by decide +kernel
theorem d_Vc_play_102 : decode prog_6_method_5_code 102 = .ok (.aload_n 1, 1) := by decide +kernel
theorem d_Vc_play_103 : decode prog_6_method_5_code 103 = .ok (.getfield 85, 3) := by decide +kernel
theorem d_Vc_play_106 : decode prog_6_method_5_code 106 = .ok (.istore 4, 2) := by decide +kernel
theorem d_Vc_play_108 : decode prog_6_method_5_code 108 = .ok (.iload 4, 2) := by decide +kernel
theorem d_Vc_play_110 : decode prog_6_method_5_code 110 = .ok (.aload_n 1, 1) := by decide +kernel
theorem d_Vc_play_111 : decode prog_6_method_5_code 111 = .ok (.getfield 102, 3) := by decide +kernel
theorem d_Vc_play_114 : decode prog_6_method_5_code 114 = .ok (.if_icmp .ge 21, 3) := by decide +kernel
theorem d_Vc_play_117 : decode prog_6_method_5_code 117 = .ok (.aload_n 0, 1) := by decide +kernel
theorem d_Vc_play_118 : decode prog_6_method_5_code 118 = .ok (.aload_n 1, 1) := by decide +kernel
theorem d_Vc_play_119 : decode prog_6_method_5_code 119 = .ok (.aload_n 1, 1) := by decide +kernel
theorem d_Vc_play_120 : decode prog_6_method_5_code 120 = .ok (.getfield 88, 3) := by decide +kernel
theorem d_Vc_play_123 : decode prog_6_method_5_code 123 = .ok (.iload 4, 2) := by decide +kernel
theorem d_Vc_play_125 : decode prog_6_method_5_code 125 = .ok (.iaload, 1) := by decide +kernel
theorem d_Vc_play_126 : decode prog_6_method_5_code 126 = .ok (.invokevirtual 105, 3) := by decide +kernel
theorem d_Vc_play_129 : decode prog_6_method_5_code 129 = .ok (.iinc 4 1, 3) := by decide +kernel
theorem d_Vc_play_132 : decode prog_6_method_5_code 132 = .ok (.goto (-24), 3) := by decide +kernel
theorem d_Vc_play_135 : decode prog_6_method_5_code 135 = .ok (.aload_n 0, 1) := by decide +kernel
theorem d_Vc_play_136 : decode prog_6_method_5_code 136 = .ok (.iconst 1, 1) := by decide +kernel
theorem d_Vc_play_137 : decode prog_6_method_5_code 137 = .ok (.putfield 41, 3) := by decide +kernel
theorem d_Vc_play_140 : decode prog_6_method_5_code 140 = .ok (.aload_n 3, 1) := by decide +kernel
theorem d_Vc_play_141 : decode prog_6_method_5_code 141 = .ok (.invokevirtual 109, 3) := by decide +kernel
theorem d_Vc_play_144 : decode prog_6_method_5_code 144 = .ok (.istore 4, 2) := by decide +kernel
theorem d_Vc_play_146 : decode prog_6_method_5_code 146 = .ok (.iload 4, 2) := by decide +kernel
theorem d_Vc_play_148 : decode prog_6_method_5_code 148 = .ok (.iconst (-1), 1) := by decide +kernel
theorem d_Vc_play_149 : decode prog_6_method_5_code 149 = .ok (.if_icmp .ne 10, 3) := by decide +kernel
theorem d_Vc_play_152 : decode prog_6_method_5_code 152 = .ok (.aload_n 3, 1) := by decide +kernel
theorem d_Vc_play_153 : decode prog_6_method_5_code 153 = .ok (.invokevirtual 113, 3) := by decide +kernel
theorem d_Vc_play_156 : decode prog_6_method_5_code 156 = .ok (.goto 10, 3) := by decide +kernel
theorem d_Vc_play_159 : decode prog_6_method_5_code 159 = .ok (.aload_n 0, 1) := by decide +kernel
theorem d_Vc_play_160 : decode prog_6_method_5_code 160 = .ok (.getfield 11, 3) := by decide +kernel
theorem d_Vc_play_163 : decode prog_6_method_5_code 163 = .ok (.iload 4, 2) := by decide +kernel
theorem d_Vc_play_165 : decode prog_6_method_5_code 165 = .ok (.iaload, 1) := by decide +kernel
theorem d_Vc_play_166 : decode prog_6_method_5_code 166 = .ok (.istore 5, 2) := by decide +kernel
theorem d_Vc_play_168 : decode prog_6_method_5_code 168 = .ok (.aload_n 0, 1) := by decide +kernel
theorem d_Vc_play_169 : decode prog_6_method_5_code 169 = .ok (.iload 5, 2) := by decide +kernel
theorem d_Vc_play_171 : decode prog_6_method_5_code 171 = .ok (.invokevirtual 116, 3) := by decide +kernel
theorem d_Vc_play_174 : decode prog_6_method_5_code 174 = .ok (.iload 5, 2) := by decide +kernel
theorem d_Vc_play_176 : decode prog_6_method_5_code 176 = .ok (.ireturn, 1) := by decide +kernel
def f_Vc_play_166 (v : Nat) (σ : pv_S) (s0 : Int32) : Option (Int32 × pv_S) :=
  ((f_Vc_listen v σ s0).bind fun q6 =>
some (s0, q6))
set_option maxHeartbeats 4000000 in
set_option maxRecDepth 100000 in
theorem s_Vc_play_166 {p : Program} {l : Launch} {e : Env} {R : Room} {s : State} {m : MethodId} {args : Array Value} {below : List Frame} {meth : Method} {c : Code} {Q : State → Prop} {D : va_G} {q : Nat → ClassId} {a t : Nat → Nat} {A : Nat → Prop} {v : Nat} (hv : v < 4) (C : pv_C p s m args c prog_6_method_5_code 6 "PatchVoices$Voice" pv_TB D pv_cl (pv_ty q) 52 a A (pv_ZX t A)) (hmv : pv_mv A (pv_ZX t A)) (hRf : 4 ≤ R.frames) (hRl : 86 ≤ R.locals) {out : (Int32 × pv_S)} (hret : pv_Ri p l e R s m args below meth c prog_6_method_5_code D pv_cl 52 a (pv_FX q a) A Q out) {σ : pv_S} {s0 : Int32} {H : Heap} {locs : List Loc} {ls : Array Slot} (hl : lv_has ls 6 [(0, .ref (a (28 + 6 * v)))]) (hP : pv_W D pv_cl 52 a (pv_FX q a) σ H) (hS : va_S A s.heap H locs) (hf : f_Vc_play_166 v σ s0 = some out) : W p l e R s m args below meth c H locs 0 0 Q (F0 m 166 ls [.int s0]) := by
  unfold f_Vc_play_166 at hf
  have hx := C.1
  have hb := C.2.1
  refine lv_istore (lv' := [(5, .int s0), (0, .ref (a (28 + 6 * v)))]) hx hb d_Vc_play_166 hl (by decide) rfl (fun ls hl => ?_)
  refine lv_aload_n hx hb d_Vc_play_168 rfl (lv_at hl 1 rfl) ?_
  refine lv_iload hx hb d_Vc_play_169 (lv_at hl 0 rfl) ?_
  obtain ⟨q6, hc, hf⟩ := pv_b hf
  refine pv_callVv C hmv pv_good hP hS (As := [.int s0]) (rest := []) (by omega) (fx_v0 hv _ _ _ _) rfl (c_Vc_listen hv C.2.2.2.2.2.2.1 hmv hc) cv_Vc_116 ⟨rfl, rfl, Nat.le_trans (Nat.le_of_ble_eq_true rfl) hRf, Nat.le_trans (Nat.le_of_ble_eq_true rfl) hRl⟩ rfl hl.1 rfl (Nat.le_of_ble_eq_true rfl) d_Vc_play_171 ⟨Nat.zero_le _, Nat.zero_le _⟩ (fun H locs hP hS => ?_)
  refine lv_iload hx hb d_Vc_play_174 (lv_at hl 0 rfl) ?_
  obtain rfl := Option.some.inj hf
  exact hret _ _ _ _ d_Vc_play_176 hP hS
def f_Vc_play_108b (v : Nat) (k_108 : pv_S → Int32 → Option (Int32 × pv_S)) (σ : pv_S) (x4 : Int32) : Option (Int32 × pv_S) :=
  (if (σ.1 11 1) ≤ x4 then
  ((f_Wr_outputModule (pv_uI σ (28 + 6 * v) 3 (1 : Int32))).bind fun q3 =>
(if q3.1 = (-1 : Int32) then
  ((f_Wr_outputNumber q3.2).bind fun q4 =>
f_Vc_play_166 v q4.2 q4.1)
  else
  (if pv_in q3.1 24 = true then
f_Vc_play_166 v q3.2 (q3.2.1 (28 + 6 * v + 1) (q3.1).toNatClampNeg)
  else none)))
  else
  (if pv_in x4 48 = true then
((f_Vc_put v σ (σ.1 20 (x4).toNatClampNeg)).bind fun q5 =>
k_108 q5 (x4 + (1 : Int32)))
  else none))
set_option maxHeartbeats 4000000 in
set_option maxRecDepth 100000 in
theorem s_Vc_play_108b {p : Program} {l : Launch} {e : Env} {R : Room} {s : State} {m : MethodId} {args : Array Value} {below : List Frame} {meth : Method} {c : Code} {Q : State → Prop} {D : va_G} {q : Nat → ClassId} {a t : Nat → Nat} {A : Nat → Prop} {v : Nat} (hv : v < 4) (C : pv_C p s m args c prog_6_method_5_code 6 "PatchVoices$Voice" pv_TB D pv_cl (pv_ty q) 52 a A (pv_ZX t A)) (hmv : pv_mv A (pv_ZX t A)) (hRf : 4 ≤ R.frames) (hRl : 86 ≤ R.locals) {out : (Int32 × pv_S)} (hret : pv_Ri p l e R s m args below meth c prog_6_method_5_code D pv_cl 52 a (pv_FX q a) A Q out) {k_108 : pv_S → Int32 → Option (Int32 × pv_S)} (hk_108 : ∀ (σ : pv_S) (x4 : Int32) (H : Heap) (locs : List Loc) (ls : Array Slot), k_108 σ x4 = some out → lv_has ls 6 [(0, .ref (a (28 + 6 * v))), (1, .ref (a 11)), (3, .ref (a 12)), (4, .int x4)] → pv_W D pv_cl 52 a (pv_FX q a) σ H → va_S A s.heap H locs → W p l e R s m args below meth c H locs 0 0 Q (F0 m 108 ls [])) {σ : pv_S} {x4 : Int32} {H : Heap} {locs : List Loc} {ls : Array Slot} (hl : lv_has ls 6 [(0, .ref (a (28 + 6 * v))), (1, .ref (a 11)), (3, .ref (a 12)), (4, .int x4)]) (hP : pv_W D pv_cl 52 a (pv_FX q a) σ H) (hS : va_S A s.heap H locs) (hf : f_Vc_play_108b v k_108 σ x4 = some out) : W p l e R s m args below meth c H locs 0 0 Q (F0 m 108 ls []) := by
  unfold f_Vc_play_108b at hf
  have hx := C.1
  have hb := C.2.1
  refine lv_iload hx hb d_Vc_play_108 (lv_at hl 3 rfl) ?_
  refine lv_aload_n hx hb d_Vc_play_110 rfl (lv_at hl 1 rfl) ?_
  refine pv_get C hP (v := .int (σ.1 11 1)) (j := 1) (by decide) (fx_11 _ _ _ _) fl_Vc_102 rfl d_Vc_play_111 ?_
  refine lv_icmp_ge (tgt := 135) hx hb d_Vc_play_114 (by decide) (fun h => ?_) (fun h => ?_)
  · have hf := pv_t hf h
    refine lv_aload_n hx hb d_Vc_play_135 rfl (lv_at hl 0 rfl) ?_
    refine lv_iconst (v := (1 : Int32)) hx hb d_Vc_play_136 (by decide) ?_
    refine pv_putI C hP hS (x := (1 : Int32)) (by omega) (fx_v0 hv _ _ _ _) fw_Vc_41 rfl rfl (Nat.le_of_ble_eq_true rfl) (fxs_v0_3 hv _ _ _ _ _) d_Vc_play_137 (fun H locs hP hS => ?_)
    refine lv_aload_n hx hb d_Vc_play_140 rfl (lv_at hl 2 rfl) ?_
    obtain ⟨q3, hc, hf⟩ := pv_b hf
    refine pv_callVi C hmv pv_good hP hS (As := []) (rest := []) (by decide) (fx_12 _ _ _ _) rfl (c_Wr_outputModule C.2.2.2.2.2.2.1 hmv hc) cv_Vc_109 ⟨rfl, rfl, Nat.le_trans (Nat.le_of_ble_eq_true rfl) hRf, Nat.le_trans (Nat.le_of_ble_eq_true rfl) hRl⟩ rfl hl.1 rfl (Nat.le_of_ble_eq_true rfl) d_Vc_play_141 ⟨Nat.zero_le _, Nat.zero_le _⟩ (fun H locs hP hS => ?_)
    refine lv_istore (lv' := [(4, .int q3.1), (0, .ref (a (28 + 6 * v))), (1, .ref (a 11)), (3, .ref (a 12))]) hx hb d_Vc_play_144 hl (by decide) rfl (fun ls hl => ?_)
    refine lv_iload hx hb d_Vc_play_146 (lv_at hl 0 rfl) ?_
    refine lv_iconst (v := (-1 : Int32)) hx hb d_Vc_play_148 (by decide) ?_
    refine lv_icmp_ne (tgt := 159) hx hb d_Vc_play_149 (by decide) (fun h => ?_) (fun h => ?_)
    · have hf := pv_f hf h
      refine lv_aload_n hx hb d_Vc_play_159 rfl (lv_at hl 1 rfl) ?_
      refine pv_get C hP (v := .ref (a (28 + 6 * v + 1))) (j := 6) (by omega) (fx_v0 hv _ _ _ _) fl_Vc_11 rfl d_Vc_play_160 ?_
      refine lv_iload hx hb d_Vc_play_163 (lv_at hl 0 rfl) ?_
      obtain ⟨hg, hf⟩ := pv_g hf
      refine pv_iald C hP (t0 := 0) (by omega) (fx_v1 hv _ _ _ _) rfl hg d_Vc_play_165 ?_
      exact s_Vc_play_166 hv C hmv hRf hRl hret (lv_sub hl [1] rfl) hP hS hf
    · have hf := pv_t hf h
      refine lv_aload_n hx hb d_Vc_play_152 rfl (lv_at hl 3 rfl) ?_
      obtain ⟨q4, hc, hf⟩ := pv_b hf
      refine pv_callVi C hmv pv_good hP hS (As := []) (rest := []) (by decide) (fx_12 _ _ _ _) rfl (c_Wr_outputNumber C.2.2.2.2.2.2.1 hmv hc) cv_Vc_113 ⟨rfl, rfl, Nat.le_trans (Nat.le_of_ble_eq_true rfl) hRf, Nat.le_trans (Nat.le_of_ble_eq_true rfl) hRl⟩ rfl hl.1 rfl (Nat.le_of_ble_eq_true rfl) d_Vc_play_153 ⟨Nat.zero_le _, Nat.zero_le _⟩ (fun H locs hP hS => ?_)
      refine lv_goto (tgt := 166) hx hb d_Vc_play_156 (by decide) ?_
      exact s_Vc_play_166 hv C hmv hRf hRl hret (lv_sub hl [1] rfl) hP hS hf
  · have hf := pv_f hf h
    refine lv_aload_n hx hb d_Vc_play_117 rfl (lv_at hl 0 rfl) ?_
    refine lv_aload_n hx hb d_Vc_play_118 rfl (lv_at hl 1 rfl) ?_
    refine lv_aload_n hx hb d_Vc_play_119 rfl (lv_at hl 1 rfl) ?_
    refine pv_get C hP (v := .ref (a 20)) (j := 3) (by decide) (fx_11 _ _ _ _) fl_Vc_88 rfl d_Vc_play_120 ?_
    refine lv_iload hx hb d_Vc_play_123 (lv_at hl 3 rfl) ?_
    obtain ⟨hg, hf⟩ := pv_g hf
    refine pv_iald C hP (t0 := 0) (by decide) (fx_20 _ _ _ _) rfl hg d_Vc_play_125 ?_
    obtain ⟨q5, hc, hf⟩ := pv_b hf
    refine pv_callVv C hmv pv_good hP hS (As := [.ref (a 11), .int (σ.1 20 (x4).toNatClampNeg)]) (rest := []) (by omega) (fx_v0 hv _ _ _ _) rfl (c_Vc_put hv C.2.2.2.2.2.2.1 hmv hc) cv_Vc_105 ⟨rfl, rfl, Nat.le_trans (Nat.le_of_ble_eq_true rfl) hRf, Nat.le_trans (Nat.le_of_ble_eq_true rfl) hRl⟩ rfl hl.1 rfl (Nat.le_of_ble_eq_true rfl) d_Vc_play_126 ⟨Nat.zero_le _, Nat.zero_le _⟩ (fun H locs hP hS => ?_)
    refine lv_iinc (k := 3) (v := (x4 + (1 : Int32))) (lv' := [(4, .int (x4 + (1 : Int32))), (0, .ref (a (28 + 6 * v))), (1, .ref (a 11)), (3, .ref (a 12))]) hx hb d_Vc_play_129 hl rfl (pv_inc (by decide)) (by decide) rfl (fun ls hl => ?_)
    refine lv_goto (tgt := 108) hx hb d_Vc_play_132 (by decide) ?_
    exact hk_108 _ _ _ _ _ hf (lv_sub hl [1, 2, 3, 0] rfl) hP hS
def f_Vc_play_108 (v : Nat) : Nat → pv_S → Int32 → Option (Int32 × pv_S)
  | 0 => fun _ _ => none
  | n + 1 => f_Vc_play_108b v (f_Vc_play_108 v n)
set_option maxHeartbeats 4000000 in
theorem s_Vc_play_108 {p : Program} {l : Launch} {e : Env} {R : Room} {s : State} {m : MethodId} {args : Array Value} {below : List Frame} {meth : Method} {c : Code} {Q : State → Prop} {D : va_G} {q : Nat → ClassId} {a t : Nat → Nat} {A : Nat → Prop} {v : Nat} (hv : v < 4) (C : pv_C p s m args c prog_6_method_5_code 6 "PatchVoices$Voice" pv_TB D pv_cl (pv_ty q) 52 a A (pv_ZX t A)) (hmv : pv_mv A (pv_ZX t A)) (hRf : 4 ≤ R.frames) (hRl : 86 ≤ R.locals) {out : (Int32 × pv_S)} (hret : pv_Ri p l e R s m args below meth c prog_6_method_5_code D pv_cl 52 a (pv_FX q a) A Q out) (n : Nat) : ∀ {σ : pv_S} {x4 : Int32} {H : Heap} {locs : List Loc} {ls : Array Slot}, lv_has ls 6 [(0, .ref (a (28 + 6 * v))), (1, .ref (a 11)), (3, .ref (a 12)), (4, .int x4)] → pv_W D pv_cl 52 a (pv_FX q a) σ H → va_S A s.heap H locs → f_Vc_play_108 v n σ x4 = some out → W p l e R s m args below meth c H locs 0 0 Q (F0 m 108 ls []) := by
  induction n with
  | zero => intro σ x4 H locs ls hl hP hS hf; cases hf
  | succ n ih => intro σ x4 H locs ls hl hP hS hf; exact s_Vc_play_108b hv C hmv hRf hRl hret (fun σ x4 H locs ls hf hl hP hS => ih hl hP hS hf) hl hP hS hf
def f_Vc_play_96 (v : Nat) (k_8 : pv_S → Int32 → Option (Int32 × pv_S)) (σ : pv_S) (x4 : Int32) : Option (Int32 × pv_S) :=
  k_8 σ (x4 + (1 : Int32))
set_option maxHeartbeats 4000000 in
set_option maxRecDepth 100000 in
theorem s_Vc_play_96 {p : Program} {l : Launch} {e : Env} {R : Room} {s : State} {m : MethodId} {args : Array Value} {below : List Frame} {meth : Method} {c : Code} {Q : State → Prop} {D : va_G} {q : Nat → ClassId} {a t : Nat → Nat} {A : Nat → Prop} {v : Nat} (hv : v < 4) (C : pv_C p s m args c prog_6_method_5_code 6 "PatchVoices$Voice" pv_TB D pv_cl (pv_ty q) 52 a A (pv_ZX t A)) (hmv : pv_mv A (pv_ZX t A)) (hRf : 4 ≤ R.frames) (hRl : 86 ≤ R.locals) {out : (Int32 × pv_S)} (hret : pv_Ri p l e R s m args below meth c prog_6_method_5_code D pv_cl 52 a (pv_FX q a) A Q out) {k_8 : pv_S → Int32 → Option (Int32 × pv_S)} (hk_8 : ∀ (σ : pv_S) (x4 : Int32) (H : Heap) (locs : List Loc) (ls : Array Slot), k_8 σ x4 = some out → lv_has ls 6 [(0, .ref (a (28 + 6 * v))), (1, .ref (a 11)), (2, .ref (a 26)), (3, .ref (a 12)), (4, .int x4)] → pv_W D pv_cl 52 a (pv_FX q a) σ H → va_S A s.heap H locs → W p l e R s m args below meth c H locs 0 0 Q (F0 m 8 ls [])) {σ : pv_S} {x4 : Int32} {H : Heap} {locs : List Loc} {ls : Array Slot} (hl : lv_has ls 6 [(0, .ref (a (28 + 6 * v))), (1, .ref (a 11)), (2, .ref (a 26)), (3, .ref (a 12)), (4, .int x4)]) (hP : pv_W D pv_cl 52 a (pv_FX q a) σ H) (hS : va_S A s.heap H locs) (hf : f_Vc_play_96 v k_8 σ x4 = some out) : W p l e R s m args below meth c H locs 0 0 Q (F0 m 96 ls []) := by
  unfold f_Vc_play_96 at hf
  have hx := C.1
  have hb := C.2.1
  refine lv_iinc (k := 4) (v := (x4 + (1 : Int32))) (lv' := [(4, .int (x4 + (1 : Int32))), (0, .ref (a (28 + 6 * v))), (1, .ref (a 11)), (2, .ref (a 26)), (3, .ref (a 12))]) hx hb d_Vc_play_96 hl rfl (pv_inc (by decide)) (by decide) rfl (fun ls hl => ?_)
  refine lv_goto (tgt := 8) hx hb d_Vc_play_99 (by decide) ?_
  exact hk_8 _ _ _ _ _ hf (lv_sub hl [1, 2, 3, 4, 0] rfl) hP hS
def f_Vc_play_8b (v : Nat) (k_8 : pv_S → Int32 → Option (Int32 × pv_S)) (σ : pv_S) (x4 : Int32) : Option (Int32 × pv_S) :=
  (if (σ.1 11 2) ≤ x4 then
  f_Vc_play_108 v pv_fu σ (σ.1 11 2)
  else
  (if pv_in x4 48 = true then
(if pv_in (σ.1 20 (x4).toNatClampNeg) 24 = true then
(if (σ.1 13 ((σ.1 20 (x4).toNatClampNeg)).toNatClampNeg) = (18 : Int32) then
  (if pv_in (σ.1 20 (x4).toNatClampNeg) 24 = true then
(if pv_in (σ.1 20 (x4).toNatClampNeg) 24 = true then
(if pv_in ((σ.1 21 ((σ.1 20 (x4).toNatClampNeg)).toNatClampNeg) + (σ.1 (28 + 6 * v + 3) ((σ.1 20 (x4).toNatClampNeg)).toNatClampNeg)) 128 = true then
(if pv_in (σ.1 20 (x4).toNatClampNeg) 24 = true then
f_Vc_play_96 v k_8 (pv_uI σ (28 + 6 * v + 1) ((σ.1 20 (x4).toNatClampNeg)).toNatClampNeg (σ.1 (28 + 6 * v + 5) (((σ.1 21 ((σ.1 20 (x4).toNatClampNeg)).toNatClampNeg) + (σ.1 (28 + 6 * v + 3) ((σ.1 20 (x4).toNatClampNeg)).toNatClampNeg))).toNatClampNeg)) x4
  else none)
  else none)
  else none)
  else none)
  else
  ((f_Vc_readInputs v σ (σ.1 20 (x4).toNatClampNeg)).bind fun q1 =>
(if pv_in (σ.1 20 (x4).toNatClampNeg) 24 = true then
((f_Vc_nextValue v q1 (q1.1 13 ((σ.1 20 (x4).toNatClampNeg)).toNatClampNeg) (σ.1 20 (x4).toNatClampNeg)).bind fun q2 =>
(if pv_in (σ.1 20 (x4).toNatClampNeg) 24 = true then
f_Vc_play_96 v k_8 (pv_uI q2.2 (28 + 6 * v + 1) ((σ.1 20 (x4).toNatClampNeg)).toNatClampNeg q2.1) x4
  else none))
  else none)))
  else none)
  else none))
set_option maxHeartbeats 4000000 in
set_option maxRecDepth 100000 in
theorem s_Vc_play_8b {p : Program} {l : Launch} {e : Env} {R : Room} {s : State} {m : MethodId} {args : Array Value} {below : List Frame} {meth : Method} {c : Code} {Q : State → Prop} {D : va_G} {q : Nat → ClassId} {a t : Nat → Nat} {A : Nat → Prop} {v : Nat} (hv : v < 4) (C : pv_C p s m args c prog_6_method_5_code 6 "PatchVoices$Voice" pv_TB D pv_cl (pv_ty q) 52 a A (pv_ZX t A)) (hmv : pv_mv A (pv_ZX t A)) (hRf : 4 ≤ R.frames) (hRl : 86 ≤ R.locals) {out : (Int32 × pv_S)} (hret : pv_Ri p l e R s m args below meth c prog_6_method_5_code D pv_cl 52 a (pv_FX q a) A Q out) {k_8 : pv_S → Int32 → Option (Int32 × pv_S)} (hk_8 : ∀ (σ : pv_S) (x4 : Int32) (H : Heap) (locs : List Loc) (ls : Array Slot), k_8 σ x4 = some out → lv_has ls 6 [(0, .ref (a (28 + 6 * v))), (1, .ref (a 11)), (2, .ref (a 26)), (3, .ref (a 12)), (4, .int x4)] → pv_W D pv_cl 52 a (pv_FX q a) σ H → va_S A s.heap H locs → W p l e R s m args below meth c H locs 0 0 Q (F0 m 8 ls [])) {σ : pv_S} {x4 : Int32} {H : Heap} {locs : List Loc} {ls : Array Slot} (hl : lv_has ls 6 [(0, .ref (a (28 + 6 * v))), (1, .ref (a 11)), (2, .ref (a 26)), (3, .ref (a 12)), (4, .int x4)]) (hP : pv_W D pv_cl 52 a (pv_FX q a) σ H) (hS : va_S A s.heap H locs) (hf : f_Vc_play_8b v k_8 σ x4 = some out) : W p l e R s m args below meth c H locs 0 0 Q (F0 m 8 ls []) := by
  unfold f_Vc_play_8b at hf
  have hx := C.1
  have hb := C.2.1
  refine lv_iload hx hb d_Vc_play_8 (lv_at hl 4 rfl) ?_
  refine lv_aload_n hx hb d_Vc_play_10 rfl (lv_at hl 1 rfl) ?_
  refine pv_get C hP (v := .int (σ.1 11 2)) (j := 2) (by decide) (fx_11 _ _ _ _) fl_Vc_85 rfl d_Vc_play_11 ?_
  refine lv_icmp_ge (tgt := 102) hx hb d_Vc_play_14 (by decide) (fun h => ?_) (fun h => ?_)
  · have hf := pv_t hf h
    refine lv_aload_n hx hb d_Vc_play_102 rfl (lv_at hl 1 rfl) ?_
    refine pv_get C hP (v := .int (σ.1 11 2)) (j := 2) (by decide) (fx_11 _ _ _ _) fl_Vc_85 rfl d_Vc_play_103 ?_
    refine lv_istore (lv' := [(4, .int (σ.1 11 2)), (0, .ref (a (28 + 6 * v))), (1, .ref (a 11)), (2, .ref (a 26)), (3, .ref (a 12))]) hx hb d_Vc_play_106 hl (by decide) rfl (fun ls hl => ?_)
    exact s_Vc_play_108 hv C hmv hRf hRl hret pv_fu (lv_sub hl [1, 2, 4, 0] rfl) hP hS hf
  · have hf := pv_f hf h
    refine lv_aload_n hx hb d_Vc_play_17 rfl (lv_at hl 1 rfl) ?_
    refine pv_get C hP (v := .ref (a 20)) (j := 3) (by decide) (fx_11 _ _ _ _) fl_Vc_88 rfl d_Vc_play_18 ?_
    refine lv_iload hx hb d_Vc_play_21 (lv_at hl 4 rfl) ?_
    obtain ⟨hg, hf⟩ := pv_g hf
    refine pv_iald C hP (t0 := 0) (by decide) (fx_20 _ _ _ _) rfl hg d_Vc_play_23 ?_
    refine lv_istore (lv' := [(5, .int (σ.1 20 (x4).toNatClampNeg)), (0, .ref (a (28 + 6 * v))), (1, .ref (a 11)), (2, .ref (a 26)), (3, .ref (a 12)), (4, .int x4)]) hx hb d_Vc_play_24 hl (by decide) rfl (fun ls hl => ?_)
    refine lv_aload_n hx hb d_Vc_play_26 rfl (lv_at hl 4 rfl) ?_
    refine pv_get C hP (v := .ref (a 13)) (j := 1) (by decide) (fx_12 _ _ _ _) fl_Vc_76 rfl d_Vc_play_27 ?_
    refine lv_iload hx hb d_Vc_play_30 (lv_at hl 0 rfl) ?_
    obtain ⟨hg, hf⟩ := pv_g hf
    refine pv_iald C hP (t0 := 0) (by decide) (fx_13 _ _ _ _) rfl hg d_Vc_play_32 ?_
    refine lv_bipush (v := (18 : Int32)) hx hb d_Vc_play_33 (by decide) ?_
    refine lv_icmp_ne (tgt := 68) hx hb d_Vc_play_35 (by decide) (fun h => ?_) (fun h => ?_)
    · have hf := pv_f hf h
      refine lv_aload_n hx hb d_Vc_play_68 rfl (lv_at hl 1 rfl) ?_
      refine lv_aload_n hx hb d_Vc_play_69 rfl (lv_at hl 4 rfl) ?_
      refine lv_iload hx hb d_Vc_play_70 (lv_at hl 0 rfl) ?_
      obtain ⟨q1, hc, hf⟩ := pv_b hf
      refine pv_callVv C hmv pv_good hP hS (As := [.ref (a 12), .int (σ.1 20 (x4).toNatClampNeg)]) (rest := []) (by omega) (fx_v0 hv _ _ _ _) rfl (c_Vc_readInputs hv C.2.2.2.2.2.2.1 hmv hc) cv_Vc_94 ⟨rfl, rfl, Nat.le_trans (Nat.le_of_ble_eq_true rfl) hRf, Nat.le_trans (Nat.le_of_ble_eq_true rfl) hRl⟩ rfl hl.1 rfl (Nat.le_of_ble_eq_true rfl) d_Vc_play_72 ⟨Nat.zero_le _, Nat.zero_le _⟩ (fun H locs hP hS => ?_)
      refine lv_aload_n hx hb d_Vc_play_75 rfl (lv_at hl 1 rfl) ?_
      refine pv_get C hP (v := .ref (a (28 + 6 * v + 1))) (j := 6) (by omega) (fx_v0 hv _ _ _ _) fl_Vc_11 rfl d_Vc_play_76 ?_
      refine lv_iload hx hb d_Vc_play_79 (lv_at hl 0 rfl) ?_
      refine lv_aload_n hx hb d_Vc_play_81 rfl (lv_at hl 1 rfl) ?_
      refine lv_aload_n hx hb d_Vc_play_82 rfl (lv_at hl 4 rfl) ?_
      refine pv_get C hP (v := .ref (a 13)) (j := 1) (by decide) (fx_12 _ _ _ _) fl_Vc_76 rfl d_Vc_play_83 ?_
      refine lv_iload hx hb d_Vc_play_86 (lv_at hl 0 rfl) ?_
      obtain ⟨hg, hf⟩ := pv_g hf
      refine pv_iald C hP (t0 := 0) (by decide) (fx_13 _ _ _ _) rfl hg d_Vc_play_88 ?_
      refine lv_iload hx hb d_Vc_play_89 (lv_at hl 0 rfl) ?_
      refine lv_aload_n hx hb d_Vc_play_91 rfl (lv_at hl 3 rfl) ?_
      obtain ⟨q2, hc, hf⟩ := pv_b hf
      refine pv_callVi C hmv pv_good hP hS (As := [.int (q1.1 13 ((σ.1 20 (x4).toNatClampNeg)).toNatClampNeg), .int (σ.1 20 (x4).toNatClampNeg), .ref (a 26)]) (rest := [.int (σ.1 20 (x4).toNatClampNeg), .ref (a (28 + 6 * v + 1))]) (by omega) (fx_v0 hv _ _ _ _) rfl (c_Vc_nextValue hv C.2.2.2.2.2.2.1 hmv hc) cv_Vc_98 ⟨rfl, rfl, Nat.le_trans (Nat.le_of_ble_eq_true rfl) hRf, Nat.le_trans (Nat.le_of_ble_eq_true rfl) hRl⟩ rfl hl.1 rfl (Nat.le_of_ble_eq_true rfl) d_Vc_play_92 ⟨Nat.zero_le _, Nat.zero_le _⟩ (fun H locs hP hS => ?_)
      obtain ⟨hg, hf⟩ := pv_g hf
      refine pv_iast C hP hS (t0 := 0) (x := q2.1) (by omega) (fun f g => (fx_v1 hv _ _ f g)) rfl hg d_Vc_play_95 (fun H locs hP hS => ?_)
      exact s_Vc_play_96 hv C hmv hRf hRl hret hk_8 (lv_sub hl [1, 2, 3, 4, 5] rfl) hP hS hf
    · have hf := pv_t hf h
      refine lv_aload_n hx hb d_Vc_play_38 rfl (lv_at hl 1 rfl) ?_
      refine pv_get C hP (v := .ref (a (28 + 6 * v + 1))) (j := 6) (by omega) (fx_v0 hv _ _ _ _) fl_Vc_11 rfl d_Vc_play_39 ?_
      refine lv_iload hx hb d_Vc_play_42 (lv_at hl 0 rfl) ?_
      refine lv_aload_n hx hb d_Vc_play_44 rfl (lv_at hl 1 rfl) ?_
      refine pv_get C hP (v := .ref (a (28 + 6 * v + 5))) (j := 13) (by omega) (fx_v0 hv _ _ _ _) fl_Vc_28 rfl d_Vc_play_45 ?_
      refine lv_aload_n hx hb d_Vc_play_48 rfl (lv_at hl 2 rfl) ?_
      refine pv_get C hP (v := .ref (a 21)) (j := 5) (by decide) (fx_11 _ _ _ _) fl_Vc_91 rfl d_Vc_play_49 ?_
      refine lv_iload hx hb d_Vc_play_52 (lv_at hl 0 rfl) ?_
      obtain ⟨hg, hf⟩ := pv_g hf
      refine pv_iald C hP (t0 := 0) (by decide) (fx_21 _ _ _ _) rfl hg d_Vc_play_54 ?_
      refine lv_aload_n hx hb d_Vc_play_55 rfl (lv_at hl 1 rfl) ?_
      refine pv_get C hP (v := .ref (a (28 + 6 * v + 3))) (j := 11) (by omega) (fx_v0 hv _ _ _ _) fl_Vc_22 rfl d_Vc_play_56 ?_
      refine lv_iload hx hb d_Vc_play_59 (lv_at hl 0 rfl) ?_
      obtain ⟨hg, hf⟩ := pv_g hf
      refine pv_iald C hP (t0 := 0) (by omega) (fx_v3 hv _ _ _ _) rfl hg d_Vc_play_61 ?_
      refine lv_iadd hx hb d_Vc_play_62 ?_
      obtain ⟨hg, hf⟩ := pv_g hf
      refine pv_iald C hP (t0 := 0) (by omega) (fx_v5 hv _ _ _ _) rfl hg d_Vc_play_63 ?_
      obtain ⟨hg, hf⟩ := pv_g hf
      refine pv_iast C hP hS (t0 := 0) (x := (σ.1 (28 + 6 * v + 5) (((σ.1 21 ((σ.1 20 (x4).toNatClampNeg)).toNatClampNeg) + (σ.1 (28 + 6 * v + 3) ((σ.1 20 (x4).toNatClampNeg)).toNatClampNeg))).toNatClampNeg)) (by omega) (fun f g => (fx_v1 hv _ _ f g)) rfl hg d_Vc_play_64 (fun H locs hP hS => ?_)
      refine lv_goto (tgt := 96) hx hb d_Vc_play_65 (by decide) ?_
      exact s_Vc_play_96 hv C hmv hRf hRl hret hk_8 (lv_sub hl [1, 2, 3, 4, 5] rfl) hP hS hf
def f_Vc_play_8 (v : Nat) : Nat → pv_S → Int32 → Option (Int32 × pv_S)
  | 0 => fun _ _ => none
  | n + 1 => f_Vc_play_8b v (f_Vc_play_8 v n)
set_option maxHeartbeats 4000000 in
theorem s_Vc_play_8 {p : Program} {l : Launch} {e : Env} {R : Room} {s : State} {m : MethodId} {args : Array Value} {below : List Frame} {meth : Method} {c : Code} {Q : State → Prop} {D : va_G} {q : Nat → ClassId} {a t : Nat → Nat} {A : Nat → Prop} {v : Nat} (hv : v < 4) (C : pv_C p s m args c prog_6_method_5_code 6 "PatchVoices$Voice" pv_TB D pv_cl (pv_ty q) 52 a A (pv_ZX t A)) (hmv : pv_mv A (pv_ZX t A)) (hRf : 4 ≤ R.frames) (hRl : 86 ≤ R.locals) {out : (Int32 × pv_S)} (hret : pv_Ri p l e R s m args below meth c prog_6_method_5_code D pv_cl 52 a (pv_FX q a) A Q out) (n : Nat) : ∀ {σ : pv_S} {x4 : Int32} {H : Heap} {locs : List Loc} {ls : Array Slot}, lv_has ls 6 [(0, .ref (a (28 + 6 * v))), (1, .ref (a 11)), (2, .ref (a 26)), (3, .ref (a 12)), (4, .int x4)] → pv_W D pv_cl 52 a (pv_FX q a) σ H → va_S A s.heap H locs → f_Vc_play_8 v n σ x4 = some out → W p l e R s m args below meth c H locs 0 0 Q (F0 m 8 ls []) := by
  induction n with
  | zero => intro σ x4 H locs ls hl hP hS hf; cases hf
  | succ n ih => intro σ x4 H locs ls hl hP hS hf; exact s_Vc_play_8b hv C hmv hRf hRl hret (fun σ x4 H locs ls hf hl hP hS => ih hl hP hS hf) hl hP hS hf
def f_Vc_play_0 (v : Nat) (σ : pv_S) : Option (Int32 × pv_S) :=
  f_Vc_play_8 v pv_fu σ (0 : Int32)
set_option maxHeartbeats 4000000 in
set_option maxRecDepth 100000 in
theorem s_Vc_play_0 {p : Program} {l : Launch} {e : Env} {R : Room} {s : State} {m : MethodId} {args : Array Value} {below : List Frame} {meth : Method} {c : Code} {Q : State → Prop} {D : va_G} {q : Nat → ClassId} {a t : Nat → Nat} {A : Nat → Prop} {v : Nat} (hv : v < 4) (C : pv_C p s m args c prog_6_method_5_code 6 "PatchVoices$Voice" pv_TB D pv_cl (pv_ty q) 52 a A (pv_ZX t A)) (hmv : pv_mv A (pv_ZX t A)) (hRf : 4 ≤ R.frames) (hRl : 86 ≤ R.locals) {out : (Int32 × pv_S)} (hret : pv_Ri p l e R s m args below meth c prog_6_method_5_code D pv_cl 52 a (pv_FX q a) A Q out) {σ : pv_S} {H : Heap} {locs : List Loc} {ls : Array Slot} (hl : lv_has ls 6 [(0, .ref (a (28 + 6 * v))), (1, .ref (a 11)), (2, .ref (a 26))]) (hP : pv_W D pv_cl 52 a (pv_FX q a) σ H) (hS : va_S A s.heap H locs) (hf : f_Vc_play_0 v σ = some out) : W p l e R s m args below meth c H locs 0 0 Q (F0 m 0 ls []) := by
  unfold f_Vc_play_0 at hf
  have hx := C.1
  have hb := C.2.1
  refine lv_aload_n hx hb d_Vc_play_0 rfl (lv_at hl 1 rfl) ?_
  refine pv_get C hP (v := .ref (a 12)) (j := 0) (by decide) (fx_11 _ _ _ _) fl_Vc_61 rfl d_Vc_play_1 ?_
  refine lv_astore_n (lv' := [(3, .ref (a 12)), (0, .ref (a (28 + 6 * v))), (1, .ref (a 11)), (2, .ref (a 26))]) hx hb d_Vc_play_4 rfl hl (by decide) rfl (fun ls hl => ?_)
  refine lv_iconst (v := (0 : Int32)) hx hb d_Vc_play_5 (by decide) ?_
  refine lv_istore (lv' := [(4, .int (0 : Int32)), (3, .ref (a 12)), (0, .ref (a (28 + 6 * v))), (1, .ref (a 11)), (2, .ref (a 26))]) hx hb d_Vc_play_6 hl (by decide) rfl (fun ls hl => ?_)
  exact s_Vc_play_8 hv C hmv hRf hRl hret pv_fu (lv_sub hl [2, 3, 4, 1, 0] rfl) hP hS hf
def f_Vc_play (v : Nat) (σ : pv_S) : Option (Int32 × pv_S) := f_Vc_play_0 v σ
def rm_Vc_play : Room := { frames := 4, cells := 0, slots := 0, locals := 86 }
theorem c_Vc_play {l : Launch} {D : va_G} {q : Nat → ClassId} {a t : Nat → Nat} {A : Nat → Prop} {v : Nat} (hv : v < 4) (hD : pv_D 52 a A) (hmv : pv_mv A (pv_ZX t A)) {σ : pv_S} {out : (Int32 × pv_S)} (hf : f_Vc_play v σ = some out) : pv_Mi l y_Vc_play (Cond.code y_Vc_play prog_6_method_5_code 6 (some .int) :: pv_TB) rm_Vc_play D pv_cl (pv_ty q) 52 a (pv_FX q a) A (pv_ZX t A) [.ref (a (28 + 6 * v)), .ref (a 11), .ref (a 26)] σ out :=
  pv_ofI (by decide) (Nat.le_of_ble_eq_true rfl) hD (fun p e s m args below meth c Q ls C hret hl hP => s_Vc_play_0 hv C hmv (Nat.le_refl _) (Nat.le_refl _) hret hl hP va_S.rf hf)
