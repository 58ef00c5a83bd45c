theorem d_Wr_isReady_0 : decode prog_7_method_7_code 0 = .ok (.aload_n 0, 1) := by decide +kernel
theorem d_Wr_isReady_1 : decode prog_7_method_7_code 1 = .ok (.getfield 11, 3) := by decide +kernel
theorem d_Wr_isReady_4 : decode prog_7_method_7_code 4 = .ok (.iload_n 1, 1) := by decide +kernel
theorem d_Wr_isReady_5 : decode prog_7_method_7_code 5 = .ok (.iaload, 1) := by decide +kernel
theorem d_Wr_isReady_6 : decode prog_7_method_7_code 6 = .ok (.bipush 18, 2) := by decide +kernel
theorem d_Wr_isReady_8 : decode prog_7_method_7_code 8 = .ok (.if_icmp .ne 5, 3) := by decide +kernel
theorem d_Wr_isReady_11 : decode prog_7_method_7_code 11 = .ok (.iconst 1, 1) := by decide +kernel
theorem d_Wr_isReady_12 : decode prog_7_method_7_code 12 = .ok (.ireturn, 1) := by decide +kernel
theorem d_Wr_isReady_13 : decode prog_7_method_7_code 13 = .ok (.iconst 0, 1) := by decide +kernel
theorem d_Wr_isReady_14 : decode prog_7_method_7_code 14 = .ok (.istore_n 3, 1) := by decide +kernel
theorem d_Wr_isReady_15 : decode prog_7_method_7_code 15 = .ok (.iload_n 3, 1) := by decide +kernel
theorem d_Wr_isReady_16 : decode prog_7_method_7_code 16 = .ok (.aload_n 0, 1) := by decide +kernel
theorem d_Wr_isReady_17 : decode prog_7_method_7_code 17 = .ok (.getfield 11, 3) := by decide +kernel
theorem d_Wr_isReady_20 : decode prog_7_method_7_code 20 = .ok (.iload_n 1, 1) := by decide +kernel
theorem d_Wr_isReady_21 : decode prog_7_method_7_code 21 = .ok (.iaload, 1) := by decide +kernel
theorem d_Wr_isReady_22 : decode prog_7_method_7_code 22 = .ok (.invokestatic 75, 3) := by decide +kernel
theorem d_Wr_isReady_25 : decode prog_7_method_7_code 25 = .ok (.if_icmp .ge 38, 3) := by decide +kernel
theorem d_Wr_isReady_28 : decode prog_7_method_7_code 28 = .ok (.aload_n 0, 1) := by decide +kernel
theorem d_Wr_isReady_29 : decode prog_7_method_7_code 29 = .ok (.getfield 19, 3) := by decide +kernel
theorem d_Wr_isReady_32 : decode prog_7_method_7_code 32 = .ok (.iconst 4, 1) := by decide +kernel
theorem d_Wr_isReady_33 : decode prog_7_method_7_code 33 = .ok (.iload_n 1, 1) := by decide +kernel
theorem d_Wr_isReady_34 : decode prog_7_method_7_code 34 = .ok (.imul, 1) := by decide +kernel
theorem d_Wr_isReady_35 : decode prog_7_method_7_code 35 = .ok (.iload_n 3, 1) := by decide +kernel
theorem d_Wr_isReady_36 : decode prog_7_method_7_code 36 = .ok (.iadd, 1) := by decide +kernel
theorem d_Wr_isReady_37 : decode prog_7_method_7_code 37 = .ok (.iaload, 1) := by decide +kernel
theorem d_Wr_isReady_38 : decode prog_7_method_7_code 38 = .ok (.istore 4, 2) := by decide +kernel
theorem d_Wr_isReady_40 : decode prog_7_method_7_code 40 = .ok (.iload 4, 2) := by decide +kernel
theorem d_Wr_isReady_42 : decode prog_7_method_7_code 42 = .ok (.iconst (-1), 1) := by decide +kernel
theorem d_Wr_isReady_43 : decode prog_7_method_7_code 43 = .ok (.if_icmp .eq 14, 3) := by decide +kernel
theorem d_Wr_isReady_46 : decode prog_7_method_7_code 46 = .ok (.iload_n 2, 1) := by decide +kernel
theorem d_Wr_isReady_47 : decode prog_7_method_7_code 47 = .ok (.iload 4, 2) := by decide +kernel
theorem d_Wr_isReady_49 : decode prog_7_method_7_code 49 = .ok (.ishr, 1) := by decide +kernel
theorem d_Wr_isReady_50 : decode prog_7_method_7_code 50 = .ok (.iconst 1, 1) := by decide +kernel
theorem d_Wr_isReady_51 : decode prog_7_method_7_code 51 = .ok (.iand, 1) := by decide +kernel
theorem d_Wr_isReady_52 : decode prog_7_method_7_code 52 = .ok (.ifCond .ne 5, 3) := by decide +kernel
theorem d_Wr_isReady_55 : decode prog_7_method_7_code 55 = .ok (.iconst 0, 1) := by decide +kernel
theorem d_Wr_isReady_56 : decode prog_7_method_7_code 56 = .ok (.ireturn, 1) := by decide +kernel
theorem d_Wr_isReady_57 : decode prog_7_method_7_code 57 = .ok (.iinc 3 1, 3) := by decide +kernel
theorem d_Wr_isReady_60 : decode prog_7_method_7_code 60 = .ok (.goto (-45), 3) := by decide +kernel
theorem d_Wr_isReady_63 : decode prog_7_method_7_code 63 = .ok (.iconst 1, 1) := by decide +kernel
theorem d_Wr_isReady_64 : decode prog_7_method_7_code 64 = .ok (.ireturn, 1) := by decide +kernel
def f_Wr_isReady_57 (k_15 : pv_S → Int32 → Int32 → Int32 → Option (Int32 × pv_S)) (σ : pv_S) (x1 : Int32) (x2 : Int32) (x3 : Int32) : Option (Int32 × pv_S) :=
  k_15 σ x1 x2 (x3 + (1 : Int32))
set_option maxHeartbeats 4000000 in
set_option maxRecDepth 100000 in
theorem s_Wr_isReady_57 {p : Program} {l : Launch} {e : Env} {R : Room} {s : State} {m : MethodId} {args : Array Value} {below : List Frame} {meth : Method} {c : Code} {Q : State → Prop} {D : va_G} {q : Nat → ClassId} {a t : Nat → Nat} {A : Nat → Prop} (C : pv_C p s m args c prog_7_method_7_code 5 "PatchVoices$Wiring" pv_TB D pv_cl (pv_ty q) 52 a A (pv_ZX t A)) (hmv : pv_mv A (pv_ZX t A)) (hRf : 1 ≤ R.frames) (hRl : 20 ≤ R.locals) {out : (Int32 × pv_S)} (hret : pv_Rz p l e R s m args below meth c prog_7_method_7_code D pv_cl 52 a (pv_FX q a) A Q out) {k_15 : pv_S → Int32 → Int32 → Int32 → Option (Int32 × pv_S)} (hk_15 : ∀ (σ : pv_S) (x1 : Int32) (x2 : Int32) (x3 : Int32) (H : Heap) (locs : List Loc) (ls : Array Slot), k_15 σ x1 x2 x3 = some out → lv_has ls 5 [(0, .ref (a 12)), (1, .int x1), (2, .int x2), (3, .int x3)] → pv_W D pv_cl 52 a (pv_FX q a) σ H → va_S A s.heap H locs → W p l e R s m args below meth c H locs 0 0 Q (F0 m 15 ls [])) {σ : pv_S} {x1 : Int32} {x2 : Int32} {x3 : Int32} {H : Heap} {locs : List Loc} {ls : Array Slot} (hl : lv_has ls 5 [(0, .ref (a 12)), (1, .int x1), (2, .int x2), (3, .int x3)]) (hP : pv_W D pv_cl 52 a (pv_FX q a) σ H) (hS : va_S A s.heap H locs) (hf : f_Wr_isReady_57 k_15 σ x1 x2 x3 = some out) : W p l e R s m args below meth c H locs 0 0 Q (F0 m 57 ls []) := by
  unfold f_Wr_isReady_57 at hf
  have hx := C.1
  have hb := C.2.1
  refine lv_iinc (k := 3) (v := (x3 + (1 : Int32))) (lv' := [(3, .int (x3 + (1 : Int32))), (0, .ref (a 12)), (1, .int x1), (2, .int x2)]) hx hb d_Wr_isReady_57 hl rfl (pv_inc (by decide)) (by decide) rfl (fun ls hl => ?_)
  refine lv_goto (tgt := 15) hx hb d_Wr_isReady_60 (by decide) ?_
  exact hk_15 _ _ _ _ _ _ _ hf (lv_sub hl [1, 2, 3, 0] rfl) hP hS
def f_Wr_isReady_15b (k_15 : pv_S → Int32 → Int32 → Int32 → Option (Int32 × pv_S)) (σ : pv_S) (x1 : Int32) (x2 : Int32) (x3 : Int32) : Option (Int32 × pv_S) :=
  (if pv_in x1 24 = true then
((f_Kd_inputsOf σ (σ.1 13 (x1).toNatClampNeg)).bind fun q1 =>
(if q1.1 ≤ x3 then
  some ((1 : Int32), q1.2)
  else
  (if pv_in (((4 : Int32) * x1) + x3) 96 = true then
(if (q1.2.1 14 ((((4 : Int32) * x1) + x3)).toNatClampNeg) = (-1 : Int32) then
  f_Wr_isReady_57 k_15 q1.2 x1 x2 x3
  else
  (if ((x2 >>> ((q1.2.1 14 ((((4 : Int32) * x1) + x3)).toNatClampNeg) &&& 31)) &&& (1 : Int32)) = 0 then
  some ((0 : Int32), q1.2)
  else
  f_Wr_isReady_57 k_15 q1.2 x1 x2 x3))
  else none)))
  else none)
set_option maxHeartbeats 4000000 in
set_option maxRecDepth 100000 in
theorem s_Wr_isReady_15b {p : Program} {l : Launch} {e : Env} {R : Room} {s : State} {m : MethodId} {args : Array Value} {below : List Frame} {meth : Method} {c : Code} {Q : State → Prop} {D : va_G} {q : Nat → ClassId} {a t : Nat → Nat} {A : Nat → Prop} (C : pv_C p s m args c prog_7_method_7_code 5 "PatchVoices$Wiring" pv_TB D pv_cl (pv_ty q) 52 a A (pv_ZX t A)) (hmv : pv_mv A (pv_ZX t A)) (hRf : 1 ≤ R.frames) (hRl : 20 ≤ R.locals) {out : (Int32 × pv_S)} (hret : pv_Rz p l e R s m args below meth c prog_7_method_7_code D pv_cl 52 a (pv_FX q a) A Q out) {k_15 : pv_S → Int32 → Int32 → Int32 → Option (Int32 × pv_S)} (hk_15 : ∀ (σ : pv_S) (x1 : Int32) (x2 : Int32) (x3 : Int32) (H : Heap) (locs : List Loc) (ls : Array Slot), k_15 σ x1 x2 x3 = some out → lv_has ls 5 [(0, .ref (a 12)), (1, .int x1), (2, .int x2), (3, .int x3)] → pv_W D pv_cl 52 a (pv_FX q a) σ H → va_S A s.heap H locs → W p l e R s m args below meth c H locs 0 0 Q (F0 m 15 ls [])) {σ : pv_S} {x1 : Int32} {x2 : Int32} {x3 : Int32} {H : Heap} {locs : List Loc} {ls : Array Slot} (hl : lv_has ls 5 [(0, .ref (a 12)), (1, .int x1), (2, .int x2), (3, .int x3)]) (hP : pv_W D pv_cl 52 a (pv_FX q a) σ H) (hS : va_S A s.heap H locs) (hf : f_Wr_isReady_15b k_15 σ x1 x2 x3 = some out) : W p l e R s m args below meth c H locs 0 0 Q (F0 m 15 ls []) := by
  unfold f_Wr_isReady_15b at hf
  have hx := C.1
  have hb := C.2.1
  refine lv_iload_n hx hb d_Wr_isReady_15 rfl (lv_at hl 3 rfl) ?_
  refine lv_aload_n hx hb d_Wr_isReady_16 rfl (lv_at hl 0 rfl) ?_
  refine pv_get C hP (v := .ref (a 13)) (j := 1) (by decide) (fx_12 _ _ _ _) fl_Wr_11 rfl d_Wr_isReady_17 ?_
  refine lv_iload_n hx hb d_Wr_isReady_20 rfl (lv_at hl 1 rfl) ?_
  obtain ⟨hg, hf⟩ := pv_g hf
  refine pv_iald C hP (t0 := 0) (by decide) (fx_13 _ _ _ _) rfl hg d_Wr_isReady_21 ?_
  obtain ⟨q1, hc, hf⟩ := pv_b hf
  refine pv_callSi C hmv pv_good hP hS (As := [.int (σ.1 13 (x1).toNatClampNeg)]) (rest := [.int x3]) (c_Kd_inputsOf C.2.2.2.2.2.2.1 hmv hc) cs_Wr_75 ⟨rfl, rfl, Nat.le_trans (Nat.le_of_ble_eq_true rfl) hRf, Nat.le_trans (Nat.le_of_ble_eq_true rfl) hRl⟩ rfl hl.1 rfl (Nat.le_of_ble_eq_true rfl) d_Wr_isReady_22 ⟨Nat.zero_le _, Nat.zero_le _⟩ (fun H locs hP hS => ?_)
  refine lv_icmp_ge (tgt := 63) hx hb d_Wr_isReady_25 (by decide) (fun h => ?_) (fun h => ?_)
  · have hf := pv_t hf h
    refine lv_iconst (v := (1 : Int32)) hx hb d_Wr_isReady_63 (by decide) ?_
    obtain rfl := Option.some.inj hf
    exact hret _ _ _ _ d_Wr_isReady_64 rfl hP hS
  · have hf := pv_f hf h
    refine lv_aload_n hx hb d_Wr_isReady_28 rfl (lv_at hl 0 rfl) ?_
    refine pv_get C hP (v := .ref (a 14)) (j := 2) (by decide) (fx_12 _ _ _ _) fl_Wr_19 rfl d_Wr_isReady_29 ?_
    refine lv_iconst (v := (4 : Int32)) hx hb d_Wr_isReady_32 (by decide) ?_
    refine lv_iload_n hx hb d_Wr_isReady_33 rfl (lv_at hl 1 rfl) ?_
    refine lv_imul hx hb d_Wr_isReady_34 ?_
    refine lv_iload_n hx hb d_Wr_isReady_35 rfl (lv_at hl 3 rfl) ?_
    refine lv_iadd hx hb d_Wr_isReady_36 ?_
    obtain ⟨hg, hf⟩ := pv_g hf
    refine pv_iald C hP (t0 := 0) (by decide) (fx_14 _ _ _ _) rfl hg d_Wr_isReady_37 ?_
    refine lv_istore (lv' := [(4, .int (q1.2.1 14 ((((4 : Int32) * x1) + x3)).toNatClampNeg)), (0, .ref (a 12)), (1, .int x1), (2, .int x2), (3, .int x3)]) hx hb d_Wr_isReady_38 hl (by decide) rfl (fun ls hl => ?_)
    refine lv_iload hx hb d_Wr_isReady_40 (lv_at hl 0 rfl) ?_
    refine lv_iconst (v := (-1 : Int32)) hx hb d_Wr_isReady_42 (by decide) ?_
    refine lv_icmp_eq (tgt := 57) hx hb d_Wr_isReady_43 (by decide) (fun h => ?_) (fun h => ?_)
    · have hf := pv_t hf h
      exact s_Wr_isReady_57 C hmv hRf hRl hret hk_15 (lv_sub hl [1, 2, 3, 4] rfl) hP hS hf
    · have hf := pv_f hf h
      refine lv_iload_n hx hb d_Wr_isReady_46 rfl (lv_at hl 3 rfl) ?_
      refine lv_iload hx hb d_Wr_isReady_47 (lv_at hl 0 rfl) ?_
      refine lv_ishr hx hb d_Wr_isReady_49 ?_
      refine lv_iconst (v := (1 : Int32)) hx hb d_Wr_isReady_50 (by decide) ?_
      refine lv_iand hx hb d_Wr_isReady_51 ?_
      refine lv_if_ne (tgt := 57) hx hb d_Wr_isReady_52 (by decide) (fun h => ?_) (fun h => ?_)
      · have hf := pv_f hf h
        exact s_Wr_isReady_57 C hmv hRf hRl hret hk_15 (lv_sub hl [1, 2, 3, 4] rfl) hP hS hf
      · have hf := pv_t hf h
        refine lv_iconst (v := (0 : Int32)) hx hb d_Wr_isReady_55 (by decide) ?_
        obtain rfl := Option.some.inj hf
        exact hret _ _ _ _ d_Wr_isReady_56 rfl hP hS
def f_Wr_isReady_15 : Nat → pv_S → Int32 → Int32 → Int32 → Option (Int32 × pv_S)
  | 0 => fun _ _ _ _ => none
  | n + 1 => f_Wr_isReady_15b (f_Wr_isReady_15 n)
set_option maxHeartbeats 4000000 in
theorem s_Wr_isReady_15 {p : Program} {l : Launch} {e : Env} {R : Room} {s : State} {m : MethodId} {args : Array Value} {below : List Frame} {meth : Method} {c : Code} {Q : State → Prop} {D : va_G} {q : Nat → ClassId} {a t : Nat → Nat} {A : Nat → Prop} (C : pv_C p s m args c prog_7_method_7_code 5 "PatchVoices$Wiring" pv_TB D pv_cl (pv_ty q) 52 a A (pv_ZX t A)) (hmv : pv_mv A (pv_ZX t A)) (hRf : 1 ≤ R.frames) (hRl : 20 ≤ R.locals) {out : (Int32 × pv_S)} (hret : pv_Rz p l e R s m args below meth c prog_7_method_7_code D pv_cl 52 a (pv_FX q a) A Q out) (n : Nat) : ∀ {σ : pv_S} {x1 : Int32} {x2 : Int32} {x3 : Int32} {H : Heap} {locs : List Loc} {ls : Array Slot}, lv_has ls 5 [(0, .ref (a 12)), (1, .int x1), (2, .int x2), (3, .int x3)] → pv_W D pv_cl 52 a (pv_FX q a) σ H → va_S A s.heap H locs → f_Wr_isReady_15 n σ x1 x2 x3 = some out → W p l e R s m args below meth c H locs 0 0 Q (F0 m 15 ls []) := by
  induction n with
  | zero => intro σ x1 x2 x3 H locs ls hl hP hS hf; cases hf
  | succ n ih => intro σ x1 x2 x3 H locs ls hl hP hS hf; exact s_Wr_isReady_15b C hmv hRf hRl hret (fun σ x1 x2 x3 H locs ls hf hl hP hS => ih hl hP hS hf) hl hP hS hf
def f_Wr_isReady_0 (σ : pv_S) (x1 : Int32) (x2 : Int32) : Option (Int32 × pv_S) :=
  (if pv_in x1 24 = true then
(if (σ.1 13 (x1).toNatClampNeg) = (18 : Int32) then
  some ((1 : Int32), σ)
  else
  f_Wr_isReady_15 pv_fu σ x1 x2 (0 : Int32))
  else none)
set_option maxHeartbeats 4000000 in
set_option maxRecDepth 100000 in
theorem s_Wr_isReady_0 {p : Program} {l : Launch} {e : Env} {R : Room} {s : State} {m : MethodId} {args : Array Value} {below : List Frame} {meth : Method} {c : Code} {Q : State → Prop} {D : va_G} {q : Nat → ClassId} {a t : Nat → Nat} {A : Nat → Prop} (C : pv_C p s m args c prog_7_method_7_code 5 "PatchVoices$Wiring" pv_TB D pv_cl (pv_ty q) 52 a A (pv_ZX t A)) (hmv : pv_mv A (pv_ZX t A)) (hRf : 1 ≤ R.frames) (hRl : 20 ≤ R.locals) {out : (Int32 × pv_S)} (hret : pv_Rz p l e R s m args below meth c prog_7_method_7_code D pv_cl 52 a (pv_FX q a) A Q out) {σ : pv_S} {x1 : Int32} {x2 : Int32} {H : Heap} {locs : List Loc} {ls : Array Slot} (hl : lv_has ls 5 [(0, .ref (a 12)), (1, .int x1), (2, .int x2)]) (hP : pv_W D pv_cl 52 a (pv_FX q a) σ H) (hS : va_S A s.heap H locs) (hf : f_Wr_isReady_0 σ x1 x2 = some out) : W p l e R s m args below meth c H locs 0 0 Q (F0 m 0 ls []) := by
  unfold f_Wr_isReady_0 at hf
  have hx := C.1
  have hb := C.2.1
  refine lv_aload_n hx hb d_Wr_isReady_0 rfl (lv_at hl 0 rfl) ?_
  refine pv_get C hP (v := .ref (a 13)) (j := 1) (by decide) (fx_12 _ _ _ _) fl_Wr_11 rfl d_Wr_isReady_1 ?_
  refine lv_iload_n hx hb d_Wr_isReady_4 rfl (lv_at hl 1 rfl) ?_
  obtain ⟨hg, hf⟩ := pv_g hf
  refine pv_iald C hP (t0 := 0) (by decide) (fx_13 _ _ _ _) rfl hg d_Wr_isReady_5 ?_
  refine lv_bipush (v := (18 : Int32)) hx hb d_Wr_isReady_6 (by decide) ?_
  refine lv_icmp_ne (tgt := 13) hx hb d_Wr_isReady_8 (by decide) (fun h => ?_) (fun h => ?_)
  · have hf := pv_f hf h
    refine lv_iconst (v := (0 : Int32)) hx hb d_Wr_isReady_13 (by decide) ?_
    refine lv_istore_n (lv' := [(3, .int (0 : Int32)), (0, .ref (a 12)), (1, .int x1), (2, .int x2)]) hx hb d_Wr_isReady_14 rfl hl (by decide) rfl (fun ls hl => ?_)
    exact s_Wr_isReady_15 C hmv hRf hRl hret pv_fu (lv_sub hl [1, 2, 3, 0] rfl) hP hS hf
  · have hf := pv_t hf h
    refine lv_iconst (v := (1 : Int32)) hx hb d_Wr_isReady_11 (by decide) ?_
    obtain rfl := Option.some.inj hf
    exact hret _ _ _ _ d_Wr_isReady_12 rfl hP hS
def f_Wr_isReady (σ : pv_S) (x1 : Int32) (x2 : Int32) : Option (Int32 × pv_S) := f_Wr_isReady_0 σ x1 x2
def rm_Wr_isReady : Room := { frames := 1, cells := 0, slots := 0, locals := 20 }
theorem c_Wr_isReady {l : Launch} {D : va_G} {q : Nat → ClassId} {a t : Nat → Nat} {A : Nat → Prop} (hD : pv_D 52 a A) (hmv : pv_mv A (pv_ZX t A)) {σ : pv_S} {x1 : Int32} {x2 : Int32} {out : (Int32 × pv_S)} (hf : f_Wr_isReady σ x1 x2 = some out) : pv_Mi l y_Wr_isReady (Cond.code y_Wr_isReady prog_7_method_7_code 5 (some .boolean) :: pv_TB) rm_Wr_isReady D pv_cl (pv_ty q) 52 a (pv_FX q a) A (pv_ZX t A) [.ref (a 12), .int x1, .int x2] σ out :=
  pv_ofZ (by decide) (Nat.le_of_ble_eq_true rfl) hD (fun p e s m args below meth c Q ls C hret hl hP => s_Wr_isReady_0 C hmv (Nat.le_refl _) (Nat.le_refl _) hret hl hP va_S.rf hf)
theorem d_Wr_leastReady_0 : decode prog_7_method_6_code 0 = .ok (.iconst 0, 1) := by decide +kernel
theorem d_Wr_leastReady_1 : decode prog_7_method_6_code 1 = .ok (.istore_n 2, 1) := by decide +kernel
theorem d_Wr_leastReady_2 : decode prog_7_method_6_code 2 = .ok (.iload_n 2, 1) := by decide +kernel
theorem d_Wr_leastReady_3 : decode prog_7_method_6_code 3 = .ok (.aload_n 0, 1) := by decide +kernel
theorem d_Wr_leastReady_4 : decode prog_7_method_6_code 4 = .ok (.getfield 48, 3) := by decide +kernel
theorem d_Wr_leastReady_7 : decode prog_7_method_6_code 7 = .ok (.iconst 1, 1) := by decide +kernel
theorem d_Wr_leastReady_8 : decode prog_7_method_6_code 8 = .ok (.isub, 1) := by decide +kernel
theorem d_Wr_leastReady_9 : decode prog_7_method_6_code 9 = .ok (.if_icmp .ge 28, 3) := by decide +kernel
theorem d_Wr_leastReady_12 : decode prog_7_method_6_code 12 = .ok (.iload_n 1, 1) := by decide +kernel
theorem d_Wr_leastReady_13 : decode prog_7_method_6_code 13 = .ok (.iload_n 2, 1) := by decide +kernel
theorem d_Wr_leastReady_14 : decode prog_7_method_6_code 14 = .ok (.ishr, 1) := by decide +kernel
theorem d_Wr_leastReady_15 : decode prog_7_method_6_code 15 = .ok (.iconst 1, 1) := by decide +kernel
theorem d_Wr_leastReady_16 : decode prog_7_method_6_code 16 = .ok (.iand, 1) := by decide +kernel
theorem d_Wr_leastReady_17 : decode prog_7_method_6_code 17 = .ok (.ifCond .ne 14, 3) := by decide +kernel
theorem d_Wr_leastReady_20 : decode prog_7_method_6_code 20 = .ok (.aload_n 0, 1) := by decide +kernel
theorem d_Wr_leastReady_21 : decode prog_7_method_6_code 21 = .ok (.iload_n 2, 1) := by decide +kernel
theorem d_Wr_leastReady_22 : decode prog_7_method_6_code 22 = .ok (.iload_n 1, 1) := by decide +kernel
theorem d_Wr_leastReady_23 : decode prog_7_method_6_code 23 = .ok (.invokevirtual 71, 3) := by decide +kernel
theorem d_Wr_leastReady_26 : decode prog_7_method_6_code 26 = .ok (.ifCond .eq 5, 3) := by decide +kernel
theorem d_Wr_leastReady_29 : decode prog_7_method_6_code 29 = .ok (.iload_n 2, 1) := by decide +kernel
theorem d_Wr_leastReady_30 : decode prog_7_method_6_code 30 = .ok (.ireturn, 1) := by decide +kernel
theorem d_Wr_leastReady_31 : decode prog_7_method_6_code 31 = .ok (.iinc 2 1, 3) := by decide +kernel
theorem d_Wr_leastReady_34 : decode prog_7_method_6_code 34 = .ok (.goto (-32), 3) := by decide +kernel
theorem d_Wr_leastReady_37 : decode prog_7_method_6_code 37 = .ok (.aload_n 0, 1) := by decide +kernel
theorem d_Wr_leastReady_38 : decode prog_7_method_6_code 38 = .ok (.getfield 48, 3) := by decide +kernel
theorem d_Wr_leastReady_41 : decode prog_7_method_6_code 41 = .ok (.iconst 1, 1) := by decide +kernel
theorem d_Wr_leastReady_42 : decode prog_7_method_6_code 42 = .ok (.isub, 1) := by decide +kernel
theorem d_Wr_leastReady_43 : decode prog_7_method_6_code 43 = .ok (.ireturn, 1) := by decide +kernel
def f_Wr_leastReady_31 (k_2 : pv_S → Int32 → Int32 → Option (Int32 × pv_S)) (σ : pv_S) (x1 : Int32) (x2 : Int32) : Option (Int32 × pv_S) :=
  k_2 σ x1 (x2 + (1 : Int32))
set_option maxHeartbeats 4000000 in
set_option maxRecDepth 100000 in
theorem s_Wr_leastReady_31 {p : Program} {l : Launch} {e : Env} {R : Room} {s : State} {m : MethodId} {args : Array Value} {below : List Frame} {meth : Method} {c : Code} {Q : State → Prop} {D : va_G} {q : Nat → ClassId} {a t : Nat → Nat} {A : Nat → Prop} (C : pv_C p s m args c prog_7_method_6_code 3 "PatchVoices$Wiring" pv_TB D pv_cl (pv_ty q) 52 a A (pv_ZX t A)) (hmv : pv_mv A (pv_ZX t A)) (hRf : 2 ≤ R.frames) (hRl : 44 ≤ R.locals) {out : (Int32 × pv_S)} (hret : pv_Ri p l e R s m args below meth c prog_7_method_6_code D pv_cl 52 a (pv_FX q a) A Q out) {k_2 : pv_S → Int32 → Int32 → Option (Int32 × pv_S)} (hk_2 : ∀ (σ : pv_S) (x1 : Int32) (x2 : Int32) (H : Heap) (locs : List Loc) (ls : Array Slot), k_2 σ x1 x2 = some out → lv_has ls 3 [(0, .ref (a 12)), (1, .int x1), (2, .int x2)] → pv_W D pv_cl 52 a (pv_FX q a) σ H → va_S A s.heap H locs → W p l e R s m args below meth c H locs 0 0 Q (F0 m 2 ls [])) {σ : pv_S} {x1 : Int32} {x2 : Int32} {H : Heap} {locs : List Loc} {ls : Array Slot} (hl : lv_has ls 3 [(0, .ref (a 12)), (1, .int x1), (2, .int x2)]) (hP : pv_W D pv_cl 52 a (pv_FX q a) σ H) (hS : va_S A s.heap H locs) (hf : f_Wr_leastReady_31 k_2 σ x1 x2 = some out) : W p l e R s m args below meth c H locs 0 0 Q (F0 m 31 ls []) := by
  unfold f_Wr_leastReady_31 at hf
  have hx := C.1
  have hb := C.2.1
  refine lv_iinc (k := 2) (v := (x2 + (1 : Int32))) (lv' := [(2, .int (x2 + (1 : Int32))), (0, .ref (a 12)), (1, .int x1)]) hx hb d_Wr_leastReady_31 hl rfl (pv_inc (by decide)) (by decide) rfl (fun ls hl => ?_)
  refine lv_goto (tgt := 2) hx hb d_Wr_leastReady_34 (by decide) ?_
  exact hk_2 _ _ _ _ _ _ hf (lv_sub hl [1, 2, 0] rfl) hP hS
def f_Wr_leastReady_2b (k_2 : pv_S → Int32 → Int32 → Option (Int32 × pv_S)) (σ : pv_S) (x1 : Int32) (x2 : Int32) : Option (Int32 × pv_S) :=
  (if ((σ.1 12 0) - (1 : Int32)) ≤ x2 then
  some (((σ.1 12 0) - (1 : Int32)), σ)
  else
  (if ((x1 >>> (x2 &&& 31)) &&& (1 : Int32)) = 0 then
  ((f_Wr_isReady σ x2 x1).bind fun q1 =>
(if q1.1 = 0 then
  f_Wr_leastReady_31 k_2 q1.2 x1 x2
  else
  some (x2, q1.2)))
  else
  f_Wr_leastReady_31 k_2 σ x1 x2))
set_option maxHeartbeats 4000000 in
set_option maxRecDepth 100000 in
theorem s_Wr_leastReady_2b {p : Program} {l : Launch} {e : Env} {R : Room} {s : State} {m : MethodId} {args : Array Value} {below : List Frame} {meth : Method} {c : Code} {Q : State → Prop} {D : va_G} {q : Nat → ClassId} {a t : Nat → Nat} {A : Nat → Prop} (C : pv_C p s m args c prog_7_method_6_code 3 "PatchVoices$Wiring" pv_TB D pv_cl (pv_ty q) 52 a A (pv_ZX t A)) (hmv : pv_mv A (pv_ZX t A)) (hRf : 2 ≤ R.frames) (hRl : 44 ≤ R.locals) {out : (Int32 × pv_S)} (hret : pv_Ri p l e R s m args below meth c prog_7_method_6_code D pv_cl 52 a (pv_FX q a) A Q out) {k_2 : pv_S → Int32 → Int32 → Option (Int32 × pv_S)} (hk_2 : ∀ (σ : pv_S) (x1 : Int32) (x2 : Int32) (H : Heap) (locs : List Loc) (ls : Array Slot), k_2 σ x1 x2 = some out → lv_has ls 3 [(0, .ref (a 12)), (1, .int x1), (2, .int x2)] → pv_W D pv_cl 52 a (pv_FX q a) σ H → va_S A s.heap H locs → W p l e R s m args below meth c H locs 0 0 Q (F0 m 2 ls [])) {σ : pv_S} {x1 : Int32} {x2 : Int32} {H : Heap} {locs : List Loc} {ls : Array Slot} (hl : lv_has ls 3 [(0, .ref (a 12)), (1, .int x1), (2, .int x2)]) (hP : pv_W D pv_cl 52 a (pv_FX q a) σ H) (hS : va_S A s.heap H locs) (hf : f_Wr_leastReady_2b k_2 σ x1 x2 = some out) : W p l e R s m args below meth c H locs 0 0 Q (F0 m 2 ls []) := by
  unfold f_Wr_leastReady_2b at hf
  have hx := C.1
  have hb := C.2.1
  refine lv_iload_n hx hb d_Wr_leastReady_2 rfl (lv_at hl 2 rfl) ?_
  refine lv_aload_n hx hb d_Wr_leastReady_3 rfl (lv_at hl 0 rfl) ?_
  refine pv_get C hP (v := .int (σ.1 12 0)) (j := 0) (by decide) (fx_12 _ _ _ _) fl_Wr_48 rfl d_Wr_leastReady_4 ?_
  refine lv_iconst (v := (1 : Int32)) hx hb d_Wr_leastReady_7 (by decide) ?_
  refine lv_isub hx hb d_Wr_leastReady_8 ?_
  refine lv_icmp_ge (tgt := 37) hx hb d_Wr_leastReady_9 (by decide) (fun h => ?_) (fun h => ?_)
  · have hf := pv_t hf h
    refine lv_aload_n hx hb d_Wr_leastReady_37 rfl (lv_at hl 0 rfl) ?_
    refine pv_get C hP (v := .int (σ.1 12 0)) (j := 0) (by decide) (fx_12 _ _ _ _) fl_Wr_48 rfl d_Wr_leastReady_38 ?_
    refine lv_iconst (v := (1 : Int32)) hx hb d_Wr_leastReady_41 (by decide) ?_
    refine lv_isub hx hb d_Wr_leastReady_42 ?_
    obtain rfl := Option.some.inj hf
    exact hret _ _ _ _ d_Wr_leastReady_43 hP hS
  · have hf := pv_f hf h
    refine lv_iload_n hx hb d_Wr_leastReady_12 rfl (lv_at hl 1 rfl) ?_
    refine lv_iload_n hx hb d_Wr_leastReady_13 rfl (lv_at hl 2 rfl) ?_
    refine lv_ishr hx hb d_Wr_leastReady_14 ?_
    refine lv_iconst (v := (1 : Int32)) hx hb d_Wr_leastReady_15 (by decide) ?_
    refine lv_iand hx hb d_Wr_leastReady_16 ?_
    refine lv_if_ne (tgt := 31) hx hb d_Wr_leastReady_17 (by decide) (fun h => ?_) (fun h => ?_)
    · have hf := pv_f hf h
      exact s_Wr_leastReady_31 C hmv hRf hRl hret hk_2 (lv_sub hl [0, 1, 2] rfl) hP hS hf
    · have hf := pv_t hf h
      refine lv_aload_n hx hb d_Wr_leastReady_20 rfl (lv_at hl 0 rfl) ?_
      refine lv_iload_n hx hb d_Wr_leastReady_21 rfl (lv_at hl 2 rfl) ?_
      refine lv_iload_n hx hb d_Wr_leastReady_22 rfl (lv_at hl 1 rfl) ?_
      obtain ⟨q1, hc, hf⟩ := pv_b hf
      refine pv_callVi C hmv pv_good hP hS (As := [.int x2, .int x1]) (rest := []) (by decide) (fx_12 _ _ _ _) rfl (c_Wr_isReady C.2.2.2.2.2.2.1 hmv hc) cv_Wr_71 ⟨rfl, rfl, Nat.le_trans (Nat.le_of_ble_eq_true rfl) hRf, Nat.le_trans (Nat.le_of_ble_eq_true rfl) hRl⟩ rfl hl.1 rfl (Nat.le_of_ble_eq_true rfl) d_Wr_leastReady_23 ⟨Nat.zero_le _, Nat.zero_le _⟩ (fun H locs hP hS => ?_)
      refine lv_if_eq (tgt := 31) hx hb d_Wr_leastReady_26 (by decide) (fun h => ?_) (fun h => ?_)
      · have hf := pv_t hf h
        exact s_Wr_leastReady_31 C hmv hRf hRl hret hk_2 (lv_sub hl [0, 1, 2] rfl) hP hS hf
      · have hf := pv_f hf h
        refine lv_iload_n hx hb d_Wr_leastReady_29 rfl (lv_at hl 2 rfl) ?_
        obtain rfl := Option.some.inj hf
        exact hret _ _ _ _ d_Wr_leastReady_30 hP hS
def f_Wr_leastReady_2 : Nat → pv_S → Int32 → Int32 → Option (Int32 × pv_S)
  | 0 => fun _ _ _ => none
  | n + 1 => f_Wr_leastReady_2b (f_Wr_leastReady_2 n)
set_option maxHeartbeats 4000000 in
theorem s_Wr_leastReady_2 {p : Program} {l : Launch} {e : Env} {R : Room} {s : State} {m : MethodId} {args : Array Value} {below : List Frame} {meth : Method} {c : Code} {Q : State → Prop} {D : va_G} {q : Nat → ClassId} {a t : Nat → Nat} {A : Nat → Prop} (C : pv_C p s m args c prog_7_method_6_code 3 "PatchVoices$Wiring" pv_TB D pv_cl (pv_ty q) 52 a A (pv_ZX t A)) (hmv : pv_mv A (pv_ZX t A)) (hRf : 2 ≤ R.frames) (hRl : 44 ≤ R.locals) {out : (Int32 × pv_S)} (hret : pv_Ri p l e R s m args below meth c prog_7_method_6_code D pv_cl 52 a (pv_FX q a) A Q out) (n : Nat) : ∀ {σ : pv_S} {x1 : Int32} {x2 : Int32} {H : Heap} {locs : List Loc} {ls : Array Slot}, lv_has ls 3 [(0, .ref (a 12)), (1, .int x1), (2, .int x2)] → pv_W D pv_cl 52 a (pv_FX q a) σ H → va_S A s.heap H locs → f_Wr_leastReady_2 n σ x1 x2 = some out → W p l e R s m args below meth c H locs 0 0 Q (F0 m 2 ls []) := by
  induction n with
  | zero => intro σ x1 x2 H locs ls hl hP hS hf; cases hf
  | succ n ih => intro σ x1 x2 H locs ls hl hP hS hf; exact s_Wr_leastReady_2b C hmv hRf hRl hret (fun σ x1 x2 H locs ls hf hl hP hS => ih hl hP hS hf) hl hP hS hf
def f_Wr_leastReady_0 (σ : pv_S) (x1 : Int32) : Option (Int32 × pv_S) :=
  f_Wr_leastReady_2 pv_fu σ x1 (0 : Int32)
set_option maxHeartbeats 4000000 in
set_option maxRecDepth 100000 in
theorem s_Wr_leastReady_0 {p : Program} {l : Launch} {e : Env} {R : Room} {s : State} {m : MethodId} {args : Array Value} {below : List Frame} {meth : Method} {c : Code} {Q : State → Prop} {D : va_G} {q : Nat → ClassId} {a t : Nat → Nat} {A : Nat → Prop} (C : pv_C p s m args c prog_7_method_6_code 3 "PatchVoices$Wiring" pv_TB D pv_cl (pv_ty q) 52 a A (pv_ZX t A)) (hmv : pv_mv A (pv_ZX t A)) (hRf : 2 ≤ R.frames) (hRl : 44 ≤ R.locals) {out : (Int32 × pv_S)} (hret : pv_Ri p l e R s m args below meth c prog_7_method_6_code D pv_cl 52 a (pv_FX q a) A Q out) {σ : pv_S} {x1 : Int32} {H : Heap} {locs : List Loc} {ls : Array Slot} (hl : lv_has ls 3 [(0, .ref (a 12)), (1, .int x1)]) (hP : pv_W D pv_cl 52 a (pv_FX q a) σ H) (hS : va_S A s.heap H locs) (hf : f_Wr_leastReady_0 σ x1 = some out) : W p l e R s m args below meth c H locs 0 0 Q (F0 m 0 ls []) := by
  unfold f_Wr_leastReady_0 at hf
  have hx := C.1
  have hb := C.2.1
  refine lv_iconst (v := (0 : Int32)) hx hb d_Wr_leastReady_0 (by decide) ?_
  refine lv_istore_n (lv' := [(2, .int (0 : Int32)), (0, .ref (a 12)), (1, .int x1)]) hx hb d_Wr_leastReady_1 rfl hl (by decide) rfl (fun ls hl => ?_)
  exact s_Wr_leastReady_2 C hmv hRf hRl hret pv_fu (lv_sub hl [1, 2, 0] rfl) hP hS hf
def f_Wr_leastReady (σ : pv_S) (x1 : Int32) : Option (Int32 × pv_S) := f_Wr_leastReady_0 σ x1
def rm_Wr_leastReady : Room := { frames := 2, cells := 0, slots := 0, locals := 44 }
theorem c_Wr_leastReady {l : Launch} {D : va_G} {q : Nat → ClassId} {a t : Nat → Nat} {A : Nat → Prop} (hD : pv_D 52 a A) (hmv : pv_mv A (pv_ZX t A)) {σ : pv_S} {x1 : Int32} {out : (Int32 × pv_S)} (hf : f_Wr_leastReady σ x1 = some out) : pv_Mi l y_Wr_leastReady (Cond.code y_Wr_leastReady prog_7_method_6_code 3 (some .int) :: pv_TB) rm_Wr_leastReady D pv_cl (pv_ty q) 52 a (pv_FX q a) A (pv_ZX t A) [.ref (a 12), .int x1] σ out :=
  pv_ofI (by decide) (Nat.le_of_ble_eq_true rfl) hD (fun p e s m args below meth c Q ls C hret hl hP => s_Wr_leastReady_0 C hmv (Nat.le_refl _) (Nat.le_refl _) hret hl hP va_S.rf hf)
theorem d_Wr_putInOrder_0 : decode prog_7_method_5_code 0 = .ok (.iconst 0, 1) := by decide +kernel
theorem d_Wr_putInOrder_1 : decode prog_7_method_5_code 1 = .ok (.istore_n 1, 1) := by decide +kernel
theorem d_Wr_putInOrder_2 : decode prog_7_method_5_code 2 = .ok (.iconst 0, 1) := by decide +kernel
theorem d_Wr_putInOrder_3 : decode prog_7_method_5_code 3 = .ok (.istore_n 2, 1) := by decide +kernel
theorem d_Wr_putInOrder_4 : decode prog_7_method_5_code 4 = .ok (.iload_n 2, 1) := by decide +kernel
theorem d_Wr_putInOrder_5 : decode prog_7_method_5_code 5 = .ok (.aload_n 0, 1) := by decide +kernel
theorem d_Wr_putInOrder_6 : decode prog_7_method_5_code 6 = .ok (.getfield 48, 3) := by decide +kernel
theorem d_Wr_putInOrder_9 : decode prog_7_method_5_code 9 = .ok (.if_icmp .ge 31, 3) := by decide +kernel
theorem d_Wr_putInOrder_12 : decode prog_7_method_5_code 12 = .ok (.aload_n 0, 1) := by decide +kernel
theorem d_Wr_putInOrder_13 : decode prog_7_method_5_code 13 = .ok (.getfield 25, 3) := by decide +kernel
theorem d_Wr_putInOrder_16 : decode prog_7_method_5_code 16 = .ok (.iload_n 2, 1) := by decide +kernel
theorem d_Wr_putInOrder_17 : decode prog_7_method_5_code 17 = .ok (.aload_n 0, 1) := by decide +kernel
theorem d_Wr_putInOrder_18 : decode prog_7_method_5_code 18 = .ok (.iload_n 1, 1) := by decide +kernel
theorem d_Wr_putInOrder_19 : decode prog_7_method_5_code 19 = .ok (.invokevirtual 67, 3) := by decide +kernel
theorem d_Wr_putInOrder_22 : decode prog_7_method_5_code 22 = .ok (.iastore, 1) := by decide +kernel
theorem d_Wr_putInOrder_23 : decode prog_7_method_5_code 23 = .ok (.iload_n 1, 1) := by decide +kernel
theorem d_Wr_putInOrder_24 : decode prog_7_method_5_code 24 = .ok (.iconst 1, 1) := by decide +kernel
theorem d_Wr_putInOrder_25 : decode prog_7_method_5_code 25 = .ok (.aload_n 0, 1) := by decide +kernel
theorem d_Wr_putInOrder_26 : decode prog_7_method_5_code 26 = .ok (.getfield 25, 3) := by decide +kernel
theorem d_Wr_putInOrder_29 : decode prog_7_method_5_code 29 = .ok (.iload_n 2, 1) := by decide +kernel
theorem d_Wr_putInOrder_30 : decode prog_7_method_5_code 30 = .ok (.iaload, 1) := by decide +kernel
theorem d_Wr_putInOrder_31 : decode prog_7_method_5_code 31 = .ok (.ishl, 1) := by decide +kernel
theorem d_Wr_putInOrder_32 : decode prog_7_method_5_code 32 = .ok (.ior, 1) := by decide +kernel
theorem d_Wr_putInOrder_33 : decode prog_7_method_5_code 33 = .ok (.istore_n 1, 1) := by decide +kernel
theorem d_Wr_putInOrder_34 : decode prog_7_method_5_code 34 = .ok (.iinc 2 1, 3) := by decide +kernel
theorem d_Wr_putInOrder_37 : decode prog_7_method_5_code 37 = .ok (.goto (-33), 3) := by decide +kernel
theorem d_Wr_putInOrder_40 : decode prog_7_method_5_code 40 = .ok (.return_, 1) := by decide +kernel
def f_Wr_putInOrder_4b (k_4 : pv_S → Int32 → Int32 → Option pv_S) (σ : pv_S) (x1 : Int32) (x2 : Int32) : Option pv_S :=
  (if (σ.1 12 0) ≤ x2 then
  some σ
  else
  ((f_Wr_leastReady σ x1).bind fun q1 =>
(if pv_in x2 24 = true then
(if pv_in x2 24 = true then
k_4 (pv_uI q1.2 16 (x2).toNatClampNeg q1.1) (x1 ||| ((1 : Int32) <<< (((pv_uI q1.2 16 (x2).toNatClampNeg q1.1).1 16 (x2).toNatClampNeg) &&& 31))) (x2 + (1 : Int32))
  else none)
  else none)))
set_option maxHeartbeats 4000000 in
set_option maxRecDepth 100000 in
theorem s_Wr_putInOrder_4b {p : Program} {l : Launch} {e : Env} {R : Room} {s : State} {m : MethodId} {args : Array Value} {below : List Frame} {meth : Method} {c : Code} {Q : State → Prop} {D : va_G} {q : Nat → ClassId} {a t : Nat → Nat} {A : Nat → Prop} (C : pv_C p s m args c prog_7_method_5_code 3 "PatchVoices$Wiring" pv_TB D pv_cl (pv_ty q) 52 a A (pv_ZX t A)) (hmv : pv_mv A (pv_ZX t A)) (hRf : 3 ≤ R.frames) (hRl : 66 ≤ R.locals) {out : pv_S} (hret : pv_Rv p l e R s m args below meth c prog_7_method_5_code D pv_cl 52 a (pv_FX q a) A Q out) {k_4 : pv_S → Int32 → Int32 → Option pv_S} (hk_4 : ∀ (σ : pv_S) (x1 : Int32) (x2 : Int32) (H : Heap) (locs : List Loc) (ls : Array Slot), k_4 σ x1 x2 = some out → lv_has ls 3 [(0, .ref (a 12)), (1, .int x1), (2, .int x2)] → pv_W D pv_cl 52 a (pv_FX q a) σ H → va_S A s.heap H locs → W p l e R s m args below meth c H locs 0 0 Q (F0 m 4 ls [])) {σ : pv_S} {x1 : Int32} {x2 : Int32} {H : Heap} {locs : List Loc} {ls : Array Slot} (hl : lv_has ls 3 [(0, .ref (a 12)), (1, .int x1), (2, .int x2)]) (hP : pv_W D pv_cl 52 a (pv_FX q a) σ H) (hS : va_S A s.heap H locs) (hf : f_Wr_putInOrder_4b k_4 σ x1 x2 = some out) : W p l e R s m args below meth c H locs 0 0 Q (F0 m 4 ls []) := by
  unfold f_Wr_putInOrder_4b at hf
  have hx := C.1
  have hb := C.2.1
  refine lv_iload_n hx hb d_Wr_putInOrder_4 rfl (lv_at hl 2 rfl) ?_
  refine lv_aload_n hx hb d_Wr_putInOrder_5 rfl (lv_at hl 0 rfl) ?_
  refine pv_get C hP (v := .int (σ.1 12 0)) (j := 0) (by decide) (fx_12 _ _ _ _) fl_Wr_48 rfl d_Wr_putInOrder_6 ?_
  refine lv_icmp_ge (tgt := 40) hx hb d_Wr_putInOrder_9 (by decide) (fun h => ?_) (fun h => ?_)
  · have hf := pv_t hf h
    obtain rfl := Option.some.inj hf
    exact hret _ _ _ _ d_Wr_putInOrder_40 hP hS
  · have hf := pv_f hf h
    refine lv_aload_n hx hb d_Wr_putInOrder_12 rfl (lv_at hl 0 rfl) ?_
    refine pv_get C hP (v := .ref (a 16)) (j := 4) (by decide) (fx_12 _ _ _ _) fl_Wr_25 rfl d_Wr_putInOrder_13 ?_
    refine lv_iload_n hx hb d_Wr_putInOrder_16 rfl (lv_at hl 2 rfl) ?_
    refine lv_aload_n hx hb d_Wr_putInOrder_17 rfl (lv_at hl 0 rfl) ?_
    refine lv_iload_n hx hb d_Wr_putInOrder_18 rfl (lv_at hl 1 rfl) ?_
    obtain ⟨q1, hc, hf⟩ := pv_b hf
    refine pv_callVi C hmv pv_good hP hS (As := [.int x1]) (rest := [.int x2, .ref (a 16)]) (by decide) (fx_12 _ _ _ _) rfl (c_Wr_leastReady C.2.2.2.2.2.2.1 hmv hc) cv_Wr_67 ⟨rfl, rfl, Nat.le_trans (Nat.le_of_ble_eq_true rfl) hRf, Nat.le_trans (Nat.le_of_ble_eq_true rfl) hRl⟩ rfl hl.1 rfl (Nat.le_of_ble_eq_true rfl) d_Wr_putInOrder_19 ⟨Nat.zero_le _, Nat.zero_le _⟩ (fun H locs hP hS => ?_)
    obtain ⟨hg, hf⟩ := pv_g hf
    refine pv_iast C hP hS (t0 := 0) (x := q1.1) (by decide) (fun f g => (fx_16 _ _ f g)) rfl hg d_Wr_putInOrder_22 (fun H locs hP hS => ?_)
    refine lv_iload_n hx hb d_Wr_putInOrder_23 rfl (lv_at hl 1 rfl) ?_
    refine lv_iconst (v := (1 : Int32)) hx hb d_Wr_putInOrder_24 (by decide) ?_
    refine lv_aload_n hx hb d_Wr_putInOrder_25 rfl (lv_at hl 0 rfl) ?_
    refine pv_get C hP (v := .ref (a 16)) (j := 4) (by decide) (fx_12 _ _ _ _) fl_Wr_25 rfl d_Wr_putInOrder_26 ?_
    refine lv_iload_n hx hb d_Wr_putInOrder_29 rfl (lv_at hl 2 rfl) ?_
    obtain ⟨hg, hf⟩ := pv_g hf
    refine pv_iald C hP (t0 := 0) (by decide) (fx_16 _ _ _ _) rfl hg d_Wr_putInOrder_30 ?_
    refine lv_ishl hx hb d_Wr_putInOrder_31 ?_
    refine lv_ior hx hb d_Wr_putInOrder_32 ?_
    refine lv_istore_n (lv' := [(1, .int (x1 ||| ((1 : Int32) <<< (((pv_uI q1.2 16 (x2).toNatClampNeg q1.1).1 16 (x2).toNatClampNeg) &&& 31)))), (0, .ref (a 12)), (2, .int x2)]) hx hb d_Wr_putInOrder_33 rfl hl (by decide) rfl (fun ls hl => ?_)
    refine lv_iinc (k := 2) (v := (x2 + (1 : Int32))) (lv' := [(2, .int (x2 + (1 : Int32))), (1, .int (x1 ||| ((1 : Int32) <<< (((pv_uI q1.2 16 (x2).toNatClampNeg q1.1).1 16 (x2).toNatClampNeg) &&& 31)))), (0, .ref (a 12))]) hx hb d_Wr_putInOrder_34 hl rfl (pv_inc (by decide)) (by decide) rfl (fun ls hl => ?_)
    refine lv_goto (tgt := 4) hx hb d_Wr_putInOrder_37 (by decide) ?_
    exact hk_4 _ _ _ _ _ _ hf (lv_sub hl [2, 1, 0] rfl) hP hS
def f_Wr_putInOrder_4 : Nat → pv_S → Int32 → Int32 → Option pv_S
  | 0 => fun _ _ _ => none
  | n + 1 => f_Wr_putInOrder_4b (f_Wr_putInOrder_4 n)
set_option maxHeartbeats 4000000 in
theorem s_Wr_putInOrder_4 {p : Program} {l : Launch} {e : Env} {R : Room} {s : State} {m : MethodId} {args : Array Value} {below : List Frame} {meth : Method} {c : Code} {Q : State → Prop} {D : va_G} {q : Nat → ClassId} {a t : Nat → Nat} {A : Nat → Prop} (C : pv_C p s m args c prog_7_method_5_code 3 "PatchVoices$Wiring" pv_TB D pv_cl (pv_ty q) 52 a A (pv_ZX t A)) (hmv : pv_mv A (pv_ZX t A)) (hRf : 3 ≤ R.frames) (hRl : 66 ≤ R.locals) {out : pv_S} (hret : pv_Rv p l e R s m args below meth c prog_7_method_5_code D pv_cl 52 a (pv_FX q a) A Q out) (n : Nat) : ∀ {σ : pv_S} {x1 : Int32} {x2 : Int32} {H : Heap} {locs : List Loc} {ls : Array Slot}, lv_has ls 3 [(0, .ref (a 12)), (1, .int x1), (2, .int x2)] → pv_W D pv_cl 52 a (pv_FX q a) σ H → va_S A s.heap H locs → f_Wr_putInOrder_4 n σ x1 x2 = some out → W p l e R s m args below meth c H locs 0 0 Q (F0 m 4 ls []) := by
  induction n with
  | zero => intro σ x1 x2 H locs ls hl hP hS hf; cases hf
  | succ n ih => intro σ x1 x2 H locs ls hl hP hS hf; exact s_Wr_putInOrder_4b C hmv hRf hRl hret (fun σ x1 x2 H locs ls hf hl hP hS => ih hl hP hS hf) hl hP hS hf
def f_Wr_putInOrder_0 (σ : pv_S) : Option pv_S :=
  f_Wr_putInOrder_4 pv_fu σ (0 : Int32) (0 : Int32)
set_option maxHeartbeats 4000000 in
set_option maxRecDepth 100000 in
theorem s_Wr_putInOrder_0 {p : Program} {l : Launch} {e : Env} {R : Room} {s : State} {m : MethodId} {args : Array Value} {below : List Frame} {meth : Method} {c : Code} {Q : State → Prop} {D : va_G} {q : Nat → ClassId} {a t : Nat → Nat} {A : Nat → Prop} (C : pv_C p s m args c prog_7_method_5_code 3 "PatchVoices$Wiring" pv_TB D pv_cl (pv_ty q) 52 a A (pv_ZX t A)) (hmv : pv_mv A (pv_ZX t A)) (hRf : 3 ≤ R.frames) (hRl : 66 ≤ R.locals) {out : pv_S} (hret : pv_Rv p l e R s m args below meth c prog_7_method_5_code D pv_cl 52 a (pv_FX q a) A Q out) {σ : pv_S} {H : Heap} {locs : List Loc} {ls : Array Slot} (hl : lv_has ls 3 [(0, .ref (a 12))]) (hP : pv_W D pv_cl 52 a (pv_FX q a) σ H) (hS : va_S A s.heap H locs) (hf : f_Wr_putInOrder_0 σ = some out) : W p l e R s m args below meth c H locs 0 0 Q (F0 m 0 ls []) := by
  unfold f_Wr_putInOrder_0 at hf
  have hx := C.1
  have hb := C.2.1
  refine lv_iconst (v := (0 : Int32)) hx hb d_Wr_putInOrder_0 (by decide) ?_
  refine lv_istore_n (lv' := [(1, .int (0 : Int32)), (0, .ref (a 12))]) hx hb d_Wr_putInOrder_1 rfl hl (by decide) rfl (fun ls hl => ?_)
  refine lv_iconst (v := (0 : Int32)) hx hb d_Wr_putInOrder_2 (by decide) ?_
  refine lv_istore_n (lv' := [(2, .int (0 : Int32)), (1, .int (0 : Int32)), (0, .ref (a 12))]) hx hb d_Wr_putInOrder_3 rfl hl (by decide) rfl (fun ls hl => ?_)
  exact s_Wr_putInOrder_4 C hmv hRf hRl hret pv_fu (lv_sub hl [2, 1, 0] rfl) hP hS hf
def f_Wr_putInOrder (σ : pv_S) : Option pv_S := f_Wr_putInOrder_0 σ
def rm_Wr_putInOrder : Room := { frames := 3, cells := 0, slots := 0, locals := 66 }
theorem c_Wr_putInOrder {l : Launch} {D : va_G} {q : Nat → ClassId} {a t : Nat → Nat} {A : Nat → Prop} (hD : pv_D 52 a A) (hmv : pv_mv A (pv_ZX t A)) {σ : pv_S} {out : pv_S} (hf : f_Wr_putInOrder σ = some out) : pv_Mv l y_Wr_putInOrder (Cond.code y_Wr_putInOrder prog_7_method_5_code 3 none :: pv_TB) rm_Wr_putInOrder D pv_cl (pv_ty q) 52 a (pv_FX q a) A (pv_ZX t A) [.ref (a 12)] σ out :=
  pv_ofV (by decide) (Nat.le_of_ble_eq_true rfl) hD (fun p e s m args below meth c Q ls C hret hl hP => s_Wr_putInOrder_0 C hmv (Nat.le_refl _) (Nat.le_refl _) hret hl hP va_S.rf hf)
theorem d_Wr_readStands_0 : decode prog_7_method_9_code 0 = .ok (.iconst 0, 1) := by decide +kernel
theorem d_Wr_readStands_1 : decode prog_7_method_9_code 1 = .ok (.istore_n 2, 1) := by decide +kernel
theorem d_Wr_readStands_2 : decode prog_7_method_9_code 2 = .ok (.iload_n 2, 1) := by decide +kernel
theorem d_Wr_readStands_3 : decode prog_7_method_9_code 3 = .ok (.aload_n 0, 1) := by decide +kernel
theorem d_Wr_readStands_4 : decode prog_7_method_9_code 4 = .ok (.getfield 11, 3) := by decide +kernel
theorem d_Wr_readStands_7 : decode prog_7_method_9_code 7 = .ok (.iload_n 1, 1) := by decide +kernel
theorem d_Wr_readStands_8 : decode prog_7_method_9_code 8 = .ok (.iaload, 1) := by decide +kernel
theorem d_Wr_readStands_9 : decode prog_7_method_9_code 9 = .ok (.invokestatic 75, 3) := by decide +kernel
theorem d_Wr_readStands_12 : decode prog_7_method_9_code 12 = .ok (.if_icmp .ge 55, 3) := by decide +kernel
theorem d_Wr_readStands_15 : decode prog_7_method_9_code 15 = .ok (.iconst 4, 1) := by decide +kernel
theorem d_Wr_readStands_16 : decode prog_7_method_9_code 16 = .ok (.iload_n 1, 1) := by decide +kernel
theorem d_Wr_readStands_17 : decode prog_7_method_9_code 17 = .ok (.imul, 1) := by decide +kernel
theorem d_Wr_readStands_18 : decode prog_7_method_9_code 18 = .ok (.iload_n 2, 1) := by decide +kernel
theorem d_Wr_readStands_19 : decode prog_7_method_9_code 19 = .ok (.iadd, 1) := by decide +kernel
theorem d_Wr_readStands_20 : decode prog_7_method_9_code 20 = .ok (.istore_n 3, 1) := by decide +kernel
theorem d_Wr_readStands_21 : decode prog_7_method_9_code 21 = .ok (.aload_n 0, 1) := by decide +kernel
theorem d_Wr_readStands_22 : decode prog_7_method_9_code 22 = .ok (.getfield 19, 3) := by decide +kernel
theorem d_Wr_readStands_25 : decode prog_7_method_9_code 25 = .ok (.iload_n 3, 1) := by decide +kernel
theorem d_Wr_readStands_26 : decode prog_7_method_9_code 26 = .ok (.iaload, 1) := by decide +kernel
theorem d_Wr_readStands_27 : decode prog_7_method_9_code 27 = .ok (.istore 4, 2) := by decide +kernel
theorem d_Wr_readStands_29 : decode prog_7_method_9_code 29 = .ok (.iload 4, 2) := by decide +kernel
theorem d_Wr_readStands_31 : decode prog_7_method_9_code 31 = .ok (.iconst (-1), 1) := by decide +kernel
theorem d_Wr_readStands_32 : decode prog_7_method_9_code 32 = .ok (.if_icmp .eq 29, 3) := by decide +kernel
theorem d_Wr_readStands_35 : decode prog_7_method_9_code 35 = .ok (.aload_n 0, 1) := by decide +kernel
theorem d_Wr_readStands_36 : decode prog_7_method_9_code 36 = .ok (.getfield 19, 3) := by decide +kernel
theorem d_Wr_readStands_39 : decode prog_7_method_9_code 39 = .ok (.iload_n 3, 1) := by decide +kernel
theorem d_Wr_readStands_40 : decode prog_7_method_9_code 40 = .ok (.aload_n 0, 1) := by decide +kernel
theorem d_Wr_readStands_41 : decode prog_7_method_9_code 41 = .ok (.getfield 32, 3) := by decide +kernel
theorem d_Wr_readStands_44 : decode prog_7_method_9_code 44 = .ok (.iload 4, 2) := by decide +kernel
theorem d_Wr_readStands_46 : decode prog_7_method_9_code 46 = .ok (.iaload, 1) := by decide +kernel
theorem d_Wr_readStands_47 : decode prog_7_method_9_code 47 = .ok (.iastore, 1) := by decide +kernel
theorem d_Wr_readStands_48 : decode prog_7_method_9_code 48 = .ok (.aload_n 0, 1) := by decide +kernel
theorem d_Wr_readStands_49 : decode prog_7_method_9_code 49 = .ok (.getfield 22, 3) := by decide +kernel
theorem d_Wr_readStands_52 : decode prog_7_method_9_code 52 = .ok (.iload_n 3, 1) := by decide +kernel
theorem d_Wr_readStands_53 : decode prog_7_method_9_code 53 = .ok (.aload_n 0, 1) := by decide +kernel
theorem d_Wr_readStands_54 : decode prog_7_method_9_code 54 = .ok (.getfield 35, 3) := by decide +kernel
theorem d_Wr_readStands_57 : decode prog_7_method_9_code 57 = .ok (.iload 4, 2) := by decide +kernel
theorem d_Wr_readStands_59 : decode prog_7_method_9_code 59 = .ok (.iaload, 1) := by decide +kernel
theorem d_Wr_readStands_60 : decode prog_7_method_9_code 60 = .ok (.iastore, 1) := by decide +kernel
theorem d_Wr_readStands_61 : decode prog_7_method_9_code 61 = .ok (.iinc 2 1, 3) := by decide +kernel
theorem d_Wr_readStands_64 : decode prog_7_method_9_code 64 = .ok (.goto (-62), 3) := by decide +kernel
theorem d_Wr_readStands_67 : decode prog_7_method_9_code 67 = .ok (.return_, 1) := by decide +kernel
def f_Wr_readStands_61 (k_2 : pv_S → Int32 → Int32 → Option pv_S) (σ : pv_S) (x1 : Int32) (x2 : Int32) : Option pv_S :=
  k_2 σ x1 (x2 + (1 : Int32))
set_option maxHeartbeats 4000000 in
set_option maxRecDepth 100000 in
theorem s_Wr_readStands_61 {p : Program} {l : Launch} {e : Env} {R : Room} {s : State} {m : MethodId} {args : Array Value} {below : List Frame} {meth : Method} {c : Code} {Q : State → Prop} {D : va_G} {q : Nat → ClassId} {a t : Nat → Nat} {A : Nat → Prop} (C : pv_C p s m args c prog_7_method_9_code 5 "PatchVoices$Wiring" pv_TB D pv_cl (pv_ty q) 52 a A (pv_ZX t A)) (hmv : pv_mv A (pv_ZX t A)) (hRf : 1 ≤ R.frames) (hRl : 20 ≤ R.locals) {out : pv_S} (hret : pv_Rv p l e R s m args below meth c prog_7_method_9_code D pv_cl 52 a (pv_FX q a) A Q out) {k_2 : pv_S → Int32 → Int32 → Option pv_S} (hk_2 : ∀ (σ : pv_S) (x1 : Int32) (x2 : Int32) (H : Heap) (locs : List Loc) (ls : Array Slot), k_2 σ x1 x2 = some out → lv_has ls 5 [(0, .ref (a 12)), (1, .int x1), (2, .int x2)] → pv_W D pv_cl 52 a (pv_FX q a) σ H → va_S A s.heap H locs → W p l e R s m args below meth c H locs 0 0 Q (F0 m 2 ls [])) {σ : pv_S} {x1 : Int32} {x2 : Int32} {H : Heap} {locs : List Loc} {ls : Array Slot} (hl : lv_has ls 5 [(0, .ref (a 12)), (1, .int x1), (2, .int x2)]) (hP : pv_W D pv_cl 52 a (pv_FX q a) σ H) (hS : va_S A s.heap H locs) (hf : f_Wr_readStands_61 k_2 σ x1 x2 = some out) : W p l e R s m args below meth c H locs 0 0 Q (F0 m 61 ls []) := by
  unfold f_Wr_readStands_61 at hf
  have hx := C.1
  have hb := C.2.1
  refine lv_iinc (k := 2) (v := (x2 + (1 : Int32))) (lv' := [(2, .int (x2 + (1 : Int32))), (0, .ref (a 12)), (1, .int x1)]) hx hb d_Wr_readStands_61 hl rfl (pv_inc (by decide)) (by decide) rfl (fun ls hl => ?_)
  refine lv_goto (tgt := 2) hx hb d_Wr_readStands_64 (by decide) ?_
  exact hk_2 _ _ _ _ _ _ hf (lv_sub hl [1, 2, 0] rfl) hP hS
def f_Wr_readStands_2b (k_2 : pv_S → Int32 → Int32 → Option pv_S) (σ : pv_S) (x1 : Int32) (x2 : Int32) : Option pv_S :=
  (if pv_in x1 24 = true then
((f_Kd_inputsOf σ (σ.1 13 (x1).toNatClampNeg)).bind fun q1 =>
(if q1.1 ≤ x2 then
  some q1.2
  else
  (if pv_in (((4 : Int32) * x1) + x2) 96 = true then
(if (q1.2.1 14 ((((4 : Int32) * x1) + x2)).toNatClampNeg) = (-1 : Int32) then
  f_Wr_readStands_61 k_2 q1.2 x1 x2
  else
  (if pv_in (q1.2.1 14 ((((4 : Int32) * x1) + x2)).toNatClampNeg) 24 = true then
(if pv_in (((4 : Int32) * x1) + x2) 96 = true then
(if pv_in (q1.2.1 14 ((((4 : Int32) * x1) + x2)).toNatClampNeg) 24 = true then
(if pv_in (((4 : Int32) * x1) + x2) 96 = true then
f_Wr_readStands_61 k_2 (pv_uI (pv_uI q1.2 14 ((((4 : Int32) * x1) + x2)).toNatClampNeg (q1.2.1 18 ((q1.2.1 14 ((((4 : Int32) * x1) + x2)).toNatClampNeg)).toNatClampNeg)) 15 ((((4 : Int32) * x1) + x2)).toNatClampNeg ((pv_uI q1.2 14 ((((4 : Int32) * x1) + x2)).toNatClampNeg (q1.2.1 18 ((q1.2.1 14 ((((4 : Int32) * x1) + x2)).toNatClampNeg)).toNatClampNeg)).1 19 ((q1.2.1 14 ((((4 : Int32) * x1) + x2)).toNatClampNeg)).toNatClampNeg)) x1 x2
  else none)
  else none)
  else none)
  else none))
  else none)))
  else none)
set_option maxHeartbeats 4000000 in
set_option maxRecDepth 100000 in
theorem s_Wr_readStands_2b {p : Program} {l : Launch} {e : Env} {R : Room} {s : State} {m : MethodId} {args : Array Value} {below : List Frame} {meth : Method} {c : Code} {Q : State → Prop} {D : va_G} {q : Nat → ClassId} {a t : Nat → Nat} {A : Nat → Prop} (C : pv_C p s m args c prog_7_method_9_code 5 "PatchVoices$Wiring" pv_TB D pv_cl (pv_ty q) 52 a A (pv_ZX t A)) (hmv : pv_mv A (pv_ZX t A)) (hRf : 1 ≤ R.frames) (hRl : 20 ≤ R.locals) {out : pv_S} (hret : pv_Rv p l e R s m args below meth c prog_7_method_9_code D pv_cl 52 a (pv_FX q a) A Q out) {k_2 : pv_S → Int32 → Int32 → Option pv_S} (hk_2 : ∀ (σ : pv_S) (x1 : Int32) (x2 : Int32) (H : Heap) (locs : List Loc) (ls : Array Slot), k_2 σ x1 x2 = some out → lv_has ls 5 [(0, .ref (a 12)), (1, .int x1), (2, .int x2)] → pv_W D pv_cl 52 a (pv_FX q a) σ H → va_S A s.heap H locs → W p l e R s m args below meth c H locs 0 0 Q (F0 m 2 ls [])) {σ : pv_S} {x1 : Int32} {x2 : Int32} {H : Heap} {locs : List Loc} {ls : Array Slot} (hl : lv_has ls 5 [(0, .ref (a 12)), (1, .int x1), (2, .int x2)]) (hP : pv_W D pv_cl 52 a (pv_FX q a) σ H) (hS : va_S A s.heap H locs) (hf : f_Wr_readStands_2b k_2 σ x1 x2 = some out) : W p l e R s m args below meth c H locs 0 0 Q (F0 m 2 ls []) := by
  unfold f_Wr_readStands_2b at hf
  have hx := C.1
  have hb := C.2.1
  refine lv_iload_n hx hb d_Wr_readStands_2 rfl (lv_at hl 2 rfl) ?_
  refine lv_aload_n hx hb d_Wr_readStands_3 rfl (lv_at hl 0 rfl) ?_
  refine pv_get C hP (v := .ref (a 13)) (j := 1) (by decide) (fx_12 _ _ _ _) fl_Wr_11 rfl d_Wr_readStands_4 ?_
  refine lv_iload_n hx hb d_Wr_readStands_7 rfl (lv_at hl 1 rfl) ?_
  obtain ⟨hg, hf⟩ := pv_g hf
  refine pv_iald C hP (t0 := 0) (by decide) (fx_13 _ _ _ _) rfl hg d_Wr_readStands_8 ?_
  obtain ⟨q1, hc, hf⟩ := pv_b hf
  refine pv_callSi C hmv pv_good hP hS (As := [.int (σ.1 13 (x1).toNatClampNeg)]) (rest := [.int x2]) (c_Kd_inputsOf C.2.2.2.2.2.2.1 hmv hc) cs_Wr_75 ⟨rfl, rfl, Nat.le_trans (Nat.le_of_ble_eq_true rfl) hRf, Nat.le_trans (Nat.le_of_ble_eq_true rfl) hRl⟩ rfl hl.1 rfl (Nat.le_of_ble_eq_true rfl) d_Wr_readStands_9 ⟨Nat.zero_le _, Nat.zero_le _⟩ (fun H locs hP hS => ?_)
  refine lv_icmp_ge (tgt := 67) hx hb d_Wr_readStands_12 (by decide) (fun h => ?_) (fun h => ?_)
  · have hf := pv_t hf h
    obtain rfl := Option.some.inj hf
    exact hret _ _ _ _ d_Wr_readStands_67 hP hS
  · have hf := pv_f hf h
    refine lv_iconst (v := (4 : Int32)) hx hb d_Wr_readStands_15 (by decide) ?_
    refine lv_iload_n hx hb d_Wr_readStands_16 rfl (lv_at hl 1 rfl) ?_
    refine lv_imul hx hb d_Wr_readStands_17 ?_
    refine lv_iload_n hx hb d_Wr_readStands_18 rfl (lv_at hl 2 rfl) ?_
    refine lv_iadd hx hb d_Wr_readStands_19 ?_
    refine lv_istore_n (lv' := [(3, .int (((4 : Int32) * x1) + x2)), (0, .ref (a 12)), (1, .int x1), (2, .int x2)]) hx hb d_Wr_readStands_20 rfl hl (by decide) rfl (fun ls hl => ?_)
    refine lv_aload_n hx hb d_Wr_readStands_21 rfl (lv_at hl 1 rfl) ?_
    refine pv_get C hP (v := .ref (a 14)) (j := 2) (by decide) (fx_12 _ _ _ _) fl_Wr_19 rfl d_Wr_readStands_22 ?_
    refine lv_iload_n hx hb d_Wr_readStands_25 rfl (lv_at hl 0 rfl) ?_
    obtain ⟨hg, hf⟩ := pv_g hf
    refine pv_iald C hP (t0 := 0) (by decide) (fx_14 _ _ _ _) rfl hg d_Wr_readStands_26 ?_
    refine lv_istore (lv' := [(4, .int (q1.2.1 14 ((((4 : Int32) * x1) + x2)).toNatClampNeg)), (3, .int (((4 : Int32) * x1) + x2)), (0, .ref (a 12)), (1, .int x1), (2, .int x2)]) hx hb d_Wr_readStands_27 hl (by decide) rfl (fun ls hl => ?_)
    refine lv_iload hx hb d_Wr_readStands_29 (lv_at hl 0 rfl) ?_
    refine lv_iconst (v := (-1 : Int32)) hx hb d_Wr_readStands_31 (by decide) ?_
    refine lv_icmp_eq (tgt := 61) hx hb d_Wr_readStands_32 (by decide) (fun h => ?_) (fun h => ?_)
    · have hf := pv_t hf h
      exact s_Wr_readStands_61 C hmv hRf hRl hret hk_2 (lv_sub hl [2, 3, 4] rfl) hP hS hf
    · have hf := pv_f hf h
      refine lv_aload_n hx hb d_Wr_readStands_35 rfl (lv_at hl 2 rfl) ?_
      refine pv_get C hP (v := .ref (a 14)) (j := 2) (by decide) (fx_12 _ _ _ _) fl_Wr_19 rfl d_Wr_readStands_36 ?_
      refine lv_iload_n hx hb d_Wr_readStands_39 rfl (lv_at hl 1 rfl) ?_
      refine lv_aload_n hx hb d_Wr_readStands_40 rfl (lv_at hl 2 rfl) ?_
      refine pv_get C hP (v := .ref (a 18)) (j := 6) (by decide) (fx_12 _ _ _ _) fl_Wr_32 rfl d_Wr_readStands_41 ?_
      refine lv_iload hx hb d_Wr_readStands_44 (lv_at hl 0 rfl) ?_
      obtain ⟨hg, hf⟩ := pv_g hf
      refine pv_iald C hP (t0 := 0) (by decide) (fx_18 _ _ _ _) rfl hg d_Wr_readStands_46 ?_
      obtain ⟨hg, hf⟩ := pv_g hf
      refine pv_iast C hP hS (t0 := 0) (x := (q1.2.1 18 ((q1.2.1 14 ((((4 : Int32) * x1) + x2)).toNatClampNeg)).toNatClampNeg)) (by decide) (fun f g => (fx_14 _ _ f g)) rfl hg d_Wr_readStands_47 (fun H locs hP hS => ?_)
      refine lv_aload_n hx hb d_Wr_readStands_48 rfl (lv_at hl 2 rfl) ?_
      refine pv_get C hP (v := .ref (a 15)) (j := 3) (by decide) (fx_12 _ _ _ _) fl_Wr_22 rfl d_Wr_readStands_49 ?_
      refine lv_iload_n hx hb d_Wr_readStands_52 rfl (lv_at hl 1 rfl) ?_
      refine lv_aload_n hx hb d_Wr_readStands_53 rfl (lv_at hl 2 rfl) ?_
      refine pv_get C hP (v := .ref (a 19)) (j := 7) (by decide) (fx_12 _ _ _ _) fl_Wr_35 rfl d_Wr_readStands_54 ?_
      refine lv_iload hx hb d_Wr_readStands_57 (lv_at hl 0 rfl) ?_
      obtain ⟨hg, hf⟩ := pv_g hf
      refine pv_iald C hP (t0 := 0) (by decide) (fx_19 _ _ _ _) rfl hg d_Wr_readStands_59 ?_
      obtain ⟨hg, hf⟩ := pv_g hf
      refine pv_iast C hP hS (t0 := 0) (x := ((pv_uI q1.2 14 ((((4 : Int32) * x1) + x2)).toNatClampNeg (q1.2.1 18 ((q1.2.1 14 ((((4 : Int32) * x1) + x2)).toNatClampNeg)).toNatClampNeg)).1 19 ((q1.2.1 14 ((((4 : Int32) * x1) + x2)).toNatClampNeg)).toNatClampNeg)) (by decide) (fun f g => (fx_15 _ _ f g)) rfl hg d_Wr_readStands_60 (fun H locs hP hS => ?_)
      exact s_Wr_readStands_61 C hmv hRf hRl hret hk_2 (lv_sub hl [2, 3, 4] rfl) hP hS hf
def f_Wr_readStands_2 : Nat → pv_S → Int32 → Int32 → Option pv_S
  | 0 => fun _ _ _ => none
  | n + 1 => f_Wr_readStands_2b (f_Wr_readStands_2 n)
set_option maxHeartbeats 4000000 in
theorem s_Wr_readStands_2 {p : Program} {l : Launch} {e : Env} {R : Room} {s : State} {m : MethodId} {args : Array Value} {below : List Frame} {meth : Method} {c : Code} {Q : State → Prop} {D : va_G} {q : Nat → ClassId} {a t : Nat → Nat} {A : Nat → Prop} (C : pv_C p s m args c prog_7_method_9_code 5 "PatchVoices$Wiring" pv_TB D pv_cl (pv_ty q) 52 a A (pv_ZX t A)) (hmv : pv_mv A (pv_ZX t A)) (hRf : 1 ≤ R.frames) (hRl : 20 ≤ R.locals) {out : pv_S} (hret : pv_Rv p l e R s m args below meth c prog_7_method_9_code D pv_cl 52 a (pv_FX q a) A Q out) (n : Nat) : ∀ {σ : pv_S} {x1 : Int32} {x2 : Int32} {H : Heap} {locs : List Loc} {ls : Array Slot}, lv_has ls 5 [(0, .ref (a 12)), (1, .int x1), (2, .int x2)] → pv_W D pv_cl 52 a (pv_FX q a) σ H → va_S A s.heap H locs → f_Wr_readStands_2 n σ x1 x2 = some out → W p l e R s m args below meth c H locs 0 0 Q (F0 m 2 ls []) := by
  induction n with
  | zero => intro σ x1 x2 H locs ls hl hP hS hf; cases hf
  | succ n ih => intro σ x1 x2 H locs ls hl hP hS hf; exact s_Wr_readStands_2b C hmv hRf hRl hret (fun σ x1 x2 H locs ls hf hl hP hS => ih hl hP hS hf) hl hP hS hf
def f_Wr_readStands_0 (σ : pv_S) (x1 : Int32) : Option pv_S :=
  f_Wr_readStands_2 pv_fu σ x1 (0 : Int32)
set_option maxHeartbeats 4000000 in
set_option maxRecDepth 100000 in
theorem s_Wr_readStands_0 {p : Program} {l : Launch} {e : Env} {R : Room} {s : State} {m : MethodId} {args : Array Value} {below : List Frame} {meth : Method} {c : Code} {Q : State → Prop} {D : va_G} {q : Nat → ClassId} {a t : Nat → Nat} {A : Nat → Prop} (C : pv_C p s m args c prog_7_method_9_code 5 "PatchVoices$Wiring" pv_TB D pv_cl (pv_ty q) 52 a A (pv_ZX t A)) (hmv : pv_mv A (pv_ZX t A)) (hRf : 1 ≤ R.frames) (hRl : 20 ≤ R.locals) {out : pv_S} (hret : pv_Rv p l e R s m args below meth c prog_7_method_9_code D pv_cl 52 a (pv_FX q a) A Q out) {σ : pv_S} {x1 : Int32} {H : Heap} {locs : List Loc} {ls : Array Slot} (hl : lv_has ls 5 [(0, .ref (a 12)), (1, .int x1)]) (hP : pv_W D pv_cl 52 a (pv_FX q a) σ H) (hS : va_S A s.heap H locs) (hf : f_Wr_readStands_0 σ x1 = some out) : W p l e R s m args below meth c H locs 0 0 Q (F0 m 0 ls []) := by
  unfold f_Wr_readStands_0 at hf
  have hx := C.1
  have hb := C.2.1
  refine lv_iconst (v := (0 : Int32)) hx hb d_Wr_readStands_0 (by decide) ?_
  refine lv_istore_n (lv' := [(2, .int (0 : Int32)), (0, .ref (a 12)), (1, .int x1)]) hx hb d_Wr_readStands_1 rfl hl (by decide) rfl (fun ls hl => ?_)
  exact s_Wr_readStands_2 C hmv hRf hRl hret pv_fu (lv_sub hl [1, 2, 0] rfl) hP hS hf
def f_Wr_readStands (σ : pv_S) (x1 : Int32) : Option pv_S := f_Wr_readStands_0 σ x1
def rm_Wr_readStands : Room := { frames := 1, cells := 0, slots := 0, locals := 20 }
theorem c_Wr_readStands {l : Launch} {D : va_G} {q : Nat → ClassId} {a t : Nat → Nat} {A : Nat → Prop} (hD : pv_D 52 a A) (hmv : pv_mv A (pv_ZX t A)) {σ : pv_S} {x1 : Int32} {out : pv_S} (hf : f_Wr_readStands σ x1 = some out) : pv_Mv l y_Wr_readStands (Cond.code y_Wr_readStands prog_7_method_9_code 5 none :: pv_TB) rm_Wr_readStands D pv_cl (pv_ty q) 52 a (pv_FX q a) A (pv_ZX t A) [.ref (a 12), .int x1] σ out :=
  pv_ofV (by decide) (Nat.le_of_ble_eq_true rfl) hD (fun p e s m args below meth c Q ls C hret hl hP => s_Wr_readStands_0 C hmv (Nat.le_refl _) (Nat.le_refl _) hret hl hP va_S.rf hf)
theorem d_Wr_hasNumbersAlone_0 : decode prog_7_method_11_code 0 = .ok (.iconst 0, 1) := by decide +kernel
theorem d_Wr_hasNumbersAlone_1 : decode prog_7_method_11_code 1 = .ok (.istore_n 2, 1) := by decide +kernel
theorem d_Wr_hasNumbersAlone_2 : decode prog_7_method_11_code 2 = .ok (.iload_n 2, 1) := by decide +kernel
theorem d_Wr_hasNumbersAlone_3 : decode prog_7_method_11_code 3 = .ok (.aload_n 0, 1) := by decide +kernel
theorem d_Wr_hasNumbersAlone_4 : decode prog_7_method_11_code 4 = .ok (.getfield 11, 3) := by decide +kernel
theorem d_Wr_hasNumbersAlone_7 : decode prog_7_method_11_code 7 = .ok (.iload_n 1, 1) := by decide +kernel
theorem d_Wr_hasNumbersAlone_8 : decode prog_7_method_11_code 8 = .ok (.iaload, 1) := by decide +kernel
theorem d_Wr_hasNumbersAlone_9 : decode prog_7_method_11_code 9 = .ok (.invokestatic 75, 3) := by decide +kernel
theorem d_Wr_hasNumbersAlone_12 : decode prog_7_method_11_code 12 = .ok (.if_icmp .ge 25, 3) := by decide +kernel
theorem d_Wr_hasNumbersAlone_15 : decode prog_7_method_11_code 15 = .ok (.aload_n 0, 1) := by decide +kernel
theorem d_Wr_hasNumbersAlone_16 : decode prog_7_method_11_code 16 = .ok (.getfield 19, 3) := by decide +kernel
theorem d_Wr_hasNumbersAlone_19 : decode prog_7_method_11_code 19 = .ok (.iconst 4, 1) := by decide +kernel
theorem d_Wr_hasNumbersAlone_20 : decode prog_7_method_11_code 20 = .ok (.iload_n 1, 1) := by decide +kernel
theorem d_Wr_hasNumbersAlone_21 : decode prog_7_method_11_code 21 = .ok (.imul, 1) := by decide +kernel
theorem d_Wr_hasNumbersAlone_22 : decode prog_7_method_11_code 22 = .ok (.iload_n 2, 1) := by decide +kernel
theorem d_Wr_hasNumbersAlone_23 : decode prog_7_method_11_code 23 = .ok (.iadd, 1) := by decide +kernel
theorem d_Wr_hasNumbersAlone_24 : decode prog_7_method_11_code 24 = .ok (.iaload, 1) := by decide +kernel
theorem d_Wr_hasNumbersAlone_25 : decode prog_7_method_11_code 25 = .ok (.iconst (-1), 1) := by decide +kernel
theorem d_Wr_hasNumbersAlone_26 : decode prog_7_method_11_code 26 = .ok (.if_icmp .eq 5, 3) := by decide +kernel
theorem d_Wr_hasNumbersAlone_29 : decode prog_7_method_11_code 29 = .ok (.iconst 0, 1) := by decide +kernel
theorem d_Wr_hasNumbersAlone_30 : decode prog_7_method_11_code 30 = .ok (.ireturn, 1) := by decide +kernel
theorem d_Wr_hasNumbersAlone_31 : decode prog_7_method_11_code 31 = .ok (.iinc 2 1, 3) := by decide +kernel
theorem d_Wr_hasNumbersAlone_34 : decode prog_7_method_11_code 34 = .ok (.goto (-32), 3) := by decide +kernel
theorem d_Wr_hasNumbersAlone_37 : decode prog_7_method_11_code 37 = .ok (.iconst 1, 1) := by decide +kernel
theorem d_Wr_hasNumbersAlone_38 : decode prog_7_method_11_code 38 = .ok (.ireturn, 1) := by decide +kernel
def f_Wr_hasNumbersAlone_2b (k_2 : pv_S → Int32 → Int32 → Option (Int32 × pv_S)) (σ : pv_S) (x1 : Int32) (x2 : Int32) : Option (Int32 × pv_S) :=
  (if pv_in x1 24 = true then
((f_Kd_inputsOf σ (σ.1 13 (x1).toNatClampNeg)).bind fun q1 =>
(if q1.1 ≤ x2 then
  some ((1 : Int32), q1.2)
  else
  (if pv_in (((4 : Int32) * x1) + x2) 96 = true then
(if (q1.2.1 14 ((((4 : Int32) * x1) + x2)).toNatClampNeg) = (-1 : Int32) then
  k_2 q1.2 x1 (x2 + (1 : Int32))
  else
  some ((0 : Int32), q1.2))
  else none)))
  else none)
set_option maxHeartbeats 4000000 in
set_option maxRecDepth 100000 in
theorem s_Wr_hasNumbersAlone_2b {p : Program} {l : Launch} {e : Env} {R : Room} {s : State} {m : MethodId} {args : Array Value} {below : List Frame} {meth : Method} {c : Code} {Q : State → Prop} {D : va_G} {q : Nat → ClassId} {a t : Nat → Nat} {A : Nat → Prop} (C : pv_C p s m args c prog_7_method_11_code 3 "PatchVoices$Wiring" pv_TB D pv_cl (pv_ty q) 52 a A (pv_ZX t A)) (hmv : pv_mv A (pv_ZX t A)) (hRf : 1 ≤ R.frames) (hRl : 20 ≤ R.locals) {out : (Int32 × pv_S)} (hret : pv_Rz p l e R s m args below meth c prog_7_method_11_code D pv_cl 52 a (pv_FX q a) A Q out) {k_2 : pv_S → Int32 → Int32 → Option (Int32 × pv_S)} (hk_2 : ∀ (σ : pv_S) (x1 : Int32) (x2 : Int32) (H : Heap) (locs : List Loc) (ls : Array Slot), k_2 σ x1 x2 = some out → lv_has ls 3 [(0, .ref (a 12)), (1, .int x1), (2, .int x2)] → pv_W D pv_cl 52 a (pv_FX q a) σ H → va_S A s.heap H locs → W p l e R s m args below meth c H locs 0 0 Q (F0 m 2 ls [])) {σ : pv_S} {x1 : Int32} {x2 : Int32} {H : Heap} {locs : List Loc} {ls : Array Slot} (hl : lv_has ls 3 [(0, .ref (a 12)), (1, .int x1), (2, .int x2)]) (hP : pv_W D pv_cl 52 a (pv_FX q a) σ H) (hS : va_S A s.heap H locs) (hf : f_Wr_hasNumbersAlone_2b k_2 σ x1 x2 = some out) : W p l e R s m args below meth c H locs 0 0 Q (F0 m 2 ls []) := by
  unfold f_Wr_hasNumbersAlone_2b at hf
  have hx := C.1
  have hb := C.2.1
  refine lv_iload_n hx hb d_Wr_hasNumbersAlone_2 rfl (lv_at hl 2 rfl) ?_
  refine lv_aload_n hx hb d_Wr_hasNumbersAlone_3 rfl (lv_at hl 0 rfl) ?_
  refine pv_get C hP (v := .ref (a 13)) (j := 1) (by decide) (fx_12 _ _ _ _) fl_Wr_11 rfl d_Wr_hasNumbersAlone_4 ?_
  refine lv_iload_n hx hb d_Wr_hasNumbersAlone_7 rfl (lv_at hl 1 rfl) ?_
  obtain ⟨hg, hf⟩ := pv_g hf
  refine pv_iald C hP (t0 := 0) (by decide) (fx_13 _ _ _ _) rfl hg d_Wr_hasNumbersAlone_8 ?_
  obtain ⟨q1, hc, hf⟩ := pv_b hf
  refine pv_callSi C hmv pv_good hP hS (As := [.int (σ.1 13 (x1).toNatClampNeg)]) (rest := [.int x2]) (c_Kd_inputsOf C.2.2.2.2.2.2.1 hmv hc) cs_Wr_75 ⟨rfl, rfl, Nat.le_trans (Nat.le_of_ble_eq_true rfl) hRf, Nat.le_trans (Nat.le_of_ble_eq_true rfl) hRl⟩ rfl hl.1 rfl (Nat.le_of_ble_eq_true rfl) d_Wr_hasNumbersAlone_9 ⟨Nat.zero_le _, Nat.zero_le _⟩ (fun H locs hP hS => ?_)
  refine lv_icmp_ge (tgt := 37) hx hb d_Wr_hasNumbersAlone_12 (by decide) (fun h => ?_) (fun h => ?_)
  · have hf := pv_t hf h
    refine lv_iconst (v := (1 : Int32)) hx hb d_Wr_hasNumbersAlone_37 (by decide) ?_
    obtain rfl := Option.some.inj hf
    exact hret _ _ _ _ d_Wr_hasNumbersAlone_38 rfl hP hS
  · have hf := pv_f hf h
    refine lv_aload_n hx hb d_Wr_hasNumbersAlone_15 rfl (lv_at hl 0 rfl) ?_
    refine pv_get C hP (v := .ref (a 14)) (j := 2) (by decide) (fx_12 _ _ _ _) fl_Wr_19 rfl d_Wr_hasNumbersAlone_16 ?_
    refine lv_iconst (v := (4 : Int32)) hx hb d_Wr_hasNumbersAlone_19 (by decide) ?_
    refine lv_iload_n hx hb d_Wr_hasNumbersAlone_20 rfl (lv_at hl 1 rfl) ?_
    refine lv_imul hx hb d_Wr_hasNumbersAlone_21 ?_
    refine lv_iload_n hx hb d_Wr_hasNumbersAlone_22 rfl (lv_at hl 2 rfl) ?_
    refine lv_iadd hx hb d_Wr_hasNumbersAlone_23 ?_
    obtain ⟨hg, hf⟩ := pv_g hf
    refine pv_iald C hP (t0 := 0) (by decide) (fx_14 _ _ _ _) rfl hg d_Wr_hasNumbersAlone_24 ?_
    refine lv_iconst (v := (-1 : Int32)) hx hb d_Wr_hasNumbersAlone_25 (by decide) ?_
    refine lv_icmp_eq (tgt := 31) hx hb d_Wr_hasNumbersAlone_26 (by decide) (fun h => ?_) (fun h => ?_)
    · have hf := pv_t hf h
      refine lv_iinc (k := 2) (v := (x2 + (1 : Int32))) (lv' := [(2, .int (x2 + (1 : Int32))), (0, .ref (a 12)), (1, .int x1)]) hx hb d_Wr_hasNumbersAlone_31 hl rfl (pv_inc (by decide)) (by decide) rfl (fun ls hl => ?_)
      refine lv_goto (tgt := 2) hx hb d_Wr_hasNumbersAlone_34 (by decide) ?_
      exact hk_2 _ _ _ _ _ _ hf (lv_sub hl [1, 2, 0] rfl) hP hS
    · have hf := pv_f hf h
      refine lv_iconst (v := (0 : Int32)) hx hb d_Wr_hasNumbersAlone_29 (by decide) ?_
      obtain rfl := Option.some.inj hf
      exact hret _ _ _ _ d_Wr_hasNumbersAlone_30 rfl hP hS
def f_Wr_hasNumbersAlone_2 : Nat → pv_S → Int32 → Int32 → Option (Int32 × pv_S)
  | 0 => fun _ _ _ => none
  | n + 1 => f_Wr_hasNumbersAlone_2b (f_Wr_hasNumbersAlone_2 n)
set_option maxHeartbeats 4000000 in
theorem s_Wr_hasNumbersAlone_2 {p : Program} {l : Launch} {e : Env} {R : Room} {s : State} {m : MethodId} {args : Array Value} {below : List Frame} {meth : Method} {c : Code} {Q : State → Prop} {D : va_G} {q : Nat → ClassId} {a t : Nat → Nat} {A : Nat → Prop} (C : pv_C p s m args c prog_7_method_11_code 3 "PatchVoices$Wiring" pv_TB D pv_cl (pv_ty q) 52 a A (pv_ZX t A)) (hmv : pv_mv A (pv_ZX t A)) (hRf : 1 ≤ R.frames) (hRl : 20 ≤ R.locals) {out : (Int32 × pv_S)} (hret : pv_Rz p l e R s m args below meth c prog_7_method_11_code D pv_cl 52 a (pv_FX q a) A Q out) (n : Nat) : ∀ {σ : pv_S} {x1 : Int32} {x2 : Int32} {H : Heap} {locs : List Loc} {ls : Array Slot}, lv_has ls 3 [(0, .ref (a 12)), (1, .int x1), (2, .int x2)] → pv_W D pv_cl 52 a (pv_FX q a) σ H → va_S A s.heap H locs → f_Wr_hasNumbersAlone_2 n σ x1 x2 = some out → W p l e R s m args below meth c H locs 0 0 Q (F0 m 2 ls []) := by
  induction n with
  | zero => intro σ x1 x2 H locs ls hl hP hS hf; cases hf
  | succ n ih => intro σ x1 x2 H locs ls hl hP hS hf; exact s_Wr_hasNumbersAlone_2b C hmv hRf hRl hret (fun σ x1 x2 H locs ls hf hl hP hS => ih hl hP hS hf) hl hP hS hf
def f_Wr_hasNumbersAlone_0 (σ : pv_S) (x1 : Int32) : Option (Int32 × pv_S) :=
  f_Wr_hasNumbersAlone_2 pv_fu σ x1 (0 : Int32)
set_option maxHeartbeats 4000000 in
set_option maxRecDepth 100000 in
theorem s_Wr_hasNumbersAlone_0 {p : Program} {l : Launch} {e : Env} {R : Room} {s : State} {m : MethodId} {args : Array Value} {below : List Frame} {meth : Method} {c : Code} {Q : State → Prop} {D : va_G} {q : Nat → ClassId} {a t : Nat → Nat} {A : Nat → Prop} (C : pv_C p s m args c prog_7_method_11_code 3 "PatchVoices$Wiring" pv_TB D pv_cl (pv_ty q) 52 a A (pv_ZX t A)) (hmv : pv_mv A (pv_ZX t A)) (hRf : 1 ≤ R.frames) (hRl : 20 ≤ R.locals) {out : (Int32 × pv_S)} (hret : pv_Rz p l e R s m args below meth c prog_7_method_11_code D pv_cl 52 a (pv_FX q a) A Q out) {σ : pv_S} {x1 : Int32} {H : Heap} {locs : List Loc} {ls : Array Slot} (hl : lv_has ls 3 [(0, .ref (a 12)), (1, .int x1)]) (hP : pv_W D pv_cl 52 a (pv_FX q a) σ H) (hS : va_S A s.heap H locs) (hf : f_Wr_hasNumbersAlone_0 σ x1 = some out) : W p l e R s m args below meth c H locs 0 0 Q (F0 m 0 ls []) := by
  unfold f_Wr_hasNumbersAlone_0 at hf
  have hx := C.1
  have hb := C.2.1
  refine lv_iconst (v := (0 : Int32)) hx hb d_Wr_hasNumbersAlone_0 (by decide) ?_
  refine lv_istore_n (lv' := [(2, .int (0 : Int32)), (0, .ref (a 12)), (1, .int x1)]) hx hb d_Wr_hasNumbersAlone_1 rfl hl (by decide) rfl (fun ls hl => ?_)
  exact s_Wr_hasNumbersAlone_2 C hmv hRf hRl hret pv_fu (lv_sub hl [1, 2, 0] rfl) hP hS hf
def f_Wr_hasNumbersAlone (σ : pv_S) (x1 : Int32) : Option (Int32 × pv_S) := f_Wr_hasNumbersAlone_0 σ x1
def rm_Wr_hasNumbersAlone : Room := { frames := 1, cells := 0, slots := 0, locals := 20 }
theorem c_Wr_hasNumbersAlone {l : Launch} {D : va_G} {q : Nat → ClassId} {a t : Nat → Nat} {A : Nat → Prop} (hD : pv_D 52 a A) (hmv : pv_mv A (pv_ZX t A)) {σ : pv_S} {x1 : Int32} {out : (Int32 × pv_S)} (hf : f_Wr_hasNumbersAlone σ x1 = some out) : pv_Mi l y_Wr_hasNumbersAlone (Cond.code y_Wr_hasNumbersAlone prog_7_method_11_code 3 (some .boolean) :: pv_TB) rm_Wr_hasNumbersAlone D pv_cl (pv_ty q) 52 a (pv_FX q a) A (pv_ZX t A) [.ref (a 12), .int x1] σ out :=
  pv_ofZ (by decide) (Nat.le_of_ble_eq_true rfl) hD (fun p e s m args below meth c Q ls C hret hl hP => s_Wr_hasNumbersAlone_0 C hmv (Nat.le_refl _) (Nat.le_refl _) hret hl hP va_S.rf hf)
theorem d_Wr_isSameInput_0 : decode prog_7_method_14_code 0 = .ok (.iconst 4, 1) := by decide +kernel
theorem d_Wr_isSameInput_1 : decode prog_7_method_14_code 1 = .ok (.iload_n 1, 1) := by decide +kernel
theorem d_Wr_isSameInput_2 : decode prog_7_method_14_code 2 = .ok (.imul, 1) := by decide +kernel
theorem d_Wr_isSameInput_3 : decode prog_7_method_14_code 3 = .ok (.iload_n 2, 1) := by decide +kernel
theorem d_Wr_isSameInput_4 : decode prog_7_method_14_code 4 = .ok (.iadd, 1) := by decide +kernel
theorem d_Wr_isSameInput_5 : decode prog_7_method_14_code 5 = .ok (.istore 5, 2) := by decide +kernel
theorem d_Wr_isSameInput_7 : decode prog_7_method_14_code 7 = .ok (.iconst 4, 1) := by decide +kernel
theorem d_Wr_isSameInput_8 : decode prog_7_method_14_code 8 = .ok (.iload_n 3, 1) := by decide +kernel
theorem d_Wr_isSameInput_9 : decode prog_7_method_14_code 9 = .ok (.imul, 1) := by decide +kernel
theorem d_Wr_isSameInput_10 : decode prog_7_method_14_code 10 = .ok (.iload 4, 2) := by decide +kernel
theorem d_Wr_isSameInput_12 : decode prog_7_method_14_code 12 = .ok (.iadd, 1) := by decide +kernel
theorem d_Wr_isSameInput_13 : decode prog_7_method_14_code 13 = .ok (.istore 6, 2) := by decide +kernel
theorem d_Wr_isSameInput_15 : decode prog_7_method_14_code 15 = .ok (.aload_n 0, 1) := by decide +kernel
theorem d_Wr_isSameInput_16 : decode prog_7_method_14_code 16 = .ok (.getfield 19, 3) := by decide +kernel
theorem d_Wr_isSameInput_19 : decode prog_7_method_14_code 19 = .ok (.iload 5, 2) := by decide +kernel
theorem d_Wr_isSameInput_21 : decode prog_7_method_14_code 21 = .ok (.iaload, 1) := by decide +kernel
theorem d_Wr_isSameInput_22 : decode prog_7_method_14_code 22 = .ok (.aload_n 0, 1) := by decide +kernel
theorem d_Wr_isSameInput_23 : decode prog_7_method_14_code 23 = .ok (.getfield 19, 3) := by decide +kernel
theorem d_Wr_isSameInput_26 : decode prog_7_method_14_code 26 = .ok (.iload 6, 2) := by decide +kernel
theorem d_Wr_isSameInput_28 : decode prog_7_method_14_code 28 = .ok (.iaload, 1) := by decide +kernel
theorem d_Wr_isSameInput_29 : decode prog_7_method_14_code 29 = .ok (.if_icmp .ne 35, 3) := by decide +kernel
theorem d_Wr_isSameInput_32 : decode prog_7_method_14_code 32 = .ok (.aload_n 0, 1) := by decide +kernel
theorem d_Wr_isSameInput_33 : decode prog_7_method_14_code 33 = .ok (.getfield 19, 3) := by decide +kernel
theorem d_Wr_isSameInput_36 : decode prog_7_method_14_code 36 = .ok (.iload 5, 2) := by decide +kernel
theorem d_Wr_isSameInput_38 : decode prog_7_method_14_code 38 = .ok (.iaload, 1) := by decide +kernel
theorem d_Wr_isSameInput_39 : decode prog_7_method_14_code 39 = .ok (.iconst (-1), 1) := by decide +kernel
theorem d_Wr_isSameInput_40 : decode prog_7_method_14_code 40 = .ok (.if_icmp .ne 20, 3) := by decide +kernel
theorem d_Wr_isSameInput_43 : decode prog_7_method_14_code 43 = .ok (.aload_n 0, 1) := by decide +kernel
theorem d_Wr_isSameInput_44 : decode prog_7_method_14_code 44 = .ok (.getfield 22, 3) := by decide +kernel
theorem d_Wr_isSameInput_47 : decode prog_7_method_14_code 47 = .ok (.iload 5, 2) := by decide +kernel
theorem d_Wr_isSameInput_49 : decode prog_7_method_14_code 49 = .ok (.iaload, 1) := by decide +kernel
theorem d_Wr_isSameInput_50 : decode prog_7_method_14_code 50 = .ok (.aload_n 0, 1) := by decide +kernel
theorem d_Wr_isSameInput_51 : decode prog_7_method_14_code 51 = .ok (.getfield 22, 3) := by decide +kernel
theorem d_Wr_isSameInput_54 : decode prog_7_method_14_code 54 = .ok (.iload 6, 2) := by decide +kernel
theorem d_Wr_isSameInput_56 : decode prog_7_method_14_code 56 = .ok (.iaload, 1) := by decide +kernel
theorem d_Wr_isSameInput_57 : decode prog_7_method_14_code 57 = .ok (.if_icmp .ne 7, 3) := by decide +kernel
theorem d_Wr_isSameInput_60 : decode prog_7_method_14_code 60 = .ok (.iconst 1, 1) := by decide +kernel
theorem d_Wr_isSameInput_61 : decode prog_7_method_14_code 61 = .ok (.goto 4, 3) := by decide +kernel
theorem d_Wr_isSameInput_64 : decode prog_7_method_14_code 64 = .ok (.iconst 0, 1) := by decide +kernel
theorem d_Wr_isSameInput_65 : decode prog_7_method_14_code 65 = .ok (.ireturn, 1) := by decide +kernel
def f_Wr_isSameInput_0 (σ : pv_S) (x1 : Int32) (x2 : Int32) (x3 : Int32) (x4 : Int32) : Option (Int32 × pv_S) :=
  (if pv_in (((4 : Int32) * x1) + x2) 96 = true then
(if pv_in (((4 : Int32) * x3) + x4) 96 = true then
(if (σ.1 14 ((((4 : Int32) * x1) + x2)).toNatClampNeg) = (σ.1 14 ((((4 : Int32) * x3) + x4)).toNatClampNeg) then
  (if pv_in (((4 : Int32) * x1) + x2) 96 = true then
(if (σ.1 14 ((((4 : Int32) * x1) + x2)).toNatClampNeg) = (-1 : Int32) then
  (if pv_in (((4 : Int32) * x1) + x2) 96 = true then
(if pv_in (((4 : Int32) * x3) + x4) 96 = true then
(if (σ.1 15 ((((4 : Int32) * x1) + x2)).toNatClampNeg) = (σ.1 15 ((((4 : Int32) * x3) + x4)).toNatClampNeg) then
  some ((1 : Int32), σ)
  else
  some ((0 : Int32), σ))
  else none)
  else none)
  else
  some ((1 : Int32), σ))
  else none)
  else
  some ((0 : Int32), σ))
  else none)
  else none)
set_option maxHeartbeats 4000000 in
set_option maxRecDepth 100000 in
theorem s_Wr_isSameInput_0 {p : Program} {l : Launch} {e : Env} {R : Room} {s : State} {m : MethodId} {args : Array Value} {below : List Frame} {meth : Method} {c : Code} {Q : State → Prop} {D : va_G} {q : Nat → ClassId} {a t : Nat → Nat} {A : Nat → Prop} (C : pv_C p s m args c prog_7_method_14_code 7 "PatchVoices$Wiring" pv_TB D pv_cl (pv_ty q) 52 a A (pv_ZX t A)) (hmv : pv_mv A (pv_ZX t A)) (hRf : 0 ≤ R.frames) (hRl : 0 ≤ R.locals) {out : (Int32 × pv_S)} (hret : pv_Rz p l e R s m args below meth c prog_7_method_14_code D pv_cl 52 a (pv_FX q a) A Q out) {σ : pv_S} {x1 : Int32} {x2 : Int32} {x3 : Int32} {x4 : Int32} {H : Heap} {locs : List Loc} {ls : Array Slot} (hl : lv_has ls 7 [(0, .ref (a 12)), (1, .int x1), (2, .int x2), (3, .int x3), (4, .int x4)]) (hP : pv_W D pv_cl 52 a (pv_FX q a) σ H) (hS : va_S A s.heap H locs) (hf : f_Wr_isSameInput_0 σ x1 x2 x3 x4 = some out) : W p l e R s m args below meth c H locs 0 0 Q (F0 m 0 ls []) := by
  unfold f_Wr_isSameInput_0 at hf
  have hx := C.1
  have hb := C.2.1
  refine lv_iconst (v := (4 : Int32)) hx hb d_Wr_isSameInput_0 (by decide) ?_
  refine lv_iload_n hx hb d_Wr_isSameInput_1 rfl (lv_at hl 1 rfl) ?_
  refine lv_imul hx hb d_Wr_isSameInput_2 ?_
  refine lv_iload_n hx hb d_Wr_isSameInput_3 rfl (lv_at hl 2 rfl) ?_
  refine lv_iadd hx hb d_Wr_isSameInput_4 ?_
  refine lv_istore (lv' := [(5, .int (((4 : Int32) * x1) + x2)), (0, .ref (a 12)), (1, .int x1), (2, .int x2), (3, .int x3), (4, .int x4)]) hx hb d_Wr_isSameInput_5 hl (by decide) rfl (fun ls hl => ?_)
  refine lv_iconst (v := (4 : Int32)) hx hb d_Wr_isSameInput_7 (by decide) ?_
  refine lv_iload_n hx hb d_Wr_isSameInput_8 rfl (lv_at hl 4 rfl) ?_
  refine lv_imul hx hb d_Wr_isSameInput_9 ?_
  refine lv_iload hx hb d_Wr_isSameInput_10 (lv_at hl 5 rfl) ?_
  refine lv_iadd hx hb d_Wr_isSameInput_12 ?_
  refine lv_istore (lv' := [(6, .int (((4 : Int32) * x3) + x4)), (5, .int (((4 : Int32) * x1) + x2)), (0, .ref (a 12)), (1, .int x1), (2, .int x2), (3, .int x3), (4, .int x4)]) hx hb d_Wr_isSameInput_13 hl (by decide) rfl (fun ls hl => ?_)
  refine lv_aload_n hx hb d_Wr_isSameInput_15 rfl (lv_at hl 2 rfl) ?_
  refine pv_get C hP (v := .ref (a 14)) (j := 2) (by decide) (fx_12 _ _ _ _) fl_Wr_19 rfl d_Wr_isSameInput_16 ?_
  refine lv_iload hx hb d_Wr_isSameInput_19 (lv_at hl 1 rfl) ?_
  obtain ⟨hg, hf⟩ := pv_g hf
  refine pv_iald C hP (t0 := 0) (by decide) (fx_14 _ _ _ _) rfl hg d_Wr_isSameInput_21 ?_
  refine lv_aload_n hx hb d_Wr_isSameInput_22 rfl (lv_at hl 2 rfl) ?_
  refine pv_get C hP (v := .ref (a 14)) (j := 2) (by decide) (fx_12 _ _ _ _) fl_Wr_19 rfl d_Wr_isSameInput_23 ?_
  refine lv_iload hx hb d_Wr_isSameInput_26 (lv_at hl 0 rfl) ?_
  obtain ⟨hg, hf⟩ := pv_g hf
  refine pv_iald C hP (t0 := 0) (by decide) (fx_14 _ _ _ _) rfl hg d_Wr_isSameInput_28 ?_
  refine lv_icmp_ne (tgt := 64) hx hb d_Wr_isSameInput_29 (by decide) (fun h => ?_) (fun h => ?_)
  · have hf := pv_f hf h
    refine lv_iconst (v := (0 : Int32)) hx hb d_Wr_isSameInput_64 (by decide) ?_
    obtain rfl := Option.some.inj hf
    exact hret _ _ _ _ d_Wr_isSameInput_65 rfl hP hS
  · have hf := pv_t hf h
    refine lv_aload_n hx hb d_Wr_isSameInput_32 rfl (lv_at hl 2 rfl) ?_
    refine pv_get C hP (v := .ref (a 14)) (j := 2) (by decide) (fx_12 _ _ _ _) fl_Wr_19 rfl d_Wr_isSameInput_33 ?_
    refine lv_iload hx hb d_Wr_isSameInput_36 (lv_at hl 1 rfl) ?_
    obtain ⟨hg, hf⟩ := pv_g hf
    refine pv_iald C hP (t0 := 0) (by decide) (fx_14 _ _ _ _) rfl hg d_Wr_isSameInput_38 ?_
    refine lv_iconst (v := (-1 : Int32)) hx hb d_Wr_isSameInput_39 (by decide) ?_
    refine lv_icmp_ne (tgt := 60) hx hb d_Wr_isSameInput_40 (by decide) (fun h => ?_) (fun h => ?_)
    · have hf := pv_f hf h
      refine lv_iconst (v := (1 : Int32)) hx hb d_Wr_isSameInput_60 (by decide) ?_
      refine lv_goto (tgt := 65) hx hb d_Wr_isSameInput_61 (by decide) ?_
      obtain rfl := Option.some.inj hf
      exact hret _ _ _ _ d_Wr_isSameInput_65 rfl hP hS
    · have hf := pv_t hf h
      refine lv_aload_n hx hb d_Wr_isSameInput_43 rfl (lv_at hl 2 rfl) ?_
      refine pv_get C hP (v := .ref (a 15)) (j := 3) (by decide) (fx_12 _ _ _ _) fl_Wr_22 rfl d_Wr_isSameInput_44 ?_
      refine lv_iload hx hb d_Wr_isSameInput_47 (lv_at hl 1 rfl) ?_
      obtain ⟨hg, hf⟩ := pv_g hf
      refine pv_iald C hP (t0 := 0) (by decide) (fx_15 _ _ _ _) rfl hg d_Wr_isSameInput_49 ?_
      refine lv_aload_n hx hb d_Wr_isSameInput_50 rfl (lv_at hl 2 rfl) ?_
      refine pv_get C hP (v := .ref (a 15)) (j := 3) (by decide) (fx_12 _ _ _ _) fl_Wr_22 rfl d_Wr_isSameInput_51 ?_
      refine lv_iload hx hb d_Wr_isSameInput_54 (lv_at hl 0 rfl) ?_
      obtain ⟨hg, hf⟩ := pv_g hf
      refine pv_iald C hP (t0 := 0) (by decide) (fx_15 _ _ _ _) rfl hg d_Wr_isSameInput_56 ?_
      refine lv_icmp_ne (tgt := 64) hx hb d_Wr_isSameInput_57 (by decide) (fun h => ?_) (fun h => ?_)
      · have hf := pv_f hf h
        refine lv_iconst (v := (0 : Int32)) hx hb d_Wr_isSameInput_64 (by decide) ?_
        obtain rfl := Option.some.inj hf
        exact hret _ _ _ _ d_Wr_isSameInput_65 rfl hP hS
      · have hf := pv_t hf h
        refine lv_iconst (v := (1 : Int32)) hx hb d_Wr_isSameInput_60 (by decide) ?_
        refine lv_goto (tgt := 65) hx hb d_Wr_isSameInput_61 (by decide) ?_
        obtain rfl := Option.some.inj hf
        exact hret _ _ _ _ d_Wr_isSameInput_65 rfl hP hS
def f_Wr_isSameInput (σ : pv_S) (x1 : Int32) (x2 : Int32) (x3 : Int32) (x4 : Int32) : Option (Int32 × pv_S) := f_Wr_isSameInput_0 σ x1 x2 x3 x4
def rm_Wr_isSameInput : Room := { frames := 0, cells := 0, slots := 0, locals := 0 }
theorem c_Wr_isSameInput {l : Launch} {D : va_G} {q : Nat → ClassId} {a t : Nat → Nat} {A : Nat → Prop} (hD : pv_D 52 a A) (hmv : pv_mv A (pv_ZX t A)) {σ : pv_S} {x1 : Int32} {x2 : Int32} {x3 : Int32} {x4 : Int32} {out : (Int32 × pv_S)} (hf : f_Wr_isSameInput σ x1 x2 x3 x4 = some out) : pv_Mi l y_Wr_isSameInput (Cond.code y_Wr_isSameInput prog_7_method_14_code 7 (some .boolean) :: pv_TB) rm_Wr_isSameInput D pv_cl (pv_ty q) 52 a (pv_FX q a) A (pv_ZX t A) [.ref (a 12), .int x1, .int x2, .int x3, .int x4] σ out :=
  pv_ofZ (by decide) (Nat.le_of_ble_eq_true rfl) hD (fun p e s m args below meth c Q ls C hret hl hP => s_Wr_isSameInput_0 C hmv (Nat.le_refl _) (Nat.le_refl _) hret hl hP va_S.rf hf)
theorem d_Wr_areAlike_0 : decode prog_7_method_13_code 0 = .ok (.aload_n 0, 1) := by decide +kernel
theorem d_Wr_areAlike_1 : decode prog_7_method_13_code 1 = .ok (.getfield 11, 3) := by decide +kernel
theorem d_Wr_areAlike_4 : decode prog_7_method_13_code 4 = .ok (.iload_n 1, 1) := by decide +kernel
theorem d_Wr_areAlike_5 : decode prog_7_method_13_code 5 = .ok (.iaload, 1) := by decide +kernel
theorem d_Wr_areAlike_6 : decode prog_7_method_13_code 6 = .ok (.aload_n 0, 1) := by decide +kernel
theorem d_Wr_areAlike_7 : decode prog_7_method_13_code 7 = .ok (.getfield 11, 3) := by decide +kernel
theorem d_Wr_areAlike_10 : decode prog_7_method_13_code 10 = .ok (.iload_n 2, 1) := by decide +kernel
theorem d_Wr_areAlike_11 : decode prog_7_method_13_code 11 = .ok (.iaload, 1) := by decide +kernel
theorem d_Wr_areAlike_12 : decode prog_7_method_13_code 12 = .ok (.if_icmp .eq 5, 3) := by decide +kernel
theorem d_Wr_areAlike_15 : decode prog_7_method_13_code 15 = .ok (.iconst 0, 1) := by decide +kernel
theorem d_Wr_areAlike_16 : decode prog_7_method_13_code 16 = .ok (.ireturn, 1) := by decide +kernel
theorem d_Wr_areAlike_17 : decode prog_7_method_13_code 17 = .ok (.iconst 1, 1) := by decide +kernel
theorem d_Wr_areAlike_18 : decode prog_7_method_13_code 18 = .ok (.istore_n 3, 1) := by decide +kernel
theorem d_Wr_areAlike_19 : decode prog_7_method_13_code 19 = .ok (.iconst 0, 1) := by decide +kernel
theorem d_Wr_areAlike_20 : decode prog_7_method_13_code 20 = .ok (.istore 4, 2) := by decide +kernel
theorem d_Wr_areAlike_22 : decode prog_7_method_13_code 22 = .ok (.iload 4, 2) := by decide +kernel
theorem d_Wr_areAlike_24 : decode prog_7_method_13_code 24 = .ok (.aload_n 0, 1) := by decide +kernel
theorem d_Wr_areAlike_25 : decode prog_7_method_13_code 25 = .ok (.getfield 11, 3) := by decide +kernel
theorem d_Wr_areAlike_28 : decode prog_7_method_13_code 28 = .ok (.iload_n 1, 1) := by decide +kernel
theorem d_Wr_areAlike_29 : decode prog_7_method_13_code 29 = .ok (.iaload, 1) := by decide +kernel
theorem d_Wr_areAlike_30 : decode prog_7_method_13_code 30 = .ok (.invokestatic 75, 3) := by decide +kernel
theorem d_Wr_areAlike_33 : decode prog_7_method_13_code 33 = .ok (.if_icmp .ge 32, 3) := by decide +kernel
theorem d_Wr_areAlike_36 : decode prog_7_method_13_code 36 = .ok (.iload_n 3, 1) := by decide +kernel
theorem d_Wr_areAlike_37 : decode prog_7_method_13_code 37 = .ok (.ifCond .eq 20, 3) := by decide +kernel
theorem d_Wr_areAlike_40 : decode prog_7_method_13_code 40 = .ok (.aload_n 0, 1) := by decide +kernel
theorem d_Wr_areAlike_41 : decode prog_7_method_13_code 41 = .ok (.iload_n 1, 1) := by decide +kernel
theorem d_Wr_areAlike_42 : decode prog_7_method_13_code 42 = .ok (.iload 4, 2) := by decide +kernel
theorem d_Wr_areAlike_44 : decode prog_7_method_13_code 44 = .ok (.iload_n 2, 1) := by decide +kernel
theorem d_Wr_areAlike_45 : decode prog_7_method_13_code 45 = .ok (.iload 4, 2) := by decide +kernel
theorem d_Wr_areAlike_47 : decode prog_7_method_13_code 47 = .ok (.invokevirtual 105, 3) := by decide +kernel
theorem d_Wr_areAlike_50 : decode prog_7_method_13_code 50 = .ok (.ifCond .eq 7, 3) := by decide +kernel
theorem d_Wr_areAlike_53 : decode prog_7_method_13_code 53 = .ok (.iconst 1, 1) := by decide +kernel
theorem d_Wr_areAlike_54 : decode prog_7_method_13_code 54 = .ok (.goto 4, 3) := by decide +kernel
theorem d_Wr_areAlike_57 : decode prog_7_method_13_code 57 = .ok (.iconst 0, 1) := by decide +kernel
theorem d_Wr_areAlike_58 : decode prog_7_method_13_code 58 = .ok (.istore_n 3, 1) := by decide +kernel
theorem d_Wr_areAlike_59 : decode prog_7_method_13_code 59 = .ok (.iinc 4 1, 3) := by decide +kernel
theorem d_Wr_areAlike_62 : decode prog_7_method_13_code 62 = .ok (.goto (-40), 3) := by decide +kernel
theorem d_Wr_areAlike_65 : decode prog_7_method_13_code 65 = .ok (.iload_n 3, 1) := by decide +kernel
theorem d_Wr_areAlike_66 : decode prog_7_method_13_code 66 = .ok (.ifCond .ne 37, 3) := by decide +kernel
theorem d_Wr_areAlike_69 : decode prog_7_method_13_code 69 = .ok (.aload_n 0, 1) := by decide +kernel
theorem d_Wr_areAlike_70 : decode prog_7_method_13_code 70 = .ok (.getfield 11, 3) := by decide +kernel
theorem d_Wr_areAlike_73 : decode prog_7_method_13_code 73 = .ok (.iload_n 1, 1) := by decide +kernel
theorem d_Wr_areAlike_74 : decode prog_7_method_13_code 74 = .ok (.iaload, 1) := by decide +kernel
theorem d_Wr_areAlike_75 : decode prog_7_method_13_code 75 = .ok (.invokestatic 109, 3) := by decide +kernel
theorem d_Wr_areAlike_78 : decode prog_7_method_13_code 78 = .ok (.ifCond .eq 29, 3) := by decide +kernel
theorem d_Wr_areAlike_81 : decode prog_7_method_13_code 81 = .ok (.aload_n 0, 1) := by decide +kernel
theorem d_Wr_areAlike_82 : decode prog_7_method_13_code 82 = .ok (.iload_n 1, 1) := by decide +kernel
theorem d_Wr_areAlike_83 : decode prog_7_method_13_code 83 = .ok (.iconst 0, 1) := by decide +kernel
theorem d_Wr_areAlike_84 : decode prog_7_method_13_code 84 = .ok (.iload_n 2, 1) := by decide +kernel
theorem d_Wr_areAlike_85 : decode prog_7_method_13_code 85 = .ok (.iconst 1, 1) := by decide +kernel
theorem d_Wr_areAlike_86 : decode prog_7_method_13_code 86 = .ok (.invokevirtual 105, 3) := by decide +kernel
theorem d_Wr_areAlike_89 : decode prog_7_method_13_code 89 = .ok (.ifCond .eq 18, 3) := by decide +kernel
theorem d_Wr_areAlike_92 : decode prog_7_method_13_code 92 = .ok (.aload_n 0, 1) := by decide +kernel
theorem d_Wr_areAlike_93 : decode prog_7_method_13_code 93 = .ok (.iload_n 1, 1) := by decide +kernel
theorem d_Wr_areAlike_94 : decode prog_7_method_13_code 94 = .ok (.iconst 1, 1) := by decide +kernel
theorem d_Wr_areAlike_95 : decode prog_7_method_13_code 95 = .ok (.iload_n 2, 1) := by decide +kernel
theorem d_Wr_areAlike_96 : decode prog_7_method_13_code 96 = .ok (.iconst 0, 1) := by decide +kernel
theorem d_Wr_areAlike_97 : decode prog_7_method_13_code 97 = .ok (.invokevirtual 105, 3) := by decide +kernel
theorem d_Wr_areAlike_100 : decode prog_7_method_13_code 100 = .ok (.ifCond .eq 7, 3) := by decide +kernel
theorem d_Wr_areAlike_103 : decode prog_7_method_13_code 103 = .ok (.iconst 1, 1) := by decide +kernel
theorem d_Wr_areAlike_104 : decode prog_7_method_13_code 104 = .ok (.goto 4, 3) := by decide +kernel
theorem d_Wr_areAlike_107 : decode prog_7_method_13_code 107 = .ok (.iconst 0, 1) := by decide +kernel
theorem d_Wr_areAlike_108 : decode prog_7_method_13_code 108 = .ok (.ireturn, 1) := by decide +kernel
def f_Wr_areAlike_58 (k_22 : pv_S → Int32 → Int32 → Int32 → Int32 → Option (Int32 × pv_S)) (σ : pv_S) (x1 : Int32) (x2 : Int32) (x4 : Int32) (s0 : Int32) : Option (Int32 × pv_S) :=
  k_22 σ x1 x2 s0 (x4 + (1 : Int32))
set_option maxHeartbeats 4000000 in
set_option maxRecDepth 100000 in
theorem s_Wr_areAlike_58 {p : Program} {l : Launch} {e : Env} {R : Room} {s : State} {m : MethodId} {args : Array Value} {below : List Frame} {meth : Method} {c : Code} {Q : State → Prop} {D : va_G} {q : Nat → ClassId} {a t : Nat → Nat} {A : Nat → Prop} (C : pv_C p s m args c prog_7_method_13_code 5 "PatchVoices$Wiring" pv_TB D pv_cl (pv_ty q) 52 a A (pv_ZX t A)) (hmv : pv_mv A (pv_ZX t A)) (hRf : 1 ≤ R.frames) (hRl : 26 ≤ R.locals) {out : (Int32 × pv_S)} (hret : pv_Rz p l e R s m args below meth c prog_7_method_13_code D pv_cl 52 a (pv_FX q a) A Q out) {k_22 : pv_S → Int32 → Int32 → Int32 → Int32 → Option (Int32 × pv_S)} (hk_22 : ∀ (σ : pv_S) (x1 : Int32) (x2 : Int32) (x3 : Int32) (x4 : Int32) (H : Heap) (locs : List Loc) (ls : Array Slot), k_22 σ x1 x2 x3 x4 = some out → lv_has ls 5 [(0, .ref (a 12)), (1, .int x1), (2, .int x2), (3, .int x3), (4, .int x4)] → pv_W D pv_cl 52 a (pv_FX q a) σ H → va_S A s.heap H locs → W p l e R s m args below meth c H locs 0 0 Q (F0 m 22 ls [])) {σ : pv_S} {x1 : Int32} {x2 : Int32} {x4 : Int32} {s0 : Int32} {H : Heap} {locs : List Loc} {ls : Array Slot} (hl : lv_has ls 5 [(0, .ref (a 12)), (1, .int x1), (2, .int x2), (4, .int x4)]) (hP : pv_W D pv_cl 52 a (pv_FX q a) σ H) (hS : va_S A s.heap H locs) (hf : f_Wr_areAlike_58 k_22 σ x1 x2 x4 s0 = some out) : W p l e R s m args below meth c H locs 0 0 Q (F0 m 58 ls [.int s0]) := by
  unfold f_Wr_areAlike_58 at hf
  have hx := C.1
  have hb := C.2.1
  refine lv_istore_n (lv' := [(3, .int s0), (0, .ref (a 12)), (1, .int x1), (2, .int x2), (4, .int x4)]) hx hb d_Wr_areAlike_58 rfl hl (by decide) rfl (fun ls hl => ?_)
  refine lv_iinc (k := 4) (v := (x4 + (1 : Int32))) (lv' := [(4, .int (x4 + (1 : Int32))), (3, .int s0), (0, .ref (a 12)), (1, .int x1), (2, .int x2)]) hx hb d_Wr_areAlike_59 hl rfl (pv_inc (by decide)) (by decide) rfl (fun ls hl => ?_)
  refine lv_goto (tgt := 22) hx hb d_Wr_areAlike_62 (by decide) ?_
  exact hk_22 _ _ _ _ _ _ _ _ hf (lv_sub hl [2, 3, 4, 1, 0] rfl) hP hS
def f_Wr_areAlike_57 (k_22 : pv_S → Int32 → Int32 → Int32 → Int32 → Option (Int32 × pv_S)) (σ : pv_S) (x1 : Int32) (x2 : Int32) (x4 : Int32) : Option (Int32 × pv_S) :=
  f_Wr_areAlike_58 k_22 σ x1 x2 x4 (0 : Int32)
set_option maxHeartbeats 4000000 in
set_option maxRecDepth 100000 in
theorem s_Wr_areAlike_57 {p : Program} {l : Launch} {e : Env} {R : Room} {s : State} {m : MethodId} {args : Array Value} {below : List Frame} {meth : Method} {c : Code} {Q : State → Prop} {D : va_G} {q : Nat → ClassId} {a t : Nat → Nat} {A : Nat → Prop} (C : pv_C p s m args c prog_7_method_13_code 5 "PatchVoices$Wiring" pv_TB D pv_cl (pv_ty q) 52 a A (pv_ZX t A)) (hmv : pv_mv A (pv_ZX t A)) (hRf : 1 ≤ R.frames) (hRl : 26 ≤ R.locals) {out : (Int32 × pv_S)} (hret : pv_Rz p l e R s m args below meth c prog_7_method_13_code D pv_cl 52 a (pv_FX q a) A Q out) {k_22 : pv_S → Int32 → Int32 → Int32 → Int32 → Option (Int32 × pv_S)} (hk_22 : ∀ (σ : pv_S) (x1 : Int32) (x2 : Int32) (x3 : Int32) (x4 : Int32) (H : Heap) (locs : List Loc) (ls : Array Slot), k_22 σ x1 x2 x3 x4 = some out → lv_has ls 5 [(0, .ref (a 12)), (1, .int x1), (2, .int x2), (3, .int x3), (4, .int x4)] → pv_W D pv_cl 52 a (pv_FX q a) σ H → va_S A s.heap H locs → W p l e R s m args below meth c H locs 0 0 Q (F0 m 22 ls [])) {σ : pv_S} {x1 : Int32} {x2 : Int32} {x4 : Int32} {H : Heap} {locs : List Loc} {ls : Array Slot} (hl : lv_has ls 5 [(0, .ref (a 12)), (1, .int x1), (2, .int x2), (4, .int x4)]) (hP : pv_W D pv_cl 52 a (pv_FX q a) σ H) (hS : va_S A s.heap H locs) (hf : f_Wr_areAlike_57 k_22 σ x1 x2 x4 = some out) : W p l e R s m args below meth c H locs 0 0 Q (F0 m 57 ls []) := by
  unfold f_Wr_areAlike_57 at hf
  have hx := C.1
  have hb := C.2.1
  refine lv_iconst (v := (0 : Int32)) hx hb d_Wr_areAlike_57 (by decide) ?_
  exact s_Wr_areAlike_58 C hmv hRf hRl hret hk_22 (lv_sub hl [0, 1, 2, 3] rfl) hP hS hf
def f_Wr_areAlike_22b (k_22 : pv_S → Int32 → Int32 → Int32 → Int32 → Option (Int32 × pv_S)) (σ : pv_S) (x1 : Int32) (x2 : Int32) (x3 : Int32) (x4 : Int32) : Option (Int32 × pv_S) :=
  (if pv_in x1 24 = true then
((f_Kd_inputsOf σ (σ.1 13 (x1).toNatClampNeg)).bind fun q1 =>
(if q1.1 ≤ x4 then
  (if x3 = 0 then
  (if pv_in x1 24 = true then
((f_Kd_inputsMaySwap q1.2 (q1.2.1 13 (x1).toNatClampNeg)).bind fun q2 =>
(if q2.1 = 0 then
  some ((0 : Int32), q2.2)
  else
  ((f_Wr_isSameInput q2.2 x1 (0 : Int32) x2 (1 : Int32)).bind fun q3 =>
(if q3.1 = 0 then
  some ((0 : Int32), q3.2)
  else
  ((f_Wr_isSameInput q3.2 x1 (1 : Int32) x2 (0 : Int32)).bind fun q4 =>
(if q4.1 = 0 then
  some ((0 : Int32), q4.2)
  else
  some ((1 : Int32), q4.2)))))))
  else none)
  else
  some ((1 : Int32), q1.2))
  else
  (if x3 = 0 then
  f_Wr_areAlike_57 k_22 q1.2 x1 x2 x4
  else
  ((f_Wr_isSameInput q1.2 x1 x4 x2 x4).bind fun q5 =>
(if q5.1 = 0 then
  f_Wr_areAlike_57 k_22 q5.2 x1 x2 x4
  else
  f_Wr_areAlike_58 k_22 q5.2 x1 x2 x4 (1 : Int32))))))
  else none)
set_option maxHeartbeats 4000000 in
set_option maxRecDepth 100000 in
theorem s_Wr_areAlike_22b {p : Program} {l : Launch} {e : Env} {R : Room} {s : State} {m : MethodId} {args : Array Value} {below : List Frame} {meth : Method} {c : Code} {Q : State → Prop} {D : va_G} {q : Nat → ClassId} {a t : Nat → Nat} {A : Nat → Prop} (C : pv_C p s m args c prog_7_method_13_code 5 "PatchVoices$Wiring" pv_TB D pv_cl (pv_ty q) 52 a A (pv_ZX t A)) (hmv : pv_mv A (pv_ZX t A)) (hRf : 1 ≤ R.frames) (hRl : 26 ≤ R.locals) {out : (Int32 × pv_S)} (hret : pv_Rz p l e R s m args below meth c prog_7_method_13_code D pv_cl 52 a (pv_FX q a) A Q out) {k_22 : pv_S → Int32 → Int32 → Int32 → Int32 → Option (Int32 × pv_S)} (hk_22 : ∀ (σ : pv_S) (x1 : Int32) (x2 : Int32) (x3 : Int32) (x4 : Int32) (H : Heap) (locs : List Loc) (ls : Array Slot), k_22 σ x1 x2 x3 x4 = some out → lv_has ls 5 [(0, .ref (a 12)), (1, .int x1), (2, .int x2), (3, .int x3), (4, .int x4)] → pv_W D pv_cl 52 a (pv_FX q a) σ H → va_S A s.heap H locs → W p l e R s m args below meth c H locs 0 0 Q (F0 m 22 ls [])) {σ : pv_S} {x1 : Int32} {x2 : Int32} {x3 : Int32} {x4 : Int32} {H : Heap} {locs : List Loc} {ls : Array Slot} (hl : lv_has ls 5 [(0, .ref (a 12)), (1, .int x1), (2, .int x2), (3, .int x3), (4, .int x4)]) (hP : pv_W D pv_cl 52 a (pv_FX q a) σ H) (hS : va_S A s.heap H locs) (hf : f_Wr_areAlike_22b k_22 σ x1 x2 x3 x4 = some out) : W p l e R s m args below meth c H locs 0 0 Q (F0 m 22 ls []) := by
  unfold f_Wr_areAlike_22b at hf
  have hx := C.1
  have hb := C.2.1
  refine lv_iload hx hb d_Wr_areAlike_22 (lv_at hl 4 rfl) ?_
  refine lv_aload_n hx hb d_Wr_areAlike_24 rfl (lv_at hl 0 rfl) ?_
  refine pv_get C hP (v := .ref (a 13)) (j := 1) (by decide) (fx_12 _ _ _ _) fl_Wr_11 rfl d_Wr_areAlike_25 ?_
  refine lv_iload_n hx hb d_Wr_areAlike_28 rfl (lv_at hl 1 rfl) ?_
  obtain ⟨hg, hf⟩ := pv_g hf
  refine pv_iald C hP (t0 := 0) (by decide) (fx_13 _ _ _ _) rfl hg d_Wr_areAlike_29 ?_
  obtain ⟨q1, hc, hf⟩ := pv_b hf
  refine pv_callSi C hmv pv_good hP hS (As := [.int (σ.1 13 (x1).toNatClampNeg)]) (rest := [.int x4]) (c_Kd_inputsOf C.2.2.2.2.2.2.1 hmv hc) cs_Wr_75 ⟨rfl, rfl, Nat.le_trans (Nat.le_of_ble_eq_true rfl) hRf, Nat.le_trans (Nat.le_of_ble_eq_true rfl) hRl⟩ rfl hl.1 rfl (Nat.le_of_ble_eq_true rfl) d_Wr_areAlike_30 ⟨Nat.zero_le _, Nat.zero_le _⟩ (fun H locs hP hS => ?_)
  refine lv_icmp_ge (tgt := 65) hx hb d_Wr_areAlike_33 (by decide) (fun h => ?_) (fun h => ?_)
  · have hf := pv_t hf h
    refine lv_iload_n hx hb d_Wr_areAlike_65 rfl (lv_at hl 3 rfl) ?_
    refine lv_if_ne (tgt := 103) hx hb d_Wr_areAlike_66 (by decide) (fun h => ?_) (fun h => ?_)
    · have hf := pv_f hf h
      refine lv_iconst (v := (1 : Int32)) hx hb d_Wr_areAlike_103 (by decide) ?_
      refine lv_goto (tgt := 108) hx hb d_Wr_areAlike_104 (by decide) ?_
      obtain rfl := Option.some.inj hf
      exact hret _ _ _ _ d_Wr_areAlike_108 rfl hP hS
    · have hf := pv_t hf h
      refine lv_aload_n hx hb d_Wr_areAlike_69 rfl (lv_at hl 0 rfl) ?_
      refine pv_get C hP (v := .ref (a 13)) (j := 1) (by decide) (fx_12 _ _ _ _) fl_Wr_11 rfl d_Wr_areAlike_70 ?_
      refine lv_iload_n hx hb d_Wr_areAlike_73 rfl (lv_at hl 1 rfl) ?_
      obtain ⟨hg, hf⟩ := pv_g hf
      refine pv_iald C hP (t0 := 0) (by decide) (fx_13 _ _ _ _) rfl hg d_Wr_areAlike_74 ?_
      obtain ⟨q2, hc, hf⟩ := pv_b hf
      refine pv_callSi C hmv pv_good hP hS (As := [.int (q1.2.1 13 (x1).toNatClampNeg)]) (rest := []) (c_Kd_inputsMaySwap C.2.2.2.2.2.2.1 hmv hc) cs_Wr_109 ⟨rfl, rfl, Nat.le_trans (Nat.le_of_ble_eq_true rfl) hRf, Nat.le_trans (Nat.le_of_ble_eq_true rfl) hRl⟩ rfl hl.1 rfl (Nat.le_of_ble_eq_true rfl) d_Wr_areAlike_75 ⟨Nat.zero_le _, Nat.zero_le _⟩ (fun H locs hP hS => ?_)
      refine lv_if_eq (tgt := 107) hx hb d_Wr_areAlike_78 (by decide) (fun h => ?_) (fun h => ?_)
      · have hf := pv_t hf h
        refine lv_iconst (v := (0 : Int32)) hx hb d_Wr_areAlike_107 (by decide) ?_
        obtain rfl := Option.some.inj hf
        exact hret _ _ _ _ d_Wr_areAlike_108 rfl hP hS
      · have hf := pv_f hf h
        refine lv_aload_n hx hb d_Wr_areAlike_81 rfl (lv_at hl 0 rfl) ?_
        refine lv_iload_n hx hb d_Wr_areAlike_82 rfl (lv_at hl 1 rfl) ?_
        refine lv_iconst (v := (0 : Int32)) hx hb d_Wr_areAlike_83 (by decide) ?_
        refine lv_iload_n hx hb d_Wr_areAlike_84 rfl (lv_at hl 2 rfl) ?_
        refine lv_iconst (v := (1 : Int32)) hx hb d_Wr_areAlike_85 (by decide) ?_
        obtain ⟨q3, hc, hf⟩ := pv_b hf
        refine pv_callVi C hmv pv_good hP hS (As := [.int x1, .int (0 : Int32), .int x2, .int (1 : Int32)]) (rest := []) (by decide) (fx_12 _ _ _ _) rfl (c_Wr_isSameInput C.2.2.2.2.2.2.1 hmv hc) cv_Wr_105 ⟨rfl, rfl, Nat.le_trans (Nat.le_of_ble_eq_true rfl) hRf, Nat.le_trans (Nat.le_of_ble_eq_true rfl) hRl⟩ rfl hl.1 rfl (Nat.le_of_ble_eq_true rfl) d_Wr_areAlike_86 ⟨Nat.zero_le _, Nat.zero_le _⟩ (fun H locs hP hS => ?_)
        refine lv_if_eq (tgt := 107) hx hb d_Wr_areAlike_89 (by decide) (fun h => ?_) (fun h => ?_)
        · have hf := pv_t hf h
          refine lv_iconst (v := (0 : Int32)) hx hb d_Wr_areAlike_107 (by decide) ?_
          obtain rfl := Option.some.inj hf
          exact hret _ _ _ _ d_Wr_areAlike_108 rfl hP hS
        · have hf := pv_f hf h
          refine lv_aload_n hx hb d_Wr_areAlike_92 rfl (lv_at hl 0 rfl) ?_
          refine lv_iload_n hx hb d_Wr_areAlike_93 rfl (lv_at hl 1 rfl) ?_
          refine lv_iconst (v := (1 : Int32)) hx hb d_Wr_areAlike_94 (by decide) ?_
          refine lv_iload_n hx hb d_Wr_areAlike_95 rfl (lv_at hl 2 rfl) ?_
          refine lv_iconst (v := (0 : Int32)) hx hb d_Wr_areAlike_96 (by decide) ?_
          obtain ⟨q4, hc, hf⟩ := pv_b hf
          refine pv_callVi C hmv pv_good hP hS (As := [.int x1, .int (1 : Int32), .int x2, .int (0 : Int32)]) (rest := []) (by decide) (fx_12 _ _ _ _) rfl (c_Wr_isSameInput C.2.2.2.2.2.2.1 hmv hc) cv_Wr_105 ⟨rfl, rfl, Nat.le_trans (Nat.le_of_ble_eq_true rfl) hRf, Nat.le_trans (Nat.le_of_ble_eq_true rfl) hRl⟩ rfl hl.1 rfl (Nat.le_of_ble_eq_true rfl) d_Wr_areAlike_97 ⟨Nat.zero_le _, Nat.zero_le _⟩ (fun H locs hP hS => ?_)
          refine lv_if_eq (tgt := 107) hx hb d_Wr_areAlike_100 (by decide) (fun h => ?_) (fun h => ?_)
          · have hf := pv_t hf h
            refine lv_iconst (v := (0 : Int32)) hx hb d_Wr_areAlike_107 (by decide) ?_
            obtain rfl := Option.some.inj hf
            exact hret _ _ _ _ d_Wr_areAlike_108 rfl hP hS
          · have hf := pv_f hf h
            refine lv_iconst (v := (1 : Int32)) hx hb d_Wr_areAlike_103 (by decide) ?_
            refine lv_goto (tgt := 108) hx hb d_Wr_areAlike_104 (by decide) ?_
            obtain rfl := Option.some.inj hf
            exact hret _ _ _ _ d_Wr_areAlike_108 rfl hP hS
  · have hf := pv_f hf h
    refine lv_iload_n hx hb d_Wr_areAlike_36 rfl (lv_at hl 3 rfl) ?_
    refine lv_if_eq (tgt := 57) hx hb d_Wr_areAlike_37 (by decide) (fun h => ?_) (fun h => ?_)
    · have hf := pv_t hf h
      exact s_Wr_areAlike_57 C hmv hRf hRl hret hk_22 (lv_sub hl [0, 1, 2, 4] rfl) hP hS hf
    · have hf := pv_f hf h
      refine lv_aload_n hx hb d_Wr_areAlike_40 rfl (lv_at hl 0 rfl) ?_
      refine lv_iload_n hx hb d_Wr_areAlike_41 rfl (lv_at hl 1 rfl) ?_
      refine lv_iload hx hb d_Wr_areAlike_42 (lv_at hl 4 rfl) ?_
      refine lv_iload_n hx hb d_Wr_areAlike_44 rfl (lv_at hl 2 rfl) ?_
      refine lv_iload hx hb d_Wr_areAlike_45 (lv_at hl 4 rfl) ?_
      obtain ⟨q5, hc, hf⟩ := pv_b hf
      refine pv_callVi C hmv pv_good hP hS (As := [.int x1, .int x4, .int x2, .int x4]) (rest := []) (by decide) (fx_12 _ _ _ _) rfl (c_Wr_isSameInput C.2.2.2.2.2.2.1 hmv hc) cv_Wr_105 ⟨rfl, rfl, Nat.le_trans (Nat.le_of_ble_eq_true rfl) hRf, Nat.le_trans (Nat.le_of_ble_eq_true rfl) hRl⟩ rfl hl.1 rfl (Nat.le_of_ble_eq_true rfl) d_Wr_areAlike_47 ⟨Nat.zero_le _, Nat.zero_le _⟩ (fun H locs hP hS => ?_)
      refine lv_if_eq (tgt := 57) hx hb d_Wr_areAlike_50 (by decide) (fun h => ?_) (fun h => ?_)
      · have hf := pv_t hf h
        exact s_Wr_areAlike_57 C hmv hRf hRl hret hk_22 (lv_sub hl [0, 1, 2, 4] rfl) hP hS hf
      · have hf := pv_f hf h
        refine lv_iconst (v := (1 : Int32)) hx hb d_Wr_areAlike_53 (by decide) ?_
        refine lv_goto (tgt := 58) hx hb d_Wr_areAlike_54 (by decide) ?_
        exact s_Wr_areAlike_58 C hmv hRf hRl hret hk_22 (lv_sub hl [0, 1, 2, 4] rfl) hP hS hf
def f_Wr_areAlike_22 : Nat → pv_S → Int32 → Int32 → Int32 → Int32 → Option (Int32 × pv_S)
  | 0 => fun _ _ _ _ _ => none
  | n + 1 => f_Wr_areAlike_22b (f_Wr_areAlike_22 n)
set_option maxHeartbeats 4000000 in
theorem s_Wr_areAlike_22 {p : Program} {l : Launch} {e : Env} {R : Room} {s : State} {m : MethodId} {args : Array Value} {below : List Frame} {meth : Method} {c : Code} {Q : State → Prop} {D : va_G} {q : Nat → ClassId} {a t : Nat → Nat} {A : Nat → Prop} (C : pv_C p s m args c prog_7_method_13_code 5 "PatchVoices$Wiring" pv_TB D pv_cl (pv_ty q) 52 a A (pv_ZX t A)) (hmv : pv_mv A (pv_ZX t A)) (hRf : 1 ≤ R.frames) (hRl : 26 ≤ R.locals) {out : (Int32 × pv_S)} (hret : pv_Rz p l e R s m args below meth c prog_7_method_13_code D pv_cl 52 a (pv_FX q a) A Q out) (n : Nat) : ∀ {σ : pv_S} {x1 : Int32} {x2 : Int32} {x3 : Int32} {x4 : Int32} {H : Heap} {locs : List Loc} {ls : Array Slot}, lv_has ls 5 [(0, .ref (a 12)), (1, .int x1), (2, .int x2), (3, .int x3), (4, .int x4)] → pv_W D pv_cl 52 a (pv_FX q a) σ H → va_S A s.heap H locs → f_Wr_areAlike_22 n σ x1 x2 x3 x4 = some out → W p l e R s m args below meth c H locs 0 0 Q (F0 m 22 ls []) := by
  induction n with
  | zero => intro σ x1 x2 x3 x4 H locs ls hl hP hS hf; cases hf
  | succ n ih => intro σ x1 x2 x3 x4 H locs ls hl hP hS hf; exact s_Wr_areAlike_22b C hmv hRf hRl hret (fun σ x1 x2 x3 x4 H locs ls hf hl hP hS => ih hl hP hS hf) hl hP hS hf
def f_Wr_areAlike_0 (σ : pv_S) (x1 : Int32) (x2 : Int32) : Option (Int32 × pv_S) :=
  (if pv_in x1 24 = true then
(if pv_in x2 24 = true then
(if (σ.1 13 (x1).toNatClampNeg) = (σ.1 13 (x2).toNatClampNeg) then
  f_Wr_areAlike_22 pv_fu σ x1 x2 (1 : Int32) (0 : Int32)
  else
  some ((0 : Int32), σ))
  else none)
  else none)
set_option maxHeartbeats 4000000 in
set_option maxRecDepth 100000 in
theorem s_Wr_areAlike_0 {p : Program} {l : Launch} {e : Env} {R : Room} {s : State} {m : MethodId} {args : Array Value} {below : List Frame} {meth : Method} {c : Code} {Q : State → Prop} {D : va_G} {q : Nat → ClassId} {a t : Nat → Nat} {A : Nat → Prop} (C : pv_C p s m args c prog_7_method_13_code 5 "PatchVoices$Wiring" pv_TB D pv_cl (pv_ty q) 52 a A (pv_ZX t A)) (hmv : pv_mv A (pv_ZX t A)) (hRf : 1 ≤ R.frames) (hRl : 26 ≤ R.locals) {out : (Int32 × pv_S)} (hret : pv_Rz p l e R s m args below meth c prog_7_method_13_code D pv_cl 52 a (pv_FX q a) A Q out) {σ : pv_S} {x1 : Int32} {x2 : Int32} {H : Heap} {locs : List Loc} {ls : Array Slot} (hl : lv_has ls 5 [(0, .ref (a 12)), (1, .int x1), (2, .int x2)]) (hP : pv_W D pv_cl 52 a (pv_FX q a) σ H) (hS : va_S A s.heap H locs) (hf : f_Wr_areAlike_0 σ x1 x2 = some out) : W p l e R s m args below meth c H locs 0 0 Q (F0 m 0 ls []) := by
  unfold f_Wr_areAlike_0 at hf
  have hx := C.1
  have hb := C.2.1
  refine lv_aload_n hx hb d_Wr_areAlike_0 rfl (lv_at hl 0 rfl) ?_
  refine pv_get C hP (v := .ref (a 13)) (j := 1) (by decide) (fx_12 _ _ _ _) fl_Wr_11 rfl d_Wr_areAlike_1 ?_
  refine lv_iload_n hx hb d_Wr_areAlike_4 rfl (lv_at hl 1 rfl) ?_
  obtain ⟨hg, hf⟩ := pv_g hf
  refine pv_iald C hP (t0 := 0) (by decide) (fx_13 _ _ _ _) rfl hg d_Wr_areAlike_5 ?_
  refine lv_aload_n hx hb d_Wr_areAlike_6 rfl (lv_at hl 0 rfl) ?_
  refine pv_get C hP (v := .ref (a 13)) (j := 1) (by decide) (fx_12 _ _ _ _) fl_Wr_11 rfl d_Wr_areAlike_7 ?_
  refine lv_iload_n hx hb d_Wr_areAlike_10 rfl (lv_at hl 2 rfl) ?_
  obtain ⟨hg, hf⟩ := pv_g hf
  refine pv_iald C hP (t0 := 0) (by decide) (fx_13 _ _ _ _) rfl hg d_Wr_areAlike_11 ?_
  refine lv_icmp_eq (tgt := 17) hx hb d_Wr_areAlike_12 (by decide) (fun h => ?_) (fun h => ?_)
  · have hf := pv_t hf h
    refine lv_iconst (v := (1 : Int32)) hx hb d_Wr_areAlike_17 (by decide) ?_
    refine lv_istore_n (lv' := [(3, .int (1 : Int32)), (0, .ref (a 12)), (1, .int x1), (2, .int x2)]) hx hb d_Wr_areAlike_18 rfl hl (by decide) rfl (fun ls hl => ?_)
    refine lv_iconst (v := (0 : Int32)) hx hb d_Wr_areAlike_19 (by decide) ?_
    refine lv_istore (lv' := [(4, .int (0 : Int32)), (3, .int (1 : Int32)), (0, .ref (a 12)), (1, .int x1), (2, .int x2)]) hx hb d_Wr_areAlike_20 hl (by decide) rfl (fun ls hl => ?_)
    exact s_Wr_areAlike_22 C hmv hRf hRl hret pv_fu (lv_sub hl [2, 3, 4, 1, 0] rfl) hP hS hf
  · have hf := pv_f hf h
    refine lv_iconst (v := (0 : Int32)) hx hb d_Wr_areAlike_15 (by decide) ?_
    obtain rfl := Option.some.inj hf
    exact hret _ _ _ _ d_Wr_areAlike_16 rfl hP hS
def f_Wr_areAlike (σ : pv_S) (x1 : Int32) (x2 : Int32) : Option (Int32 × pv_S) := f_Wr_areAlike_0 σ x1 x2
def rm_Wr_areAlike : Room := { frames := 1, cells := 0, slots := 0, locals := 26 }
theorem c_Wr_areAlike {l : Launch} {D : va_G} {q : Nat → ClassId} {a t : Nat → Nat} {A : Nat → Prop} (hD : pv_D 52 a A) (hmv : pv_mv A (pv_ZX t A)) {σ : pv_S} {x1 : Int32} {x2 : Int32} {out : (Int32 × pv_S)} (hf : f_Wr_areAlike σ x1 x2 = some out) : pv_Mi l y_Wr_areAlike (Cond.code y_Wr_areAlike prog_7_method_13_code 5 (some .boolean) :: pv_TB) rm_Wr_areAlike D pv_cl (pv_ty q) 52 a (pv_FX q a) A (pv_ZX t A) [.ref (a 12), .int x1, .int x2] σ out :=
  pv_ofZ (by decide) (Nat.le_of_ble_eq_true rfl) hD (fun p e s m args below meth c Q ls C hret hl hP => s_Wr_areAlike_0 C hmv (Nat.le_refl _) (Nat.le_refl _) hret hl hP va_S.rf hf)
theorem d_Wr_earliestAlike_0 : decode prog_7_method_12_code 0 = .ok (.aload_n 0, 1) := by decide +kernel
theorem d_Wr_earliestAlike_1 : decode prog_7_method_12_code 1 = .ok (.getfield 25, 3) := by decide +kernel
theorem d_Wr_earliestAlike_4 : decode prog_7_method_12_code 4 = .ok (.iload_n 1, 1) := by decide +kernel
theorem d_Wr_earliestAlike_5 : decode prog_7_method_12_code 5 = .ok (.iaload, 1) := by decide +kernel
theorem d_Wr_earliestAlike_6 : decode prog_7_method_12_code 6 = .ok (.istore_n 2, 1) := by decide +kernel
theorem d_Wr_earliestAlike_7 : decode prog_7_method_12_code 7 = .ok (.iconst 0, 1) := by decide +kernel
theorem d_Wr_earliestAlike_8 : decode prog_7_method_12_code 8 = .ok (.istore_n 3, 1) := by decide +kernel
theorem d_Wr_earliestAlike_9 : decode prog_7_method_12_code 9 = .ok (.iload_n 3, 1) := by decide +kernel
theorem d_Wr_earliestAlike_10 : decode prog_7_method_12_code 10 = .ok (.iload_n 1, 1) := by decide +kernel
theorem d_Wr_earliestAlike_11 : decode prog_7_method_12_code 11 = .ok (.if_icmp .ge 42, 3) := by decide +kernel
theorem d_Wr_earliestAlike_14 : decode prog_7_method_12_code 14 = .ok (.aload_n 0, 1) := by decide +kernel
theorem d_Wr_earliestAlike_15 : decode prog_7_method_12_code 15 = .ok (.getfield 25, 3) := by decide +kernel
theorem d_Wr_earliestAlike_18 : decode prog_7_method_12_code 18 = .ok (.iload_n 3, 1) := by decide +kernel
theorem d_Wr_earliestAlike_19 : decode prog_7_method_12_code 19 = .ok (.iaload, 1) := by decide +kernel
theorem d_Wr_earliestAlike_20 : decode prog_7_method_12_code 20 = .ok (.istore 4, 2) := by decide +kernel
theorem d_Wr_earliestAlike_22 : decode prog_7_method_12_code 22 = .ok (.aload_n 0, 1) := by decide +kernel
theorem d_Wr_earliestAlike_23 : decode prog_7_method_12_code 23 = .ok (.getfield 32, 3) := by decide +kernel
theorem d_Wr_earliestAlike_26 : decode prog_7_method_12_code 26 = .ok (.iload 4, 2) := by decide +kernel
theorem d_Wr_earliestAlike_28 : decode prog_7_method_12_code 28 = .ok (.iaload, 1) := by decide +kernel
theorem d_Wr_earliestAlike_29 : decode prog_7_method_12_code 29 = .ok (.iload 4, 2) := by decide +kernel
theorem d_Wr_earliestAlike_31 : decode prog_7_method_12_code 31 = .ok (.if_icmp .ne 16, 3) := by decide +kernel
theorem d_Wr_earliestAlike_34 : decode prog_7_method_12_code 34 = .ok (.aload_n 0, 1) := by decide +kernel
theorem d_Wr_earliestAlike_35 : decode prog_7_method_12_code 35 = .ok (.iload 4, 2) := by decide +kernel
theorem d_Wr_earliestAlike_37 : decode prog_7_method_12_code 37 = .ok (.iload_n 2, 1) := by decide +kernel
theorem d_Wr_earliestAlike_38 : decode prog_7_method_12_code 38 = .ok (.invokevirtual 102, 3) := by decide +kernel
theorem d_Wr_earliestAlike_41 : decode prog_7_method_12_code 41 = .ok (.ifCond .eq 6, 3) := by decide +kernel
theorem d_Wr_earliestAlike_44 : decode prog_7_method_12_code 44 = .ok (.iload 4, 2) := by decide +kernel
theorem d_Wr_earliestAlike_46 : decode prog_7_method_12_code 46 = .ok (.ireturn, 1) := by decide +kernel
theorem d_Wr_earliestAlike_47 : decode prog_7_method_12_code 47 = .ok (.iinc 3 1, 3) := by decide +kernel
theorem d_Wr_earliestAlike_50 : decode prog_7_method_12_code 50 = .ok (.goto (-41), 3) := by decide +kernel
theorem d_Wr_earliestAlike_53 : decode prog_7_method_12_code 53 = .ok (.iload_n 2, 1) := by decide +kernel
theorem d_Wr_earliestAlike_54 : decode prog_7_method_12_code 54 = .ok (.ireturn, 1) := by decide +kernel
def f_Wr_earliestAlike_47 (k_9 : pv_S → Int32 → Int32 → Int32 → Option (Int32 × pv_S)) (σ : pv_S) (x1 : Int32) (x2 : Int32) (x3 : Int32) : Option (Int32 × pv_S) :=
  k_9 σ x1 x2 (x3 + (1 : Int32))
set_option maxHeartbeats 4000000 in
set_option maxRecDepth 100000 in
theorem s_Wr_earliestAlike_47 {p : Program} {l : Launch} {e : Env} {R : Room} {s : State} {m : MethodId} {args : Array Value} {below : List Frame} {meth : Method} {c : Code} {Q : State → Prop} {D : va_G} {q : Nat → ClassId} {a t : Nat → Nat} {A : Nat → Prop} (C : pv_C p s m args c prog_7_method_12_code 5 "PatchVoices$Wiring" pv_TB D pv_cl (pv_ty q) 52 a A (pv_ZX t A)) (hmv : pv_mv A (pv_ZX t A)) (hRf : 2 ≤ R.frames) (hRl : 50 ≤ R.locals) {out : (Int32 × pv_S)} (hret : pv_Ri p l e R s m args below meth c prog_7_method_12_code D pv_cl 52 a (pv_FX q a) A Q out) {k_9 : pv_S → Int32 → Int32 → Int32 → Option (Int32 × pv_S)} (hk_9 : ∀ (σ : pv_S) (x1 : Int32) (x2 : Int32) (x3 : Int32) (H : Heap) (locs : List Loc) (ls : Array Slot), k_9 σ x1 x2 x3 = some out → lv_has ls 5 [(0, .ref (a 12)), (1, .int x1), (2, .int x2), (3, .int x3)] → pv_W D pv_cl 52 a (pv_FX q a) σ H → va_S A s.heap H locs → W p l e R s m args below meth c H locs 0 0 Q (F0 m 9 ls [])) {σ : pv_S} {x1 : Int32} {x2 : Int32} {x3 : Int32} {H : Heap} {locs : List Loc} {ls : Array Slot} (hl : lv_has ls 5 [(0, .ref (a 12)), (1, .int x1), (2, .int x2), (3, .int x3)]) (hP : pv_W D pv_cl 52 a (pv_FX q a) σ H) (hS : va_S A s.heap H locs) (hf : f_Wr_earliestAlike_47 k_9 σ x1 x2 x3 = some out) : W p l e R s m args below meth c H locs 0 0 Q (F0 m 47 ls []) := by
  unfold f_Wr_earliestAlike_47 at hf
  have hx := C.1
  have hb := C.2.1
  refine lv_iinc (k := 3) (v := (x3 + (1 : Int32))) (lv' := [(3, .int (x3 + (1 : Int32))), (0, .ref (a 12)), (1, .int x1), (2, .int x2)]) hx hb d_Wr_earliestAlike_47 hl rfl (pv_inc (by decide)) (by decide) rfl (fun ls hl => ?_)
  refine lv_goto (tgt := 9) hx hb d_Wr_earliestAlike_50 (by decide) ?_
  exact hk_9 _ _ _ _ _ _ _ hf (lv_sub hl [1, 2, 3, 0] rfl) hP hS
def f_Wr_earliestAlike_9b (k_9 : pv_S → Int32 → Int32 → Int32 → Option (Int32 × pv_S)) (σ : pv_S) (x1 : Int32) (x2 : Int32) (x3 : Int32) : Option (Int32 × pv_S) :=
  (if x1 ≤ x3 then
  some (x2, σ)
  else
  (if pv_in x3 24 = true then
(if pv_in (σ.1 16 (x3).toNatClampNeg) 24 = true then
(if (σ.1 18 ((σ.1 16 (x3).toNatClampNeg)).toNatClampNeg) = (σ.1 16 (x3).toNatClampNeg) then
  ((f_Wr_areAlike σ (σ.1 16 (x3).toNatClampNeg) x2).bind fun q1 =>
(if q1.1 = 0 then
  f_Wr_earliestAlike_47 k_9 q1.2 x1 x2 x3
  else
  some ((σ.1 16 (x3).toNatClampNeg), q1.2)))
  else
  f_Wr_earliestAlike_47 k_9 σ x1 x2 x3)
  else none)
  else none))
set_option maxHeartbeats 4000000 in
set_option maxRecDepth 100000 in
theorem s_Wr_earliestAlike_9b {p : Program} {l : Launch} {e : Env} {R : Room} {s : State} {m : MethodId} {args : Array Value} {below : List Frame} {meth : Method} {c : Code} {Q : State → Prop} {D : va_G} {q : Nat → ClassId} {a t : Nat → Nat} {A : Nat → Prop} (C : pv_C p s m args c prog_7_method_12_code 5 "PatchVoices$Wiring" pv_TB D pv_cl (pv_ty q) 52 a A (pv_ZX t A)) (hmv : pv_mv A (pv_ZX t A)) (hRf : 2 ≤ R.frames) (hRl : 50 ≤ R.locals) {out : (Int32 × pv_S)} (hret : pv_Ri p l e R s m args below meth c prog_7_method_12_code D pv_cl 52 a (pv_FX q a) A Q out) {k_9 : pv_S → Int32 → Int32 → Int32 → Option (Int32 × pv_S)} (hk_9 : ∀ (σ : pv_S) (x1 : Int32) (x2 : Int32) (x3 : Int32) (H : Heap) (locs : List Loc) (ls : Array Slot), k_9 σ x1 x2 x3 = some out → lv_has ls 5 [(0, .ref (a 12)), (1, .int x1), (2, .int x2), (3, .int x3)] → pv_W D pv_cl 52 a (pv_FX q a) σ H → va_S A s.heap H locs → W p l e R s m args below meth c H locs 0 0 Q (F0 m 9 ls [])) {σ : pv_S} {x1 : Int32} {x2 : Int32} {x3 : Int32} {H : Heap} {locs : List Loc} {ls : Array Slot} (hl : lv_has ls 5 [(0, .ref (a 12)), (1, .int x1), (2, .int x2), (3, .int x3)]) (hP : pv_W D pv_cl 52 a (pv_FX q a) σ H) (hS : va_S A s.heap H locs) (hf : f_Wr_earliestAlike_9b k_9 σ x1 x2 x3 = some out) : W p l e R s m args below meth c H locs 0 0 Q (F0 m 9 ls []) := by
  unfold f_Wr_earliestAlike_9b at hf
  have hx := C.1
  have hb := C.2.1
  refine lv_iload_n hx hb d_Wr_earliestAlike_9 rfl (lv_at hl 3 rfl) ?_
  refine lv_iload_n hx hb d_Wr_earliestAlike_10 rfl (lv_at hl 1 rfl) ?_
  refine lv_icmp_ge (tgt := 53) hx hb d_Wr_earliestAlike_11 (by decide) (fun h => ?_) (fun h => ?_)
  · have hf := pv_t hf h
    refine lv_iload_n hx hb d_Wr_earliestAlike_53 rfl (lv_at hl 2 rfl) ?_
    obtain rfl := Option.some.inj hf
    exact hret _ _ _ _ d_Wr_earliestAlike_54 hP hS
  · have hf := pv_f hf h
    refine lv_aload_n hx hb d_Wr_earliestAlike_14 rfl (lv_at hl 0 rfl) ?_
    refine pv_get C hP (v := .ref (a 16)) (j := 4) (by decide) (fx_12 _ _ _ _) fl_Wr_25 rfl d_Wr_earliestAlike_15 ?_
    refine lv_iload_n hx hb d_Wr_earliestAlike_18 rfl (lv_at hl 3 rfl) ?_
    obtain ⟨hg, hf⟩ := pv_g hf
    refine pv_iald C hP (t0 := 0) (by decide) (fx_16 _ _ _ _) rfl hg d_Wr_earliestAlike_19 ?_
    refine lv_istore (lv' := [(4, .int (σ.1 16 (x3).toNatClampNeg)), (0, .ref (a 12)), (1, .int x1), (2, .int x2), (3, .int x3)]) hx hb d_Wr_earliestAlike_20 hl (by decide) rfl (fun ls hl => ?_)
    refine lv_aload_n hx hb d_Wr_earliestAlike_22 rfl (lv_at hl 1 rfl) ?_
    refine pv_get C hP (v := .ref (a 18)) (j := 6) (by decide) (fx_12 _ _ _ _) fl_Wr_32 rfl d_Wr_earliestAlike_23 ?_
    refine lv_iload hx hb d_Wr_earliestAlike_26 (lv_at hl 0 rfl) ?_
    obtain ⟨hg, hf⟩ := pv_g hf
    refine pv_iald C hP (t0 := 0) (by decide) (fx_18 _ _ _ _) rfl hg d_Wr_earliestAlike_28 ?_
    refine lv_iload hx hb d_Wr_earliestAlike_29 (lv_at hl 0 rfl) ?_
    refine lv_icmp_ne (tgt := 47) hx hb d_Wr_earliestAlike_31 (by decide) (fun h => ?_) (fun h => ?_)
    · have hf := pv_f hf h
      exact s_Wr_earliestAlike_47 C hmv hRf hRl hret hk_9 (lv_sub hl [1, 2, 3, 4] rfl) hP hS hf
    · have hf := pv_t hf h
      refine lv_aload_n hx hb d_Wr_earliestAlike_34 rfl (lv_at hl 1 rfl) ?_
      refine lv_iload hx hb d_Wr_earliestAlike_35 (lv_at hl 0 rfl) ?_
      refine lv_iload_n hx hb d_Wr_earliestAlike_37 rfl (lv_at hl 3 rfl) ?_
      obtain ⟨q1, hc, hf⟩ := pv_b hf
      refine pv_callVi C hmv pv_good hP hS (As := [.int (σ.1 16 (x3).toNatClampNeg), .int x2]) (rest := []) (by decide) (fx_12 _ _ _ _) rfl (c_Wr_areAlike C.2.2.2.2.2.2.1 hmv hc) cv_Wr_102 ⟨rfl, rfl, Nat.le_trans (Nat.le_of_ble_eq_true rfl) hRf, Nat.le_trans (Nat.le_of_ble_eq_true rfl) hRl⟩ rfl hl.1 rfl (Nat.le_of_ble_eq_true rfl) d_Wr_earliestAlike_38 ⟨Nat.zero_le _, Nat.zero_le _⟩ (fun H locs hP hS => ?_)
      refine lv_if_eq (tgt := 47) hx hb d_Wr_earliestAlike_41 (by decide) (fun h => ?_) (fun h => ?_)
      · have hf := pv_t hf h
        exact s_Wr_earliestAlike_47 C hmv hRf hRl hret hk_9 (lv_sub hl [1, 2, 3, 4] rfl) hP hS hf
      · have hf := pv_f hf h
        refine lv_iload hx hb d_Wr_earliestAlike_44 (lv_at hl 0 rfl) ?_
        obtain rfl := Option.some.inj hf
        exact hret _ _ _ _ d_Wr_earliestAlike_46 hP hS
def f_Wr_earliestAlike_9 : Nat → pv_S → Int32 → Int32 → Int32 → Option (Int32 × pv_S)
  | 0 => fun _ _ _ _ => none
  | n + 1 => f_Wr_earliestAlike_9b (f_Wr_earliestAlike_9 n)
set_option maxHeartbeats 4000000 in
theorem s_Wr_earliestAlike_9 {p : Program} {l : Launch} {e : Env} {R : Room} {s : State} {m : MethodId} {args : Array Value} {below : List Frame} {meth : Method} {c : Code} {Q : State → Prop} {D : va_G} {q : Nat → ClassId} {a t : Nat → Nat} {A : Nat → Prop} (C : pv_C p s m args c prog_7_method_12_code 5 "PatchVoices$Wiring" pv_TB D pv_cl (pv_ty q) 52 a A (pv_ZX t A)) (hmv : pv_mv A (pv_ZX t A)) (hRf : 2 ≤ R.frames) (hRl : 50 ≤ R.locals) {out : (Int32 × pv_S)} (hret : pv_Ri p l e R s m args below meth c prog_7_method_12_code D pv_cl 52 a (pv_FX q a) A Q out) (n : Nat) : ∀ {σ : pv_S} {x1 : Int32} {x2 : Int32} {x3 : Int32} {H : Heap} {locs : List Loc} {ls : Array Slot}, lv_has ls 5 [(0, .ref (a 12)), (1, .int x1), (2, .int x2), (3, .int x3)] → pv_W D pv_cl 52 a (pv_FX q a) σ H → va_S A s.heap H locs → f_Wr_earliestAlike_9 n σ x1 x2 x3 = some out → W p l e R s m args below meth c H locs 0 0 Q (F0 m 9 ls []) := by
  induction n with
  | zero => intro σ x1 x2 x3 H locs ls hl hP hS hf; cases hf
  | succ n ih => intro σ x1 x2 x3 H locs ls hl hP hS hf; exact s_Wr_earliestAlike_9b C hmv hRf hRl hret (fun σ x1 x2 x3 H locs ls hf hl hP hS => ih hl hP hS hf) hl hP hS hf
def f_Wr_earliestAlike_0 (σ : pv_S) (x1 : Int32) : Option (Int32 × pv_S) :=
  (if pv_in x1 24 = true then
f_Wr_earliestAlike_9 pv_fu σ x1 (σ.1 16 (x1).toNatClampNeg) (0 : Int32)
  else none)
set_option maxHeartbeats 4000000 in
set_option maxRecDepth 100000 in
theorem s_Wr_earliestAlike_0 {p : Program} {l : Launch} {e : Env} {R : Room} {s : State} {m : MethodId} {args : Array Value} {below : List Frame} {meth : Method} {c : Code} {Q : State → Prop} {D : va_G} {q : Nat → ClassId} {a t : Nat → Nat} {A : Nat → Prop} (C : pv_C p s m args c prog_7_method_12_code 5 "PatchVoices$Wiring" pv_TB D pv_cl (pv_ty q) 52 a A (pv_ZX t A)) (hmv : pv_mv A (pv_ZX t A)) (hRf : 2 ≤ R.frames) (hRl : 50 ≤ R.locals) {out : (Int32 × pv_S)} (hret : pv_Ri p l e R s m args below meth c prog_7_method_12_code D pv_cl 52 a (pv_FX q a) A Q out) {σ : pv_S} {x1 : Int32} {H : Heap} {locs : List Loc} {ls : Array Slot} (hl : lv_has ls 5 [(0, .ref (a 12)), (1, .int x1)]) (hP : pv_W D pv_cl 52 a (pv_FX q a) σ H) (hS : va_S A s.heap H locs) (hf : f_Wr_earliestAlike_0 σ x1 = some out) : W p l e R s m args below meth c H locs 0 0 Q (F0 m 0 ls []) := by
  unfold f_Wr_earliestAlike_0 at hf
  have hx := C.1
  have hb := C.2.1
  refine lv_aload_n hx hb d_Wr_earliestAlike_0 rfl (lv_at hl 0 rfl) ?_
  refine pv_get C hP (v := .ref (a 16)) (j := 4) (by decide) (fx_12 _ _ _ _) fl_Wr_25 rfl d_Wr_earliestAlike_1 ?_
  refine lv_iload_n hx hb d_Wr_earliestAlike_4 rfl (lv_at hl 1 rfl) ?_
  obtain ⟨hg, hf⟩ := pv_g hf
  refine pv_iald C hP (t0 := 0) (by decide) (fx_16 _ _ _ _) rfl hg d_Wr_earliestAlike_5 ?_
  refine lv_istore_n (lv' := [(2, .int (σ.1 16 (x1).toNatClampNeg)), (0, .ref (a 12)), (1, .int x1)]) hx hb d_Wr_earliestAlike_6 rfl hl (by decide) rfl (fun ls hl => ?_)
  refine lv_iconst (v := (0 : Int32)) hx hb d_Wr_earliestAlike_7 (by decide) ?_
  refine lv_istore_n (lv' := [(3, .int (0 : Int32)), (2, .int (σ.1 16 (x1).toNatClampNeg)), (0, .ref (a 12)), (1, .int x1)]) hx hb d_Wr_earliestAlike_8 rfl hl (by decide) rfl (fun ls hl => ?_)
  exact s_Wr_earliestAlike_9 C hmv hRf hRl hret pv_fu (lv_sub hl [2, 3, 1, 0] rfl) hP hS hf
def f_Wr_earliestAlike (σ : pv_S) (x1 : Int32) : Option (Int32 × pv_S) := f_Wr_earliestAlike_0 σ x1
def rm_Wr_earliestAlike : Room := { frames := 2, cells := 0, slots := 0, locals := 50 }
theorem c_Wr_earliestAlike {l : Launch} {D : va_G} {q : Nat → ClassId} {a t : Nat → Nat} {A : Nat → Prop} (hD : pv_D 52 a A) (hmv : pv_mv A (pv_ZX t A)) {σ : pv_S} {x1 : Int32} {out : (Int32 × pv_S)} (hf : f_Wr_earliestAlike σ x1 = some out) : pv_Mi l y_Wr_earliestAlike (Cond.code y_Wr_earliestAlike prog_7_method_12_code 5 (some .int) :: pv_TB) rm_Wr_earliestAlike D pv_cl (pv_ty q) 52 a (pv_FX q a) A (pv_ZX t A) [.ref (a 12), .int x1] σ out :=
  pv_ofI (by decide) (Nat.le_of_ble_eq_true rfl) hD (fun p e s m args below meth c Q ls C hret hl hP => s_Wr_earliestAlike_0 C hmv (Nat.le_refl _) (Nat.le_refl _) hret hl hP va_S.rf hf)
theorem d_Wr_findStand_0 : decode prog_7_method_10_code 0 = .ok (.aload_n 0, 1) := by decide +kernel
theorem d_Wr_findStand_1 : decode prog_7_method_10_code 1 = .ok (.getfield 25, 3) := by decide +kernel
theorem d_Wr_findStand_4 : decode prog_7_method_10_code 4 = .ok (.iload_n 1, 1) := by decide +kernel
theorem d_Wr_findStand_5 : decode prog_7_method_10_code 5 = .ok (.iaload, 1) := by decide +kernel
theorem d_Wr_findStand_6 : decode prog_7_method_10_code 6 = .ok (.istore_n 2, 1) := by decide +kernel
theorem d_Wr_findStand_7 : decode prog_7_method_10_code 7 = .ok (.aload_n 0, 1) := by decide +kernel
theorem d_Wr_findStand_8 : decode prog_7_method_10_code 8 = .ok (.getfield 11, 3) := by decide +kernel
theorem d_Wr_findStand_11 : decode prog_7_method_10_code 11 = .ok (.iload_n 2, 1) := by decide +kernel
theorem d_Wr_findStand_12 : decode prog_7_method_10_code 12 = .ok (.iaload, 1) := by decide +kernel
theorem d_Wr_findStand_13 : decode prog_7_method_10_code 13 = .ok (.invokestatic 85, 3) := by decide +kernel
theorem d_Wr_findStand_16 : decode prog_7_method_10_code 16 = .ok (.ifCond .eq 62, 3) := by decide +kernel
theorem d_Wr_findStand_19 : decode prog_7_method_10_code 19 = .ok (.aload_n 0, 1) := by decide +kernel
theorem d_Wr_findStand_20 : decode prog_7_method_10_code 20 = .ok (.iload_n 2, 1) := by decide +kernel
theorem d_Wr_findStand_21 : decode prog_7_method_10_code 21 = .ok (.invokevirtual 89, 3) := by decide +kernel
theorem d_Wr_findStand_24 : decode prog_7_method_10_code 24 = .ok (.ifCond .eq 54, 3) := by decide +kernel
theorem d_Wr_findStand_27 : decode prog_7_method_10_code 27 = .ok (.iconst 4, 1) := by decide +kernel
theorem d_Wr_findStand_28 : decode prog_7_method_10_code 28 = .ok (.iload_n 2, 1) := by decide +kernel
theorem d_Wr_findStand_29 : decode prog_7_method_10_code 29 = .ok (.imul, 1) := by decide +kernel
theorem d_Wr_findStand_30 : decode prog_7_method_10_code 30 = .ok (.istore_n 3, 1) := by decide +kernel
theorem d_Wr_findStand_31 : decode prog_7_method_10_code 31 = .ok (.aload_n 0, 1) := by decide +kernel
theorem d_Wr_findStand_32 : decode prog_7_method_10_code 32 = .ok (.getfield 32, 3) := by decide +kernel
theorem d_Wr_findStand_35 : decode prog_7_method_10_code 35 = .ok (.iload_n 2, 1) := by decide +kernel
theorem d_Wr_findStand_36 : decode prog_7_method_10_code 36 = .ok (.iconst (-1), 1) := by decide +kernel
theorem d_Wr_findStand_37 : decode prog_7_method_10_code 37 = .ok (.iastore, 1) := by decide +kernel
theorem d_Wr_findStand_38 : decode prog_7_method_10_code 38 = .ok (.aload_n 0, 1) := by decide +kernel
theorem d_Wr_findStand_39 : decode prog_7_method_10_code 39 = .ok (.getfield 35, 3) := by decide +kernel
theorem d_Wr_findStand_42 : decode prog_7_method_10_code 42 = .ok (.iload_n 2, 1) := by decide +kernel
theorem d_Wr_findStand_43 : decode prog_7_method_10_code 43 = .ok (.aload_n 0, 1) := by decide +kernel
theorem d_Wr_findStand_44 : decode prog_7_method_10_code 44 = .ok (.getfield 11, 3) := by decide +kernel
theorem d_Wr_findStand_47 : decode prog_7_method_10_code 47 = .ok (.iload_n 2, 1) := by decide +kernel
theorem d_Wr_findStand_48 : decode prog_7_method_10_code 48 = .ok (.iaload, 1) := by decide +kernel
theorem d_Wr_findStand_49 : decode prog_7_method_10_code 49 = .ok (.aload_n 0, 1) := by decide +kernel
theorem d_Wr_findStand_50 : decode prog_7_method_10_code 50 = .ok (.getfield 22, 3) := by decide +kernel
theorem d_Wr_findStand_53 : decode prog_7_method_10_code 53 = .ok (.iload_n 3, 1) := by decide +kernel
theorem d_Wr_findStand_54 : decode prog_7_method_10_code 54 = .ok (.iaload, 1) := by decide +kernel
theorem d_Wr_findStand_55 : decode prog_7_method_10_code 55 = .ok (.aload_n 0, 1) := by decide +kernel
theorem d_Wr_findStand_56 : decode prog_7_method_10_code 56 = .ok (.getfield 22, 3) := by decide +kernel
theorem d_Wr_findStand_59 : decode prog_7_method_10_code 59 = .ok (.iload_n 3, 1) := by decide +kernel
theorem d_Wr_findStand_60 : decode prog_7_method_10_code 60 = .ok (.iconst 1, 1) := by decide +kernel
theorem d_Wr_findStand_61 : decode prog_7_method_10_code 61 = .ok (.iadd, 1) := by decide +kernel
theorem d_Wr_findStand_62 : decode prog_7_method_10_code 62 = .ok (.iaload, 1) := by decide +kernel
theorem d_Wr_findStand_63 : decode prog_7_method_10_code 63 = .ok (.aload_n 0, 1) := by decide +kernel
theorem d_Wr_findStand_64 : decode prog_7_method_10_code 64 = .ok (.getfield 22, 3) := by decide +kernel
theorem d_Wr_findStand_67 : decode prog_7_method_10_code 67 = .ok (.iload_n 3, 1) := by decide +kernel
theorem d_Wr_findStand_68 : decode prog_7_method_10_code 68 = .ok (.iconst 2, 1) := by decide +kernel
theorem d_Wr_findStand_69 : decode prog_7_method_10_code 69 = .ok (.iadd, 1) := by decide +kernel
theorem d_Wr_findStand_70 : decode prog_7_method_10_code 70 = .ok (.iaload, 1) := by decide +kernel
theorem d_Wr_findStand_71 : decode prog_7_method_10_code 71 = .ok (.invokestatic 92, 3) := by decide +kernel
theorem d_Wr_findStand_74 : decode prog_7_method_10_code 74 = .ok (.iastore, 1) := by decide +kernel
theorem d_Wr_findStand_75 : decode prog_7_method_10_code 75 = .ok (.goto 26, 3) := by decide +kernel
theorem d_Wr_findStand_78 : decode prog_7_method_10_code 78 = .ok (.aload_n 0, 1) := by decide +kernel
theorem d_Wr_findStand_79 : decode prog_7_method_10_code 79 = .ok (.getfield 11, 3) := by decide +kernel
theorem d_Wr_findStand_82 : decode prog_7_method_10_code 82 = .ok (.iload_n 2, 1) := by decide +kernel
theorem d_Wr_findStand_83 : decode prog_7_method_10_code 83 = .ok (.iaload, 1) := by decide +kernel
theorem d_Wr_findStand_84 : decode prog_7_method_10_code 84 = .ok (.invokestatic 96, 3) := by decide +kernel
theorem d_Wr_findStand_87 : decode prog_7_method_10_code 87 = .ok (.ifCond .ne 14, 3) := by decide +kernel
theorem d_Wr_findStand_90 : decode prog_7_method_10_code 90 = .ok (.aload_n 0, 1) := by decide +kernel
theorem d_Wr_findStand_91 : decode prog_7_method_10_code 91 = .ok (.getfield 32, 3) := by decide +kernel
theorem d_Wr_findStand_94 : decode prog_7_method_10_code 94 = .ok (.iload_n 2, 1) := by decide +kernel
theorem d_Wr_findStand_95 : decode prog_7_method_10_code 95 = .ok (.aload_n 0, 1) := by decide +kernel
theorem d_Wr_findStand_96 : decode prog_7_method_10_code 96 = .ok (.iload_n 1, 1) := by decide +kernel
theorem d_Wr_findStand_97 : decode prog_7_method_10_code 97 = .ok (.invokevirtual 99, 3) := by decide +kernel
theorem d_Wr_findStand_100 : decode prog_7_method_10_code 100 = .ok (.iastore, 1) := by decide +kernel
theorem d_Wr_findStand_101 : decode prog_7_method_10_code 101 = .ok (.return_, 1) := by decide +kernel
def f_Wr_findStand_78 (σ : pv_S) (x1 : Int32) (x2 : Int32) : Option pv_S :=
  (if pv_in x2 24 = true then
((f_Kd_hasMemory σ (σ.1 13 (x2).toNatClampNeg)).bind fun q4 =>
(if q4.1 = 0 then
  ((f_Wr_earliestAlike q4.2 x1).bind fun q5 =>
(if pv_in x2 24 = true then
some (pv_uI q5.2 18 (x2).toNatClampNeg q5.1)
  else none))
  else
  some q4.2))
  else none)
set_option maxHeartbeats 4000000 in
set_option maxRecDepth 100000 in
theorem s_Wr_findStand_78 {p : Program} {l : Launch} {e : Env} {R : Room} {s : State} {m : MethodId} {args : Array Value} {below : List Frame} {meth : Method} {c : Code} {Q : State → Prop} {D : va_G} {q : Nat → ClassId} {a t : Nat → Nat} {A : Nat → Prop} (C : pv_C p s m args c prog_7_method_10_code 4 "PatchVoices$Wiring" pv_TB D pv_cl (pv_ty q) 52 a A (pv_ZX t A)) (hmv : pv_mv A (pv_ZX t A)) (hRf : 3 ≤ R.frames) (hRl : 74 ≤ R.locals) {out : pv_S} (hret : pv_Rv p l e R s m args below meth c prog_7_method_10_code D pv_cl 52 a (pv_FX q a) A Q out) {σ : pv_S} {x1 : Int32} {x2 : Int32} {H : Heap} {locs : List Loc} {ls : Array Slot} (hl : lv_has ls 4 [(0, .ref (a 12)), (1, .int x1), (2, .int x2)]) (hP : pv_W D pv_cl 52 a (pv_FX q a) σ H) (hS : va_S A s.heap H locs) (hf : f_Wr_findStand_78 σ x1 x2 = some out) : W p l e R s m args below meth c H locs 0 0 Q (F0 m 78 ls []) := by
  unfold f_Wr_findStand_78 at hf
  have hx := C.1
  have hb := C.2.1
  refine lv_aload_n hx hb d_Wr_findStand_78 rfl (lv_at hl 0 rfl) ?_
  refine pv_get C hP (v := .ref (a 13)) (j := 1) (by decide) (fx_12 _ _ _ _) fl_Wr_11 rfl d_Wr_findStand_79 ?_
  refine lv_iload_n hx hb d_Wr_findStand_82 rfl (lv_at hl 2 rfl) ?_
  obtain ⟨hg, hf⟩ := pv_g hf
  refine pv_iald C hP (t0 := 0) (by decide) (fx_13 _ _ _ _) rfl hg d_Wr_findStand_83 ?_
  obtain ⟨q4, hc, hf⟩ := pv_b hf
  refine pv_callSi C hmv pv_good hP hS (As := [.int (σ.1 13 (x2).toNatClampNeg)]) (rest := []) (c_Kd_hasMemory C.2.2.2.2.2.2.1 hmv hc) cs_Wr_96 ⟨rfl, rfl, Nat.le_trans (Nat.le_of_ble_eq_true rfl) hRf, Nat.le_trans (Nat.le_of_ble_eq_true rfl) hRl⟩ rfl hl.1 rfl (Nat.le_of_ble_eq_true rfl) d_Wr_findStand_84 ⟨Nat.zero_le _, Nat.zero_le _⟩ (fun H locs hP hS => ?_)
  refine lv_if_ne (tgt := 101) hx hb d_Wr_findStand_87 (by decide) (fun h => ?_) (fun h => ?_)
  · have hf := pv_f hf h
    obtain rfl := Option.some.inj hf
    exact hret _ _ _ _ d_Wr_findStand_101 hP hS
  · have hf := pv_t hf h
    refine lv_aload_n hx hb d_Wr_findStand_90 rfl (lv_at hl 0 rfl) ?_
    refine pv_get C hP (v := .ref (a 18)) (j := 6) (by decide) (fx_12 _ _ _ _) fl_Wr_32 rfl d_Wr_findStand_91 ?_
    refine lv_iload_n hx hb d_Wr_findStand_94 rfl (lv_at hl 2 rfl) ?_
    refine lv_aload_n hx hb d_Wr_findStand_95 rfl (lv_at hl 0 rfl) ?_
    refine lv_iload_n hx hb d_Wr_findStand_96 rfl (lv_at hl 1 rfl) ?_
    obtain ⟨q5, hc, hf⟩ := pv_b hf
    refine pv_callVi C hmv pv_good hP hS (As := [.int x1]) (rest := [.int x2, .ref (a 18)]) (by decide) (fx_12 _ _ _ _) rfl (c_Wr_earliestAlike C.2.2.2.2.2.2.1 hmv hc) cv_Wr_99 ⟨rfl, rfl, Nat.le_trans (Nat.le_of_ble_eq_true rfl) hRf, Nat.le_trans (Nat.le_of_ble_eq_true rfl) hRl⟩ rfl hl.1 rfl (Nat.le_of_ble_eq_true rfl) d_Wr_findStand_97 ⟨Nat.zero_le _, Nat.zero_le _⟩ (fun H locs hP hS => ?_)
    obtain ⟨hg, hf⟩ := pv_g hf
    refine pv_iast C hP hS (t0 := 0) (x := q5.1) (by decide) (fun f g => (fx_18 _ _ f g)) rfl hg d_Wr_findStand_100 (fun H locs hP hS => ?_)
    obtain rfl := Option.some.inj hf
    exact hret _ _ _ _ d_Wr_findStand_101 hP hS
def f_Wr_findStand_0 (σ : pv_S) (x1 : Int32) : Option pv_S :=
  (if pv_in x1 24 = true then
(if pv_in (σ.1 16 (x1).toNatClampNeg) 24 = true then
((f_Kd_isPlain σ (σ.1 13 ((σ.1 16 (x1).toNatClampNeg)).toNatClampNeg)).bind fun q1 =>
(if q1.1 = 0 then
  f_Wr_findStand_78 q1.2 x1 (σ.1 16 (x1).toNatClampNeg)
  else
  ((f_Wr_hasNumbersAlone q1.2 (σ.1 16 (x1).toNatClampNeg)).bind fun q2 =>
(if q2.1 = 0 then
  f_Wr_findStand_78 q2.2 x1 (σ.1 16 (x1).toNatClampNeg)
  else
  (if pv_in (σ.1 16 (x1).toNatClampNeg) 24 = true then
(if pv_in (σ.1 16 (x1).toNatClampNeg) 24 = true then
(if pv_in ((4 : Int32) * (σ.1 16 (x1).toNatClampNeg)) 96 = true then
(if pv_in (((4 : Int32) * (σ.1 16 (x1).toNatClampNeg)) + (1 : Int32)) 96 = true then
(if pv_in (((4 : Int32) * (σ.1 16 (x1).toNatClampNeg)) + (2 : Int32)) 96 = true then
((f_Kd_plainValue (pv_uI q2.2 18 ((σ.1 16 (x1).toNatClampNeg)).toNatClampNeg (-1 : Int32)) ((pv_uI q2.2 18 ((σ.1 16 (x1).toNatClampNeg)).toNatClampNeg (-1 : Int32)).1 13 ((σ.1 16 (x1).toNatClampNeg)).toNatClampNeg) ((pv_uI q2.2 18 ((σ.1 16 (x1).toNatClampNeg)).toNatClampNeg (-1 : Int32)).1 15 (((4 : Int32) * (σ.1 16 (x1).toNatClampNeg))).toNatClampNeg) ((pv_uI q2.2 18 ((σ.1 16 (x1).toNatClampNeg)).toNatClampNeg (-1 : Int32)).1 15 ((((4 : Int32) * (σ.1 16 (x1).toNatClampNeg)) + (1 : Int32))).toNatClampNeg) ((pv_uI q2.2 18 ((σ.1 16 (x1).toNatClampNeg)).toNatClampNeg (-1 : Int32)).1 15 ((((4 : Int32) * (σ.1 16 (x1).toNatClampNeg)) + (2 : Int32))).toNatClampNeg)).bind fun q3 =>
(if pv_in (σ.1 16 (x1).toNatClampNeg) 24 = true then
some (pv_uI q3.2 19 ((σ.1 16 (x1).toNatClampNeg)).toNatClampNeg q3.1)
  else none))
  else none)
  else none)
  else none)
  else none)
  else none)))))
  else none)
  else none)
set_option maxHeartbeats 4000000 in
set_option maxRecDepth 100000 in
theorem s_Wr_findStand_0 {p : Program} {l : Launch} {e : Env} {R : Room} {s : State} {m : MethodId} {args : Array Value} {below : List Frame} {meth : Method} {c : Code} {Q : State → Prop} {D : va_G} {q : Nat → ClassId} {a t : Nat → Nat} {A : Nat → Prop} (C : pv_C p s m args c prog_7_method_10_code 4 "PatchVoices$Wiring" pv_TB D pv_cl (pv_ty q) 52 a A (pv_ZX t A)) (hmv : pv_mv A (pv_ZX t A)) (hRf : 3 ≤ R.frames) (hRl : 74 ≤ R.locals) {out : pv_S} (hret : pv_Rv p l e R s m args below meth c prog_7_method_10_code D pv_cl 52 a (pv_FX q a) A Q out) {σ : pv_S} {x1 : Int32} {H : Heap} {locs : List Loc} {ls : Array Slot} (hl : lv_has ls 4 [(0, .ref (a 12)), (1, .int x1)]) (hP : pv_W D pv_cl 52 a (pv_FX q a) σ H) (hS : va_S A s.heap H locs) (hf : f_Wr_findStand_0 σ x1 = some out) : W p l e R s m args below meth c H locs 0 0 Q (F0 m 0 ls []) := by
  unfold f_Wr_findStand_0 at hf
  have hx := C.1
  have hb := C.2.1
  refine lv_aload_n hx hb d_Wr_findStand_0 rfl (lv_at hl 0 rfl) ?_
  refine pv_get C hP (v := .ref (a 16)) (j := 4) (by decide) (fx_12 _ _ _ _) fl_Wr_25 rfl d_Wr_findStand_1 ?_
  refine lv_iload_n hx hb d_Wr_findStand_4 rfl (lv_at hl 1 rfl) ?_
  obtain ⟨hg, hf⟩ := pv_g hf
  refine pv_iald C hP (t0 := 0) (by decide) (fx_16 _ _ _ _) rfl hg d_Wr_findStand_5 ?_
  refine lv_istore_n (lv' := [(2, .int (σ.1 16 (x1).toNatClampNeg)), (0, .ref (a 12)), (1, .int x1)]) hx hb d_Wr_findStand_6 rfl hl (by decide) rfl (fun ls hl => ?_)
  refine lv_aload_n hx hb d_Wr_findStand_7 rfl (lv_at hl 1 rfl) ?_
  refine pv_get C hP (v := .ref (a 13)) (j := 1) (by decide) (fx_12 _ _ _ _) fl_Wr_11 rfl d_Wr_findStand_8 ?_
  refine lv_iload_n hx hb d_Wr_findStand_11 rfl (lv_at hl 0 rfl) ?_
  obtain ⟨hg, hf⟩ := pv_g hf
  refine pv_iald C hP (t0 := 0) (by decide) (fx_13 _ _ _ _) rfl hg d_Wr_findStand_12 ?_
  obtain ⟨q1, hc, hf⟩ := pv_b hf
  refine pv_callSi C hmv pv_good hP hS (As := [.int (σ.1 13 ((σ.1 16 (x1).toNatClampNeg)).toNatClampNeg)]) (rest := []) (c_Kd_isPlain C.2.2.2.2.2.2.1 hmv hc) cs_Wr_85 ⟨rfl, rfl, Nat.le_trans (Nat.le_of_ble_eq_true rfl) hRf, Nat.le_trans (Nat.le_of_ble_eq_true rfl) hRl⟩ rfl hl.1 rfl (Nat.le_of_ble_eq_true rfl) d_Wr_findStand_13 ⟨Nat.zero_le _, Nat.zero_le _⟩ (fun H locs hP hS => ?_)
  refine lv_if_eq (tgt := 78) hx hb d_Wr_findStand_16 (by decide) (fun h => ?_) (fun h => ?_)
  · have hf := pv_t hf h
    exact s_Wr_findStand_78 C hmv hRf hRl hret (lv_sub hl [1, 2, 0] rfl) hP hS hf
  · have hf := pv_f hf h
    refine lv_aload_n hx hb d_Wr_findStand_19 rfl (lv_at hl 1 rfl) ?_
    refine lv_iload_n hx hb d_Wr_findStand_20 rfl (lv_at hl 0 rfl) ?_
    obtain ⟨q2, hc, hf⟩ := pv_b hf
    refine pv_callVi C hmv pv_good hP hS (As := [.int (σ.1 16 (x1).toNatClampNeg)]) (rest := []) (by decide) (fx_12 _ _ _ _) rfl (c_Wr_hasNumbersAlone C.2.2.2.2.2.2.1 hmv hc) cv_Wr_89 ⟨rfl, rfl, Nat.le_trans (Nat.le_of_ble_eq_true rfl) hRf, Nat.le_trans (Nat.le_of_ble_eq_true rfl) hRl⟩ rfl hl.1 rfl (Nat.le_of_ble_eq_true rfl) d_Wr_findStand_21 ⟨Nat.zero_le _, Nat.zero_le _⟩ (fun H locs hP hS => ?_)
    refine lv_if_eq (tgt := 78) hx hb d_Wr_findStand_24 (by decide) (fun h => ?_) (fun h => ?_)
    · have hf := pv_t hf h
      exact s_Wr_findStand_78 C hmv hRf hRl hret (lv_sub hl [1, 2, 0] rfl) hP hS hf
    · have hf := pv_f hf h
      refine lv_iconst (v := (4 : Int32)) hx hb d_Wr_findStand_27 (by decide) ?_
      refine lv_iload_n hx hb d_Wr_findStand_28 rfl (lv_at hl 0 rfl) ?_
      refine lv_imul hx hb d_Wr_findStand_29 ?_
      refine lv_istore_n (lv' := [(3, .int ((4 : Int32) * (σ.1 16 (x1).toNatClampNeg))), (2, .int (σ.1 16 (x1).toNatClampNeg)), (0, .ref (a 12)), (1, .int x1)]) hx hb d_Wr_findStand_30 rfl hl (by decide) rfl (fun ls hl => ?_)
      refine lv_aload_n hx hb d_Wr_findStand_31 rfl (lv_at hl 2 rfl) ?_
      refine pv_get C hP (v := .ref (a 18)) (j := 6) (by decide) (fx_12 _ _ _ _) fl_Wr_32 rfl d_Wr_findStand_32 ?_
      refine lv_iload_n hx hb d_Wr_findStand_35 rfl (lv_at hl 1 rfl) ?_
      refine lv_iconst (v := (-1 : Int32)) hx hb d_Wr_findStand_36 (by decide) ?_
      obtain ⟨hg, hf⟩ := pv_g hf
      refine pv_iast C hP hS (t0 := 0) (x := (-1 : Int32)) (by decide) (fun f g => (fx_18 _ _ f g)) rfl hg d_Wr_findStand_37 (fun H locs hP hS => ?_)
      refine lv_aload_n hx hb d_Wr_findStand_38 rfl (lv_at hl 2 rfl) ?_
      refine pv_get C hP (v := .ref (a 19)) (j := 7) (by decide) (fx_12 _ _ _ _) fl_Wr_35 rfl d_Wr_findStand_39 ?_
      refine lv_iload_n hx hb d_Wr_findStand_42 rfl (lv_at hl 1 rfl) ?_
      refine lv_aload_n hx hb d_Wr_findStand_43 rfl (lv_at hl 2 rfl) ?_
      refine pv_get C hP (v := .ref (a 13)) (j := 1) (by decide) (fx_12 _ _ _ _) fl_Wr_11 rfl d_Wr_findStand_44 ?_
      refine lv_iload_n hx hb d_Wr_findStand_47 rfl (lv_at hl 1 rfl) ?_
      obtain ⟨hg, hf⟩ := pv_g hf
      refine pv_iald C hP (t0 := 0) (by decide) (fx_13 _ _ _ _) rfl hg d_Wr_findStand_48 ?_
      refine lv_aload_n hx hb d_Wr_findStand_49 rfl (lv_at hl 2 rfl) ?_
      refine pv_get C hP (v := .ref (a 15)) (j := 3) (by decide) (fx_12 _ _ _ _) fl_Wr_22 rfl d_Wr_findStand_50 ?_
      refine lv_iload_n hx hb d_Wr_findStand_53 rfl (lv_at hl 0 rfl) ?_
      obtain ⟨hg, hf⟩ := pv_g hf
      refine pv_iald C hP (t0 := 0) (by decide) (fx_15 _ _ _ _) rfl hg d_Wr_findStand_54 ?_
      refine lv_aload_n hx hb d_Wr_findStand_55 rfl (lv_at hl 2 rfl) ?_
      refine pv_get C hP (v := .ref (a 15)) (j := 3) (by decide) (fx_12 _ _ _ _) fl_Wr_22 rfl d_Wr_findStand_56 ?_
      refine lv_iload_n hx hb d_Wr_findStand_59 rfl (lv_at hl 0 rfl) ?_
      refine lv_iconst (v := (1 : Int32)) hx hb d_Wr_findStand_60 (by decide) ?_
      refine lv_iadd hx hb d_Wr_findStand_61 ?_
      obtain ⟨hg, hf⟩ := pv_g hf
      refine pv_iald C hP (t0 := 0) (by decide) (fx_15 _ _ _ _) rfl hg d_Wr_findStand_62 ?_
      refine lv_aload_n hx hb d_Wr_findStand_63 rfl (lv_at hl 2 rfl) ?_
      refine pv_get C hP (v := .ref (a 15)) (j := 3) (by decide) (fx_12 _ _ _ _) fl_Wr_22 rfl d_Wr_findStand_64 ?_
      refine lv_iload_n hx hb d_Wr_findStand_67 rfl (lv_at hl 0 rfl) ?_
      refine lv_iconst (v := (2 : Int32)) hx hb d_Wr_findStand_68 (by decide) ?_
      refine lv_iadd hx hb d_Wr_findStand_69 ?_
      obtain ⟨hg, hf⟩ := pv_g hf
      refine pv_iald C hP (t0 := 0) (by decide) (fx_15 _ _ _ _) rfl hg d_Wr_findStand_70 ?_
      obtain ⟨q3, hc, hf⟩ := pv_b hf
      refine pv_callSi C hmv pv_good hP hS (As := [.int ((pv_uI q2.2 18 ((σ.1 16 (x1).toNatClampNeg)).toNatClampNeg (-1 : Int32)).1 13 ((σ.1 16 (x1).toNatClampNeg)).toNatClampNeg), .int ((pv_uI q2.2 18 ((σ.1 16 (x1).toNatClampNeg)).toNatClampNeg (-1 : Int32)).1 15 (((4 : Int32) * (σ.1 16 (x1).toNatClampNeg))).toNatClampNeg), .int ((pv_uI q2.2 18 ((σ.1 16 (x1).toNatClampNeg)).toNatClampNeg (-1 : Int32)).1 15 ((((4 : Int32) * (σ.1 16 (x1).toNatClampNeg)) + (1 : Int32))).toNatClampNeg), .int ((pv_uI q2.2 18 ((σ.1 16 (x1).toNatClampNeg)).toNatClampNeg (-1 : Int32)).1 15 ((((4 : Int32) * (σ.1 16 (x1).toNatClampNeg)) + (2 : Int32))).toNatClampNeg)]) (rest := [.int (σ.1 16 (x1).toNatClampNeg), .ref (a 19)]) (c_Kd_plainValue C.2.2.2.2.2.2.1 hmv hc) cs_Wr_92 ⟨rfl, rfl, Nat.le_trans (Nat.le_of_ble_eq_true rfl) hRf, Nat.le_trans (Nat.le_of_ble_eq_true rfl) hRl⟩ rfl hl.1 rfl (Nat.le_of_ble_eq_true rfl) d_Wr_findStand_71 ⟨Nat.zero_le _, Nat.zero_le _⟩ (fun H locs hP hS => ?_)
      obtain ⟨hg, hf⟩ := pv_g hf
      refine pv_iast C hP hS (t0 := 0) (x := q3.1) (by decide) (fun f g => (fx_19 _ _ f g)) rfl hg d_Wr_findStand_74 (fun H locs hP hS => ?_)
      refine lv_goto (tgt := 101) hx hb d_Wr_findStand_75 (by decide) ?_
      obtain rfl := Option.some.inj hf
      exact hret _ _ _ _ d_Wr_findStand_101 hP hS
def f_Wr_findStand (σ : pv_S) (x1 : Int32) : Option pv_S := f_Wr_findStand_0 σ x1
def rm_Wr_findStand : Room := { frames := 3, cells := 0, slots := 0, locals := 74 }
theorem c_Wr_findStand {l : Launch} {D : va_G} {q : Nat → ClassId} {a t : Nat → Nat} {A : Nat → Prop} (hD : pv_D 52 a A) (hmv : pv_mv A (pv_ZX t A)) {σ : pv_S} {x1 : Int32} {out : pv_S} (hf : f_Wr_findStand σ x1 = some out) : pv_Mv l y_Wr_findStand (Cond.code y_Wr_findStand prog_7_method_10_code 4 none :: pv_TB) rm_Wr_findStand D pv_cl (pv_ty q) 52 a (pv_FX q a) A (pv_ZX t A) [.ref (a 12), .int x1] σ out :=
  pv_ofV (by decide) (Nat.le_of_ble_eq_true rfl) hD (fun p e s m args below meth c Q ls C hret hl hP => s_Wr_findStand_0 C hmv (Nat.le_refl _) (Nat.le_refl _) hret hl hP va_S.rf hf)
theorem d_Wr_findStands_0 : decode prog_7_method_8_code 0 = .ok (.iconst 0, 1) := by decide +kernel
theorem d_Wr_findStands_1 : decode prog_7_method_8_code 1 = .ok (.istore_n 1, 1) := by decide +kernel
theorem d_Wr_findStands_2 : decode prog_7_method_8_code 2 = .ok (.iload_n 1, 1) := by decide +kernel
theorem d_Wr_findStands_3 : decode prog_7_method_8_code 3 = .ok (.aload_n 0, 1) := by decide +kernel
theorem d_Wr_findStands_4 : decode prog_7_method_8_code 4 = .ok (.getfield 48, 3) := by decide +kernel
theorem d_Wr_findStands_7 : decode prog_7_method_8_code 7 = .ok (.if_icmp .ge 37, 3) := by decide +kernel
theorem d_Wr_findStands_10 : decode prog_7_method_8_code 10 = .ok (.aload_n 0, 1) := by decide +kernel
theorem d_Wr_findStands_11 : decode prog_7_method_8_code 11 = .ok (.getfield 25, 3) := by decide +kernel
theorem d_Wr_findStands_14 : decode prog_7_method_8_code 14 = .ok (.iload_n 1, 1) := by decide +kernel
theorem d_Wr_findStands_15 : decode prog_7_method_8_code 15 = .ok (.iaload, 1) := by decide +kernel
theorem d_Wr_findStands_16 : decode prog_7_method_8_code 16 = .ok (.istore_n 2, 1) := by decide +kernel
theorem d_Wr_findStands_17 : decode prog_7_method_8_code 17 = .ok (.aload_n 0, 1) := by decide +kernel
theorem d_Wr_findStands_18 : decode prog_7_method_8_code 18 = .ok (.getfield 11, 3) := by decide +kernel
theorem d_Wr_findStands_21 : decode prog_7_method_8_code 21 = .ok (.iload_n 2, 1) := by decide +kernel
theorem d_Wr_findStands_22 : decode prog_7_method_8_code 22 = .ok (.iaload, 1) := by decide +kernel
theorem d_Wr_findStands_23 : decode prog_7_method_8_code 23 = .ok (.bipush 18, 2) := by decide +kernel
theorem d_Wr_findStands_25 : decode prog_7_method_8_code 25 = .ok (.if_icmp .eq 13, 3) := by decide +kernel
theorem d_Wr_findStands_28 : decode prog_7_method_8_code 28 = .ok (.aload_n 0, 1) := by decide +kernel
theorem d_Wr_findStands_29 : decode prog_7_method_8_code 29 = .ok (.iload_n 2, 1) := by decide +kernel
theorem d_Wr_findStands_30 : decode prog_7_method_8_code 30 = .ok (.invokevirtual 78, 3) := by decide +kernel
theorem d_Wr_findStands_33 : decode prog_7_method_8_code 33 = .ok (.aload_n 0, 1) := by decide +kernel
theorem d_Wr_findStands_34 : decode prog_7_method_8_code 34 = .ok (.iload_n 1, 1) := by decide +kernel
theorem d_Wr_findStands_35 : decode prog_7_method_8_code 35 = .ok (.invokevirtual 82, 3) := by decide +kernel
theorem d_Wr_findStands_38 : decode prog_7_method_8_code 38 = .ok (.iinc 1 1, 3) := by decide +kernel
theorem d_Wr_findStands_41 : decode prog_7_method_8_code 41 = .ok (.goto (-39), 3) := by decide +kernel
theorem d_Wr_findStands_44 : decode prog_7_method_8_code 44 = .ok (.iconst 0, 1) := by decide +kernel
theorem d_Wr_findStands_45 : decode prog_7_method_8_code 45 = .ok (.istore_n 1, 1) := by decide +kernel
theorem d_Wr_findStands_46 : decode prog_7_method_8_code 46 = .ok (.iload_n 1, 1) := by decide +kernel
theorem d_Wr_findStands_47 : decode prog_7_method_8_code 47 = .ok (.aload_n 0, 1) := by decide +kernel
theorem d_Wr_findStands_48 : decode prog_7_method_8_code 48 = .ok (.getfield 48, 3) := by decide +kernel
theorem d_Wr_findStands_51 : decode prog_7_method_8_code 51 = .ok (.if_icmp .ge 25, 3) := by decide +kernel
theorem d_Wr_findStands_54 : decode prog_7_method_8_code 54 = .ok (.aload_n 0, 1) := by decide +kernel
theorem d_Wr_findStands_55 : decode prog_7_method_8_code 55 = .ok (.getfield 11, 3) := by decide +kernel
theorem d_Wr_findStands_58 : decode prog_7_method_8_code 58 = .ok (.iload_n 1, 1) := by decide +kernel
theorem d_Wr_findStands_59 : decode prog_7_method_8_code 59 = .ok (.iaload, 1) := by decide +kernel
theorem d_Wr_findStands_60 : decode prog_7_method_8_code 60 = .ok (.bipush 18, 2) := by decide +kernel
theorem d_Wr_findStands_62 : decode prog_7_method_8_code 62 = .ok (.if_icmp .ne 8, 3) := by decide +kernel
theorem d_Wr_findStands_65 : decode prog_7_method_8_code 65 = .ok (.aload_n 0, 1) := by decide +kernel
theorem d_Wr_findStands_66 : decode prog_7_method_8_code 66 = .ok (.iload_n 1, 1) := by decide +kernel
theorem d_Wr_findStands_67 : decode prog_7_method_8_code 67 = .ok (.invokevirtual 78, 3) := by decide +kernel
theorem d_Wr_findStands_70 : decode prog_7_method_8_code 70 = .ok (.iinc 1 1, 3) := by decide +kernel
theorem d_Wr_findStands_73 : decode prog_7_method_8_code 73 = .ok (.goto (-27), 3) := by decide +kernel
theorem d_Wr_findStands_76 : decode prog_7_method_8_code 76 = .ok (.return_, 1) := by decide +kernel
def f_Wr_findStands_70 (k_46 : pv_S → Int32 → Option pv_S) (σ : pv_S) (x1 : Int32) : Option pv_S :=
  k_46 σ (x1 + (1 : Int32))
set_option maxHeartbeats 4000000 in
set_option maxRecDepth 100000 in
theorem s_Wr_findStands_70 {p : Program} {l : Launch} {e : Env} {R : Room} {s : State} {m : MethodId} {args : Array Value} {below : List Frame} {meth : Method} {c : Code} {Q : State → Prop} {D : va_G} {q : Nat → ClassId} {a t : Nat → Nat} {A : Nat → Prop} (C : pv_C p s m args c prog_7_method_8_code 3 "PatchVoices$Wiring" pv_TB D pv_cl (pv_ty q) 52 a A (pv_ZX t A)) (hmv : pv_mv A (pv_ZX t A)) (hRf : 4 ≤ R.frames) (hRl : 97 ≤ R.locals) {out : pv_S} (hret : pv_Rv p l e R s m args below meth c prog_7_method_8_code D pv_cl 52 a (pv_FX q a) A Q out) {k_46 : pv_S → Int32 → Option pv_S} (hk_46 : ∀ (σ : pv_S) (x1 : Int32) (H : Heap) (locs : List Loc) (ls : Array Slot), k_46 σ x1 = some out → lv_has ls 3 [(0, .ref (a 12)), (1, .int x1)] → pv_W D pv_cl 52 a (pv_FX q a) σ H → va_S A s.heap H locs → W p l e R s m args below meth c H locs 0 0 Q (F0 m 46 ls [])) {σ : pv_S} {x1 : Int32} {H : Heap} {locs : List Loc} {ls : Array Slot} (hl : lv_has ls 3 [(0, .ref (a 12)), (1, .int x1)]) (hP : pv_W D pv_cl 52 a (pv_FX q a) σ H) (hS : va_S A s.heap H locs) (hf : f_Wr_findStands_70 k_46 σ x1 = some out) : W p l e R s m args below meth c H locs 0 0 Q (F0 m 70 ls []) := by
  unfold f_Wr_findStands_70 at hf
  have hx := C.1
  have hb := C.2.1
  refine lv_iinc (k := 1) (v := (x1 + (1 : Int32))) (lv' := [(1, .int (x1 + (1 : Int32))), (0, .ref (a 12))]) hx hb d_Wr_findStands_70 hl rfl (pv_inc (by decide)) (by decide) rfl (fun ls hl => ?_)
  refine lv_goto (tgt := 46) hx hb d_Wr_findStands_73 (by decide) ?_
  exact hk_46 _ _ _ _ _ hf (lv_sub hl [1, 0] rfl) hP hS
def f_Wr_findStands_46b (k_46 : pv_S → Int32 → Option pv_S) (σ : pv_S) (x1 : Int32) : Option pv_S :=
  (if (σ.1 12 0) ≤ x1 then
  some σ
  else
  (if pv_in x1 24 = true then
(if (σ.1 13 (x1).toNatClampNeg) = (18 : Int32) then
  ((f_Wr_readStands σ x1).bind fun q3 =>
f_Wr_findStands_70 k_46 q3 x1)
  else
  f_Wr_findStands_70 k_46 σ x1)
  else none))
set_option maxHeartbeats 4000000 in
set_option maxRecDepth 100000 in
theorem s_Wr_findStands_46b {p : Program} {l : Launch} {e : Env} {R : Room} {s : State} {m : MethodId} {args : Array Value} {below : List Frame} {meth : Method} {c : Code} {Q : State → Prop} {D : va_G} {q : Nat → ClassId} {a t : Nat → Nat} {A : Nat → Prop} (C : pv_C p s m args c prog_7_method_8_code 3 "PatchVoices$Wiring" pv_TB D pv_cl (pv_ty q) 52 a A (pv_ZX t A)) (hmv : pv_mv A (pv_ZX t A)) (hRf : 4 ≤ R.frames) (hRl : 97 ≤ R.locals) {out : pv_S} (hret : pv_Rv p l e R s m args below meth c prog_7_method_8_code D pv_cl 52 a (pv_FX q a) A Q out) {k_46 : pv_S → Int32 → Option pv_S} (hk_46 : ∀ (σ : pv_S) (x1 : Int32) (H : Heap) (locs : List Loc) (ls : Array Slot), k_46 σ x1 = some out → lv_has ls 3 [(0, .ref (a 12)), (1, .int x1)] → pv_W D pv_cl 52 a (pv_FX q a) σ H → va_S A s.heap H locs → W p l e R s m args below meth c H locs 0 0 Q (F0 m 46 ls [])) {σ : pv_S} {x1 : Int32} {H : Heap} {locs : List Loc} {ls : Array Slot} (hl : lv_has ls 3 [(0, .ref (a 12)), (1, .int x1)]) (hP : pv_W D pv_cl 52 a (pv_FX q a) σ H) (hS : va_S A s.heap H locs) (hf : f_Wr_findStands_46b k_46 σ x1 = some out) : W p l e R s m args below meth c H locs 0 0 Q (F0 m 46 ls []) := by
  unfold f_Wr_findStands_46b at hf
  have hx := C.1
  have hb := C.2.1
  refine lv_iload_n hx hb d_Wr_findStands_46 rfl (lv_at hl 1 rfl) ?_
  refine lv_aload_n hx hb d_Wr_findStands_47 rfl (lv_at hl 0 rfl) ?_
  refine pv_get C hP (v := .int (σ.1 12 0)) (j := 0) (by decide) (fx_12 _ _ _ _) fl_Wr_48 rfl d_Wr_findStands_48 ?_
  refine lv_icmp_ge (tgt := 76) hx hb d_Wr_findStands_51 (by decide) (fun h => ?_) (fun h => ?_)
  · have hf := pv_t hf h
    obtain rfl := Option.some.inj hf
    exact hret _ _ _ _ d_Wr_findStands_76 hP hS
  · have hf := pv_f hf h
    refine lv_aload_n hx hb d_Wr_findStands_54 rfl (lv_at hl 0 rfl) ?_
    refine pv_get C hP (v := .ref (a 13)) (j := 1) (by decide) (fx_12 _ _ _ _) fl_Wr_11 rfl d_Wr_findStands_55 ?_
    refine lv_iload_n hx hb d_Wr_findStands_58 rfl (lv_at hl 1 rfl) ?_
    obtain ⟨hg, hf⟩ := pv_g hf
    refine pv_iald C hP (t0 := 0) (by decide) (fx_13 _ _ _ _) rfl hg d_Wr_findStands_59 ?_
    refine lv_bipush (v := (18 : Int32)) hx hb d_Wr_findStands_60 (by decide) ?_
    refine lv_icmp_ne (tgt := 70) hx hb d_Wr_findStands_62 (by decide) (fun h => ?_) (fun h => ?_)
    · have hf := pv_f hf h
      exact s_Wr_findStands_70 C hmv hRf hRl hret hk_46 (lv_sub hl [0, 1] rfl) hP hS hf
    · have hf := pv_t hf h
      refine lv_aload_n hx hb d_Wr_findStands_65 rfl (lv_at hl 0 rfl) ?_
      refine lv_iload_n hx hb d_Wr_findStands_66 rfl (lv_at hl 1 rfl) ?_
      obtain ⟨q3, hc, hf⟩ := pv_b hf
      refine pv_callVv C hmv pv_good hP hS (As := [.int x1]) (rest := []) (by decide) (fx_12 _ _ _ _) rfl (c_Wr_readStands C.2.2.2.2.2.2.1 hmv hc) cv_Wr_78 ⟨rfl, rfl, Nat.le_trans (Nat.le_of_ble_eq_true rfl) hRf, Nat.le_trans (Nat.le_of_ble_eq_true rfl) hRl⟩ rfl hl.1 rfl (Nat.le_of_ble_eq_true rfl) d_Wr_findStands_67 ⟨Nat.zero_le _, Nat.zero_le _⟩ (fun H locs hP hS => ?_)
      exact s_Wr_findStands_70 C hmv hRf hRl hret hk_46 (lv_sub hl [0, 1] rfl) hP hS hf
def f_Wr_findStands_46 : Nat → pv_S → Int32 → Option pv_S
  | 0 => fun _ _ => none
  | n + 1 => f_Wr_findStands_46b (f_Wr_findStands_46 n)
set_option maxHeartbeats 4000000 in
theorem s_Wr_findStands_46 {p : Program} {l : Launch} {e : Env} {R : Room} {s : State} {m : MethodId} {args : Array Value} {below : List Frame} {meth : Method} {c : Code} {Q : State → Prop} {D : va_G} {q : Nat → ClassId} {a t : Nat → Nat} {A : Nat → Prop} (C : pv_C p s m args c prog_7_method_8_code 3 "PatchVoices$Wiring" pv_TB D pv_cl (pv_ty q) 52 a A (pv_ZX t A)) (hmv : pv_mv A (pv_ZX t A)) (hRf : 4 ≤ R.frames) (hRl : 97 ≤ R.locals) {out : pv_S} (hret : pv_Rv p l e R s m args below meth c prog_7_method_8_code D pv_cl 52 a (pv_FX q a) A Q out) (n : Nat) : ∀ {σ : pv_S} {x1 : Int32} {H : Heap} {locs : List Loc} {ls : Array Slot}, lv_has ls 3 [(0, .ref (a 12)), (1, .int x1)] → pv_W D pv_cl 52 a (pv_FX q a) σ H → va_S A s.heap H locs → f_Wr_findStands_46 n σ x1 = some out → W p l e R s m args below meth c H locs 0 0 Q (F0 m 46 ls []) := by
  induction n with
  | zero => intro σ x1 H locs ls hl hP hS hf; cases hf
  | succ n ih => intro σ x1 H locs ls hl hP hS hf; exact s_Wr_findStands_46b C hmv hRf hRl hret (fun σ x1 H locs ls hf hl hP hS => ih hl hP hS hf) hl hP hS hf
def f_Wr_findStands_38 (k_2 : pv_S → Int32 → Option pv_S) (σ : pv_S) (x1 : Int32) : Option pv_S :=
  k_2 σ (x1 + (1 : Int32))
set_option maxHeartbeats 4000000 in
set_option maxRecDepth 100000 in
theorem s_Wr_findStands_38 {p : Program} {l : Launch} {e : Env} {R : Room} {s : State} {m : MethodId} {args : Array Value} {below : List Frame} {meth : Method} {c : Code} {Q : State → Prop} {D : va_G} {q : Nat → ClassId} {a t : Nat → Nat} {A : Nat → Prop} (C : pv_C p s m args c prog_7_method_8_code 3 "PatchVoices$Wiring" pv_TB D pv_cl (pv_ty q) 52 a A (pv_ZX t A)) (hmv : pv_mv A (pv_ZX t A)) (hRf : 4 ≤ R.frames) (hRl : 97 ≤ R.locals) {out : pv_S} (hret : pv_Rv p l e R s m args below meth c prog_7_method_8_code D pv_cl 52 a (pv_FX q a) A Q out) {k_2 : pv_S → Int32 → Option pv_S} (hk_2 : ∀ (σ : pv_S) (x1 : Int32) (H : Heap) (locs : List Loc) (ls : Array Slot), k_2 σ x1 = some out → lv_has ls 3 [(0, .ref (a 12)), (1, .int x1)] → pv_W D pv_cl 52 a (pv_FX q a) σ H → va_S A s.heap H locs → W p l e R s m args below meth c H locs 0 0 Q (F0 m 2 ls [])) {σ : pv_S} {x1 : Int32} {H : Heap} {locs : List Loc} {ls : Array Slot} (hl : lv_has ls 3 [(0, .ref (a 12)), (1, .int x1)]) (hP : pv_W D pv_cl 52 a (pv_FX q a) σ H) (hS : va_S A s.heap H locs) (hf : f_Wr_findStands_38 k_2 σ x1 = some out) : W p l e R s m args below meth c H locs 0 0 Q (F0 m 38 ls []) := by
  unfold f_Wr_findStands_38 at hf
  have hx := C.1
  have hb := C.2.1
  refine lv_iinc (k := 1) (v := (x1 + (1 : Int32))) (lv' := [(1, .int (x1 + (1 : Int32))), (0, .ref (a 12))]) hx hb d_Wr_findStands_38 hl rfl (pv_inc (by decide)) (by decide) rfl (fun ls hl => ?_)
  refine lv_goto (tgt := 2) hx hb d_Wr_findStands_41 (by decide) ?_
  exact hk_2 _ _ _ _ _ hf (lv_sub hl [1, 0] rfl) hP hS
def f_Wr_findStands_2b (k_2 : pv_S → Int32 → Option pv_S) (σ : pv_S) (x1 : Int32) : Option pv_S :=
  (if (σ.1 12 0) ≤ x1 then
  f_Wr_findStands_46 pv_fu σ (0 : Int32)
  else
  (if pv_in x1 24 = true then
(if pv_in (σ.1 16 (x1).toNatClampNeg) 24 = true then
(if (σ.1 13 ((σ.1 16 (x1).toNatClampNeg)).toNatClampNeg) = (18 : Int32) then
  f_Wr_findStands_38 k_2 σ x1
  else
  ((f_Wr_readStands σ (σ.1 16 (x1).toNatClampNeg)).bind fun q1 =>
((f_Wr_findStand q1 x1).bind fun q2 =>
f_Wr_findStands_38 k_2 q2 x1)))
  else none)
  else none))
set_option maxHeartbeats 4000000 in
set_option maxRecDepth 100000 in
theorem s_Wr_findStands_2b {p : Program} {l : Launch} {e : Env} {R : Room} {s : State} {m : MethodId} {args : Array Value} {below : List Frame} {meth : Method} {c : Code} {Q : State → Prop} {D : va_G} {q : Nat → ClassId} {a t : Nat → Nat} {A : Nat → Prop} (C : pv_C p s m args c prog_7_method_8_code 3 "PatchVoices$Wiring" pv_TB D pv_cl (pv_ty q) 52 a A (pv_ZX t A)) (hmv : pv_mv A (pv_ZX t A)) (hRf : 4 ≤ R.frames) (hRl : 97 ≤ R.locals) {out : pv_S} (hret : pv_Rv p l e R s m args below meth c prog_7_method_8_code D pv_cl 52 a (pv_FX q a) A Q out) {k_2 : pv_S → Int32 → Option pv_S} (hk_2 : ∀ (σ : pv_S) (x1 : Int32) (H : Heap) (locs : List Loc) (ls : Array Slot), k_2 σ x1 = some out → lv_has ls 3 [(0, .ref (a 12)), (1, .int x1)] → pv_W D pv_cl 52 a (pv_FX q a) σ H → va_S A s.heap H locs → W p l e R s m args below meth c H locs 0 0 Q (F0 m 2 ls [])) {σ : pv_S} {x1 : Int32} {H : Heap} {locs : List Loc} {ls : Array Slot} (hl : lv_has ls 3 [(0, .ref (a 12)), (1, .int x1)]) (hP : pv_W D pv_cl 52 a (pv_FX q a) σ H) (hS : va_S A s.heap H locs) (hf : f_Wr_findStands_2b k_2 σ x1 = some out) : W p l e R s m args below meth c H locs 0 0 Q (F0 m 2 ls []) := by
  unfold f_Wr_findStands_2b at hf
  have hx := C.1
  have hb := C.2.1
  refine lv_iload_n hx hb d_Wr_findStands_2 rfl (lv_at hl 1 rfl) ?_
  refine lv_aload_n hx hb d_Wr_findStands_3 rfl (lv_at hl 0 rfl) ?_
  refine pv_get C hP (v := .int (σ.1 12 0)) (j := 0) (by decide) (fx_12 _ _ _ _) fl_Wr_48 rfl d_Wr_findStands_4 ?_
  refine lv_icmp_ge (tgt := 44) hx hb d_Wr_findStands_7 (by decide) (fun h => ?_) (fun h => ?_)
  · have hf := pv_t hf h
    refine lv_iconst (v := (0 : Int32)) hx hb d_Wr_findStands_44 (by decide) ?_
    refine lv_istore_n (lv' := [(1, .int (0 : Int32)), (0, .ref (a 12))]) hx hb d_Wr_findStands_45 rfl hl (by decide) rfl (fun ls hl => ?_)
    exact s_Wr_findStands_46 C hmv hRf hRl hret pv_fu (lv_sub hl [1, 0] rfl) hP hS hf
  · have hf := pv_f hf h
    refine lv_aload_n hx hb d_Wr_findStands_10 rfl (lv_at hl 0 rfl) ?_
    refine pv_get C hP (v := .ref (a 16)) (j := 4) (by decide) (fx_12 _ _ _ _) fl_Wr_25 rfl d_Wr_findStands_11 ?_
    refine lv_iload_n hx hb d_Wr_findStands_14 rfl (lv_at hl 1 rfl) ?_
    obtain ⟨hg, hf⟩ := pv_g hf
    refine pv_iald C hP (t0 := 0) (by decide) (fx_16 _ _ _ _) rfl hg d_Wr_findStands_15 ?_
    refine lv_istore_n (lv' := [(2, .int (σ.1 16 (x1).toNatClampNeg)), (0, .ref (a 12)), (1, .int x1)]) hx hb d_Wr_findStands_16 rfl hl (by decide) rfl (fun ls hl => ?_)
    refine lv_aload_n hx hb d_Wr_findStands_17 rfl (lv_at hl 1 rfl) ?_
    refine pv_get C hP (v := .ref (a 13)) (j := 1) (by decide) (fx_12 _ _ _ _) fl_Wr_11 rfl d_Wr_findStands_18 ?_
    refine lv_iload_n hx hb d_Wr_findStands_21 rfl (lv_at hl 0 rfl) ?_
    obtain ⟨hg, hf⟩ := pv_g hf
    refine pv_iald C hP (t0 := 0) (by decide) (fx_13 _ _ _ _) rfl hg d_Wr_findStands_22 ?_
    refine lv_bipush (v := (18 : Int32)) hx hb d_Wr_findStands_23 (by decide) ?_
    refine lv_icmp_eq (tgt := 38) hx hb d_Wr_findStands_25 (by decide) (fun h => ?_) (fun h => ?_)
    · have hf := pv_t hf h
      exact s_Wr_findStands_38 C hmv hRf hRl hret hk_2 (lv_sub hl [1, 2] rfl) hP hS hf
    · have hf := pv_f hf h
      refine lv_aload_n hx hb d_Wr_findStands_28 rfl (lv_at hl 1 rfl) ?_
      refine lv_iload_n hx hb d_Wr_findStands_29 rfl (lv_at hl 0 rfl) ?_
      obtain ⟨q1, hc, hf⟩ := pv_b hf
      refine pv_callVv C hmv pv_good hP hS (As := [.int (σ.1 16 (x1).toNatClampNeg)]) (rest := []) (by decide) (fx_12 _ _ _ _) rfl (c_Wr_readStands C.2.2.2.2.2.2.1 hmv hc) cv_Wr_78 ⟨rfl, rfl, Nat.le_trans (Nat.le_of_ble_eq_true rfl) hRf, Nat.le_trans (Nat.le_of_ble_eq_true rfl) hRl⟩ rfl hl.1 rfl (Nat.le_of_ble_eq_true rfl) d_Wr_findStands_30 ⟨Nat.zero_le _, Nat.zero_le _⟩ (fun H locs hP hS => ?_)
      refine lv_aload_n hx hb d_Wr_findStands_33 rfl (lv_at hl 1 rfl) ?_
      refine lv_iload_n hx hb d_Wr_findStands_34 rfl (lv_at hl 2 rfl) ?_
      obtain ⟨q2, hc, hf⟩ := pv_b hf
      refine pv_callVv C hmv pv_good hP hS (As := [.int x1]) (rest := []) (by decide) (fx_12 _ _ _ _) rfl (c_Wr_findStand C.2.2.2.2.2.2.1 hmv hc) cv_Wr_82 ⟨rfl, rfl, Nat.le_trans (Nat.le_of_ble_eq_true rfl) hRf, Nat.le_trans (Nat.le_of_ble_eq_true rfl) hRl⟩ rfl hl.1 rfl (Nat.le_of_ble_eq_true rfl) d_Wr_findStands_35 ⟨Nat.zero_le _, Nat.zero_le _⟩ (fun H locs hP hS => ?_)
      exact s_Wr_findStands_38 C hmv hRf hRl hret hk_2 (lv_sub hl [1, 2] rfl) hP hS hf
def f_Wr_findStands_2 : Nat → pv_S → Int32 → Option pv_S
  | 0 => fun _ _ => none
  | n + 1 => f_Wr_findStands_2b (f_Wr_findStands_2 n)
set_option maxHeartbeats 4000000 in
theorem s_Wr_findStands_2 {p : Program} {l : Launch} {e : Env} {R : Room} {s : State} {m : MethodId} {args : Array Value} {below : List Frame} {meth : Method} {c : Code} {Q : State → Prop} {D : va_G} {q : Nat → ClassId} {a t : Nat → Nat} {A : Nat → Prop} (C : pv_C p s m args c prog_7_method_8_code 3 "PatchVoices$Wiring" pv_TB D pv_cl (pv_ty q) 52 a A (pv_ZX t A)) (hmv : pv_mv A (pv_ZX t A)) (hRf : 4 ≤ R.frames) (hRl : 97 ≤ R.locals) {out : pv_S} (hret : pv_Rv p l e R s m args below meth c prog_7_method_8_code D pv_cl 52 a (pv_FX q a) A Q out) (n : Nat) : ∀ {σ : pv_S} {x1 : Int32} {H : Heap} {locs : List Loc} {ls : Array Slot}, lv_has ls 3 [(0, .ref (a 12)), (1, .int x1)] → pv_W D pv_cl 52 a (pv_FX q a) σ H → va_S A s.heap H locs → f_Wr_findStands_2 n σ x1 = some out → W p l e R s m args below meth c H locs 0 0 Q (F0 m 2 ls []) := by
  induction n with
  | zero => intro σ x1 H locs ls hl hP hS hf; cases hf
  | succ n ih => intro σ x1 H locs ls hl hP hS hf; exact s_Wr_findStands_2b C hmv hRf hRl hret (fun σ x1 H locs ls hf hl hP hS => ih hl hP hS hf) hl hP hS hf
def f_Wr_findStands_0 (σ : pv_S) : Option pv_S :=
  f_Wr_findStands_2 pv_fu σ (0 : Int32)
set_option maxHeartbeats 4000000 in
set_option maxRecDepth 100000 in
theorem s_Wr_findStands_0 {p : Program} {l : Launch} {e : Env} {R : Room} {s : State} {m : MethodId} {args : Array Value} {below : List Frame} {meth : Method} {c : Code} {Q : State → Prop} {D : va_G} {q : Nat → ClassId} {a t : Nat → Nat} {A : Nat → Prop} (C : pv_C p s m args c prog_7_method_8_code 3 "PatchVoices$Wiring" pv_TB D pv_cl (pv_ty q) 52 a A (pv_ZX t A)) (hmv : pv_mv A (pv_ZX t A)) (hRf : 4 ≤ R.frames) (hRl : 97 ≤ R.locals) {out : pv_S} (hret : pv_Rv p l e R s m args below meth c prog_7_method_8_code D pv_cl 52 a (pv_FX q a) A Q out) {σ : pv_S} {H : Heap} {locs : List Loc} {ls : Array Slot} (hl : lv_has ls 3 [(0, .ref (a 12))]) (hP : pv_W D pv_cl 52 a (pv_FX q a) σ H) (hS : va_S A s.heap H locs) (hf : f_Wr_findStands_0 σ = some out) : W p l e R s m args below meth c H locs 0 0 Q (F0 m 0 ls []) := by
  unfold f_Wr_findStands_0 at hf
  have hx := C.1
  have hb := C.2.1
  refine lv_iconst (v := (0 : Int32)) hx hb d_Wr_findStands_0 (by decide) ?_
  refine lv_istore_n (lv' := [(1, .int (0 : Int32)), (0, .ref (a 12))]) hx hb d_Wr_findStands_1 rfl hl (by decide) rfl (fun ls hl => ?_)
  exact s_Wr_findStands_2 C hmv hRf hRl hret pv_fu (lv_sub hl [1, 0] rfl) hP hS hf
def f_Wr_findStands (σ : pv_S) : Option pv_S := f_Wr_findStands_0 σ
def rm_Wr_findStands : Room := { frames := 4, cells := 0, slots := 0, locals := 97 }
theorem c_Wr_findStands {l : Launch} {D : va_G} {q : Nat → ClassId} {a t : Nat → Nat} {A : Nat → Prop} (hD : pv_D 52 a A) (hmv : pv_mv A (pv_ZX t A)) {σ : pv_S} {out : pv_S} (hf : f_Wr_findStands σ = some out) : pv_Mv l y_Wr_findStands (Cond.code y_Wr_findStands prog_7_method_8_code 3 none :: pv_TB) rm_Wr_findStands D pv_cl (pv_ty q) 52 a (pv_FX q a) A (pv_ZX t A) [.ref (a 12)] σ out :=
  pv_ofV (by decide) (Nat.le_of_ble_eq_true rfl) hD (fun p e s m args below meth c Q ls C hret hl hP => s_Wr_findStands_0 C hmv (Nat.le_refl _) (Nat.le_refl _) hret hl hP va_S.rf hf)
theorem d_Wr_outputModule_0 : decode prog_7_method_3_code 0 = .ok (.aload_n 0, 1) := by decide +kernel
theorem d_Wr_outputModule_1 : decode prog_7_method_3_code 1 = .ok (.getfield 32, 3) := by decide +kernel
theorem d_Wr_outputModule_4 : decode prog_7_method_3_code 4 = .ok (.aload_n 0, 1) := by decide +kernel
theorem d_Wr_outputModule_5 : decode prog_7_method_3_code 5 = .ok (.getfield 48, 3) := by decide +kernel
theorem d_Wr_outputModule_8 : decode prog_7_method_3_code 8 = .ok (.iconst 1, 1) := by decide +kernel
theorem d_Wr_outputModule_9 : decode prog_7_method_3_code 9 = .ok (.isub, 1) := by decide +kernel
theorem d_Wr_outputModule_10 : decode prog_7_method_3_code 10 = .ok (.iaload, 1) := by decide +kernel
theorem d_Wr_outputModule_11 : decode prog_7_method_3_code 11 = .ok (.ireturn, 1) := by decide +kernel
def f_Wr_outputModule_0 (σ : pv_S) : Option (Int32 × pv_S) :=
  (if pv_in ((σ.1 12 0) - (1 : Int32)) 24 = true then
some ((σ.1 18 (((σ.1 12 0) - (1 : Int32))).toNatClampNeg), σ)
  else none)
set_option maxHeartbeats 4000000 in
set_option maxRecDepth 100000 in
theorem s_Wr_outputModule_0 {p : Program} {l : Launch} {e : Env} {R : Room} {s : State} {m : MethodId} {args : Array Value} {below : List Frame} {meth : Method} {c : Code} {Q : State → Prop} {D : va_G} {q : Nat → ClassId} {a t : Nat → Nat} {A : Nat → Prop} (C : pv_C p s m args c prog_7_method_3_code 1 "PatchVoices$Wiring" pv_TB D pv_cl (pv_ty q) 52 a A (pv_ZX t A)) (hmv : pv_mv A (pv_ZX t A)) (hRf : 0 ≤ R.frames) (hRl : 0 ≤ R.locals) {out : (Int32 × pv_S)} (hret : pv_Ri p l e R s m args below meth c prog_7_method_3_code D pv_cl 52 a (pv_FX q a) A Q out) {σ : pv_S} {H : Heap} {locs : List Loc} {ls : Array Slot} (hl : lv_has ls 1 [(0, .ref (a 12))]) (hP : pv_W D pv_cl 52 a (pv_FX q a) σ H) (hS : va_S A s.heap H locs) (hf : f_Wr_outputModule_0 σ = some out) : W p l e R s m args below meth c H locs 0 0 Q (F0 m 0 ls []) := by
  unfold f_Wr_outputModule_0 at hf
  have hx := C.1
  have hb := C.2.1
  refine lv_aload_n hx hb d_Wr_outputModule_0 rfl (lv_at hl 0 rfl) ?_
  refine pv_get C hP (v := .ref (a 18)) (j := 6) (by decide) (fx_12 _ _ _ _) fl_Wr_32 rfl d_Wr_outputModule_1 ?_
  refine lv_aload_n hx hb d_Wr_outputModule_4 rfl (lv_at hl 0 rfl) ?_
  refine pv_get C hP (v := .int (σ.1 12 0)) (j := 0) (by decide) (fx_12 _ _ _ _) fl_Wr_48 rfl d_Wr_outputModule_5 ?_
  refine lv_iconst (v := (1 : Int32)) hx hb d_Wr_outputModule_8 (by decide) ?_
  refine lv_isub hx hb d_Wr_outputModule_9 ?_
  obtain ⟨hg, hf⟩ := pv_g hf
  refine pv_iald C hP (t0 := 0) (by decide) (fx_18 _ _ _ _) rfl hg d_Wr_outputModule_10 ?_
  obtain rfl := Option.some.inj hf
  exact hret _ _ _ _ d_Wr_outputModule_11 hP hS
def f_Wr_outputModule (σ : pv_S) : Option (Int32 × pv_S) := f_Wr_outputModule_0 σ
def rm_Wr_outputModule : Room := { frames := 0, cells := 0, slots := 0, locals := 0 }
theorem c_Wr_outputModule {l : Launch} {D : va_G} {q : Nat → ClassId} {a t : Nat → Nat} {A : Nat → Prop} (hD : pv_D 52 a A) (hmv : pv_mv A (pv_ZX t A)) {σ : pv_S} {out : (Int32 × pv_S)} (hf : f_Wr_outputModule σ = some out) : pv_Mi l y_Wr_outputModule (Cond.code y_Wr_outputModule prog_7_method_3_code 1 (some .int) :: pv_TB) rm_Wr_outputModule D pv_cl (pv_ty q) 52 a (pv_FX q a) A (pv_ZX t A) [.ref (a 12)] σ out :=
  pv_ofI (by decide) (Nat.le_of_ble_eq_true rfl) hD (fun p e s m args below meth c Q ls C hret hl hP => s_Wr_outputModule_0 C hmv (Nat.le_refl _) (Nat.le_refl _) hret hl hP va_S.rf hf)
theorem d_Wr_keepSources_0 : decode prog_7_method_16_code 0 = .ok (.iconst 0, 1) := by decide +kernel
theorem d_Wr_keepSources_1 : decode prog_7_method_16_code 1 = .ok (.istore_n 2, 1) := by decide +kernel
theorem d_Wr_keepSources_2 : decode prog_7_method_16_code 2 = .ok (.iload_n 2, 1) := by decide +kernel
theorem d_Wr_keepSources_3 : decode prog_7_method_16_code 3 = .ok (.aload_n 0, 1) := by decide +kernel
theorem d_Wr_keepSources_4 : decode prog_7_method_16_code 4 = .ok (.getfield 11, 3) := by decide +kernel
theorem d_Wr_keepSources_7 : decode prog_7_method_16_code 7 = .ok (.iload_n 1, 1) := by decide +kernel
theorem d_Wr_keepSources_8 : decode prog_7_method_16_code 8 = .ok (.iaload, 1) := by decide +kernel
theorem d_Wr_keepSources_9 : decode prog_7_method_16_code 9 = .ok (.invokestatic 75, 3) := by decide +kernel
theorem d_Wr_keepSources_12 : decode prog_7_method_16_code 12 = .ok (.if_icmp .ge 32, 3) := by decide +kernel
theorem d_Wr_keepSources_15 : decode prog_7_method_16_code 15 = .ok (.aload_n 0, 1) := by decide +kernel
theorem d_Wr_keepSources_16 : decode prog_7_method_16_code 16 = .ok (.getfield 19, 3) := by decide +kernel
theorem d_Wr_keepSources_19 : decode prog_7_method_16_code 19 = .ok (.iconst 4, 1) := by decide +kernel
theorem d_Wr_keepSources_20 : decode prog_7_method_16_code 20 = .ok (.iload_n 1, 1) := by decide +kernel
theorem d_Wr_keepSources_21 : decode prog_7_method_16_code 21 = .ok (.imul, 1) := by decide +kernel
theorem d_Wr_keepSources_22 : decode prog_7_method_16_code 22 = .ok (.iload_n 2, 1) := by decide +kernel
theorem d_Wr_keepSources_23 : decode prog_7_method_16_code 23 = .ok (.iadd, 1) := by decide +kernel
theorem d_Wr_keepSources_24 : decode prog_7_method_16_code 24 = .ok (.iaload, 1) := by decide +kernel
theorem d_Wr_keepSources_25 : decode prog_7_method_16_code 25 = .ok (.istore_n 3, 1) := by decide +kernel
theorem d_Wr_keepSources_26 : decode prog_7_method_16_code 26 = .ok (.iload_n 3, 1) := by decide +kernel
theorem d_Wr_keepSources_27 : decode prog_7_method_16_code 27 = .ok (.iconst (-1), 1) := by decide +kernel
theorem d_Wr_keepSources_28 : decode prog_7_method_16_code 28 = .ok (.if_icmp .eq 10, 3) := by decide +kernel
theorem d_Wr_keepSources_31 : decode prog_7_method_16_code 31 = .ok (.aload_n 0, 1) := by decide +kernel
theorem d_Wr_keepSources_32 : decode prog_7_method_16_code 32 = .ok (.getfield 28, 3) := by decide +kernel
theorem d_Wr_keepSources_35 : decode prog_7_method_16_code 35 = .ok (.iload_n 3, 1) := by decide +kernel
theorem d_Wr_keepSources_36 : decode prog_7_method_16_code 36 = .ok (.iconst 1, 1) := by decide +kernel
theorem d_Wr_keepSources_37 : decode prog_7_method_16_code 37 = .ok (.bastore, 1) := by decide +kernel
theorem d_Wr_keepSources_38 : decode prog_7_method_16_code 38 = .ok (.iinc 2 1, 3) := by decide +kernel
theorem d_Wr_keepSources_41 : decode prog_7_method_16_code 41 = .ok (.goto (-39), 3) := by decide +kernel
theorem d_Wr_keepSources_44 : decode prog_7_method_16_code 44 = .ok (.return_, 1) := by decide +kernel
def f_Wr_keepSources_38 (k_2 : pv_S → Int32 → Int32 → Option pv_S) (σ : pv_S) (x1 : Int32) (x2 : Int32) : Option pv_S :=
  k_2 σ x1 (x2 + (1 : Int32))
set_option maxHeartbeats 4000000 in
set_option maxRecDepth 100000 in
theorem s_Wr_keepSources_38 {p : Program} {l : Launch} {e : Env} {R : Room} {s : State} {m : MethodId} {args : Array Value} {below : List Frame} {meth : Method} {c : Code} {Q : State → Prop} {D : va_G} {q : Nat → ClassId} {a t : Nat → Nat} {A : Nat → Prop} (C : pv_C p s m args c prog_7_method_16_code 4 "PatchVoices$Wiring" pv_TB D pv_cl (pv_ty q) 52 a A (pv_ZX t A)) (hmv : pv_mv A (pv_ZX t A)) (hRf : 1 ≤ R.frames) (hRl : 20 ≤ R.locals) {out : pv_S} (hret : pv_Rv p l e R s m args below meth c prog_7_method_16_code D pv_cl 52 a (pv_FX q a) A Q out) {k_2 : pv_S → Int32 → Int32 → Option pv_S} (hk_2 : ∀ (σ : pv_S) (x1 : Int32) (x2 : Int32) (H : Heap) (locs : List Loc) (ls : Array Slot), k_2 σ x1 x2 = some out → lv_has ls 4 [(0, .ref (a 12)), (1, .int x1), (2, .int x2)] → pv_W D pv_cl 52 a (pv_FX q a) σ H → va_S A s.heap H locs → W p l e R s m args below meth c H locs 0 0 Q (F0 m 2 ls [])) {σ : pv_S} {x1 : Int32} {x2 : Int32} {H : Heap} {locs : List Loc} {ls : Array Slot} (hl : lv_has ls 4 [(0, .ref (a 12)), (1, .int x1), (2, .int x2)]) (hP : pv_W D pv_cl 52 a (pv_FX q a) σ H) (hS : va_S A s.heap H locs) (hf : f_Wr_keepSources_38 k_2 σ x1 x2 = some out) : W p l e R s m args below meth c H locs 0 0 Q (F0 m 38 ls []) := by
  unfold f_Wr_keepSources_38 at hf
  have hx := C.1
  have hb := C.2.1
  refine lv_iinc (k := 2) (v := (x2 + (1 : Int32))) (lv' := [(2, .int (x2 + (1 : Int32))), (0, .ref (a 12)), (1, .int x1)]) hx hb d_Wr_keepSources_38 hl rfl (pv_inc (by decide)) (by decide) rfl (fun ls hl => ?_)
  refine lv_goto (tgt := 2) hx hb d_Wr_keepSources_41 (by decide) ?_
  exact hk_2 _ _ _ _ _ _ hf (lv_sub hl [1, 2, 0] rfl) hP hS
def f_Wr_keepSources_2b (k_2 : pv_S → Int32 → Int32 → Option pv_S) (σ : pv_S) (x1 : Int32) (x2 : Int32) : Option pv_S :=
  (if pv_in x1 24 = true then
((f_Kd_inputsOf σ (σ.1 13 (x1).toNatClampNeg)).bind fun q1 =>
(if q1.1 ≤ x2 then
  some q1.2
  else
  (if pv_in (((4 : Int32) * x1) + x2) 96 = true then
(if (q1.2.1 14 ((((4 : Int32) * x1) + x2)).toNatClampNeg) = (-1 : Int32) then
  f_Wr_keepSources_38 k_2 q1.2 x1 x2
  else
  (if pv_in (q1.2.1 14 ((((4 : Int32) * x1) + x2)).toNatClampNeg) 24 = true then
f_Wr_keepSources_38 k_2 (pv_uI q1.2 17 ((q1.2.1 14 ((((4 : Int32) * x1) + x2)).toNatClampNeg)).toNatClampNeg (vp_nar .boolean (1 : Int32))) x1 x2
  else none))
  else none)))
  else none)
set_option maxHeartbeats 4000000 in
set_option maxRecDepth 100000 in
theorem s_Wr_keepSources_2b {p : Program} {l : Launch} {e : Env} {R : Room} {s : State} {m : MethodId} {args : Array Value} {below : List Frame} {meth : Method} {c : Code} {Q : State → Prop} {D : va_G} {q : Nat → ClassId} {a t : Nat → Nat} {A : Nat → Prop} (C : pv_C p s m args c prog_7_method_16_code 4 "PatchVoices$Wiring" pv_TB D pv_cl (pv_ty q) 52 a A (pv_ZX t A)) (hmv : pv_mv A (pv_ZX t A)) (hRf : 1 ≤ R.frames) (hRl : 20 ≤ R.locals) {out : pv_S} (hret : pv_Rv p l e R s m args below meth c prog_7_method_16_code D pv_cl 52 a (pv_FX q a) A Q out) {k_2 : pv_S → Int32 → Int32 → Option pv_S} (hk_2 : ∀ (σ : pv_S) (x1 : Int32) (x2 : Int32) (H : Heap) (locs : List Loc) (ls : Array Slot), k_2 σ x1 x2 = some out → lv_has ls 4 [(0, .ref (a 12)), (1, .int x1), (2, .int x2)] → pv_W D pv_cl 52 a (pv_FX q a) σ H → va_S A s.heap H locs → W p l e R s m args below meth c H locs 0 0 Q (F0 m 2 ls [])) {σ : pv_S} {x1 : Int32} {x2 : Int32} {H : Heap} {locs : List Loc} {ls : Array Slot} (hl : lv_has ls 4 [(0, .ref (a 12)), (1, .int x1), (2, .int x2)]) (hP : pv_W D pv_cl 52 a (pv_FX q a) σ H) (hS : va_S A s.heap H locs) (hf : f_Wr_keepSources_2b k_2 σ x1 x2 = some out) : W p l e R s m args below meth c H locs 0 0 Q (F0 m 2 ls []) := by
  unfold f_Wr_keepSources_2b at hf
  have hx := C.1
  have hb := C.2.1
  refine lv_iload_n hx hb d_Wr_keepSources_2 rfl (lv_at hl 2 rfl) ?_
  refine lv_aload_n hx hb d_Wr_keepSources_3 rfl (lv_at hl 0 rfl) ?_
  refine pv_get C hP (v := .ref (a 13)) (j := 1) (by decide) (fx_12 _ _ _ _) fl_Wr_11 rfl d_Wr_keepSources_4 ?_
  refine lv_iload_n hx hb d_Wr_keepSources_7 rfl (lv_at hl 1 rfl) ?_
  obtain ⟨hg, hf⟩ := pv_g hf
  refine pv_iald C hP (t0 := 0) (by decide) (fx_13 _ _ _ _) rfl hg d_Wr_keepSources_8 ?_
  obtain ⟨q1, hc, hf⟩ := pv_b hf
  refine pv_callSi C hmv pv_good hP hS (As := [.int (σ.1 13 (x1).toNatClampNeg)]) (rest := [.int x2]) (c_Kd_inputsOf C.2.2.2.2.2.2.1 hmv hc) cs_Wr_75 ⟨rfl, rfl, Nat.le_trans (Nat.le_of_ble_eq_true rfl) hRf, Nat.le_trans (Nat.le_of_ble_eq_true rfl) hRl⟩ rfl hl.1 rfl (Nat.le_of_ble_eq_true rfl) d_Wr_keepSources_9 ⟨Nat.zero_le _, Nat.zero_le _⟩ (fun H locs hP hS => ?_)
  refine lv_icmp_ge (tgt := 44) hx hb d_Wr_keepSources_12 (by decide) (fun h => ?_) (fun h => ?_)
  · have hf := pv_t hf h
    obtain rfl := Option.some.inj hf
    exact hret _ _ _ _ d_Wr_keepSources_44 hP hS
  · have hf := pv_f hf h
    refine lv_aload_n hx hb d_Wr_keepSources_15 rfl (lv_at hl 0 rfl) ?_
    refine pv_get C hP (v := .ref (a 14)) (j := 2) (by decide) (fx_12 _ _ _ _) fl_Wr_19 rfl d_Wr_keepSources_16 ?_
    refine lv_iconst (v := (4 : Int32)) hx hb d_Wr_keepSources_19 (by decide) ?_
    refine lv_iload_n hx hb d_Wr_keepSources_20 rfl (lv_at hl 1 rfl) ?_
    refine lv_imul hx hb d_Wr_keepSources_21 ?_
    refine lv_iload_n hx hb d_Wr_keepSources_22 rfl (lv_at hl 2 rfl) ?_
    refine lv_iadd hx hb d_Wr_keepSources_23 ?_
    obtain ⟨hg, hf⟩ := pv_g hf
    refine pv_iald C hP (t0 := 0) (by decide) (fx_14 _ _ _ _) rfl hg d_Wr_keepSources_24 ?_
    refine lv_istore_n (lv' := [(3, .int (q1.2.1 14 ((((4 : Int32) * x1) + x2)).toNatClampNeg)), (0, .ref (a 12)), (1, .int x1), (2, .int x2)]) hx hb d_Wr_keepSources_25 rfl hl (by decide) rfl (fun ls hl => ?_)
    refine lv_iload_n hx hb d_Wr_keepSources_26 rfl (lv_at hl 0 rfl) ?_
    refine lv_iconst (v := (-1 : Int32)) hx hb d_Wr_keepSources_27 (by decide) ?_
    refine lv_icmp_eq (tgt := 38) hx hb d_Wr_keepSources_28 (by decide) (fun h => ?_) (fun h => ?_)
    · have hf := pv_t hf h
      exact s_Wr_keepSources_38 C hmv hRf hRl hret hk_2 (lv_sub hl [1, 2, 3] rfl) hP hS hf
    · have hf := pv_f hf h
      refine lv_aload_n hx hb d_Wr_keepSources_31 rfl (lv_at hl 1 rfl) ?_
      refine pv_get C hP (v := .ref (a 17)) (j := 5) (by decide) (fx_12 _ _ _ _) fl_Wr_28 rfl d_Wr_keepSources_32 ?_
      refine lv_iload_n hx hb d_Wr_keepSources_35 rfl (lv_at hl 0 rfl) ?_
      refine lv_iconst (v := (1 : Int32)) hx hb d_Wr_keepSources_36 (by decide) ?_
      obtain ⟨hg, hf⟩ := pv_g hf
      refine pv_zast C hP hS (t0 := 2) (x := (1 : Int32)) (by decide) (fun f g => (fx_17 _ _ f g)) rfl hg d_Wr_keepSources_37 (fun H locs hP hS => ?_)
      exact s_Wr_keepSources_38 C hmv hRf hRl hret hk_2 (lv_sub hl [1, 2, 3] rfl) hP hS hf
def f_Wr_keepSources_2 : Nat → pv_S → Int32 → Int32 → Option pv_S
  | 0 => fun _ _ _ => none
  | n + 1 => f_Wr_keepSources_2b (f_Wr_keepSources_2 n)
set_option maxHeartbeats 4000000 in
theorem s_Wr_keepSources_2 {p : Program} {l : Launch} {e : Env} {R : Room} {s : State} {m : MethodId} {args : Array Value} {below : List Frame} {meth : Method} {c : Code} {Q : State → Prop} {D : va_G} {q : Nat → ClassId} {a t : Nat → Nat} {A : Nat → Prop} (C : pv_C p s m args c prog_7_method_16_code 4 "PatchVoices$Wiring" pv_TB D pv_cl (pv_ty q) 52 a A (pv_ZX t A)) (hmv : pv_mv A (pv_ZX t A)) (hRf : 1 ≤ R.frames) (hRl : 20 ≤ R.locals) {out : pv_S} (hret : pv_Rv p l e R s m args below meth c prog_7_method_16_code D pv_cl 52 a (pv_FX q a) A Q out) (n : Nat) : ∀ {σ : pv_S} {x1 : Int32} {x2 : Int32} {H : Heap} {locs : List Loc} {ls : Array Slot}, lv_has ls 4 [(0, .ref (a 12)), (1, .int x1), (2, .int x2)] → pv_W D pv_cl 52 a (pv_FX q a) σ H → va_S A s.heap H locs → f_Wr_keepSources_2 n σ x1 x2 = some out → W p l e R s m args below meth c H locs 0 0 Q (F0 m 2 ls []) := by
  induction n with
  | zero => intro σ x1 x2 H locs ls hl hP hS hf; cases hf
  | succ n ih => intro σ x1 x2 H locs ls hl hP hS hf; exact s_Wr_keepSources_2b C hmv hRf hRl hret (fun σ x1 x2 H locs ls hf hl hP hS => ih hl hP hS hf) hl hP hS hf
def f_Wr_keepSources_0 (σ : pv_S) (x1 : Int32) : Option pv_S :=
  f_Wr_keepSources_2 pv_fu σ x1 (0 : Int32)
set_option maxHeartbeats 4000000 in
set_option maxRecDepth 100000 in
theorem s_Wr_keepSources_0 {p : Program} {l : Launch} {e : Env} {R : Room} {s : State} {m : MethodId} {args : Array Value} {below : List Frame} {meth : Method} {c : Code} {Q : State → Prop} {D : va_G} {q : Nat → ClassId} {a t : Nat → Nat} {A : Nat → Prop} (C : pv_C p s m args c prog_7_method_16_code 4 "PatchVoices$Wiring" pv_TB D pv_cl (pv_ty q) 52 a A (pv_ZX t A)) (hmv : pv_mv A (pv_ZX t A)) (hRf : 1 ≤ R.frames) (hRl : 20 ≤ R.locals) {out : pv_S} (hret : pv_Rv p l e R s m args below meth c prog_7_method_16_code D pv_cl 52 a (pv_FX q a) A Q out) {σ : pv_S} {x1 : Int32} {H : Heap} {locs : List Loc} {ls : Array Slot} (hl : lv_has ls 4 [(0, .ref (a 12)), (1, .int x1)]) (hP : pv_W D pv_cl 52 a (pv_FX q a) σ H) (hS : va_S A s.heap H locs) (hf : f_Wr_keepSources_0 σ x1 = some out) : W p l e R s m args below meth c H locs 0 0 Q (F0 m 0 ls []) := by
  unfold f_Wr_keepSources_0 at hf
  have hx := C.1
  have hb := C.2.1
  refine lv_iconst (v := (0 : Int32)) hx hb d_Wr_keepSources_0 (by decide) ?_
  refine lv_istore_n (lv' := [(2, .int (0 : Int32)), (0, .ref (a 12)), (1, .int x1)]) hx hb d_Wr_keepSources_1 rfl hl (by decide) rfl (fun ls hl => ?_)
  exact s_Wr_keepSources_2 C hmv hRf hRl hret pv_fu (lv_sub hl [1, 2, 0] rfl) hP hS hf
def f_Wr_keepSources (σ : pv_S) (x1 : Int32) : Option pv_S := f_Wr_keepSources_0 σ x1
def rm_Wr_keepSources : Room := { frames := 1, cells := 0, slots := 0, locals := 20 }
theorem c_Wr_keepSources {l : Launch} {D : va_G} {q : Nat → ClassId} {a t : Nat → Nat} {A : Nat → Prop} (hD : pv_D 52 a A) (hmv : pv_mv A (pv_ZX t A)) {σ : pv_S} {x1 : Int32} {out : pv_S} (hf : f_Wr_keepSources σ x1 = some out) : pv_Mv l y_Wr_keepSources (Cond.code y_Wr_keepSources prog_7_method_16_code 4 none :: pv_TB) rm_Wr_keepSources D pv_cl (pv_ty q) 52 a (pv_FX q a) A (pv_ZX t A) [.ref (a 12), .int x1] σ out :=
  pv_ofV (by decide) (Nat.le_of_ble_eq_true rfl) hD (fun p e s m args below meth c Q ls C hret hl hP => s_Wr_keepSources_0 C hmv (Nat.le_refl _) (Nat.le_refl _) hret hl hP va_S.rf hf)
theorem d_Wr_keepNeeded_0 : decode prog_7_method_15_code 0 = .ok (.aload_n 0, 1) := by decide +kernel
theorem d_Wr_keepNeeded_1 : decode prog_7_method_15_code 1 = .ok (.invokevirtual 112, 3) := by decide +kernel
theorem d_Wr_keepNeeded_4 : decode prog_7_method_15_code 4 = .ok (.iconst (-1), 1) := by decide +kernel
theorem d_Wr_keepNeeded_5 : decode prog_7_method_15_code 5 = .ok (.if_icmp .ne 4, 3) := by decide +kernel
theorem d_Wr_keepNeeded_8 : decode prog_7_method_15_code 8 = .ok (.return_, 1) := by decide +kernel
theorem d_Wr_keepNeeded_9 : decode prog_7_method_15_code 9 = .ok (.aload_n 0, 1) := by decide +kernel
theorem d_Wr_keepNeeded_10 : decode prog_7_method_15_code 10 = .ok (.getfield 28, 3) := by decide +kernel
theorem d_Wr_keepNeeded_13 : decode prog_7_method_15_code 13 = .ok (.aload_n 0, 1) := by decide +kernel
theorem d_Wr_keepNeeded_14 : decode prog_7_method_15_code 14 = .ok (.invokevirtual 112, 3) := by decide +kernel
theorem d_Wr_keepNeeded_17 : decode prog_7_method_15_code 17 = .ok (.iconst 1, 1) := by decide +kernel
theorem d_Wr_keepNeeded_18 : decode prog_7_method_15_code 18 = .ok (.bastore, 1) := by decide +kernel
theorem d_Wr_keepNeeded_19 : decode prog_7_method_15_code 19 = .ok (.iconst 1, 1) := by decide +kernel
theorem d_Wr_keepNeeded_20 : decode prog_7_method_15_code 20 = .ok (.istore_n 1, 1) := by decide +kernel
theorem d_Wr_keepNeeded_21 : decode prog_7_method_15_code 21 = .ok (.iload_n 1, 1) := by decide +kernel
theorem d_Wr_keepNeeded_22 : decode prog_7_method_15_code 22 = .ok (.aload_n 0, 1) := by decide +kernel
theorem d_Wr_keepNeeded_23 : decode prog_7_method_15_code 23 = .ok (.getfield 48, 3) := by decide +kernel
theorem d_Wr_keepNeeded_26 : decode prog_7_method_15_code 26 = .ok (.if_icmp .ge 39, 3) := by decide +kernel
theorem d_Wr_keepNeeded_29 : decode prog_7_method_15_code 29 = .ok (.iconst 0, 1) := by decide +kernel
theorem d_Wr_keepNeeded_30 : decode prog_7_method_15_code 30 = .ok (.istore_n 2, 1) := by decide +kernel
theorem d_Wr_keepNeeded_31 : decode prog_7_method_15_code 31 = .ok (.iload_n 2, 1) := by decide +kernel
theorem d_Wr_keepNeeded_32 : decode prog_7_method_15_code 32 = .ok (.aload_n 0, 1) := by decide +kernel
theorem d_Wr_keepNeeded_33 : decode prog_7_method_15_code 33 = .ok (.getfield 48, 3) := by decide +kernel
theorem d_Wr_keepNeeded_36 : decode prog_7_method_15_code 36 = .ok (.if_icmp .ge 23, 3) := by decide +kernel
theorem d_Wr_keepNeeded_39 : decode prog_7_method_15_code 39 = .ok (.aload_n 0, 1) := by decide +kernel
theorem d_Wr_keepNeeded_40 : decode prog_7_method_15_code 40 = .ok (.getfield 28, 3) := by decide +kernel
theorem d_Wr_keepNeeded_43 : decode prog_7_method_15_code 43 = .ok (.iload_n 2, 1) := by decide +kernel
theorem d_Wr_keepNeeded_44 : decode prog_7_method_15_code 44 = .ok (.baload, 1) := by decide +kernel
theorem d_Wr_keepNeeded_45 : decode prog_7_method_15_code 45 = .ok (.ifCond .eq 8, 3) := by decide +kernel
theorem d_Wr_keepNeeded_48 : decode prog_7_method_15_code 48 = .ok (.aload_n 0, 1) := by decide +kernel
theorem d_Wr_keepNeeded_49 : decode prog_7_method_15_code 49 = .ok (.iload_n 2, 1) := by decide +kernel
theorem d_Wr_keepNeeded_50 : decode prog_7_method_15_code 50 = .ok (.invokevirtual 116, 3) := by decide +kernel
theorem d_Wr_keepNeeded_53 : decode prog_7_method_15_code 53 = .ok (.iinc 2 1, 3) := by decide +kernel
theorem d_Wr_keepNeeded_56 : decode prog_7_method_15_code 56 = .ok (.goto (-25), 3) := by decide +kernel
theorem d_Wr_keepNeeded_59 : decode prog_7_method_15_code 59 = .ok (.iinc 1 1, 3) := by decide +kernel
theorem d_Wr_keepNeeded_62 : decode prog_7_method_15_code 62 = .ok (.goto (-41), 3) := by decide +kernel
theorem d_Wr_keepNeeded_65 : decode prog_7_method_15_code 65 = .ok (.return_, 1) := by decide +kernel
def f_Wr_keepNeeded_53 (k_21 : pv_S → Int32 → Option pv_S) (k_31 : pv_S → Int32 → Int32 → Option pv_S) (σ : pv_S) (x1 : Int32) (x2 : Int32) : Option pv_S :=
  k_31 σ x1 (x2 + (1 : Int32))
set_option maxHeartbeats 4000000 in
set_option maxRecDepth 100000 in
theorem s_Wr_keepNeeded_53 {p : Program} {l : Launch} {e : Env} {R : Room} {s : State} {m : MethodId} {args : Array Value} {below : List Frame} {meth : Method} {c : Code} {Q : State → Prop} {D : va_G} {q : Nat → ClassId} {a t : Nat → Nat} {A : Nat → Prop} (C : pv_C p s m args c prog_7_method_15_code 3 "PatchVoices$Wiring" pv_TB D pv_cl (pv_ty q) 52 a A (pv_ZX t A)) (hmv : pv_mv A (pv_ZX t A)) (hRf : 2 ≤ R.frames) (hRl : 43 ≤ R.locals) {out : pv_S} (hret : pv_Rv p l e R s m args below meth c prog_7_method_15_code D pv_cl 52 a (pv_FX q a) A Q out) {k_21 : pv_S → Int32 → Option pv_S} (hk_21 : ∀ (σ : pv_S) (x1 : Int32) (H : Heap) (locs : List Loc) (ls : Array Slot), k_21 σ x1 = some out → lv_has ls 3 [(0, .ref (a 12)), (1, .int x1)] → pv_W D pv_cl 52 a (pv_FX q a) σ H → va_S A s.heap H locs → W p l e R s m args below meth c H locs 0 0 Q (F0 m 21 ls [])) {k_31 : pv_S → Int32 → Int32 → Option pv_S} (hk_31 : ∀ (σ : pv_S) (x1 : Int32) (x2 : Int32) (H : Heap) (locs : List Loc) (ls : Array Slot), k_31 σ x1 x2 = some out → lv_has ls 3 [(0, .ref (a 12)), (1, .int x1), (2, .int x2)] → pv_W D pv_cl 52 a (pv_FX q a) σ H → va_S A s.heap H locs → W p l e R s m args below meth c H locs 0 0 Q (F0 m 31 ls [])) {σ : pv_S} {x1 : Int32} {x2 : Int32} {H : Heap} {locs : List Loc} {ls : Array Slot} (hl : lv_has ls 3 [(0, .ref (a 12)), (1, .int x1), (2, .int x2)]) (hP : pv_W D pv_cl 52 a (pv_FX q a) σ H) (hS : va_S A s.heap H locs) (hf : f_Wr_keepNeeded_53 k_21 k_31 σ x1 x2 = some out) : W p l e R s m args below meth c H locs 0 0 Q (F0 m 53 ls []) := by
  unfold f_Wr_keepNeeded_53 at hf
  have hx := C.1
  have hb := C.2.1
  refine lv_iinc (k := 2) (v := (x2 + (1 : Int32))) (lv' := [(2, .int (x2 + (1 : Int32))), (0, .ref (a 12)), (1, .int x1)]) hx hb d_Wr_keepNeeded_53 hl rfl (pv_inc (by decide)) (by decide) rfl (fun ls hl => ?_)
  refine lv_goto (tgt := 31) hx hb d_Wr_keepNeeded_56 (by decide) ?_
  exact hk_31 _ _ _ _ _ _ hf (lv_sub hl [1, 2, 0] rfl) hP hS
def f_Wr_keepNeeded_31b (k_21 : pv_S → Int32 → Option pv_S) (k_31 : pv_S → Int32 → Int32 → Option pv_S) (σ : pv_S) (x1 : Int32) (x2 : Int32) : Option pv_S :=
  (if (σ.1 12 0) ≤ x2 then
  k_21 σ (x1 + (1 : Int32))
  else
  (if pv_in x2 24 = true then
(if (σ.1 17 (x2).toNatClampNeg) = 0 then
  f_Wr_keepNeeded_53 k_21 k_31 σ x1 x2
  else
  ((f_Wr_keepSources σ x2).bind fun q3 =>
f_Wr_keepNeeded_53 k_21 k_31 q3 x1 x2))
  else none))
set_option maxHeartbeats 4000000 in
set_option maxRecDepth 100000 in
theorem s_Wr_keepNeeded_31b {p : Program} {l : Launch} {e : Env} {R : Room} {s : State} {m : MethodId} {args : Array Value} {below : List Frame} {meth : Method} {c : Code} {Q : State → Prop} {D : va_G} {q : Nat → ClassId} {a t : Nat → Nat} {A : Nat → Prop} (C : pv_C p s m args c prog_7_method_15_code 3 "PatchVoices$Wiring" pv_TB D pv_cl (pv_ty q) 52 a A (pv_ZX t A)) (hmv : pv_mv A (pv_ZX t A)) (hRf : 2 ≤ R.frames) (hRl : 43 ≤ R.locals) {out : pv_S} (hret : pv_Rv p l e R s m args below meth c prog_7_method_15_code D pv_cl 52 a (pv_FX q a) A Q out) {k_21 : pv_S → Int32 → Option pv_S} (hk_21 : ∀ (σ : pv_S) (x1 : Int32) (H : Heap) (locs : List Loc) (ls : Array Slot), k_21 σ x1 = some out → lv_has ls 3 [(0, .ref (a 12)), (1, .int x1)] → pv_W D pv_cl 52 a (pv_FX q a) σ H → va_S A s.heap H locs → W p l e R s m args below meth c H locs 0 0 Q (F0 m 21 ls [])) {k_31 : pv_S → Int32 → Int32 → Option pv_S} (hk_31 : ∀ (σ : pv_S) (x1 : Int32) (x2 : Int32) (H : Heap) (locs : List Loc) (ls : Array Slot), k_31 σ x1 x2 = some out → lv_has ls 3 [(0, .ref (a 12)), (1, .int x1), (2, .int x2)] → pv_W D pv_cl 52 a (pv_FX q a) σ H → va_S A s.heap H locs → W p l e R s m args below meth c H locs 0 0 Q (F0 m 31 ls [])) {σ : pv_S} {x1 : Int32} {x2 : Int32} {H : Heap} {locs : List Loc} {ls : Array Slot} (hl : lv_has ls 3 [(0, .ref (a 12)), (1, .int x1), (2, .int x2)]) (hP : pv_W D pv_cl 52 a (pv_FX q a) σ H) (hS : va_S A s.heap H locs) (hf : f_Wr_keepNeeded_31b k_21 k_31 σ x1 x2 = some out) : W p l e R s m args below meth c H locs 0 0 Q (F0 m 31 ls []) := by
  unfold f_Wr_keepNeeded_31b at hf
  have hx := C.1
  have hb := C.2.1
  refine lv_iload_n hx hb d_Wr_keepNeeded_31 rfl (lv_at hl 2 rfl) ?_
  refine lv_aload_n hx hb d_Wr_keepNeeded_32 rfl (lv_at hl 0 rfl) ?_
  refine pv_get C hP (v := .int (σ.1 12 0)) (j := 0) (by decide) (fx_12 _ _ _ _) fl_Wr_48 rfl d_Wr_keepNeeded_33 ?_
  refine lv_icmp_ge (tgt := 59) hx hb d_Wr_keepNeeded_36 (by decide) (fun h => ?_) (fun h => ?_)
  · have hf := pv_t hf h
    refine lv_iinc (k := 1) (v := (x1 + (1 : Int32))) (lv' := [(1, .int (x1 + (1 : Int32))), (0, .ref (a 12)), (2, .int x2)]) hx hb d_Wr_keepNeeded_59 hl rfl (pv_inc (by decide)) (by decide) rfl (fun ls hl => ?_)
    refine lv_goto (tgt := 21) hx hb d_Wr_keepNeeded_62 (by decide) ?_
    exact hk_21 _ _ _ _ _ hf (lv_sub hl [1, 0] rfl) hP hS
  · have hf := pv_f hf h
    refine lv_aload_n hx hb d_Wr_keepNeeded_39 rfl (lv_at hl 0 rfl) ?_
    refine pv_get C hP (v := .ref (a 17)) (j := 5) (by decide) (fx_12 _ _ _ _) fl_Wr_28 rfl d_Wr_keepNeeded_40 ?_
    refine lv_iload_n hx hb d_Wr_keepNeeded_43 rfl (lv_at hl 2 rfl) ?_
    obtain ⟨hg, hf⟩ := pv_g hf
    refine pv_zald C hP (t0 := 2) (by decide) (fx_17 _ _ _ _) rfl hg d_Wr_keepNeeded_44 ?_
    refine lv_if_eq (tgt := 53) hx hb d_Wr_keepNeeded_45 (by decide) (fun h => ?_) (fun h => ?_)
    · have hf := pv_t hf h
      exact s_Wr_keepNeeded_53 C hmv hRf hRl hret hk_21 hk_31 (lv_sub hl [0, 1, 2] rfl) hP hS hf
    · have hf := pv_f hf h
      refine lv_aload_n hx hb d_Wr_keepNeeded_48 rfl (lv_at hl 0 rfl) ?_
      refine lv_iload_n hx hb d_Wr_keepNeeded_49 rfl (lv_at hl 2 rfl) ?_
      obtain ⟨q3, hc, hf⟩ := pv_b hf
      refine pv_callVv C hmv pv_good hP hS (As := [.int x2]) (rest := []) (by decide) (fx_12 _ _ _ _) rfl (c_Wr_keepSources C.2.2.2.2.2.2.1 hmv hc) cv_Wr_116 ⟨rfl, rfl, Nat.le_trans (Nat.le_of_ble_eq_true rfl) hRf, Nat.le_trans (Nat.le_of_ble_eq_true rfl) hRl⟩ rfl hl.1 rfl (Nat.le_of_ble_eq_true rfl) d_Wr_keepNeeded_50 ⟨Nat.zero_le _, Nat.zero_le _⟩ (fun H locs hP hS => ?_)
      exact s_Wr_keepNeeded_53 C hmv hRf hRl hret hk_21 hk_31 (lv_sub hl [0, 1, 2] rfl) hP hS hf
def f_Wr_keepNeeded_31 (k_21 : pv_S → Int32 → Option pv_S) : Nat → pv_S → Int32 → Int32 → Option pv_S
  | 0 => fun _ _ _ => none
  | n + 1 => f_Wr_keepNeeded_31b k_21 (f_Wr_keepNeeded_31 k_21 n)
set_option maxHeartbeats 4000000 in
theorem s_Wr_keepNeeded_31 {p : Program} {l : Launch} {e : Env} {R : Room} {s : State} {m : MethodId} {args : Array Value} {below : List Frame} {meth : Method} {c : Code} {Q : State → Prop} {D : va_G} {q : Nat → ClassId} {a t : Nat → Nat} {A : Nat → Prop} (C : pv_C p s m args c prog_7_method_15_code 3 "PatchVoices$Wiring" pv_TB D pv_cl (pv_ty q) 52 a A (pv_ZX t A)) (hmv : pv_mv A (pv_ZX t A)) (hRf : 2 ≤ R.frames) (hRl : 43 ≤ R.locals) {out : pv_S} (hret : pv_Rv p l e R s m args below meth c prog_7_method_15_code D pv_cl 52 a (pv_FX q a) A Q out) {k_21 : pv_S → Int32 → Option pv_S} (hk_21 : ∀ (σ : pv_S) (x1 : Int32) (H : Heap) (locs : List Loc) (ls : Array Slot), k_21 σ x1 = some out → lv_has ls 3 [(0, .ref (a 12)), (1, .int x1)] → pv_W D pv_cl 52 a (pv_FX q a) σ H → va_S A s.heap H locs → W p l e R s m args below meth c H locs 0 0 Q (F0 m 21 ls [])) (n : Nat) : ∀ {σ : pv_S} {x1 : Int32} {x2 : Int32} {H : Heap} {locs : List Loc} {ls : Array Slot}, lv_has ls 3 [(0, .ref (a 12)), (1, .int x1), (2, .int x2)] → pv_W D pv_cl 52 a (pv_FX q a) σ H → va_S A s.heap H locs → f_Wr_keepNeeded_31 k_21 n σ x1 x2 = some out → W p l e R s m args below meth c H locs 0 0 Q (F0 m 31 ls []) := by
  induction n with
  | zero => intro σ x1 x2 H locs ls hl hP hS hf; cases hf
  | succ n ih => intro σ x1 x2 H locs ls hl hP hS hf; exact s_Wr_keepNeeded_31b C hmv hRf hRl hret hk_21 (fun σ x1 x2 H locs ls hf hl hP hS => ih hl hP hS hf) hl hP hS hf
def f_Wr_keepNeeded_21b (k_21 : pv_S → Int32 → Option pv_S) (σ : pv_S) (x1 : Int32) : Option pv_S :=
  (if (σ.1 12 0) ≤ x1 then
  some σ
  else
  f_Wr_keepNeeded_31 k_21 pv_fu σ x1 (0 : Int32))
set_option maxHeartbeats 4000000 in
set_option maxRecDepth 100000 in
theorem s_Wr_keepNeeded_21b {p : Program} {l : Launch} {e : Env} {R : Room} {s : State} {m : MethodId} {args : Array Value} {below : List Frame} {meth : Method} {c : Code} {Q : State → Prop} {D : va_G} {q : Nat → ClassId} {a t : Nat → Nat} {A : Nat → Prop} (C : pv_C p s m args c prog_7_method_15_code 3 "PatchVoices$Wiring" pv_TB D pv_cl (pv_ty q) 52 a A (pv_ZX t A)) (hmv : pv_mv A (pv_ZX t A)) (hRf : 2 ≤ R.frames) (hRl : 43 ≤ R.locals) {out : pv_S} (hret : pv_Rv p l e R s m args below meth c prog_7_method_15_code D pv_cl 52 a (pv_FX q a) A Q out) {k_21 : pv_S → Int32 → Option pv_S} (hk_21 : ∀ (σ : pv_S) (x1 : Int32) (H : Heap) (locs : List Loc) (ls : Array Slot), k_21 σ x1 = some out → lv_has ls 3 [(0, .ref (a 12)), (1, .int x1)] → pv_W D pv_cl 52 a (pv_FX q a) σ H → va_S A s.heap H locs → W p l e R s m args below meth c H locs 0 0 Q (F0 m 21 ls [])) {σ : pv_S} {x1 : Int32} {H : Heap} {locs : List Loc} {ls : Array Slot} (hl : lv_has ls 3 [(0, .ref (a 12)), (1, .int x1)]) (hP : pv_W D pv_cl 52 a (pv_FX q a) σ H) (hS : va_S A s.heap H locs) (hf : f_Wr_keepNeeded_21b k_21 σ x1 = some out) : W p l e R s m args below meth c H locs 0 0 Q (F0 m 21 ls []) := by
  unfold f_Wr_keepNeeded_21b at hf
  have hx := C.1
  have hb := C.2.1
  refine lv_iload_n hx hb d_Wr_keepNeeded_21 rfl (lv_at hl 1 rfl) ?_
  refine lv_aload_n hx hb d_Wr_keepNeeded_22 rfl (lv_at hl 0 rfl) ?_
  refine pv_get C hP (v := .int (σ.1 12 0)) (j := 0) (by decide) (fx_12 _ _ _ _) fl_Wr_48 rfl d_Wr_keepNeeded_23 ?_
  refine lv_icmp_ge (tgt := 65) hx hb d_Wr_keepNeeded_26 (by decide) (fun h => ?_) (fun h => ?_)
  · have hf := pv_t hf h
    obtain rfl := Option.some.inj hf
    exact hret _ _ _ _ d_Wr_keepNeeded_65 hP hS
  · have hf := pv_f hf h
    refine lv_iconst (v := (0 : Int32)) hx hb d_Wr_keepNeeded_29 (by decide) ?_
    refine lv_istore_n (lv' := [(2, .int (0 : Int32)), (0, .ref (a 12)), (1, .int x1)]) hx hb d_Wr_keepNeeded_30 rfl hl (by decide) rfl (fun ls hl => ?_)
    exact s_Wr_keepNeeded_31 C hmv hRf hRl hret hk_21 pv_fu (lv_sub hl [1, 2, 0] rfl) hP hS hf
def f_Wr_keepNeeded_21 : Nat → pv_S → Int32 → Option pv_S
  | 0 => fun _ _ => none
  | n + 1 => f_Wr_keepNeeded_21b (f_Wr_keepNeeded_21 n)
set_option maxHeartbeats 4000000 in
theorem s_Wr_keepNeeded_21 {p : Program} {l : Launch} {e : Env} {R : Room} {s : State} {m : MethodId} {args : Array Value} {below : List Frame} {meth : Method} {c : Code} {Q : State → Prop} {D : va_G} {q : Nat → ClassId} {a t : Nat → Nat} {A : Nat → Prop} (C : pv_C p s m args c prog_7_method_15_code 3 "PatchVoices$Wiring" pv_TB D pv_cl (pv_ty q) 52 a A (pv_ZX t A)) (hmv : pv_mv A (pv_ZX t A)) (hRf : 2 ≤ R.frames) (hRl : 43 ≤ R.locals) {out : pv_S} (hret : pv_Rv p l e R s m args below meth c prog_7_method_15_code D pv_cl 52 a (pv_FX q a) A Q out) (n : Nat) : ∀ {σ : pv_S} {x1 : Int32} {H : Heap} {locs : List Loc} {ls : Array Slot}, lv_has ls 3 [(0, .ref (a 12)), (1, .int x1)] → pv_W D pv_cl 52 a (pv_FX q a) σ H → va_S A s.heap H locs → f_Wr_keepNeeded_21 n σ x1 = some out → W p l e R s m args below meth c H locs 0 0 Q (F0 m 21 ls []) := by
  induction n with
  | zero => intro σ x1 H locs ls hl hP hS hf; cases hf
  | succ n ih => intro σ x1 H locs ls hl hP hS hf; exact s_Wr_keepNeeded_21b C hmv hRf hRl hret (fun σ x1 H locs ls hf hl hP hS => ih hl hP hS hf) hl hP hS hf
def f_Wr_keepNeeded_0 (σ : pv_S) : Option pv_S :=
  ((f_Wr_outputModule σ).bind fun q1 =>
(if q1.1 = (-1 : Int32) then
  some q1.2
  else
  ((f_Wr_outputModule q1.2).bind fun q2 =>
(if pv_in q2.1 24 = true then
f_Wr_keepNeeded_21 pv_fu (pv_uI q2.2 17 (q2.1).toNatClampNeg (vp_nar .boolean (1 : Int32))) (1 : Int32)
  else none))))
set_option maxHeartbeats 4000000 in
set_option maxRecDepth 100000 in
theorem s_Wr_keepNeeded_0 {p : Program} {l : Launch} {e : Env} {R : Room} {s : State} {m : MethodId} {args : Array Value} {below : List Frame} {meth : Method} {c : Code} {Q : State → Prop} {D : va_G} {q : Nat → ClassId} {a t : Nat → Nat} {A : Nat → Prop} (C : pv_C p s m args c prog_7_method_15_code 3 "PatchVoices$Wiring" pv_TB D pv_cl (pv_ty q) 52 a A (pv_ZX t A)) (hmv : pv_mv A (pv_ZX t A)) (hRf : 2 ≤ R.frames) (hRl : 43 ≤ R.locals) {out : pv_S} (hret : pv_Rv p l e R s m args below meth c prog_7_method_15_code D pv_cl 52 a (pv_FX q a) A Q out) {σ : pv_S} {H : Heap} {locs : List Loc} {ls : Array Slot} (hl : lv_has ls 3 [(0, .ref (a 12))]) (hP : pv_W D pv_cl 52 a (pv_FX q a) σ H) (hS : va_S A s.heap H locs) (hf : f_Wr_keepNeeded_0 σ = some out) : W p l e R s m args below meth c H locs 0 0 Q (F0 m 0 ls []) := by
  unfold f_Wr_keepNeeded_0 at hf
  have hx := C.1
  have hb := C.2.1
  refine lv_aload_n hx hb d_Wr_keepNeeded_0 rfl (lv_at hl 0 rfl) ?_
  obtain ⟨q1, hc, hf⟩ := pv_b hf
  refine pv_callVi C hmv pv_good hP hS (As := []) (rest := []) (by decide) (fx_12 _ _ _ _) rfl (c_Wr_outputModule C.2.2.2.2.2.2.1 hmv hc) cv_Wr_112 ⟨rfl, rfl, Nat.le_trans (Nat.le_of_ble_eq_true rfl) hRf, Nat.le_trans (Nat.le_of_ble_eq_true rfl) hRl⟩ rfl hl.1 rfl (Nat.le_of_ble_eq_true rfl) d_Wr_keepNeeded_1 ⟨Nat.zero_le _, Nat.zero_le _⟩ (fun H locs hP hS => ?_)
  refine lv_iconst (v := (-1 : Int32)) hx hb d_Wr_keepNeeded_4 (by decide) ?_
  refine lv_icmp_ne (tgt := 9) hx hb d_Wr_keepNeeded_5 (by decide) (fun h => ?_) (fun h => ?_)
  · have hf := pv_f hf h
    refine lv_aload_n hx hb d_Wr_keepNeeded_9 rfl (lv_at hl 0 rfl) ?_
    refine pv_get C hP (v := .ref (a 17)) (j := 5) (by decide) (fx_12 _ _ _ _) fl_Wr_28 rfl d_Wr_keepNeeded_10 ?_
    refine lv_aload_n hx hb d_Wr_keepNeeded_13 rfl (lv_at hl 0 rfl) ?_
    obtain ⟨q2, hc, hf⟩ := pv_b hf
    refine pv_callVi C hmv pv_good hP hS (As := []) (rest := [.ref (a 17)]) (by decide) (fx_12 _ _ _ _) rfl (c_Wr_outputModule C.2.2.2.2.2.2.1 hmv hc) cv_Wr_112 ⟨rfl, rfl, Nat.le_trans (Nat.le_of_ble_eq_true rfl) hRf, Nat.le_trans (Nat.le_of_ble_eq_true rfl) hRl⟩ rfl hl.1 rfl (Nat.le_of_ble_eq_true rfl) d_Wr_keepNeeded_14 ⟨Nat.zero_le _, Nat.zero_le _⟩ (fun H locs hP hS => ?_)
    refine lv_iconst (v := (1 : Int32)) hx hb d_Wr_keepNeeded_17 (by decide) ?_
    obtain ⟨hg, hf⟩ := pv_g hf
    refine pv_zast C hP hS (t0 := 2) (x := (1 : Int32)) (by decide) (fun f g => (fx_17 _ _ f g)) rfl hg d_Wr_keepNeeded_18 (fun H locs hP hS => ?_)
    refine lv_iconst (v := (1 : Int32)) hx hb d_Wr_keepNeeded_19 (by decide) ?_
    refine lv_istore_n (lv' := [(1, .int (1 : Int32)), (0, .ref (a 12))]) hx hb d_Wr_keepNeeded_20 rfl hl (by decide) rfl (fun ls hl => ?_)
    exact s_Wr_keepNeeded_21 C hmv hRf hRl hret pv_fu (lv_sub hl [1, 0] rfl) hP hS hf
  · have hf := pv_t hf h
    obtain rfl := Option.some.inj hf
    exact hret _ _ _ _ d_Wr_keepNeeded_8 hP hS
def f_Wr_keepNeeded (σ : pv_S) : Option pv_S := f_Wr_keepNeeded_0 σ
def rm_Wr_keepNeeded : Room := { frames := 2, cells := 0, slots := 0, locals := 43 }
theorem c_Wr_keepNeeded {l : Launch} {D : va_G} {q : Nat → ClassId} {a t : Nat → Nat} {A : Nat → Prop} (hD : pv_D 52 a A) (hmv : pv_mv A (pv_ZX t A)) {σ : pv_S} {out : pv_S} (hf : f_Wr_keepNeeded σ = some out) : pv_Mv l y_Wr_keepNeeded (Cond.code y_Wr_keepNeeded prog_7_method_15_code 3 none :: pv_TB) rm_Wr_keepNeeded D pv_cl (pv_ty q) 52 a (pv_FX q a) A (pv_ZX t A) [.ref (a 12)] σ out :=
  pv_ofV (by decide) (Nat.le_of_ble_eq_true rfl) hD (fun p e s m args below meth c Q ls C hret hl hP => s_Wr_keepNeeded_0 C hmv (Nat.le_refl _) (Nat.le_refl _) hret hl hP va_S.rf hf)
theorem d_Wr_make_0 : decode prog_7_method_2_code 0 = .ok (.aload_n 0, 1) := by decide +kernel
theorem d_Wr_make_1 : decode prog_7_method_2_code 1 = .ok (.aload_n 1, 1) := by decide +kernel
theorem d_Wr_make_2 : decode prog_7_method_2_code 2 = .ok (.getfield 38, 3) := by decide +kernel
theorem d_Wr_make_5 : decode prog_7_method_2_code 5 = .ok (.bipush 24, 2) := by decide +kernel
theorem d_Wr_make_7 : decode prog_7_method_2_code 7 = .ok (.invokestatic 42, 3) := by decide +kernel
theorem d_Wr_make_10 : decode prog_7_method_2_code 10 = .ok (.putfield 48, 3) := by decide +kernel
theorem d_Wr_make_13 : decode prog_7_method_2_code 13 = .ok (.aload_n 1, 1) := by decide +kernel
theorem d_Wr_make_14 : decode prog_7_method_2_code 14 = .ok (.getfield 49, 3) := by decide +kernel
theorem d_Wr_make_17 : decode prog_7_method_2_code 17 = .ok (.iconst 0, 1) := by decide +kernel
theorem d_Wr_make_18 : decode prog_7_method_2_code 18 = .ok (.aload_n 0, 1) := by decide +kernel
theorem d_Wr_make_19 : decode prog_7_method_2_code 19 = .ok (.getfield 11, 3) := by decide +kernel
theorem d_Wr_make_22 : decode prog_7_method_2_code 22 = .ok (.iconst 0, 1) := by decide +kernel
theorem d_Wr_make_23 : decode prog_7_method_2_code 23 = .ok (.aload_n 0, 1) := by decide +kernel
theorem d_Wr_make_24 : decode prog_7_method_2_code 24 = .ok (.getfield 48, 3) := by decide +kernel
theorem d_Wr_make_27 : decode prog_7_method_2_code 27 = .ok (.invokestatic 50, 3) := by decide +kernel
theorem d_Wr_make_30 : decode prog_7_method_2_code 30 = .ok (.aload_n 1, 1) := by decide +kernel
theorem d_Wr_make_31 : decode prog_7_method_2_code 31 = .ok (.getfield 56, 3) := by decide +kernel
theorem d_Wr_make_34 : decode prog_7_method_2_code 34 = .ok (.iconst 0, 1) := by decide +kernel
theorem d_Wr_make_35 : decode prog_7_method_2_code 35 = .ok (.aload_n 0, 1) := by decide +kernel
theorem d_Wr_make_36 : decode prog_7_method_2_code 36 = .ok (.getfield 19, 3) := by decide +kernel
theorem d_Wr_make_39 : decode prog_7_method_2_code 39 = .ok (.iconst 0, 1) := by decide +kernel
theorem d_Wr_make_40 : decode prog_7_method_2_code 40 = .ok (.iconst 4, 1) := by decide +kernel
theorem d_Wr_make_41 : decode prog_7_method_2_code 41 = .ok (.aload_n 0, 1) := by decide +kernel
theorem d_Wr_make_42 : decode prog_7_method_2_code 42 = .ok (.getfield 48, 3) := by decide +kernel
theorem d_Wr_make_45 : decode prog_7_method_2_code 45 = .ok (.imul, 1) := by decide +kernel
theorem d_Wr_make_46 : decode prog_7_method_2_code 46 = .ok (.invokestatic 50, 3) := by decide +kernel
theorem d_Wr_make_49 : decode prog_7_method_2_code 49 = .ok (.aload_n 1, 1) := by decide +kernel
theorem d_Wr_make_50 : decode prog_7_method_2_code 50 = .ok (.getfield 57, 3) := by decide +kernel
theorem d_Wr_make_53 : decode prog_7_method_2_code 53 = .ok (.iconst 0, 1) := by decide +kernel
theorem d_Wr_make_54 : decode prog_7_method_2_code 54 = .ok (.aload_n 0, 1) := by decide +kernel
theorem d_Wr_make_55 : decode prog_7_method_2_code 55 = .ok (.getfield 22, 3) := by decide +kernel
theorem d_Wr_make_58 : decode prog_7_method_2_code 58 = .ok (.iconst 0, 1) := by decide +kernel
theorem d_Wr_make_59 : decode prog_7_method_2_code 59 = .ok (.iconst 4, 1) := by decide +kernel
theorem d_Wr_make_60 : decode prog_7_method_2_code 60 = .ok (.aload_n 0, 1) := by decide +kernel
theorem d_Wr_make_61 : decode prog_7_method_2_code 61 = .ok (.getfield 48, 3) := by decide +kernel
theorem d_Wr_make_64 : decode prog_7_method_2_code 64 = .ok (.imul, 1) := by decide +kernel
theorem d_Wr_make_65 : decode prog_7_method_2_code 65 = .ok (.invokestatic 50, 3) := by decide +kernel
theorem d_Wr_make_68 : decode prog_7_method_2_code 68 = .ok (.iconst 0, 1) := by decide +kernel
theorem d_Wr_make_69 : decode prog_7_method_2_code 69 = .ok (.istore_n 3, 1) := by decide +kernel
theorem d_Wr_make_70 : decode prog_7_method_2_code 70 = .ok (.iload_n 3, 1) := by decide +kernel
theorem d_Wr_make_71 : decode prog_7_method_2_code 71 = .ok (.aload_n 0, 1) := by decide +kernel
theorem d_Wr_make_72 : decode prog_7_method_2_code 72 = .ok (.getfield 48, 3) := by decide +kernel
theorem d_Wr_make_75 : decode prog_7_method_2_code 75 = .ok (.if_icmp .ge 38, 3) := by decide +kernel
theorem d_Wr_make_78 : decode prog_7_method_2_code 78 = .ok (.aload_n 0, 1) := by decide +kernel
theorem d_Wr_make_79 : decode prog_7_method_2_code 79 = .ok (.getfield 32, 3) := by decide +kernel
theorem d_Wr_make_82 : decode prog_7_method_2_code 82 = .ok (.iload_n 3, 1) := by decide +kernel
theorem d_Wr_make_83 : decode prog_7_method_2_code 83 = .ok (.iload_n 3, 1) := by decide +kernel
theorem d_Wr_make_84 : decode prog_7_method_2_code 84 = .ok (.iastore, 1) := by decide +kernel
theorem d_Wr_make_85 : decode prog_7_method_2_code 85 = .ok (.aload_n 0, 1) := by decide +kernel
theorem d_Wr_make_86 : decode prog_7_method_2_code 86 = .ok (.getfield 35, 3) := by decide +kernel
theorem d_Wr_make_89 : decode prog_7_method_2_code 89 = .ok (.iload_n 3, 1) := by decide +kernel
theorem d_Wr_make_90 : decode prog_7_method_2_code 90 = .ok (.iconst 0, 1) := by decide +kernel
theorem d_Wr_make_91 : decode prog_7_method_2_code 91 = .ok (.iastore, 1) := by decide +kernel
theorem d_Wr_make_92 : decode prog_7_method_2_code 92 = .ok (.aload_n 0, 1) := by decide +kernel
theorem d_Wr_make_93 : decode prog_7_method_2_code 93 = .ok (.getfield 28, 3) := by decide +kernel
theorem d_Wr_make_96 : decode prog_7_method_2_code 96 = .ok (.iload_n 3, 1) := by decide +kernel
theorem d_Wr_make_97 : decode prog_7_method_2_code 97 = .ok (.iload_n 2, 1) := by decide +kernel
theorem d_Wr_make_98 : decode prog_7_method_2_code 98 = .ok (.ifCond .ne 7, 3) := by decide +kernel
theorem d_Wr_make_101 : decode prog_7_method_2_code 101 = .ok (.iconst 1, 1) := by decide +kernel
theorem d_Wr_make_102 : decode prog_7_method_2_code 102 = .ok (.goto 4, 3) := by decide +kernel
theorem d_Wr_make_105 : decode prog_7_method_2_code 105 = .ok (.iconst 0, 1) := by decide +kernel
theorem d_Wr_make_106 : decode prog_7_method_2_code 106 = .ok (.bastore, 1) := by decide +kernel
theorem d_Wr_make_107 : decode prog_7_method_2_code 107 = .ok (.iinc 3 1, 3) := by decide +kernel
theorem d_Wr_make_110 : decode prog_7_method_2_code 110 = .ok (.goto (-40), 3) := by decide +kernel
theorem d_Wr_make_113 : decode prog_7_method_2_code 113 = .ok (.aload_n 0, 1) := by decide +kernel
theorem d_Wr_make_114 : decode prog_7_method_2_code 114 = .ok (.invokevirtual 58, 3) := by decide +kernel
theorem d_Wr_make_117 : decode prog_7_method_2_code 117 = .ok (.iload_n 2, 1) := by decide +kernel
theorem d_Wr_make_118 : decode prog_7_method_2_code 118 = .ok (.ifCond .eq 11, 3) := by decide +kernel
theorem d_Wr_make_121 : decode prog_7_method_2_code 121 = .ok (.aload_n 0, 1) := by decide +kernel
theorem d_Wr_make_122 : decode prog_7_method_2_code 122 = .ok (.invokevirtual 61, 3) := by decide +kernel
theorem d_Wr_make_125 : decode prog_7_method_2_code 125 = .ok (.aload_n 0, 1) := by decide +kernel
theorem d_Wr_make_126 : decode prog_7_method_2_code 126 = .ok (.invokevirtual 64, 3) := by decide +kernel
theorem d_Wr_make_129 : decode prog_7_method_2_code 129 = .ok (.return_, 1) := by decide +kernel
def f_Wr_make_106 (k_70 : pv_S → Int32 → Int32 → Option pv_S) (σ : pv_S) (x2 : Int32) (x3 : Int32) (s0 : Int32) (s1 : Int32) : Option pv_S :=
  (if pv_in s1 24 = true then
k_70 (pv_uI σ 17 (s1).toNatClampNeg (vp_nar .boolean s0)) x2 (x3 + (1 : Int32))
  else none)
set_option maxHeartbeats 4000000 in
set_option maxRecDepth 100000 in
theorem s_Wr_make_106 {p : Program} {l : Launch} {e : Env} {R : Room} {s : State} {m : MethodId} {args : Array Value} {below : List Frame} {meth : Method} {c : Code} {Q : State → Prop} {D : va_G} {q : Nat → ClassId} {a t : Nat → Nat} {A : Nat → Prop} (C : pv_C p s m args c prog_7_method_2_code 4 "PatchVoices$Wiring" pv_TB D pv_cl (pv_ty q) 52 a A (pv_ZX t A)) (hmv : pv_mv A (pv_ZX t A)) (hRf : 5 ≤ R.frames) (hRl : 119 ≤ R.locals) {out : pv_S} (hret : pv_Rv p l e R s m args below meth c prog_7_method_2_code D pv_cl 52 a (pv_FX q a) A Q out) {k_70 : pv_S → Int32 → Int32 → Option pv_S} (hk_70 : ∀ (σ : pv_S) (x2 : Int32) (x3 : Int32) (H : Heap) (locs : List Loc) (ls : Array Slot), k_70 σ x2 x3 = some out → lv_has ls 4 [(0, .ref (a 12)), (2, .int x2), (3, .int x3)] → pv_W D pv_cl 52 a (pv_FX q a) σ H → va_S A s.heap H locs → W p l e R s m args below meth c H locs 0 0 Q (F0 m 70 ls [])) {σ : pv_S} {x2 : Int32} {x3 : Int32} {s0 : Int32} {s1 : Int32} {H : Heap} {locs : List Loc} {ls : Array Slot} (hl : lv_has ls 4 [(0, .ref (a 12)), (2, .int x2), (3, .int x3)]) (hP : pv_W D pv_cl 52 a (pv_FX q a) σ H) (hS : va_S A s.heap H locs) (hf : f_Wr_make_106 k_70 σ x2 x3 s0 s1 = some out) : W p l e R s m args below meth c H locs 0 0 Q (F0 m 106 ls [.int s0, .int s1, .ref (a 17)]) := by
  unfold f_Wr_make_106 at hf
  have hx := C.1
  have hb := C.2.1
  obtain ⟨hg, hf⟩ := pv_g hf
  refine pv_zast C hP hS (t0 := 2) (x := s0) (by decide) (fun f g => (fx_17 _ _ f g)) rfl hg d_Wr_make_106 (fun H locs hP hS => ?_)
  refine lv_iinc (k := 2) (v := (x3 + (1 : Int32))) (lv' := [(3, .int (x3 + (1 : Int32))), (0, .ref (a 12)), (2, .int x2)]) hx hb d_Wr_make_107 hl rfl (pv_inc (by decide)) (by decide) rfl (fun ls hl => ?_)
  refine lv_goto (tgt := 70) hx hb d_Wr_make_110 (by decide) ?_
  exact hk_70 _ _ _ _ _ _ hf (lv_sub hl [1, 2, 0] rfl) hP hS
def f_Wr_make_70b (k_70 : pv_S → Int32 → Int32 → Option pv_S) (σ : pv_S) (x2 : Int32) (x3 : Int32) : Option pv_S :=
  (if (σ.1 12 0) ≤ x3 then
  ((f_Wr_putInOrder σ).bind fun q1 =>
(if x2 = 0 then
  some q1
  else
  ((f_Wr_findStands q1).bind fun q2 =>
((f_Wr_keepNeeded q2).bind fun q3 =>
some q3))))
  else
  (if pv_in x3 24 = true then
(if pv_in x3 24 = true then
(if x2 = 0 then
  f_Wr_make_106 k_70 (pv_uI (pv_uI σ 18 (x3).toNatClampNeg x3) 19 (x3).toNatClampNeg (0 : Int32)) x2 x3 (1 : Int32) x3
  else
  f_Wr_make_106 k_70 (pv_uI (pv_uI σ 18 (x3).toNatClampNeg x3) 19 (x3).toNatClampNeg (0 : Int32)) x2 x3 (0 : Int32) x3)
  else none)
  else none))
set_option maxHeartbeats 4000000 in
set_option maxRecDepth 100000 in
theorem s_Wr_make_70b {p : Program} {l : Launch} {e : Env} {R : Room} {s : State} {m : MethodId} {args : Array Value} {below : List Frame} {meth : Method} {c : Code} {Q : State → Prop} {D : va_G} {q : Nat → ClassId} {a t : Nat → Nat} {A : Nat → Prop} (C : pv_C p s m args c prog_7_method_2_code 4 "PatchVoices$Wiring" pv_TB D pv_cl (pv_ty q) 52 a A (pv_ZX t A)) (hmv : pv_mv A (pv_ZX t A)) (hRf : 5 ≤ R.frames) (hRl : 119 ≤ R.locals) {out : pv_S} (hret : pv_Rv p l e R s m args below meth c prog_7_method_2_code D pv_cl 52 a (pv_FX q a) A Q out) {k_70 : pv_S → Int32 → Int32 → Option pv_S} (hk_70 : ∀ (σ : pv_S) (x2 : Int32) (x3 : Int32) (H : Heap) (locs : List Loc) (ls : Array Slot), k_70 σ x2 x3 = some out → lv_has ls 4 [(0, .ref (a 12)), (2, .int x2), (3, .int x3)] → pv_W D pv_cl 52 a (pv_FX q a) σ H → va_S A s.heap H locs → W p l e R s m args below meth c H locs 0 0 Q (F0 m 70 ls [])) {σ : pv_S} {x2 : Int32} {x3 : Int32} {H : Heap} {locs : List Loc} {ls : Array Slot} (hl : lv_has ls 4 [(0, .ref (a 12)), (2, .int x2), (3, .int x3)]) (hP : pv_W D pv_cl 52 a (pv_FX q a) σ H) (hS : va_S A s.heap H locs) (hf : f_Wr_make_70b k_70 σ x2 x3 = some out) : W p l e R s m args below meth c H locs 0 0 Q (F0 m 70 ls []) := by
  unfold f_Wr_make_70b at hf
  have hx := C.1
  have hb := C.2.1
  refine lv_iload_n hx hb d_Wr_make_70 rfl (lv_at hl 2 rfl) ?_
  refine lv_aload_n hx hb d_Wr_make_71 rfl (lv_at hl 0 rfl) ?_
  refine pv_get C hP (v := .int (σ.1 12 0)) (j := 0) (by decide) (fx_12 _ _ _ _) fl_Wr_48 rfl d_Wr_make_72 ?_
  refine lv_icmp_ge (tgt := 113) hx hb d_Wr_make_75 (by decide) (fun h => ?_) (fun h => ?_)
  · have hf := pv_t hf h
    refine lv_aload_n hx hb d_Wr_make_113 rfl (lv_at hl 0 rfl) ?_
    obtain ⟨q1, hc, hf⟩ := pv_b hf
    refine pv_callVv C hmv pv_good hP hS (As := []) (rest := []) (by decide) (fx_12 _ _ _ _) rfl (c_Wr_putInOrder C.2.2.2.2.2.2.1 hmv hc) cv_Wr_58 ⟨rfl, rfl, Nat.le_trans (Nat.le_of_ble_eq_true rfl) hRf, Nat.le_trans (Nat.le_of_ble_eq_true rfl) hRl⟩ rfl hl.1 rfl (Nat.le_of_ble_eq_true rfl) d_Wr_make_114 ⟨Nat.zero_le _, Nat.zero_le _⟩ (fun H locs hP hS => ?_)
    refine lv_iload_n hx hb d_Wr_make_117 rfl (lv_at hl 1 rfl) ?_
    refine lv_if_eq (tgt := 129) hx hb d_Wr_make_118 (by decide) (fun h => ?_) (fun h => ?_)
    · have hf := pv_t hf h
      obtain rfl := Option.some.inj hf
      exact hret _ _ _ _ d_Wr_make_129 hP hS
    · have hf := pv_f hf h
      refine lv_aload_n hx hb d_Wr_make_121 rfl (lv_at hl 0 rfl) ?_
      obtain ⟨q2, hc, hf⟩ := pv_b hf
      refine pv_callVv C hmv pv_good hP hS (As := []) (rest := []) (by decide) (fx_12 _ _ _ _) rfl (c_Wr_findStands C.2.2.2.2.2.2.1 hmv hc) cv_Wr_61 ⟨rfl, rfl, Nat.le_trans (Nat.le_of_ble_eq_true rfl) hRf, Nat.le_trans (Nat.le_of_ble_eq_true rfl) hRl⟩ rfl hl.1 rfl (Nat.le_of_ble_eq_true rfl) d_Wr_make_122 ⟨Nat.zero_le _, Nat.zero_le _⟩ (fun H locs hP hS => ?_)
      refine lv_aload_n hx hb d_Wr_make_125 rfl (lv_at hl 0 rfl) ?_
      obtain ⟨q3, hc, hf⟩ := pv_b hf
      refine pv_callVv C hmv pv_good hP hS (As := []) (rest := []) (by decide) (fx_12 _ _ _ _) rfl (c_Wr_keepNeeded C.2.2.2.2.2.2.1 hmv hc) cv_Wr_64 ⟨rfl, rfl, Nat.le_trans (Nat.le_of_ble_eq_true rfl) hRf, Nat.le_trans (Nat.le_of_ble_eq_true rfl) hRl⟩ rfl hl.1 rfl (Nat.le_of_ble_eq_true rfl) d_Wr_make_126 ⟨Nat.zero_le _, Nat.zero_le _⟩ (fun H locs hP hS => ?_)
      obtain rfl := Option.some.inj hf
      exact hret _ _ _ _ d_Wr_make_129 hP hS
  · have hf := pv_f hf h
    refine lv_aload_n hx hb d_Wr_make_78 rfl (lv_at hl 0 rfl) ?_
    refine pv_get C hP (v := .ref (a 18)) (j := 6) (by decide) (fx_12 _ _ _ _) fl_Wr_32 rfl d_Wr_make_79 ?_
    refine lv_iload_n hx hb d_Wr_make_82 rfl (lv_at hl 2 rfl) ?_
    refine lv_iload_n hx hb d_Wr_make_83 rfl (lv_at hl 2 rfl) ?_
    obtain ⟨hg, hf⟩ := pv_g hf
    refine pv_iast C hP hS (t0 := 0) (x := x3) (by decide) (fun f g => (fx_18 _ _ f g)) rfl hg d_Wr_make_84 (fun H locs hP hS => ?_)
    refine lv_aload_n hx hb d_Wr_make_85 rfl (lv_at hl 0 rfl) ?_
    refine pv_get C hP (v := .ref (a 19)) (j := 7) (by decide) (fx_12 _ _ _ _) fl_Wr_35 rfl d_Wr_make_86 ?_
    refine lv_iload_n hx hb d_Wr_make_89 rfl (lv_at hl 2 rfl) ?_
    refine lv_iconst (v := (0 : Int32)) hx hb d_Wr_make_90 (by decide) ?_
    obtain ⟨hg, hf⟩ := pv_g hf
    refine pv_iast C hP hS (t0 := 0) (x := (0 : Int32)) (by decide) (fun f g => (fx_19 _ _ f g)) rfl hg d_Wr_make_91 (fun H locs hP hS => ?_)
    refine lv_aload_n hx hb d_Wr_make_92 rfl (lv_at hl 0 rfl) ?_
    refine pv_get C hP (v := .ref (a 17)) (j := 5) (by decide) (fx_12 _ _ _ _) fl_Wr_28 rfl d_Wr_make_93 ?_
    refine lv_iload_n hx hb d_Wr_make_96 rfl (lv_at hl 2 rfl) ?_
    refine lv_iload_n hx hb d_Wr_make_97 rfl (lv_at hl 1 rfl) ?_
    refine lv_if_ne (tgt := 105) hx hb d_Wr_make_98 (by decide) (fun h => ?_) (fun h => ?_)
    · have hf := pv_f hf h
      refine lv_iconst (v := (0 : Int32)) hx hb d_Wr_make_105 (by decide) ?_
      exact s_Wr_make_106 C hmv hRf hRl hret hk_70 (lv_sub hl [0, 1, 2] rfl) hP hS hf
    · have hf := pv_t hf h
      refine lv_iconst (v := (1 : Int32)) hx hb d_Wr_make_101 (by decide) ?_
      refine lv_goto (tgt := 106) hx hb d_Wr_make_102 (by decide) ?_
      exact s_Wr_make_106 C hmv hRf hRl hret hk_70 (lv_sub hl [0, 1, 2] rfl) hP hS hf
def f_Wr_make_70 : Nat → pv_S → Int32 → Int32 → Option pv_S
  | 0 => fun _ _ _ => none
  | n + 1 => f_Wr_make_70b (f_Wr_make_70 n)
set_option maxHeartbeats 4000000 in
theorem s_Wr_make_70 {p : Program} {l : Launch} {e : Env} {R : Room} {s : State} {m : MethodId} {args : Array Value} {below : List Frame} {meth : Method} {c : Code} {Q : State → Prop} {D : va_G} {q : Nat → ClassId} {a t : Nat → Nat} {A : Nat → Prop} (C : pv_C p s m args c prog_7_method_2_code 4 "PatchVoices$Wiring" pv_TB D pv_cl (pv_ty q) 52 a A (pv_ZX t A)) (hmv : pv_mv A (pv_ZX t A)) (hRf : 5 ≤ R.frames) (hRl : 119 ≤ R.locals) {out : pv_S} (hret : pv_Rv p l e R s m args below meth c prog_7_method_2_code D pv_cl 52 a (pv_FX q a) A Q out) (n : Nat) : ∀ {σ : pv_S} {x2 : Int32} {x3 : Int32} {H : Heap} {locs : List Loc} {ls : Array Slot}, lv_has ls 4 [(0, .ref (a 12)), (2, .int x2), (3, .int x3)] → pv_W D pv_cl 52 a (pv_FX q a) σ H → va_S A s.heap H locs → f_Wr_make_70 n σ x2 x3 = some out → W p l e R s m args below meth c H locs 0 0 Q (F0 m 70 ls []) := by
  induction n with
  | zero => intro σ x2 x3 H locs ls hl hP hS hf; cases hf
  | succ n ih => intro σ x2 x3 H locs ls hl hP hS hf; exact s_Wr_make_70b C hmv hRf hRl hret (fun σ x2 x3 H locs ls hf hl hP hS => ih hl hP hS hf) hl hP hS hf
def f_Wr_make_0 (σ : pv_S) (x2 : Int32) : Option pv_S :=
  (if pv_cp (0 : Int32) (0 : Int32) ((pv_uI σ 12 0 (if (24 : Int32) < (σ.1 3 0) then (24 : Int32) else (σ.1 3 0))).1 12 0) 38 24 = true then
(if pv_cp (0 : Int32) (0 : Int32) ((4 : Int32) * ((pv_rI (pv_uI σ 12 0 (if (24 : Int32) < (σ.1 3 0) then (24 : Int32) else (σ.1 3 0))) 13 (va_cpy ((pv_uI σ 12 0 (if (24 : Int32) < (σ.1 3 0) then (24 : Int32) else (σ.1 3 0))).1 4) ((pv_uI σ 12 0 (if (24 : Int32) < (σ.1 3 0) then (24 : Int32) else (σ.1 3 0))).1 13) ((0 : Int32)).toNatClampNeg ((0 : Int32)).toNatClampNeg (((pv_uI σ 12 0 (if (24 : Int32) < (σ.1 3 0) then (24 : Int32) else (σ.1 3 0))).1 12 0)).toNatClampNeg)).1 12 0)) 152 96 = true then
(if pv_cp (0 : Int32) (0 : Int32) ((4 : Int32) * ((pv_rI (pv_rI (pv_uI σ 12 0 (if (24 : Int32) < (σ.1 3 0) then (24 : Int32) else (σ.1 3 0))) 13 (va_cpy ((pv_uI σ 12 0 (if (24 : Int32) < (σ.1 3 0) then (24 : Int32) else (σ.1 3 0))).1 4) ((pv_uI σ 12 0 (if (24 : Int32) < (σ.1 3 0) then (24 : Int32) else (σ.1 3 0))).1 13) ((0 : Int32)).toNatClampNeg ((0 : Int32)).toNatClampNeg (((pv_uI σ 12 0 (if (24 : Int32) < (σ.1 3 0) then (24 : Int32) else (σ.1 3 0))).1 12 0)).toNatClampNeg)) 14 (va_cpy ((pv_rI (pv_uI σ 12 0 (if (24 : Int32) < (σ.1 3 0) then (24 : Int32) else (σ.1 3 0))) 13 (va_cpy ((pv_uI σ 12 0 (if (24 : Int32) < (σ.1 3 0) then (24 : Int32) else (σ.1 3 0))).1 4) ((pv_uI σ 12 0 (if (24 : Int32) < (σ.1 3 0) then (24 : Int32) else (σ.1 3 0))).1 13) ((0 : Int32)).toNatClampNeg ((0 : Int32)).toNatClampNeg (((pv_uI σ 12 0 (if (24 : Int32) < (σ.1 3 0) then (24 : Int32) else (σ.1 3 0))).1 12 0)).toNatClampNeg)).1 5) ((pv_rI (pv_uI σ 12 0 (if (24 : Int32) < (σ.1 3 0) then (24 : Int32) else (σ.1 3 0))) 13 (va_cpy ((pv_uI σ 12 0 (if (24 : Int32) < (σ.1 3 0) then (24 : Int32) else (σ.1 3 0))).1 4) ((pv_uI σ 12 0 (if (24 : Int32) < (σ.1 3 0) then (24 : Int32) else (σ.1 3 0))).1 13) ((0 : Int32)).toNatClampNeg ((0 : Int32)).toNatClampNeg (((pv_uI σ 12 0 (if (24 : Int32) < (σ.1 3 0) then (24 : Int32) else (σ.1 3 0))).1 12 0)).toNatClampNeg)).1 14) ((0 : Int32)).toNatClampNeg ((0 : Int32)).toNatClampNeg (((4 : Int32) * ((pv_rI (pv_uI σ 12 0 (if (24 : Int32) < (σ.1 3 0) then (24 : Int32) else (σ.1 3 0))) 13 (va_cpy ((pv_uI σ 12 0 (if (24 : Int32) < (σ.1 3 0) then (24 : Int32) else (σ.1 3 0))).1 4) ((pv_uI σ 12 0 (if (24 : Int32) < (σ.1 3 0) then (24 : Int32) else (σ.1 3 0))).1 13) ((0 : Int32)).toNatClampNeg ((0 : Int32)).toNatClampNeg (((pv_uI σ 12 0 (if (24 : Int32) < (σ.1 3 0) then (24 : Int32) else (σ.1 3 0))).1 12 0)).toNatClampNeg)).1 12 0))).toNatClampNeg)).1 12 0)) 152 96 = true then
f_Wr_make_70 pv_fu (pv_rI (pv_rI (pv_rI (pv_uI σ 12 0 (if (24 : Int32) < (σ.1 3 0) then (24 : Int32) else (σ.1 3 0))) 13 (va_cpy ((pv_uI σ 12 0 (if (24 : Int32) < (σ.1 3 0) then (24 : Int32) else (σ.1 3 0))).1 4) ((pv_uI σ 12 0 (if (24 : Int32) < (σ.1 3 0) then (24 : Int32) else (σ.1 3 0))).1 13) ((0 : Int32)).toNatClampNeg ((0 : Int32)).toNatClampNeg (((pv_uI σ 12 0 (if (24 : Int32) < (σ.1 3 0) then (24 : Int32) else (σ.1 3 0))).1 12 0)).toNatClampNeg)) 14 (va_cpy ((pv_rI (pv_uI σ 12 0 (if (24 : Int32) < (σ.1 3 0) then (24 : Int32) else (σ.1 3 0))) 13 (va_cpy ((pv_uI σ 12 0 (if (24 : Int32) < (σ.1 3 0) then (24 : Int32) else (σ.1 3 0))).1 4) ((pv_uI σ 12 0 (if (24 : Int32) < (σ.1 3 0) then (24 : Int32) else (σ.1 3 0))).1 13) ((0 : Int32)).toNatClampNeg ((0 : Int32)).toNatClampNeg (((pv_uI σ 12 0 (if (24 : Int32) < (σ.1 3 0) then (24 : Int32) else (σ.1 3 0))).1 12 0)).toNatClampNeg)).1 5) ((pv_rI (pv_uI σ 12 0 (if (24 : Int32) < (σ.1 3 0) then (24 : Int32) else (σ.1 3 0))) 13 (va_cpy ((pv_uI σ 12 0 (if (24 : Int32) < (σ.1 3 0) then (24 : Int32) else (σ.1 3 0))).1 4) ((pv_uI σ 12 0 (if (24 : Int32) < (σ.1 3 0) then (24 : Int32) else (σ.1 3 0))).1 13) ((0 : Int32)).toNatClampNeg ((0 : Int32)).toNatClampNeg (((pv_uI σ 12 0 (if (24 : Int32) < (σ.1 3 0) then (24 : Int32) else (σ.1 3 0))).1 12 0)).toNatClampNeg)).1 14) ((0 : Int32)).toNatClampNeg ((0 : Int32)).toNatClampNeg (((4 : Int32) * ((pv_rI (pv_uI σ 12 0 (if (24 : Int32) < (σ.1 3 0) then (24 : Int32) else (σ.1 3 0))) 13 (va_cpy ((pv_uI σ 12 0 (if (24 : Int32) < (σ.1 3 0) then (24 : Int32) else (σ.1 3 0))).1 4) ((pv_uI σ 12 0 (if (24 : Int32) < (σ.1 3 0) then (24 : Int32) else (σ.1 3 0))).1 13) ((0 : Int32)).toNatClampNeg ((0 : Int32)).toNatClampNeg (((pv_uI σ 12 0 (if (24 : Int32) < (σ.1 3 0) then (24 : Int32) else (σ.1 3 0))).1 12 0)).toNatClampNeg)).1 12 0))).toNatClampNeg)) 15 (va_cpy ((pv_rI (pv_rI (pv_uI σ 12 0 (if (24 : Int32) < (σ.1 3 0) then (24 : Int32) else (σ.1 3 0))) 13 (va_cpy ((pv_uI σ 12 0 (if (24 : Int32) < (σ.1 3 0) then (24 : Int32) else (σ.1 3 0))).1 4) ((pv_uI σ 12 0 (if (24 : Int32) < (σ.1 3 0) then (24 : Int32) else (σ.1 3 0))).1 13) ((0 : Int32)).toNatClampNeg ((0 : Int32)).toNatClampNeg (((pv_uI σ 12 0 (if (24 : Int32) < (σ.1 3 0) then (24 : Int32) else (σ.1 3 0))).1 12 0)).toNatClampNeg)) 14 (va_cpy ((pv_rI (pv_uI σ 12 0 (if (24 : Int32) < (σ.1 3 0) then (24 : Int32) else (σ.1 3 0))) 13 (va_cpy ((pv_uI σ 12 0 (if (24 : Int32) < (σ.1 3 0) then (24 : Int32) else (σ.1 3 0))).1 4) ((pv_uI σ 12 0 (if (24 : Int32) < (σ.1 3 0) then (24 : Int32) else (σ.1 3 0))).1 13) ((0 : Int32)).toNatClampNeg ((0 : Int32)).toNatClampNeg (((pv_uI σ 12 0 (if (24 : Int32) < (σ.1 3 0) then (24 : Int32) else (σ.1 3 0))).1 12 0)).toNatClampNeg)).1 5) ((pv_rI (pv_uI σ 12 0 (if (24 : Int32) < (σ.1 3 0) then (24 : Int32) else (σ.1 3 0))) 13 (va_cpy ((pv_uI σ 12 0 (if (24 : Int32) < (σ.1 3 0) then (24 : Int32) else (σ.1 3 0))).1 4) ((pv_uI σ 12 0 (if (24 : Int32) < (σ.1 3 0) then (24 : Int32) else (σ.1 3 0))).1 13) ((0 : Int32)).toNatClampNeg ((0 : Int32)).toNatClampNeg (((pv_uI σ 12 0 (if (24 : Int32) < (σ.1 3 0) then (24 : Int32) else (σ.1 3 0))).1 12 0)).toNatClampNeg)).1 14) ((0 : Int32)).toNatClampNeg ((0 : Int32)).toNatClampNeg (((4 : Int32) * ((pv_rI (pv_uI σ 12 0 (if (24 : Int32) < (σ.1 3 0) then (24 : Int32) else (σ.1 3 0))) 13 (va_cpy ((pv_uI σ 12 0 (if (24 : Int32) < (σ.1 3 0) then (24 : Int32) else (σ.1 3 0))).1 4) ((pv_uI σ 12 0 (if (24 : Int32) < (σ.1 3 0) then (24 : Int32) else (σ.1 3 0))).1 13) ((0 : Int32)).toNatClampNeg ((0 : Int32)).toNatClampNeg (((pv_uI σ 12 0 (if (24 : Int32) < (σ.1 3 0) then (24 : Int32) else (σ.1 3 0))).1 12 0)).toNatClampNeg)).1 12 0))).toNatClampNeg)).1 6) ((pv_rI (pv_rI (pv_uI σ 12 0 (if (24 : Int32) < (σ.1 3 0) then (24 : Int32) else (σ.1 3 0))) 13 (va_cpy ((pv_uI σ 12 0 (if (24 : Int32) < (σ.1 3 0) then (24 : Int32) else (σ.1 3 0))).1 4) ((pv_uI σ 12 0 (if (24 : Int32) < (σ.1 3 0) then (24 : Int32) else (σ.1 3 0))).1 13) ((0 : Int32)).toNatClampNeg ((0 : Int32)).toNatClampNeg (((pv_uI σ 12 0 (if (24 : Int32) < (σ.1 3 0) then (24 : Int32) else (σ.1 3 0))).1 12 0)).toNatClampNeg)) 14 (va_cpy ((pv_rI (pv_uI σ 12 0 (if (24 : Int32) < (σ.1 3 0) then (24 : Int32) else (σ.1 3 0))) 13 (va_cpy ((pv_uI σ 12 0 (if (24 : Int32) < (σ.1 3 0) then (24 : Int32) else (σ.1 3 0))).1 4) ((pv_uI σ 12 0 (if (24 : Int32) < (σ.1 3 0) then (24 : Int32) else (σ.1 3 0))).1 13) ((0 : Int32)).toNatClampNeg ((0 : Int32)).toNatClampNeg (((pv_uI σ 12 0 (if (24 : Int32) < (σ.1 3 0) then (24 : Int32) else (σ.1 3 0))).1 12 0)).toNatClampNeg)).1 5) ((pv_rI (pv_uI σ 12 0 (if (24 : Int32) < (σ.1 3 0) then (24 : Int32) else (σ.1 3 0))) 13 (va_cpy ((pv_uI σ 12 0 (if (24 : Int32) < (σ.1 3 0) then (24 : Int32) else (σ.1 3 0))).1 4) ((pv_uI σ 12 0 (if (24 : Int32) < (σ.1 3 0) then (24 : Int32) else (σ.1 3 0))).1 13) ((0 : Int32)).toNatClampNeg ((0 : Int32)).toNatClampNeg (((pv_uI σ 12 0 (if (24 : Int32) < (σ.1 3 0) then (24 : Int32) else (σ.1 3 0))).1 12 0)).toNatClampNeg)).1 14) ((0 : Int32)).toNatClampNeg ((0 : Int32)).toNatClampNeg (((4 : Int32) * ((pv_rI (pv_uI σ 12 0 (if (24 : Int32) < (σ.1 3 0) then (24 : Int32) else (σ.1 3 0))) 13 (va_cpy ((pv_uI σ 12 0 (if (24 : Int32) < (σ.1 3 0) then (24 : Int32) else (σ.1 3 0))).1 4) ((pv_uI σ 12 0 (if (24 : Int32) < (σ.1 3 0) then (24 : Int32) else (σ.1 3 0))).1 13) ((0 : Int32)).toNatClampNeg ((0 : Int32)).toNatClampNeg (((pv_uI σ 12 0 (if (24 : Int32) < (σ.1 3 0) then (24 : Int32) else (σ.1 3 0))).1 12 0)).toNatClampNeg)).1 12 0))).toNatClampNeg)).1 15) ((0 : Int32)).toNatClampNeg ((0 : Int32)).toNatClampNeg (((4 : Int32) * ((pv_rI (pv_rI (pv_uI σ 12 0 (if (24 : Int32) < (σ.1 3 0) then (24 : Int32) else (σ.1 3 0))) 13 (va_cpy ((pv_uI σ 12 0 (if (24 : Int32) < (σ.1 3 0) then (24 : Int32) else (σ.1 3 0))).1 4) ((pv_uI σ 12 0 (if (24 : Int32) < (σ.1 3 0) then (24 : Int32) else (σ.1 3 0))).1 13) ((0 : Int32)).toNatClampNeg ((0 : Int32)).toNatClampNeg (((pv_uI σ 12 0 (if (24 : Int32) < (σ.1 3 0) then (24 : Int32) else (σ.1 3 0))).1 12 0)).toNatClampNeg)) 14 (va_cpy ((pv_rI (pv_uI σ 12 0 (if (24 : Int32) < (σ.1 3 0) then (24 : Int32) else (σ.1 3 0))) 13 (va_cpy ((pv_uI σ 12 0 (if (24 : Int32) < (σ.1 3 0) then (24 : Int32) else (σ.1 3 0))).1 4) ((pv_uI σ 12 0 (if (24 : Int32) < (σ.1 3 0) then (24 : Int32) else (σ.1 3 0))).1 13) ((0 : Int32)).toNatClampNeg ((0 : Int32)).toNatClampNeg (((pv_uI σ 12 0 (if (24 : Int32) < (σ.1 3 0) then (24 : Int32) else (σ.1 3 0))).1 12 0)).toNatClampNeg)).1 5) ((pv_rI (pv_uI σ 12 0 (if (24 : Int32) < (σ.1 3 0) then (24 : Int32) else (σ.1 3 0))) 13 (va_cpy ((pv_uI σ 12 0 (if (24 : Int32) < (σ.1 3 0) then (24 : Int32) else (σ.1 3 0))).1 4) ((pv_uI σ 12 0 (if (24 : Int32) < (σ.1 3 0) then (24 : Int32) else (σ.1 3 0))).1 13) ((0 : Int32)).toNatClampNeg ((0 : Int32)).toNatClampNeg (((pv_uI σ 12 0 (if (24 : Int32) < (σ.1 3 0) then (24 : Int32) else (σ.1 3 0))).1 12 0)).toNatClampNeg)).1 14) ((0 : Int32)).toNatClampNeg ((0 : Int32)).toNatClampNeg (((4 : Int32) * ((pv_rI (pv_uI σ 12 0 (if (24 : Int32) < (σ.1 3 0) then (24 : Int32) else (σ.1 3 0))) 13 (va_cpy ((pv_uI σ 12 0 (if (24 : Int32) < (σ.1 3 0) then (24 : Int32) else (σ.1 3 0))).1 4) ((pv_uI σ 12 0 (if (24 : Int32) < (σ.1 3 0) then (24 : Int32) else (σ.1 3 0))).1 13) ((0 : Int32)).toNatClampNeg ((0 : Int32)).toNatClampNeg (((pv_uI σ 12 0 (if (24 : Int32) < (σ.1 3 0) then (24 : Int32) else (σ.1 3 0))).1 12 0)).toNatClampNeg)).1 12 0))).toNatClampNeg)).1 12 0))).toNatClampNeg)) x2 (0 : Int32)
  else none)
  else none)
  else none)
set_option maxHeartbeats 4000000 in
set_option maxRecDepth 100000 in
theorem s_Wr_make_0 {p : Program} {l : Launch} {e : Env} {R : Room} {s : State} {m : MethodId} {args : Array Value} {below : List Frame} {meth : Method} {c : Code} {Q : State → Prop} {D : va_G} {q : Nat → ClassId} {a t : Nat → Nat} {A : Nat → Prop} (C : pv_C p s m args c prog_7_method_2_code 4 "PatchVoices$Wiring" pv_TB D pv_cl (pv_ty q) 52 a A (pv_ZX t A)) (hmv : pv_mv A (pv_ZX t A)) (hRf : 5 ≤ R.frames) (hRl : 119 ≤ R.locals) {out : pv_S} (hret : pv_Rv p l e R s m args below meth c prog_7_method_2_code D pv_cl 52 a (pv_FX q a) A Q out) {σ : pv_S} {x2 : Int32} {H : Heap} {locs : List Loc} {ls : Array Slot} (hl : lv_has ls 4 [(0, .ref (a 12)), (1, .ref (a 3)), (2, .int x2)]) (hP : pv_W D pv_cl 52 a (pv_FX q a) σ H) (hS : va_S A s.heap H locs) (hf : f_Wr_make_0 σ x2 = some out) : W p l e R s m args below meth c H locs 0 0 Q (F0 m 0 ls []) := by
  unfold f_Wr_make_0 at hf
  have hx := C.1
  have hb := C.2.1
  refine lv_aload_n hx hb d_Wr_make_0 rfl (lv_at hl 0 rfl) ?_
  refine lv_aload_n hx hb d_Wr_make_1 rfl (lv_at hl 1 rfl) ?_
  refine pv_get C hP (v := .int (σ.1 3 0)) (j := 0) (by decide) (fx_3 _ _ _ _) fl_Wr_38 rfl d_Wr_make_2 ?_
  refine lv_bipush (v := (24 : Int32)) hx hb d_Wr_make_5 (by decide) ?_
  refine va_mmin hx hb (C.2.2.1.trans hl.1.symm) C.2.2.2.1 (C.2.2.2.2.1 _ w_596) (C.2.2.2.2.1 _ w_597) (C.2.2.2.2.1 _ w_123) (C.2.2.2.2.1 _ w_598) (by omega) (Nat.le_trans (Nat.le_of_ble_eq_true rfl) hRl) (Nat.zero_le _) (Nat.zero_le _) d_Wr_make_7 ?_
  refine pv_putI C hP hS (x := (if (24 : Int32) < (σ.1 3 0) then (24 : Int32) else (σ.1 3 0))) (by decide) (fx_12 _ _ _ _) fw_Wr_48 rfl rfl (Nat.le_of_ble_eq_true rfl) (fxs_12_0 _ _ _ _ _) d_Wr_make_10 (fun H locs hP hS => ?_)
  refine lv_aload_n hx hb d_Wr_make_13 rfl (lv_at hl 1 rfl) ?_
  refine pv_get C hP (v := .ref (a 4)) (j := 1) (by decide) (fx_3 _ _ _ _) fl_Wr_49 rfl d_Wr_make_14 ?_
  refine lv_iconst (v := (0 : Int32)) hx hb d_Wr_make_17 (by decide) ?_
  refine lv_aload_n hx hb d_Wr_make_18 rfl (lv_at hl 0 rfl) ?_
  refine pv_get C hP (v := .ref (a 13)) (j := 1) (by decide) (fx_12 _ _ _ _) fl_Wr_11 rfl d_Wr_make_19 ?_
  refine lv_iconst (v := (0 : Int32)) hx hb d_Wr_make_22 (by decide) ?_
  refine lv_aload_n hx hb d_Wr_make_23 rfl (lv_at hl 0 rfl) ?_
  refine pv_get C hP (v := .int ((pv_uI σ 12 0 (if (24 : Int32) < (σ.1 3 0) then (24 : Int32) else (σ.1 3 0))).1 12 0)) (j := 0) (by decide) (fx_12 _ _ _ _) fl_Wr_48 rfl d_Wr_make_24 ?_
  obtain ⟨hg, hf⟩ := pv_g hf
  refine pv_acopy C hP hS (t0 := 0) (by decide) (by decide) (fx_4 _ _ _ _) (fun f g => (fx_13 _ _ f g)) rfl w_599 w_601 w_600 w_124 hg hl.1 (Nat.le_trans (by decide) hRf) (Nat.le_trans (by decide) hRl) d_Wr_make_27 (fun H locs hP hS => ?_)
  refine lv_aload_n hx hb d_Wr_make_30 rfl (lv_at hl 1 rfl) ?_
  refine pv_get C hP (v := .ref (a 5)) (j := 2) (by decide) (fx_3 _ _ _ _) fl_Wr_56 rfl d_Wr_make_31 ?_
  refine lv_iconst (v := (0 : Int32)) hx hb d_Wr_make_34 (by decide) ?_
  refine lv_aload_n hx hb d_Wr_make_35 rfl (lv_at hl 0 rfl) ?_
  refine pv_get C hP (v := .ref (a 14)) (j := 2) (by decide) (fx_12 _ _ _ _) fl_Wr_19 rfl d_Wr_make_36 ?_
  refine lv_iconst (v := (0 : Int32)) hx hb d_Wr_make_39 (by decide) ?_
  refine lv_iconst (v := (4 : Int32)) hx hb d_Wr_make_40 (by decide) ?_
  refine lv_aload_n hx hb d_Wr_make_41 rfl (lv_at hl 0 rfl) ?_
  refine pv_get C hP (v := .int ((pv_rI (pv_uI σ 12 0 (if (24 : Int32) < (σ.1 3 0) then (24 : Int32) else (σ.1 3 0))) 13 (va_cpy ((pv_uI σ 12 0 (if (24 : Int32) < (σ.1 3 0) then (24 : Int32) else (σ.1 3 0))).1 4) ((pv_uI σ 12 0 (if (24 : Int32) < (σ.1 3 0) then (24 : Int32) else (σ.1 3 0))).1 13) ((0 : Int32)).toNatClampNeg ((0 : Int32)).toNatClampNeg (((pv_uI σ 12 0 (if (24 : Int32) < (σ.1 3 0) then (24 : Int32) else (σ.1 3 0))).1 12 0)).toNatClampNeg)).1 12 0)) (j := 0) (by decide) (fx_12 _ _ _ _) fl_Wr_48 rfl d_Wr_make_42 ?_
  refine lv_imul hx hb d_Wr_make_45 ?_
  obtain ⟨hg, hf⟩ := pv_g hf
  refine pv_acopy C hP hS (t0 := 0) (by decide) (by decide) (fx_5 _ _ _ _) (fun f g => (fx_14 _ _ f g)) rfl w_599 w_601 w_600 w_124 hg hl.1 (Nat.le_trans (by decide) hRf) (Nat.le_trans (by decide) hRl) d_Wr_make_46 (fun H locs hP hS => ?_)
  refine lv_aload_n hx hb d_Wr_make_49 rfl (lv_at hl 1 rfl) ?_
  refine pv_get C hP (v := .ref (a 6)) (j := 3) (by decide) (fx_3 _ _ _ _) fl_Wr_57 rfl d_Wr_make_50 ?_
  refine lv_iconst (v := (0 : Int32)) hx hb d_Wr_make_53 (by decide) ?_
  refine lv_aload_n hx hb d_Wr_make_54 rfl (lv_at hl 0 rfl) ?_
  refine pv_get C hP (v := .ref (a 15)) (j := 3) (by decide) (fx_12 _ _ _ _) fl_Wr_22 rfl d_Wr_make_55 ?_
  refine lv_iconst (v := (0 : Int32)) hx hb d_Wr_make_58 (by decide) ?_
  refine lv_iconst (v := (4 : Int32)) hx hb d_Wr_make_59 (by decide) ?_
  refine lv_aload_n hx hb d_Wr_make_60 rfl (lv_at hl 0 rfl) ?_
  refine pv_get C hP (v := .int ((pv_rI (pv_rI (pv_uI σ 12 0 (if (24 : Int32) < (σ.1 3 0) then (24 : Int32) else (σ.1 3 0))) 13 (va_cpy ((pv_uI σ 12 0 (if (24 : Int32) < (σ.1 3 0) then (24 : Int32) else (σ.1 3 0))).1 4) ((pv_uI σ 12 0 (if (24 : Int32) < (σ.1 3 0) then (24 : Int32) else (σ.1 3 0))).1 13) ((0 : Int32)).toNatClampNeg ((0 : Int32)).toNatClampNeg (((pv_uI σ 12 0 (if (24 : Int32) < (σ.1 3 0) then (24 : Int32) else (σ.1 3 0))).1 12 0)).toNatClampNeg)) 14 (va_cpy ((pv_rI (pv_uI σ 12 0 (if (24 : Int32) < (σ.1 3 0) then (24 : Int32) else (σ.1 3 0))) 13 (va_cpy ((pv_uI σ 12 0 (if (24 : Int32) < (σ.1 3 0) then (24 : Int32) else (σ.1 3 0))).1 4) ((pv_uI σ 12 0 (if (24 : Int32) < (σ.1 3 0) then (24 : Int32) else (σ.1 3 0))).1 13) ((0 : Int32)).toNatClampNeg ((0 : Int32)).toNatClampNeg (((pv_uI σ 12 0 (if (24 : Int32) < (σ.1 3 0) then (24 : Int32) else (σ.1 3 0))).1 12 0)).toNatClampNeg)).1 5) ((pv_rI (pv_uI σ 12 0 (if (24 : Int32) < (σ.1 3 0) then (24 : Int32) else (σ.1 3 0))) 13 (va_cpy ((pv_uI σ 12 0 (if (24 : Int32) < (σ.1 3 0) then (24 : Int32) else (σ.1 3 0))).1 4) ((pv_uI σ 12 0 (if (24 : Int32) < (σ.1 3 0) then (24 : Int32) else (σ.1 3 0))).1 13) ((0 : Int32)).toNatClampNeg ((0 : Int32)).toNatClampNeg (((pv_uI σ 12 0 (if (24 : Int32) < (σ.1 3 0) then (24 : Int32) else (σ.1 3 0))).1 12 0)).toNatClampNeg)).1 14) ((0 : Int32)).toNatClampNeg ((0 : Int32)).toNatClampNeg (((4 : Int32) * ((pv_rI (pv_uI σ 12 0 (if (24 : Int32) < (σ.1 3 0) then (24 : Int32) else (σ.1 3 0))) 13 (va_cpy ((pv_uI σ 12 0 (if (24 : Int32) < (σ.1 3 0) then (24 : Int32) else (σ.1 3 0))).1 4) ((pv_uI σ 12 0 (if (24 : Int32) < (σ.1 3 0) then (24 : Int32) else (σ.1 3 0))).1 13) ((0 : Int32)).toNatClampNeg ((0 : Int32)).toNatClampNeg (((pv_uI σ 12 0 (if (24 : Int32) < (σ.1 3 0) then (24 : Int32) else (σ.1 3 0))).1 12 0)).toNatClampNeg)).1 12 0))).toNatClampNeg)).1 12 0)) (j := 0) (by decide) (fx_12 _ _ _ _) fl_Wr_48 rfl d_Wr_make_61 ?_
  refine lv_imul hx hb d_Wr_make_64 ?_
  obtain ⟨hg, hf⟩ := pv_g hf
  refine pv_acopy C hP hS (t0 := 0) (by decide) (by decide) (fx_6 _ _ _ _) (fun f g => (fx_15 _ _ f g)) rfl w_599 w_601 w_600 w_124 hg hl.1 (Nat.le_trans (by decide) hRf) (Nat.le_trans (by decide) hRl) d_Wr_make_65 (fun H locs hP hS => ?_)
  refine lv_iconst (v := (0 : Int32)) hx hb d_Wr_make_68 (by decide) ?_
  refine lv_istore_n (lv' := [(3, .int (0 : Int32)), (0, .ref (a 12)), (1, .ref (a 3)), (2, .int x2)]) hx hb d_Wr_make_69 rfl hl (by decide) rfl (fun ls hl => ?_)
  exact s_Wr_make_70 C hmv hRf hRl hret pv_fu (lv_sub hl [1, 3, 0] rfl) hP hS hf
def f_Wr_make (σ : pv_S) (x2 : Int32) : Option pv_S := f_Wr_make_0 σ x2
def rm_Wr_make : Room := { frames := 5, cells := 0, slots := 0, locals := 119 }
theorem c_Wr_make {l : Launch} {D : va_G} {q : Nat → ClassId} {a t : Nat → Nat} {A : Nat → Prop} (hD : pv_D 52 a A) (hmv : pv_mv A (pv_ZX t A)) {σ : pv_S} {x2 : Int32} {out : pv_S} (hf : f_Wr_make σ x2 = some out) : pv_Mv l y_Wr_make (Cond.code y_Wr_make prog_7_method_2_code 4 none :: pv_TB) rm_Wr_make D pv_cl (pv_ty q) 52 a (pv_FX q a) A (pv_ZX t A) [.ref (a 12), .ref (a 3), .int x2] σ out :=
  pv_ofV (by decide) (Nat.le_of_ble_eq_true rfl) hD (fun p e s m args below meth c Q ls C hret hl hP => s_Wr_make_0 C hmv (Nat.le_refl _) (Nat.le_refl _) hret hl hP va_S.rf hf)
theorem d_Wr_outputNumber_0 : decode prog_7_method_4_code 0 = .ok (.aload_n 0, 1) := by decide +kernel
theorem d_Wr_outputNumber_1 : decode prog_7_method_4_code 1 = .ok (.getfield 35, 3) := by decide +kernel
theorem d_Wr_outputNumber_4 : decode prog_7_method_4_code 4 = .ok (.aload_n 0, 1) := by decide +kernel
theorem d_Wr_outputNumber_5 : decode prog_7_method_4_code 5 = .ok (.getfield 48, 3) := by decide +kernel
theorem d_Wr_outputNumber_8 : decode prog_7_method_4_code 8 = .ok (.iconst 1, 1) := by decide +kernel
theorem d_Wr_outputNumber_9 : decode prog_7_method_4_code 9 = .ok (.isub, 1) := by decide +kernel
theorem d_Wr_outputNumber_10 : decode prog_7_method_4_code 10 = .ok (.iaload, 1) := by decide +kernel
theorem d_Wr_outputNumber_11 : decode prog_7_method_4_code 11 = .ok (.ireturn, 1) := by decide +kernel
def f_Wr_outputNumber_0 (σ : pv_S) : Option (Int32 × pv_S) :=
  (if pv_in ((σ.1 12 0) - (1 : Int32)) 24 = true then
some ((σ.1 19 (((σ.1 12 0) - (1 : Int32))).toNatClampNeg), σ)
  else none)
set_option maxHeartbeats 4000000 in
set_option maxRecDepth 100000 in
theorem s_Wr_outputNumber_0 {p : Program} {l : Launch} {e : Env} {R : Room} {s : State} {m : MethodId} {args : Array Value} {below : List Frame} {meth : Method} {c : Code} {Q : State → Prop} {D : va_G} {q : Nat → ClassId} {a t : Nat → Nat} {A : Nat → Prop} (C : pv_C p s m args c prog_7_method_4_code 1 "PatchVoices$Wiring" pv_TB D pv_cl (pv_ty q) 52 a A (pv_ZX t A)) (hmv : pv_mv A (pv_ZX t A)) (hRf : 0 ≤ R.frames) (hRl : 0 ≤ R.locals) {out : (Int32 × pv_S)} (hret : pv_Ri p l e R s m args below meth c prog_7_method_4_code D pv_cl 52 a (pv_FX q a) A Q out) {σ : pv_S} {H : Heap} {locs : List Loc} {ls : Array Slot} (hl : lv_has ls 1 [(0, .ref (a 12))]) (hP : pv_W D pv_cl 52 a (pv_FX q a) σ H) (hS : va_S A s.heap H locs) (hf : f_Wr_outputNumber_0 σ = some out) : W p l e R s m args below meth c H locs 0 0 Q (F0 m 0 ls []) := by
  unfold f_Wr_outputNumber_0 at hf
  have hx := C.1
  have hb := C.2.1
  refine lv_aload_n hx hb d_Wr_outputNumber_0 rfl (lv_at hl 0 rfl) ?_
  refine pv_get C hP (v := .ref (a 19)) (j := 7) (by decide) (fx_12 _ _ _ _) fl_Wr_35 rfl d_Wr_outputNumber_1 ?_
  refine lv_aload_n hx hb d_Wr_outputNumber_4 rfl (lv_at hl 0 rfl) ?_
  refine pv_get C hP (v := .int (σ.1 12 0)) (j := 0) (by decide) (fx_12 _ _ _ _) fl_Wr_48 rfl d_Wr_outputNumber_5 ?_
  refine lv_iconst (v := (1 : Int32)) hx hb d_Wr_outputNumber_8 (by decide) ?_
  refine lv_isub hx hb d_Wr_outputNumber_9 ?_
  obtain ⟨hg, hf⟩ := pv_g hf
  refine pv_iald C hP (t0 := 0) (by decide) (fx_19 _ _ _ _) rfl hg d_Wr_outputNumber_10 ?_
  obtain rfl := Option.some.inj hf
  exact hret _ _ _ _ d_Wr_outputNumber_11 hP hS
def f_Wr_outputNumber (σ : pv_S) : Option (Int32 × pv_S) := f_Wr_outputNumber_0 σ
def rm_Wr_outputNumber : Room := { frames := 0, cells := 0, slots := 0, locals := 0 }
theorem c_Wr_outputNumber {l : Launch} {D : va_G} {q : Nat → ClassId} {a t : Nat → Nat} {A : Nat → Prop} (hD : pv_D 52 a A) (hmv : pv_mv A (pv_ZX t A)) {σ : pv_S} {out : (Int32 × pv_S)} (hf : f_Wr_outputNumber σ = some out) : pv_Mi l y_Wr_outputNumber (Cond.code y_Wr_outputNumber prog_7_method_4_code 1 (some .int) :: pv_TB) rm_Wr_outputNumber D pv_cl (pv_ty q) 52 a (pv_FX q a) A (pv_ZX t A) [.ref (a 12)] σ out :=
  pv_ofI (by decide) (Nat.le_of_ble_eq_true rfl) hD (fun p e s m args below meth c Q ls C hret hl hP => s_Wr_outputNumber_0 C hmv (Nat.le_refl _) (Nat.le_refl _) hret hl hP va_S.rf hf)
