set_option maxHeartbeats 4000000 in
set_option maxRecDepth 100000 in
theorem o_Pg_isNone {p : Program} {l : Launch} {e : Env} {R : Room} {s : State} {m : MethodId} {args : Array Value} {below : List Frame} {meth : Method} {c : Code} {Q : State → Prop} {D : va_G} {q : Nat → ClassId} {a t : Nat → Nat} {A : Nat → Prop} (C : pv_C p s m args c prog_4_method_2_code 1 "PatchVoices$Program" pv_TB D pv_cl (pv_ty q) 52 a A (pv_ZX t A)) {out : (Int32 × pv_S)} {H : Heap} {locs : List Loc} (hret : pv_Ro p l e R s m args below meth c prog_4_method_2_code H locs Q out.1) {σ : pv_S} {ls : Array Slot} (hl : lv_has ls 1 [(0, .ref (a 11))]) (hP : pv_W D pv_cl 52 a (pv_FX q a) σ H) (hf : f_Pg_isNone_0 σ = some out) : W p l e R s m args below meth c H locs 0 0 Q (F0 m 0 ls []) := by
  unfold f_Pg_isNone_0 at hf
  have hx := C.1
  have hb := C.2.1
  refine lv_aload_n hx hb d_Pg_isNone_0 rfl (lv_at hl 0 rfl) ?_
  refine pv_get C hP (v := .ref (a 12)) (j := 0) (by decide) (fx_11 _ _ _ _) fl_Pg_12 rfl d_Pg_isNone_1 ?_
  refine pv_get C hP (v := .int (σ.1 12 0)) (j := 0) (by decide) (fx_12 _ _ _ _) fl_Pg_36 rfl d_Pg_isNone_4 ?_
  refine lv_if_ne (tgt := 14) hx hb d_Pg_isNone_7 (by decide) (fun h => ?_) (fun h => ?_)
  · have hf := pv_f hf h
    refine lv_iconst (v := (0 : Int32)) hx hb d_Pg_isNone_14 (by decide) ?_
    obtain rfl := Option.some.inj hf
    exact hret _ _ d_Pg_isNone_15 rfl
  · have hf := pv_t hf h
    refine lv_iconst (v := (1 : Int32)) hx hb d_Pg_isNone_10 (by decide) ?_
    refine lv_goto (tgt := 15) hx hb d_Pg_isNone_11 (by decide) ?_
    obtain rfl := Option.some.inj hf
    exact hret _ _ d_Pg_isNone_15 rfl
theorem r_Pg_isNone {l : Launch} {D : va_G} {q : Nat → ClassId} {a t : Nat → Nat} {A : Nat → Prop} (hD : pv_D 52 a A) (hmv : pv_mv A (pv_ZX t A)) {σ : pv_S} {out : (Int32 × pv_S)} (hf : f_Pg_isNone σ = some out) : pv_Mr l y_Pg_isNone (Cond.code y_Pg_isNone prog_4_method_2_code 1 (some .boolean) :: pv_TB) rm_Pg_isNone D pv_cl (pv_ty q) 52 a (pv_FX q a) A (pv_ZX t A) [.ref (a 11)] σ out.1 :=
  pv_ofR (by decide) (Nat.le_of_ble_eq_true rfl) hD (fun p e s m args below meth c Q ls C hret hl hP => o_Pg_isNone C hret hl hP hf)
set_option maxHeartbeats 4000000 in
set_option maxRecDepth 100000 in
theorem o_PV_isNoVoice {p : Program} {l : Launch} {e : Env} {R : Room} {s : State} {m : MethodId} {args : Array Value} {below : List Frame} {meth : Method} {c : Code} {Q : State → Prop} {D : va_G} {q : Nat → ClassId} {a t : Nat → Nat} {A : Nat → Prop} (C : pv_C p s m args c prog_1_method_18_code 2 "PatchVoices" pv_TB D pv_cl (pv_ty q) 52 a A (pv_ZX t A)) {out : (Int32 × pv_S)} {H : Heap} {locs : List Loc} (hret : pv_Ro p l e R s m args below meth c prog_1_method_18_code H locs Q out.1) {σ : pv_S} {x1 : Int32} {ls : Array Slot} (hl : lv_has ls 2 [(0, .ref (a 0)), (1, .int x1)]) (hP : pv_W D pv_cl 52 a (pv_FX q a) σ H) (hf : f_PV_isNoVoice_0 σ x1 = some out) : W p l e R s m args below meth c H locs 0 0 Q (F0 m 0 ls []) := by
  unfold f_PV_isNoVoice_0 at hf
  have hx := C.1
  have hb := C.2.1
  refine lv_iload_n hx hb d_PV_isNoVoice_0 rfl (lv_at hl 1 rfl) ?_
  refine lv_if_lt (tgt := 12) hx hb d_PV_isNoVoice_1 (by decide) (fun h => ?_) (fun h => ?_)
  · have hf := pv_t hf h
    refine lv_iconst (v := (1 : Int32)) hx hb d_PV_isNoVoice_12 (by decide) ?_
    refine lv_goto (tgt := 17) hx hb d_PV_isNoVoice_13 (by decide) ?_
    obtain rfl := Option.some.inj hf
    exact hret _ _ d_PV_isNoVoice_17 rfl
  · have hf := pv_f hf h
    refine lv_iload_n hx hb d_PV_isNoVoice_4 rfl (lv_at hl 1 rfl) ?_
    refine lv_aload_n hx hb d_PV_isNoVoice_5 rfl (lv_at hl 0 rfl) ?_
    refine pv_get C hP (v := .int (σ.1 0 7)) (j := 7) (by decide) (fx_0 _ _ _ _) fl_PV_37 rfl d_PV_isNoVoice_6 ?_
    refine lv_icmp_lt (tgt := 16) hx hb d_PV_isNoVoice_9 (by decide) (fun h => ?_) (fun h => ?_)
    · have hf := pv_t hf h
      refine lv_iconst (v := (0 : Int32)) hx hb d_PV_isNoVoice_16 (by decide) ?_
      obtain rfl := Option.some.inj hf
      exact hret _ _ d_PV_isNoVoice_17 rfl
    · have hf := pv_f hf h
      refine lv_iconst (v := (1 : Int32)) hx hb d_PV_isNoVoice_12 (by decide) ?_
      refine lv_goto (tgt := 17) hx hb d_PV_isNoVoice_13 (by decide) ?_
      obtain rfl := Option.some.inj hf
      exact hret _ _ d_PV_isNoVoice_17 rfl
theorem r_PV_isNoVoice {l : Launch} {D : va_G} {q : Nat → ClassId} {a t : Nat → Nat} {A : Nat → Prop} (hD : pv_D 52 a A) (hmv : pv_mv A (pv_ZX t A)) {σ : pv_S} {x1 : Int32} {out : (Int32 × pv_S)} (hf : f_PV_isNoVoice σ x1 = some out) : pv_Mr l y_PV_isNoVoice (Cond.code y_PV_isNoVoice prog_1_method_18_code 2 (some .boolean) :: pv_TB) rm_PV_isNoVoice D pv_cl (pv_ty q) 52 a (pv_FX q a) A (pv_ZX t A) [.ref (a 0), .int x1] σ out.1 :=
  pv_ofR (by decide) (Nat.le_of_ble_eq_true rfl) hD (fun p e s m args below meth c Q ls C hret hl hP => o_PV_isNoVoice C hret hl hP hf)
theorem d_PV_step_0 : decode prog_1_method_9_code 0 = .ok (.iload_n 1, 1) := by decide +kernel
theorem d_PV_step_1 : decode prog_1_method_9_code 1 = .ok (.ifCond .lt 14, 3) := by decide +kernel
theorem d_PV_step_4 : decode prog_1_method_9_code 4 = .ok (.iload_n 1, 1) := by decide +kernel
theorem d_PV_step_5 : decode prog_1_method_9_code 5 = .ok (.aload_n 0, 1) := by decide +kernel
theorem d_PV_step_6 : decode prog_1_method_9_code 6 = .ok (.getfield 23, 3) := by decide +kernel
theorem d_PV_step_9 : decode prog_1_method_9_code 9 = .ok (.getfield 87, 3) := by decide +kernel
theorem d_PV_step_12 : decode prog_1_method_9_code 12 = .ok (.if_icmp .lt 13, 3) := by decide +kernel
theorem d_PV_step_15 : decode prog_1_method_9_code 15 = .ok (.new 90, 3) := by decide +kernel
theorem d_PV_step_18 : decode prog_1_method_9_code 18 = .ok (.dup, 1) := by decide +kernel
theorem d_PV_step_19 : decode prog_1_method_9_code 19 = .ok (.ldc 92, 2) := by decide +kernel
theorem d_PV_step_21 : decode prog_1_method_9_code 21 = .ok (.invokespecial 94, 3) := by decide +kernel
theorem d_PV_step_24 : decode prog_1_method_9_code 24 = .ok (.athrow, 1) := by decide +kernel
theorem d_PV_step_25 : decode prog_1_method_9_code 25 = .ok (.iload_n 2, 1) := by decide +kernel
theorem d_PV_step_26 : decode prog_1_method_9_code 26 = .ok (.ifCond .lt 9, 3) := by decide +kernel
theorem d_PV_step_29 : decode prog_1_method_9_code 29 = .ok (.iload_n 2, 1) := by decide +kernel
theorem d_PV_step_30 : decode prog_1_method_9_code 30 = .ok (.bipush 10, 2) := by decide +kernel
theorem d_PV_step_32 : decode prog_1_method_9_code 32 = .ok (.if_icmp .le 13, 3) := by decide +kernel
theorem d_PV_step_35 : decode prog_1_method_9_code 35 = .ok (.new 97, 3) := by decide +kernel
theorem d_PV_step_38 : decode prog_1_method_9_code 38 = .ok (.dup, 1) := by decide +kernel
theorem d_PV_step_39 : decode prog_1_method_9_code 39 = .ok (.ldc 99, 2) := by decide +kernel
theorem d_PV_step_41 : decode prog_1_method_9_code 41 = .ok (.invokespecial 101, 3) := by decide +kernel
theorem d_PV_step_44 : decode prog_1_method_9_code 44 = .ok (.athrow, 1) := by decide +kernel
theorem d_PV_step_45 : decode prog_1_method_9_code 45 = .ok (.aload_n 0, 1) := by decide +kernel
theorem d_PV_step_46 : decode prog_1_method_9_code 46 = .ok (.getfield 23, 3) := by decide +kernel
theorem d_PV_step_49 : decode prog_1_method_9_code 49 = .ok (.iload_n 1, 1) := by decide +kernel
theorem d_PV_step_50 : decode prog_1_method_9_code 50 = .ok (.iload_n 2, 1) := by decide +kernel
theorem d_PV_step_51 : decode prog_1_method_9_code 51 = .ok (.invokevirtual 102, 3) := by decide +kernel
theorem d_PV_step_54 : decode prog_1_method_9_code 54 = .ok (.ireturn, 1) := by decide +kernel
def f_PV_step_0 (σ : pv_S) (x1 : Int32) (x2 : Int32) : Option pv_X :=
  (if x1 < 0 then
  some (.inr (0, σ))
  else
  (if x1 < (σ.1 11 1) then
  (if x2 < 0 then
  some (.inr (1, σ))
  else
  (if x2 ≤ (10 : Int32) then
  ((f_Pg_tell σ x1 x2).bind fun q1 =>
some (.inl (q1.1, q1.2)))
  else
  some (.inr (1, σ))))
  else
  some (.inr (0, σ))))
set_option maxHeartbeats 4000000 in
set_option maxRecDepth 100000 in
theorem s_PV_step_0 {p : Program} {l : Launch} {e : Env} {R : Room} {s : State} {m : MethodId} {args : Array Value} {below : List Frame} {meth : Method} {c : Code} {Q : State → Prop} {D : va_G} {q : Nat → ClassId} {a t : Nat → Nat} {A : Nat → Prop} (C : pv_C p s m args c prog_1_method_9_code 3 "PatchVoices" pv_TB D pv_cl (pv_ty q) 52 a A (pv_ZX t A)) (hmv : pv_mv A (pv_ZX t A)) (hRf : 6 ≤ R.frames) (hRl : 111 ≤ R.locals) {out : pv_X} (hret : pv_Re p l e R s m args below meth c D pv_cl 52 a (pv_FX q a) A Q out (pv_fI m prog_1_method_9_code)) (hfl : l.flags = Jvm.pinnedFlags ++ [Jvm.noTraceFlag]) (hlk : meth.locks = false) (hno : c.exceptionTable.isEmpty = true) (hT : pv_ZT t A s) (hRc : 1 ≤ R.cells) (hRs : 6 ≤ R.slots) (hthr : pv_Rt below s D pv_cl 52 a (pv_FX q a) Q out) {σ : pv_S} {x1 : Int32} {x2 : Int32} {ls : Array Slot} (hl : lv_has ls 3 [(0, .ref (a 0)), (1, .int x1), (2, .int x2)]) (hP : pv_W D pv_cl 52 a (pv_FX q a) σ s.heap) (hf : f_PV_step_0 σ x1 x2 = some out) : W p l e R s m args below meth c s.heap [] 0 0 Q (F0 m 0 ls []) := by
  unfold f_PV_step_0 at hf
  have hx := C.1
  have hb := C.2.1
  have hS : va_S A s.heap s.heap [] := va_S.rf
  refine lv_iload_n hx hb d_PV_step_0 rfl (lv_at hl 1 rfl) ?_
  refine lv_if_lt (tgt := 15) hx hb d_PV_step_1 (by decide) (fun h => ?_) (fun h => ?_)
  · have hf := pv_t hf h
    obtain rfl := Option.some.inj hf
    exact pv_throw C hfl hlk hno (xa_IOOBE C.2.2.2.2.1 hT) (C.2.2.2.2.1 _ w_758) (C.2.2.2.2.1 _ w_759) (C.2.2.2.2.1 _ w_128) (hT.2.2.2 (92, "there is no such step") (by decide)) (by decide) (by decide) hl.1 (Nat.le_trans (by decide) hRf) (Nat.le_trans (by decide) hRl) hRc hRs d_PV_step_15 d_PV_step_18 d_PV_step_19 d_PV_step_21 d_PV_step_24 (hthr 0 _ rfl hP)
  · have hf := pv_f hf h
    refine lv_iload_n hx hb d_PV_step_4 rfl (lv_at hl 1 rfl) ?_
    refine lv_aload_n hx hb d_PV_step_5 rfl (lv_at hl 0 rfl) ?_
    refine pv_get C hP (v := .ref (a 11)) (j := 3) (by decide) (fx_0 _ _ _ _) fl_PV_23 rfl d_PV_step_6 ?_
    refine pv_get C hP (v := .int (σ.1 11 1)) (j := 1) (by decide) (fx_11 _ _ _ _) fl_PV_87 rfl d_PV_step_9 ?_
    refine lv_icmp_lt (tgt := 25) hx hb d_PV_step_12 (by decide) (fun h => ?_) (fun h => ?_)
    · have hf := pv_t hf h
      refine lv_iload_n hx hb d_PV_step_25 rfl (lv_at hl 2 rfl) ?_
      refine lv_if_lt (tgt := 35) hx hb d_PV_step_26 (by decide) (fun h => ?_) (fun h => ?_)
      · have hf := pv_t hf h
        obtain rfl := Option.some.inj hf
        exact pv_throw C hfl hlk hno (xa_IAE C.2.2.2.2.1 hT) (C.2.2.2.2.1 _ w_826) (C.2.2.2.2.1 _ w_827) (C.2.2.2.2.1 _ w_129) (hT.2.2.2 (99, "what is not 0 .. 10") (by decide)) (by decide) (by decide) hl.1 (Nat.le_trans (by decide) hRf) (Nat.le_trans (by decide) hRl) hRc hRs d_PV_step_35 d_PV_step_38 d_PV_step_39 d_PV_step_41 d_PV_step_44 (hthr 1 _ rfl hP)
      · have hf := pv_f hf h
        refine lv_iload_n hx hb d_PV_step_29 rfl (lv_at hl 2 rfl) ?_
        refine lv_bipush (v := (10 : Int32)) hx hb d_PV_step_30 (by decide) ?_
        refine lv_icmp_le (tgt := 45) hx hb d_PV_step_32 (by decide) (fun h => ?_) (fun h => ?_)
        · have hf := pv_t hf h
          refine lv_aload_n hx hb d_PV_step_45 rfl (lv_at hl 0 rfl) ?_
          refine pv_get C hP (v := .ref (a 11)) (j := 3) (by decide) (fx_0 _ _ _ _) fl_PV_23 rfl d_PV_step_46 ?_
          refine lv_iload_n hx hb d_PV_step_49 rfl (lv_at hl 1 rfl) ?_
          refine lv_iload_n hx hb d_PV_step_50 rfl (lv_at hl 2 rfl) ?_
          obtain ⟨q1, hc, hf⟩ := pv_b hf
          refine pv_callVi C hmv pv_good hP hS (As := [.int x1, .int x2]) (rest := []) (by decide) (fx_11 _ _ _ _) rfl (c_Pg_tell C.2.2.2.2.2.2.1 hmv hc) cv_PV_102 ⟨rfl, rfl, Nat.le_trans (Nat.le_of_ble_eq_true rfl) hRf, Nat.le_trans (Nat.le_of_ble_eq_true rfl) hRl⟩ rfl hl.1 rfl (Nat.le_of_ble_eq_true rfl) d_PV_step_51 ⟨Nat.zero_le _, Nat.zero_le _⟩ (fun H locs hP hS => ?_)
          obtain rfl := Option.some.inj hf
          exact hret _ rfl _ _ _ ⟨_, _, d_PV_step_54, rfl⟩ hP hS
        · have hf := pv_f hf h
          obtain rfl := Option.some.inj hf
          exact pv_throw C hfl hlk hno (xa_IAE C.2.2.2.2.1 hT) (C.2.2.2.2.1 _ w_826) (C.2.2.2.2.1 _ w_827) (C.2.2.2.2.1 _ w_129) (hT.2.2.2 (99, "what is not 0 .. 10") (by decide)) (by decide) (by decide) hl.1 (Nat.le_trans (by decide) hRf) (Nat.le_trans (by decide) hRl) hRc hRs d_PV_step_35 d_PV_step_38 d_PV_step_39 d_PV_step_41 d_PV_step_44 (hthr 1 _ rfl hP)
    · have hf := pv_f hf h
      obtain rfl := Option.some.inj hf
      exact pv_throw C hfl hlk hno (xa_IOOBE C.2.2.2.2.1 hT) (C.2.2.2.2.1 _ w_758) (C.2.2.2.2.1 _ w_759) (C.2.2.2.2.1 _ w_128) (hT.2.2.2 (92, "there is no such step") (by decide)) (by decide) (by decide) hl.1 (Nat.le_trans (by decide) hRf) (Nat.le_trans (by decide) hRl) hRc hRs d_PV_step_15 d_PV_step_18 d_PV_step_19 d_PV_step_21 d_PV_step_24 (hthr 0 _ rfl hP)
def f_PV_step (σ : pv_S) (x1 : Int32) (x2 : Int32) : Option pv_X := f_PV_step_0 σ x1 x2
def rm_PV_step : Room := { frames := 6, cells := 1, slots := 6, locals := 111 }
theorem c_PV_step {l : Launch} (hfl : l.flags = Jvm.pinnedFlags ++ [Jvm.noTraceFlag]) {D : va_G} {q : Nat → ClassId} {a t : Nat → Nat} {A : Nat → Prop} (hD : pv_D 52 a A) {σ : pv_S} {x1 : Int32} {x2 : Int32} {out : pv_X} (hf : f_PV_step σ x1 x2 = some out) : pv_Mx l y_PV_step (Cond.code y_PV_step prog_1_method_9_code 3 (some .int) :: pv_TB) rm_PV_step D pv_cl (pv_ty q) 52 a (pv_FX q a) A (pv_ZY t A) (fun r => some (.int r)) [.ref (a 0), .int x1, .int x2] σ out :=
  pv_ofX (fin := pv_fI) (by decide) (Nat.le_of_ble_eq_true rfl) hD (pv_finI l) (fun p e s m args below meth c Q ls C hlk hno hret hthr hl hP => s_PV_step_0 C.x pv_mvX (Nat.le_refl _) (Nat.le_refl _) hret hfl hlk hno C.2.2.2.2.2.2.2.2 (Nat.le_refl _) (Nat.le_refl _) hthr hl hP hf)
theorem d_PV_voices_0 : decode prog_1_method_11_code 0 = .ok (.iload_n 1, 1) := by decide +kernel
theorem d_PV_voices_1 : decode prog_1_method_11_code 1 = .ok (.iconst 1, 1) := by decide +kernel
theorem d_PV_voices_2 : decode prog_1_method_11_code 2 = .ok (.if_icmp .lt 8, 3) := by decide +kernel
theorem d_PV_voices_5 : decode prog_1_method_11_code 5 = .ok (.iload_n 1, 1) := by decide +kernel
theorem d_PV_voices_6 : decode prog_1_method_11_code 6 = .ok (.iconst 4, 1) := by decide +kernel
theorem d_PV_voices_7 : decode prog_1_method_11_code 7 = .ok (.if_icmp .le 13, 3) := by decide +kernel
theorem d_PV_voices_10 : decode prog_1_method_11_code 10 = .ok (.new 97, 3) := by decide +kernel
theorem d_PV_voices_13 : decode prog_1_method_11_code 13 = .ok (.dup, 1) := by decide +kernel
theorem d_PV_voices_14 : decode prog_1_method_11_code 14 = .ok (.ldc 109, 2) := by decide +kernel
theorem d_PV_voices_16 : decode prog_1_method_11_code 16 = .ok (.invokespecial 101, 3) := by decide +kernel
theorem d_PV_voices_19 : decode prog_1_method_11_code 19 = .ok (.athrow, 1) := by decide +kernel
theorem d_PV_voices_20 : decode prog_1_method_11_code 20 = .ok (.aload_n 0, 1) := by decide +kernel
theorem d_PV_voices_21 : decode prog_1_method_11_code 21 = .ok (.iload_n 1, 1) := by decide +kernel
theorem d_PV_voices_22 : decode prog_1_method_11_code 22 = .ok (.putfield 37, 3) := by decide +kernel
theorem d_PV_voices_25 : decode prog_1_method_11_code 25 = .ok (.aload_n 0, 1) := by decide +kernel
theorem d_PV_voices_26 : decode prog_1_method_11_code 26 = .ok (.invokevirtual 84, 3) := by decide +kernel
theorem d_PV_voices_29 : decode prog_1_method_11_code 29 = .ok (.return_, 1) := by decide +kernel
def f_PV_voices_0 (σ : pv_S) (x1 : Int32) : Option pv_X :=
  (if x1 < (1 : Int32) then
  some (.inr (1, σ))
  else
  (if x1 ≤ (4 : Int32) then
  ((f_PV_fallSilent (pv_uI σ 0 7 x1)).bind fun q1 =>
some (.inl ((0 : Int32), q1)))
  else
  some (.inr (1, σ))))
set_option maxHeartbeats 4000000 in
set_option maxRecDepth 100000 in
theorem s_PV_voices_0 {p : Program} {l : Launch} {e : Env} {R : Room} {s : State} {m : MethodId} {args : Array Value} {below : List Frame} {meth : Method} {c : Code} {Q : State → Prop} {D : va_G} {q : Nat → ClassId} {a t : Nat → Nat} {A : Nat → Prop} (C : pv_C p s m args c prog_1_method_11_code 2 "PatchVoices" pv_TB D pv_cl (pv_ty q) 52 a A (pv_ZX t A)) (hmv : pv_mv A (pv_ZX t A)) (hRf : 6 ≤ R.frames) (hRl : 82 ≤ R.locals) {out : pv_X} (hret : pv_Re p l e R s m args below meth c D pv_cl 52 a (pv_FX q a) A Q out (pv_fV m prog_1_method_11_code)) (hfl : l.flags = Jvm.pinnedFlags ++ [Jvm.noTraceFlag]) (hlk : meth.locks = false) (hno : c.exceptionTable.isEmpty = true) (hT : pv_ZT t A s) (hRc : 1 ≤ R.cells) (hRs : 6 ≤ R.slots) (hthr : pv_Rt below s D pv_cl 52 a (pv_FX q a) Q out) {σ : pv_S} {x1 : Int32} {ls : Array Slot} (hl : lv_has ls 2 [(0, .ref (a 0)), (1, .int x1)]) (hP : pv_W D pv_cl 52 a (pv_FX q a) σ s.heap) (hf : f_PV_voices_0 σ x1 = some out) : W p l e R s m args below meth c s.heap [] 0 0 Q (F0 m 0 ls []) := by
  unfold f_PV_voices_0 at hf
  have hx := C.1
  have hb := C.2.1
  have hS : va_S A s.heap s.heap [] := va_S.rf
  refine lv_iload_n hx hb d_PV_voices_0 rfl (lv_at hl 1 rfl) ?_
  refine lv_iconst (v := (1 : Int32)) hx hb d_PV_voices_1 (by decide) ?_
  refine lv_icmp_lt (tgt := 10) hx hb d_PV_voices_2 (by decide) (fun h => ?_) (fun h => ?_)
  · have hf := pv_t hf h
    obtain rfl := Option.some.inj hf
    exact pv_throw C hfl hlk hno (xa_IAE C.2.2.2.2.1 hT) (C.2.2.2.2.1 _ w_826) (C.2.2.2.2.1 _ w_827) (C.2.2.2.2.1 _ w_129) (hT.2.2.2 (109, "the voices are not 1 .. 4") (by decide)) (by decide) (by decide) hl.1 (Nat.le_trans (by decide) hRf) (Nat.le_trans (by decide) hRl) hRc hRs d_PV_voices_10 d_PV_voices_13 d_PV_voices_14 d_PV_voices_16 d_PV_voices_19 (hthr 1 _ rfl hP)
  · have hf := pv_f hf h
    refine lv_iload_n hx hb d_PV_voices_5 rfl (lv_at hl 1 rfl) ?_
    refine lv_iconst (v := (4 : Int32)) hx hb d_PV_voices_6 (by decide) ?_
    refine lv_icmp_le (tgt := 20) hx hb d_PV_voices_7 (by decide) (fun h => ?_) (fun h => ?_)
    · have hf := pv_t hf h
      refine lv_aload_n hx hb d_PV_voices_20 rfl (lv_at hl 0 rfl) ?_
      refine lv_iload_n hx hb d_PV_voices_21 rfl (lv_at hl 1 rfl) ?_
      refine pv_putI C hP hS (x := x1) (by decide) (fx_0 _ _ _ _) fw_PV_37 rfl rfl (Nat.le_of_ble_eq_true rfl) (fxs_0_7 _ _ _ _ _) d_PV_voices_22 (fun H locs hP hS => ?_)
      refine lv_aload_n hx hb d_PV_voices_25 rfl (lv_at hl 0 rfl) ?_
      obtain ⟨q1, hc, hf⟩ := pv_b hf
      refine pv_callVv C hmv pv_good hP hS (As := []) (rest := []) (by decide) (fx_0 _ _ _ _) rfl (c_PV_fallSilent C.2.2.2.2.2.2.1 hmv hc) cv_PV_84 ⟨rfl, rfl, Nat.le_trans (Nat.le_of_ble_eq_true rfl) hRf, Nat.le_trans (Nat.le_of_ble_eq_true rfl) hRl⟩ rfl hl.1 rfl (Nat.le_of_ble_eq_true rfl) d_PV_voices_26 ⟨Nat.zero_le _, Nat.zero_le _⟩ (fun H locs hP hS => ?_)
      obtain rfl := Option.some.inj hf
      exact hret _ rfl _ _ _ ⟨_, _, d_PV_voices_29, rfl⟩ hP hS
    · have hf := pv_f hf h
      obtain rfl := Option.some.inj hf
      exact pv_throw C hfl hlk hno (xa_IAE C.2.2.2.2.1 hT) (C.2.2.2.2.1 _ w_826) (C.2.2.2.2.1 _ w_827) (C.2.2.2.2.1 _ w_129) (hT.2.2.2 (109, "the voices are not 1 .. 4") (by decide)) (by decide) (by decide) hl.1 (Nat.le_trans (by decide) hRf) (Nat.le_trans (by decide) hRl) hRc hRs d_PV_voices_10 d_PV_voices_13 d_PV_voices_14 d_PV_voices_16 d_PV_voices_19 (hthr 1 _ rfl hP)
def f_PV_voices (σ : pv_S) (x1 : Int32) : Option pv_X := f_PV_voices_0 σ x1
def rm_PV_voices : Room := { frames := 6, cells := 1, slots := 6, locals := 82 }
theorem c_PV_voices {l : Launch} (hfl : l.flags = Jvm.pinnedFlags ++ [Jvm.noTraceFlag]) {D : va_G} {q : Nat → ClassId} {a t : Nat → Nat} {A : Nat → Prop} (hD : pv_D 52 a A) {σ : pv_S} {x1 : Int32} {out : pv_X} (hf : f_PV_voices σ x1 = some out) : pv_Mx l y_PV_voices (Cond.code y_PV_voices prog_1_method_11_code 2 none :: pv_TB) rm_PV_voices D pv_cl (pv_ty q) 52 a (pv_FX q a) A (pv_ZY t A) (fun _ => none) [.ref (a 0), .int x1] σ out :=
  pv_ofX (fin := pv_fV) (by decide) (Nat.le_of_ble_eq_true rfl) hD (pv_finV l) (fun p e s m args below meth c Q ls C hlk hno hret hthr hl hP => s_PV_voices_0 C.x pv_mvX (Nat.le_refl _) (Nat.le_refl _) hret hfl hlk hno C.2.2.2.2.2.2.2.2 (Nat.le_refl _) (Nat.le_refl _) hthr hl hP hf)
theorem d_PV_note_0 : decode prog_1_method_12_code 0 = .ok (.iload_n 2, 1) := by decide +kernel
theorem d_PV_note_1 : decode prog_1_method_12_code 1 = .ok (.iconst 1, 1) := by decide +kernel
theorem d_PV_note_2 : decode prog_1_method_12_code 2 = .ok (.if_icmp .lt 9, 3) := by decide +kernel
theorem d_PV_note_5 : decode prog_1_method_12_code 5 = .ok (.iload_n 2, 1) := by decide +kernel
theorem d_PV_note_6 : decode prog_1_method_12_code 6 = .ok (.bipush 127, 2) := by decide +kernel
theorem d_PV_note_8 : decode prog_1_method_12_code 8 = .ok (.if_icmp .le 13, 3) := by decide +kernel
theorem d_PV_note_11 : decode prog_1_method_12_code 11 = .ok (.new 97, 3) := by decide +kernel
theorem d_PV_note_14 : decode prog_1_method_12_code 14 = .ok (.dup, 1) := by decide +kernel
theorem d_PV_note_15 : decode prog_1_method_12_code 15 = .ok (.ldc 111, 2) := by decide +kernel
theorem d_PV_note_17 : decode prog_1_method_12_code 17 = .ok (.invokespecial 101, 3) := by decide +kernel
theorem d_PV_note_20 : decode prog_1_method_12_code 20 = .ok (.athrow, 1) := by decide +kernel
theorem d_PV_note_21 : decode prog_1_method_12_code 21 = .ok (.aload_n 0, 1) := by decide +kernel
theorem d_PV_note_22 : decode prog_1_method_12_code 22 = .ok (.invokevirtual 113, 3) := by decide +kernel
theorem d_PV_note_25 : decode prog_1_method_12_code 25 = .ok (.istore_n 3, 1) := by decide +kernel
theorem d_PV_note_26 : decode prog_1_method_12_code 26 = .ok (.aload_n 0, 1) := by decide +kernel
theorem d_PV_note_27 : decode prog_1_method_12_code 27 = .ok (.getfield 33, 3) := by decide +kernel
theorem d_PV_note_30 : decode prog_1_method_12_code 30 = .ok (.iload_n 3, 1) := by decide +kernel
theorem d_PV_note_31 : decode prog_1_method_12_code 31 = .ok (.aaload, 1) := by decide +kernel
theorem d_PV_note_32 : decode prog_1_method_12_code 32 = .ok (.aload_n 0, 1) := by decide +kernel
theorem d_PV_note_33 : decode prog_1_method_12_code 33 = .ok (.getfield 23, 3) := by decide +kernel
theorem d_PV_note_36 : decode prog_1_method_12_code 36 = .ok (.iload_n 1, 1) := by decide +kernel
theorem d_PV_note_37 : decode prog_1_method_12_code 37 = .ok (.iload_n 2, 1) := by decide +kernel
theorem d_PV_note_38 : decode prog_1_method_12_code 38 = .ok (.aload_n 0, 1) := by decide +kernel
theorem d_PV_note_39 : decode prog_1_method_12_code 39 = .ok (.getfield 116, 3) := by decide +kernel
theorem d_PV_note_42 : decode prog_1_method_12_code 42 = .ok (.invokevirtual 120, 3) := by decide +kernel
theorem d_PV_note_45 : decode prog_1_method_12_code 45 = .ok (.aload_n 0, 1) := by decide +kernel
theorem d_PV_note_46 : decode prog_1_method_12_code 46 = .ok (.dup, 1) := by decide +kernel
theorem d_PV_note_47 : decode prog_1_method_12_code 47 = .ok (.getfield 116, 3) := by decide +kernel
theorem d_PV_note_50 : decode prog_1_method_12_code 50 = .ok (.lconst 1, 1) := by decide +kernel
theorem d_PV_note_51 : decode prog_1_method_12_code 51 = .ok (.ladd, 1) := by decide +kernel
theorem d_PV_note_52 : decode prog_1_method_12_code 52 = .ok (.putfield 116, 3) := by decide +kernel
theorem d_PV_note_55 : decode prog_1_method_12_code 55 = .ok (.iload_n 3, 1) := by decide +kernel
theorem d_PV_note_56 : decode prog_1_method_12_code 56 = .ok (.ireturn, 1) := by decide +kernel
def f_PV_note_0 (σ : pv_S) (x1 : Int32) (x2 : Int32) : Option pv_X :=
  (if x2 < (1 : Int32) then
  some (.inr (1, σ))
  else
  (if x2 ≤ (127 : Int32) then
  ((f_PV_voiceToTake σ).bind fun q1 =>
(if pv_in q1.1 4 = true then
((f_Vc_take ((q1.1).toNatClampNeg) q1.2 x1 x2 (q1.2.2 0 8)).bind fun q2 =>
some (.inl (q1.1, (pv_uL q2 0 8 ((q2.2 0 8) + (1 : Int64))))))
  else none))
  else
  some (.inr (1, σ))))
set_option maxHeartbeats 4000000 in
set_option maxRecDepth 100000 in
theorem s_PV_note_0 {p : Program} {l : Launch} {e : Env} {R : Room} {s : State} {m : MethodId} {args : Array Value} {below : List Frame} {meth : Method} {c : Code} {Q : State → Prop} {D : va_G} {q : Nat → ClassId} {a t : Nat → Nat} {A : Nat → Prop} (C : pv_C p s m args c prog_1_method_12_code 4 "PatchVoices" pv_TB D pv_cl (pv_ty q) 52 a A (pv_ZX t A)) (hmv : pv_mv A (pv_ZX t A)) (hRf : 6 ≤ R.frames) (hRl : 82 ≤ R.locals) {out : pv_X} (hret : pv_Re p l e R s m args below meth c D pv_cl 52 a (pv_FX q a) A Q out (pv_fI m prog_1_method_12_code)) (hfl : l.flags = Jvm.pinnedFlags ++ [Jvm.noTraceFlag]) (hlk : meth.locks = false) (hno : c.exceptionTable.isEmpty = true) (hT : pv_ZT t A s) (hRc : 1 ≤ R.cells) (hRs : 6 ≤ R.slots) (hthr : pv_Rt below s D pv_cl 52 a (pv_FX q a) Q out) {σ : pv_S} {x1 : Int32} {x2 : Int32} {ls : Array Slot} (hl : lv_has ls 4 [(0, .ref (a 0)), (1, .int x1), (2, .int x2)]) (hP : pv_W D pv_cl 52 a (pv_FX q a) σ s.heap) (hf : f_PV_note_0 σ x1 x2 = some out) : W p l e R s m args below meth c s.heap [] 0 0 Q (F0 m 0 ls []) := by
  unfold f_PV_note_0 at hf
  have hx := C.1
  have hb := C.2.1
  have hS : va_S A s.heap s.heap [] := va_S.rf
  refine lv_iload_n hx hb d_PV_note_0 rfl (lv_at hl 2 rfl) ?_
  refine lv_iconst (v := (1 : Int32)) hx hb d_PV_note_1 (by decide) ?_
  refine lv_icmp_lt (tgt := 11) hx hb d_PV_note_2 (by decide) (fun h => ?_) (fun h => ?_)
  · have hf := pv_t hf h
    obtain rfl := Option.some.inj hf
    exact pv_throw C hfl hlk hno (xa_IAE C.2.2.2.2.1 hT) (C.2.2.2.2.1 _ w_826) (C.2.2.2.2.1 _ w_827) (C.2.2.2.2.1 _ w_129) (hT.2.2.2 (111, "the strength is not 1 .. 127") (by decide)) (by decide) (by decide) hl.1 (Nat.le_trans (by decide) hRf) (Nat.le_trans (by decide) hRl) hRc hRs d_PV_note_11 d_PV_note_14 d_PV_note_15 d_PV_note_17 d_PV_note_20 (hthr 1 _ rfl hP)
  · have hf := pv_f hf h
    refine lv_iload_n hx hb d_PV_note_5 rfl (lv_at hl 2 rfl) ?_
    refine lv_bipush (v := (127 : Int32)) hx hb d_PV_note_6 (by decide) ?_
    refine lv_icmp_le (tgt := 21) hx hb d_PV_note_8 (by decide) (fun h => ?_) (fun h => ?_)
    · have hf := pv_t hf h
      refine lv_aload_n hx hb d_PV_note_21 rfl (lv_at hl 0 rfl) ?_
      obtain ⟨q1, hc, hf⟩ := pv_b hf
      refine pv_callVi C hmv pv_good hP hS (As := []) (rest := []) (by decide) (fx_0 _ _ _ _) rfl (c_PV_voiceToTake C.2.2.2.2.2.2.1 hmv hc) cv_PV_113 ⟨rfl, rfl, Nat.le_trans (Nat.le_of_ble_eq_true rfl) hRf, Nat.le_trans (Nat.le_of_ble_eq_true rfl) hRl⟩ rfl hl.1 rfl (Nat.le_of_ble_eq_true rfl) d_PV_note_22 ⟨Nat.zero_le _, Nat.zero_le _⟩ (fun H locs hP hS => ?_)
      refine lv_istore_n (lv' := [(3, .int q1.1), (0, .ref (a 0)), (1, .int x1), (2, .int x2)]) hx hb d_PV_note_25 rfl hl (by decide) rfl (fun ls hl => ?_)
      refine lv_aload_n hx hb d_PV_note_26 rfl (lv_at hl 1 rfl) ?_
      refine pv_get C hP (v := .ref (a 25)) (j := 6) (by decide) (fx_0 _ _ _ _) fl_PV_33 rfl d_PV_note_27 ?_
      refine lv_iload_n hx hb d_PV_note_30 rfl (lv_at hl 0 rfl) ?_
      obtain ⟨hg, hf⟩ := pv_g hf
      have hi1 := hg
      have hi1l := pv_in_lt hi1
      refine pv_aald C hP (t0 := 4) (b := a (28 + 6 * (q1.1).toNatClampNeg)) (by decide) (fx_25 _ _ _ _) rfl hg (if_pos hi1l) d_PV_note_31 ?_
      refine lv_aload_n hx hb d_PV_note_32 rfl (lv_at hl 1 rfl) ?_
      refine pv_get C hP (v := .ref (a 11)) (j := 3) (by decide) (fx_0 _ _ _ _) fl_PV_23 rfl d_PV_note_33 ?_
      refine lv_iload_n hx hb d_PV_note_36 rfl (lv_at hl 2 rfl) ?_
      refine lv_iload_n hx hb d_PV_note_37 rfl (lv_at hl 3 rfl) ?_
      refine lv_aload_n hx hb d_PV_note_38 rfl (lv_at hl 1 rfl) ?_
      refine pv_get C hP (v := .long (q1.2.2 0 8)) (j := 8) (by decide) (fx_0 _ _ _ _) fl_PV_116 rfl d_PV_note_39 ?_
      obtain ⟨q2, hc, hf⟩ := pv_b hf
      refine pv_callVv C hmv pv_good hP hS (As := [.ref (a 11), .int x1, .int x2, .long (q1.2.2 0 8)]) (rest := []) (by omega) (fx_v0 hi1l _ _ _ _) rfl (c_Vc_take hi1l C.2.2.2.2.2.2.1 hmv hc) cv_PV_120 ⟨rfl, rfl, Nat.le_trans (Nat.le_of_ble_eq_true rfl) hRf, Nat.le_trans (Nat.le_of_ble_eq_true rfl) hRl⟩ rfl hl.1 rfl (Nat.le_of_ble_eq_true rfl) d_PV_note_42 ⟨Nat.zero_le _, Nat.zero_le _⟩ (fun H locs hP hS => ?_)
      refine lv_aload_n hx hb d_PV_note_45 rfl (lv_at hl 1 rfl) ?_
      refine lv_dup hx hb d_PV_note_46 rfl ?_
      refine pv_get C hP (v := .long (q2.2 0 8)) (j := 8) (by decide) (fx_0 _ _ _ _) fl_PV_116 rfl d_PV_note_47 ?_
      refine lv_lconst (v := (1 : Int64)) hx hb d_PV_note_50 (by decide) ?_
      refine lv_ladd hx hb d_PV_note_51 ?_
      refine pv_putL C hP hS (x := ((q2.2 0 8) + (1 : Int64))) (by decide) (fx_0 _ _ _ _) fw_PV_116 (Nat.le_of_ble_eq_true rfl) (fxs_0_8 _ _ _ _ _) d_PV_note_52 (fun H locs hP hS => ?_)
      refine lv_iload_n hx hb d_PV_note_55 rfl (lv_at hl 0 rfl) ?_
      obtain rfl := Option.some.inj hf
      exact hret _ rfl _ _ _ ⟨_, _, d_PV_note_56, rfl⟩ hP hS
    · have hf := pv_f hf h
      obtain rfl := Option.some.inj hf
      exact pv_throw C hfl hlk hno (xa_IAE C.2.2.2.2.1 hT) (C.2.2.2.2.1 _ w_826) (C.2.2.2.2.1 _ w_827) (C.2.2.2.2.1 _ w_129) (hT.2.2.2 (111, "the strength is not 1 .. 127") (by decide)) (by decide) (by decide) hl.1 (Nat.le_trans (by decide) hRf) (Nat.le_trans (by decide) hRl) hRc hRs d_PV_note_11 d_PV_note_14 d_PV_note_15 d_PV_note_17 d_PV_note_20 (hthr 1 _ rfl hP)
def f_PV_note (σ : pv_S) (x1 : Int32) (x2 : Int32) : Option pv_X := f_PV_note_0 σ x1 x2
def rm_PV_note : Room := { frames := 6, cells := 1, slots := 6, locals := 82 }
theorem c_PV_note {l : Launch} (hfl : l.flags = Jvm.pinnedFlags ++ [Jvm.noTraceFlag]) {D : va_G} {q : Nat → ClassId} {a t : Nat → Nat} {A : Nat → Prop} (hD : pv_D 52 a A) {σ : pv_S} {x1 : Int32} {x2 : Int32} {out : pv_X} (hf : f_PV_note σ x1 x2 = some out) : pv_Mx l y_PV_note (Cond.code y_PV_note prog_1_method_12_code 4 (some .int) :: pv_TB) rm_PV_note D pv_cl (pv_ty q) 52 a (pv_FX q a) A (pv_ZY t A) (fun r => some (.int r)) [.ref (a 0), .int x1, .int x2] σ out :=
  pv_ofX (fin := pv_fI) (by decide) (Nat.le_of_ble_eq_true rfl) hD (pv_finI l) (fun p e s m args below meth c Q ls C hlk hno hret hthr hl hP => s_PV_note_0 C.x pv_mvX (Nat.le_refl _) (Nat.le_refl _) hret hfl hlk hno C.2.2.2.2.2.2.2.2 (Nat.le_refl _) (Nat.le_refl _) hthr hl hP hf)
theorem d_PV_off_0 : decode prog_1_method_16_code 0 = .ok (.aload_n 0, 1) := by decide +kernel
theorem d_PV_off_1 : decode prog_1_method_16_code 1 = .ok (.iload_n 1, 1) := by decide +kernel
theorem d_PV_off_2 : decode prog_1_method_16_code 2 = .ok (.invokevirtual 142, 3) := by decide +kernel
theorem d_PV_off_5 : decode prog_1_method_16_code 5 = .ok (.ifCond .eq 13, 3) := by decide +kernel
theorem d_PV_off_8 : decode prog_1_method_16_code 8 = .ok (.new 90, 3) := by decide +kernel
theorem d_PV_off_11 : decode prog_1_method_16_code 11 = .ok (.dup, 1) := by decide +kernel
theorem d_PV_off_12 : decode prog_1_method_16_code 12 = .ok (.ldc 146, 2) := by decide +kernel
theorem d_PV_off_14 : decode prog_1_method_16_code 14 = .ok (.invokespecial 94, 3) := by decide +kernel
theorem d_PV_off_17 : decode prog_1_method_16_code 17 = .ok (.athrow, 1) := by decide +kernel
theorem d_PV_off_18 : decode prog_1_method_16_code 18 = .ok (.aload_n 0, 1) := by decide +kernel
theorem d_PV_off_19 : decode prog_1_method_16_code 19 = .ok (.getfield 33, 3) := by decide +kernel
theorem d_PV_off_22 : decode prog_1_method_16_code 22 = .ok (.iload_n 1, 1) := by decide +kernel
theorem d_PV_off_23 : decode prog_1_method_16_code 23 = .ok (.aaload, 1) := by decide +kernel
theorem d_PV_off_24 : decode prog_1_method_16_code 24 = .ok (.getfield 148, 3) := by decide +kernel
theorem d_PV_off_27 : decode prog_1_method_16_code 27 = .ok (.ifCond .ne 13, 3) := by decide +kernel
theorem d_PV_off_30 : decode prog_1_method_16_code 30 = .ok (.new 151, 3) := by decide +kernel
theorem d_PV_off_33 : decode prog_1_method_16_code 33 = .ok (.dup, 1) := by decide +kernel
theorem d_PV_off_34 : decode prog_1_method_16_code 34 = .ok (.ldc 153, 2) := by decide +kernel
theorem d_PV_off_36 : decode prog_1_method_16_code 36 = .ok (.invokespecial 155, 3) := by decide +kernel
theorem d_PV_off_39 : decode prog_1_method_16_code 39 = .ok (.athrow, 1) := by decide +kernel
theorem d_PV_off_40 : decode prog_1_method_16_code 40 = .ok (.aload_n 0, 1) := by decide +kernel
theorem d_PV_off_41 : decode prog_1_method_16_code 41 = .ok (.getfield 33, 3) := by decide +kernel
theorem d_PV_off_44 : decode prog_1_method_16_code 44 = .ok (.iload_n 1, 1) := by decide +kernel
theorem d_PV_off_45 : decode prog_1_method_16_code 45 = .ok (.aaload, 1) := by decide +kernel
theorem d_PV_off_46 : decode prog_1_method_16_code 46 = .ok (.iconst 0, 1) := by decide +kernel
theorem d_PV_off_47 : decode prog_1_method_16_code 47 = .ok (.putfield 148, 3) := by decide +kernel
theorem d_PV_off_50 : decode prog_1_method_16_code 50 = .ok (.return_, 1) := by decide +kernel
def f_PV_off_0 (σ : pv_S) (x1 : Int32) : Option pv_X :=
  ((f_PV_isNoVoice σ x1).bind fun q1 =>
(if q1.1 = 0 then
  (if pv_in x1 4 = true then
(if (σ.1 (28 + 6 * (x1).toNatClampNeg) 1) = 0 then
  some (.inr (2, σ))
  else
  (if pv_in x1 4 = true then
some (.inl ((0 : Int32), (pv_uI σ (28 + 6 * (x1).toNatClampNeg) 1 (0 : Int32))))
  else none))
  else none)
  else
  some (.inr (0, σ))))
set_option maxHeartbeats 4000000 in
set_option maxRecDepth 100000 in
theorem s_PV_off_0 {p : Program} {l : Launch} {e : Env} {R : Room} {s : State} {m : MethodId} {args : Array Value} {below : List Frame} {meth : Method} {c : Code} {Q : State → Prop} {D : va_G} {q : Nat → ClassId} {a t : Nat → Nat} {A : Nat → Prop} (C : pv_C p s m args c prog_1_method_16_code 2 "PatchVoices" pv_TB D pv_cl (pv_ty q) 52 a A (pv_ZX t A)) (hmv : pv_mv A (pv_ZX t A)) (hRf : 6 ≤ R.frames) (hRl : 82 ≤ R.locals) {out : pv_X} (hret : pv_Re p l e R s m args below meth c D pv_cl 52 a (pv_FX q a) A Q out (pv_fV m prog_1_method_16_code)) (hfl : l.flags = Jvm.pinnedFlags ++ [Jvm.noTraceFlag]) (hlk : meth.locks = false) (hno : c.exceptionTable.isEmpty = true) (hT : pv_ZT t A s) (hRc : 1 ≤ R.cells) (hRs : 6 ≤ R.slots) (hthr : pv_Rt below s D pv_cl 52 a (pv_FX q a) Q out) {σ : pv_S} {x1 : Int32} {ls : Array Slot} (hl : lv_has ls 2 [(0, .ref (a 0)), (1, .int x1)]) (hP : pv_W D pv_cl 52 a (pv_FX q a) σ s.heap) (hf : f_PV_off_0 σ x1 = some out) : W p l e R s m args below meth c s.heap [] 0 0 Q (F0 m 0 ls []) := by
  unfold f_PV_off_0 at hf
  have hx := C.1
  have hb := C.2.1
  have hS : va_S A s.heap s.heap [] := va_S.rf
  refine lv_aload_n hx hb d_PV_off_0 rfl (lv_at hl 0 rfl) ?_
  refine lv_iload_n hx hb d_PV_off_1 rfl (lv_at hl 1 rfl) ?_
  obtain ⟨q1, hc, hf⟩ := pv_b hf
  refine pv_callVr C hmv pv_good hP hS (As := [.int x1]) (rest := []) (by decide) (fx_0 _ _ _ _) rfl (r_PV_isNoVoice C.2.2.2.2.2.2.1 hmv hc) cv_PV_142 ⟨rfl, rfl, Nat.le_trans (Nat.le_of_ble_eq_true rfl) hRf, Nat.le_trans (Nat.le_of_ble_eq_true rfl) hRl⟩ rfl hl.1 rfl (Nat.le_of_ble_eq_true rfl) d_PV_off_2 ⟨Nat.zero_le _, Nat.zero_le _⟩ ?_
  refine lv_if_eq (tgt := 18) hx hb d_PV_off_5 (by decide) (fun h => ?_) (fun h => ?_)
  · have hf := pv_t hf h
    refine lv_aload_n hx hb d_PV_off_18 rfl (lv_at hl 0 rfl) ?_
    refine pv_get C hP (v := .ref (a 25)) (j := 6) (by decide) (fx_0 _ _ _ _) fl_PV_33 rfl d_PV_off_19 ?_
    refine lv_iload_n hx hb d_PV_off_22 rfl (lv_at hl 1 rfl) ?_
    obtain ⟨hg, hf⟩ := pv_g hf
    have hi1 := hg
    have hi1l := pv_in_lt hi1
    refine pv_aald C hP (t0 := 4) (b := a (28 + 6 * (x1).toNatClampNeg)) (by decide) (fx_25 _ _ _ _) rfl hg (if_pos hi1l) d_PV_off_23 ?_
    refine pv_get C hP (v := .int (σ.1 (28 + 6 * (x1).toNatClampNeg) 1)) (j := 1) (by omega) (fx_v0 hi1l _ _ _ _) fl_PV_148 rfl d_PV_off_24 ?_
    refine lv_if_ne (tgt := 40) hx hb d_PV_off_27 (by decide) (fun h => ?_) (fun h => ?_)
    · have hf := pv_f hf h
      refine lv_aload_n hx hb d_PV_off_40 rfl (lv_at hl 0 rfl) ?_
      refine pv_get C hP (v := .ref (a 25)) (j := 6) (by decide) (fx_0 _ _ _ _) fl_PV_33 rfl d_PV_off_41 ?_
      refine lv_iload_n hx hb d_PV_off_44 rfl (lv_at hl 1 rfl) ?_
      obtain ⟨hg, hf⟩ := pv_g hf
      have hi2 := hg
      have hi2l := pv_in_lt hi2
      refine pv_aald C hP (t0 := 4) (b := a (28 + 6 * (x1).toNatClampNeg)) (by decide) (fx_25 _ _ _ _) rfl hg (if_pos hi2l) d_PV_off_45 ?_
      refine lv_iconst (v := (0 : Int32)) hx hb d_PV_off_46 (by decide) ?_
      refine pv_putI C hP hS (x := (0 : Int32)) (by omega) (fx_v0 hi2l _ _ _ _) fw_PV_148 rfl rfl (Nat.le_of_ble_eq_true rfl) (fxs_v0_1 hi2l _ _ _ _ _) d_PV_off_47 (fun H locs hP hS => ?_)
      obtain rfl := Option.some.inj hf
      exact hret _ rfl _ _ _ ⟨_, _, d_PV_off_50, rfl⟩ hP hS
    · have hf := pv_t hf h
      obtain rfl := Option.some.inj hf
      exact pv_throw C hfl hlk hno (xa_ISE C.2.2.2.2.1 hT) (C.2.2.2.2.1 _ w_904) (C.2.2.2.2.1 _ w_905) (C.2.2.2.2.1 _ w_130) (hT.2.2.2 (153, "its gate is not on") (by decide)) (by decide) (by decide) hl.1 (Nat.le_trans (by decide) hRf) (Nat.le_trans (by decide) hRl) hRc hRs d_PV_off_30 d_PV_off_33 d_PV_off_34 d_PV_off_36 d_PV_off_39 (hthr 2 _ rfl hP)
  · have hf := pv_f hf h
    obtain rfl := Option.some.inj hf
    exact pv_throw C hfl hlk hno (xa_IOOBE C.2.2.2.2.1 hT) (C.2.2.2.2.1 _ w_758) (C.2.2.2.2.1 _ w_759) (C.2.2.2.2.1 _ w_128) (hT.2.2.2 (146, "there is no such voice") (by decide)) (by decide) (by decide) hl.1 (Nat.le_trans (by decide) hRf) (Nat.le_trans (by decide) hRl) hRc hRs d_PV_off_8 d_PV_off_11 d_PV_off_12 d_PV_off_14 d_PV_off_17 (hthr 0 _ rfl hP)
def f_PV_off (σ : pv_S) (x1 : Int32) : Option pv_X := f_PV_off_0 σ x1
def rm_PV_off : Room := { frames := 6, cells := 1, slots := 6, locals := 82 }
theorem c_PV_off {l : Launch} (hfl : l.flags = Jvm.pinnedFlags ++ [Jvm.noTraceFlag]) {D : va_G} {q : Nat → ClassId} {a t : Nat → Nat} {A : Nat → Prop} (hD : pv_D 52 a A) {σ : pv_S} {x1 : Int32} {out : pv_X} (hf : f_PV_off σ x1 = some out) : pv_Mx l y_PV_off (Cond.code y_PV_off prog_1_method_16_code 2 none :: pv_TB) rm_PV_off D pv_cl (pv_ty q) 52 a (pv_FX q a) A (pv_ZY t A) (fun _ => none) [.ref (a 0), .int x1] σ out :=
  pv_ofX (fin := pv_fV) (by decide) (Nat.le_of_ble_eq_true rfl) hD (pv_finV l) (fun p e s m args below meth c Q ls C hlk hno hret hthr hl hP => s_PV_off_0 C.x pv_mvX (Nat.le_refl _) (Nat.le_refl _) hret hfl hlk hno C.2.2.2.2.2.2.2.2 (Nat.le_refl _) (Nat.le_refl _) hthr hl hP hf)
theorem d_PV_active_0 : decode prog_1_method_17_code 0 = .ok (.aload_n 0, 1) := by decide +kernel
theorem d_PV_active_1 : decode prog_1_method_17_code 1 = .ok (.iload_n 1, 1) := by decide +kernel
theorem d_PV_active_2 : decode prog_1_method_17_code 2 = .ok (.invokevirtual 142, 3) := by decide +kernel
theorem d_PV_active_5 : decode prog_1_method_17_code 5 = .ok (.ifCond .eq 13, 3) := by decide +kernel
theorem d_PV_active_8 : decode prog_1_method_17_code 8 = .ok (.new 90, 3) := by decide +kernel
theorem d_PV_active_11 : decode prog_1_method_17_code 11 = .ok (.dup, 1) := by decide +kernel
theorem d_PV_active_12 : decode prog_1_method_17_code 12 = .ok (.ldc 146, 2) := by decide +kernel
theorem d_PV_active_14 : decode prog_1_method_17_code 14 = .ok (.invokespecial 94, 3) := by decide +kernel
theorem d_PV_active_17 : decode prog_1_method_17_code 17 = .ok (.athrow, 1) := by decide +kernel
theorem d_PV_active_18 : decode prog_1_method_17_code 18 = .ok (.aload_n 0, 1) := by decide +kernel
theorem d_PV_active_19 : decode prog_1_method_17_code 19 = .ok (.getfield 33, 3) := by decide +kernel
theorem d_PV_active_22 : decode prog_1_method_17_code 22 = .ok (.iload_n 1, 1) := by decide +kernel
theorem d_PV_active_23 : decode prog_1_method_17_code 23 = .ok (.aaload, 1) := by decide +kernel
theorem d_PV_active_24 : decode prog_1_method_17_code 24 = .ok (.getfield 133, 3) := by decide +kernel
theorem d_PV_active_27 : decode prog_1_method_17_code 27 = .ok (.ireturn, 1) := by decide +kernel
def f_PV_active_0 (σ : pv_S) (x1 : Int32) : Option pv_X :=
  ((f_PV_isNoVoice σ x1).bind fun q1 =>
(if q1.1 = 0 then
  (if pv_in x1 4 = true then
(if pv_z (σ.1 (28 + 6 * (x1).toNatClampNeg) 2) = true then
some (.inl ((σ.1 (28 + 6 * (x1).toNatClampNeg) 2), σ))
  else none)
  else none)
  else
  some (.inr (0, σ))))
set_option maxHeartbeats 4000000 in
set_option maxRecDepth 100000 in
theorem s_PV_active_0 {p : Program} {l : Launch} {e : Env} {R : Room} {s : State} {m : MethodId} {args : Array Value} {below : List Frame} {meth : Method} {c : Code} {Q : State → Prop} {D : va_G} {q : Nat → ClassId} {a t : Nat → Nat} {A : Nat → Prop} (C : pv_C p s m args c prog_1_method_17_code 2 "PatchVoices" pv_TB D pv_cl (pv_ty q) 52 a A (pv_ZX t A)) (hmv : pv_mv A (pv_ZX t A)) (hRf : 6 ≤ R.frames) (hRl : 82 ≤ R.locals) {out : pv_X} (hret : pv_Re p l e R s m args below meth c D pv_cl 52 a (pv_FX q a) A Q out (pv_fZ m prog_1_method_17_code)) (hfl : l.flags = Jvm.pinnedFlags ++ [Jvm.noTraceFlag]) (hlk : meth.locks = false) (hno : c.exceptionTable.isEmpty = true) (hT : pv_ZT t A s) (hRc : 1 ≤ R.cells) (hRs : 6 ≤ R.slots) (hthr : pv_Rt below s D pv_cl 52 a (pv_FX q a) Q out) {σ : pv_S} {x1 : Int32} {ls : Array Slot} (hl : lv_has ls 2 [(0, .ref (a 0)), (1, .int x1)]) (hP : pv_W D pv_cl 52 a (pv_FX q a) σ s.heap) (hf : f_PV_active_0 σ x1 = some out) : W p l e R s m args below meth c s.heap [] 0 0 Q (F0 m 0 ls []) := by
  unfold f_PV_active_0 at hf
  have hx := C.1
  have hb := C.2.1
  have hS : va_S A s.heap s.heap [] := va_S.rf
  refine lv_aload_n hx hb d_PV_active_0 rfl (lv_at hl 0 rfl) ?_
  refine lv_iload_n hx hb d_PV_active_1 rfl (lv_at hl 1 rfl) ?_
  obtain ⟨q1, hc, hf⟩ := pv_b hf
  refine pv_callVr C hmv pv_good hP hS (As := [.int x1]) (rest := []) (by decide) (fx_0 _ _ _ _) rfl (r_PV_isNoVoice C.2.2.2.2.2.2.1 hmv hc) cv_PV_142 ⟨rfl, rfl, Nat.le_trans (Nat.le_of_ble_eq_true rfl) hRf, Nat.le_trans (Nat.le_of_ble_eq_true rfl) hRl⟩ rfl hl.1 rfl (Nat.le_of_ble_eq_true rfl) d_PV_active_2 ⟨Nat.zero_le _, Nat.zero_le _⟩ ?_
  refine lv_if_eq (tgt := 18) hx hb d_PV_active_5 (by decide) (fun h => ?_) (fun h => ?_)
  · have hf := pv_t hf h
    refine lv_aload_n hx hb d_PV_active_18 rfl (lv_at hl 0 rfl) ?_
    refine pv_get C hP (v := .ref (a 25)) (j := 6) (by decide) (fx_0 _ _ _ _) fl_PV_33 rfl d_PV_active_19 ?_
    refine lv_iload_n hx hb d_PV_active_22 rfl (lv_at hl 1 rfl) ?_
    obtain ⟨hg, hf⟩ := pv_g hf
    have hi1 := hg
    have hi1l := pv_in_lt hi1
    refine pv_aald C hP (t0 := 4) (b := a (28 + 6 * (x1).toNatClampNeg)) (by decide) (fx_25 _ _ _ _) rfl hg (if_pos hi1l) d_PV_active_23 ?_
    refine pv_get C hP (v := .int (σ.1 (28 + 6 * (x1).toNatClampNeg) 2)) (j := 2) (by omega) (fx_v0 hi1l _ _ _ _) fl_PV_133 rfl d_PV_active_24 ?_
    obtain ⟨hg, hf⟩ := pv_g hf
    obtain rfl := Option.some.inj hf
    exact hret _ rfl _ _ _ ⟨_, _, d_PV_active_27, hg, rfl⟩ hP hS
  · have hf := pv_f hf h
    obtain rfl := Option.some.inj hf
    exact pv_throw C hfl hlk hno (xa_IOOBE C.2.2.2.2.1 hT) (C.2.2.2.2.1 _ w_758) (C.2.2.2.2.1 _ w_759) (C.2.2.2.2.1 _ w_128) (hT.2.2.2 (146, "there is no such voice") (by decide)) (by decide) (by decide) hl.1 (Nat.le_trans (by decide) hRf) (Nat.le_trans (by decide) hRl) hRc hRs d_PV_active_8 d_PV_active_11 d_PV_active_12 d_PV_active_14 d_PV_active_17 (hthr 0 _ rfl hP)
def f_PV_active (σ : pv_S) (x1 : Int32) : Option pv_X := f_PV_active_0 σ x1
def rm_PV_active : Room := { frames := 6, cells := 1, slots := 6, locals := 82 }
theorem c_PV_active {l : Launch} (hfl : l.flags = Jvm.pinnedFlags ++ [Jvm.noTraceFlag]) {D : va_G} {q : Nat → ClassId} {a t : Nat → Nat} {A : Nat → Prop} (hD : pv_D 52 a A) {σ : pv_S} {x1 : Int32} {out : pv_X} (hf : f_PV_active σ x1 = some out) : pv_Mx l y_PV_active (Cond.code y_PV_active prog_1_method_17_code 2 (some .boolean) :: pv_TB) rm_PV_active D pv_cl (pv_ty q) 52 a (pv_FX q a) A (pv_ZY t A) (fun r => some (.int r)) [.ref (a 0), .int x1] σ out :=
  pv_ofX (fin := pv_fZ) (by decide) (Nat.le_of_ble_eq_true rfl) hD (pv_finZ l) (fun p e s m args below meth c Q ls C hlk hno hret hthr hl hP => s_PV_active_0 C.x pv_mvX (Nat.le_refl _) (Nat.le_refl _) hret hfl hlk hno C.2.2.2.2.2.2.2.2 (Nat.le_refl _) (Nat.le_refl _) hthr hl hP hf)
theorem d_PV_knob_0 : decode prog_1_method_19_code 0 = .ok (.iload_n 1, 1) := by decide +kernel
theorem d_PV_knob_1 : decode prog_1_method_19_code 1 = .ok (.ifCond .lt 8, 3) := by decide +kernel
theorem d_PV_knob_4 : decode prog_1_method_19_code 4 = .ok (.iload_n 1, 1) := by decide +kernel
theorem d_PV_knob_5 : decode prog_1_method_19_code 5 = .ok (.iconst 4, 1) := by decide +kernel
theorem d_PV_knob_6 : decode prog_1_method_19_code 6 = .ok (.if_icmp .lt 13, 3) := by decide +kernel
theorem d_PV_knob_9 : decode prog_1_method_19_code 9 = .ok (.new 90, 3) := by decide +kernel
theorem d_PV_knob_12 : decode prog_1_method_19_code 12 = .ok (.dup, 1) := by decide +kernel
theorem d_PV_knob_13 : decode prog_1_method_19_code 13 = .ok (.ldc 156, 2) := by decide +kernel
theorem d_PV_knob_15 : decode prog_1_method_19_code 15 = .ok (.invokespecial 94, 3) := by decide +kernel
theorem d_PV_knob_18 : decode prog_1_method_19_code 18 = .ok (.athrow, 1) := by decide +kernel
theorem d_PV_knob_19 : decode prog_1_method_19_code 19 = .ok (.aload_n 0, 1) := by decide +kernel
theorem d_PV_knob_20 : decode prog_1_method_19_code 20 = .ok (.getfield 40, 3) := by decide +kernel
theorem d_PV_knob_23 : decode prog_1_method_19_code 23 = .ok (.iload_n 1, 1) := by decide +kernel
theorem d_PV_knob_24 : decode prog_1_method_19_code 24 = .ok (.iload_n 2, 1) := by decide +kernel
theorem d_PV_knob_25 : decode prog_1_method_19_code 25 = .ok (.iastore, 1) := by decide +kernel
theorem d_PV_knob_26 : decode prog_1_method_19_code 26 = .ok (.return_, 1) := by decide +kernel
def f_PV_knob_0 (σ : pv_S) (x1 : Int32) (x2 : Int32) : Option pv_X :=
  (if x1 < 0 then
  some (.inr (0, σ))
  else
  (if x1 < (4 : Int32) then
  (if pv_in x1 4 = true then
some (.inl ((0 : Int32), (pv_uI σ 26 (x1).toNatClampNeg x2)))
  else none)
  else
  some (.inr (0, σ))))
set_option maxHeartbeats 4000000 in
set_option maxRecDepth 100000 in
theorem s_PV_knob_0 {p : Program} {l : Launch} {e : Env} {R : Room} {s : State} {m : MethodId} {args : Array Value} {below : List Frame} {meth : Method} {c : Code} {Q : State → Prop} {D : va_G} {q : Nat → ClassId} {a t : Nat → Nat} {A : Nat → Prop} (C : pv_C p s m args c prog_1_method_19_code 3 "PatchVoices" pv_TB D pv_cl (pv_ty q) 52 a A (pv_ZX t A)) (hmv : pv_mv A (pv_ZX t A)) (hRf : 6 ≤ R.frames) (hRl : 82 ≤ R.locals) {out : pv_X} (hret : pv_Re p l e R s m args below meth c D pv_cl 52 a (pv_FX q a) A Q out (pv_fV m prog_1_method_19_code)) (hfl : l.flags = Jvm.pinnedFlags ++ [Jvm.noTraceFlag]) (hlk : meth.locks = false) (hno : c.exceptionTable.isEmpty = true) (hT : pv_ZT t A s) (hRc : 1 ≤ R.cells) (hRs : 6 ≤ R.slots) (hthr : pv_Rt below s D pv_cl 52 a (pv_FX q a) Q out) {σ : pv_S} {x1 : Int32} {x2 : Int32} {ls : Array Slot} (hl : lv_has ls 3 [(0, .ref (a 0)), (1, .int x1), (2, .int x2)]) (hP : pv_W D pv_cl 52 a (pv_FX q a) σ s.heap) (hf : f_PV_knob_0 σ x1 x2 = some out) : W p l e R s m args below meth c s.heap [] 0 0 Q (F0 m 0 ls []) := by
  unfold f_PV_knob_0 at hf
  have hx := C.1
  have hb := C.2.1
  have hS : va_S A s.heap s.heap [] := va_S.rf
  refine lv_iload_n hx hb d_PV_knob_0 rfl (lv_at hl 1 rfl) ?_
  refine lv_if_lt (tgt := 9) hx hb d_PV_knob_1 (by decide) (fun h => ?_) (fun h => ?_)
  · have hf := pv_t hf h
    obtain rfl := Option.some.inj hf
    exact pv_throw C hfl hlk hno (xa_IOOBE C.2.2.2.2.1 hT) (C.2.2.2.2.1 _ w_758) (C.2.2.2.2.1 _ w_759) (C.2.2.2.2.1 _ w_128) (hT.2.2.2 (156, "there is no such knob") (by decide)) (by decide) (by decide) hl.1 (Nat.le_trans (by decide) hRf) (Nat.le_trans (by decide) hRl) hRc hRs d_PV_knob_9 d_PV_knob_12 d_PV_knob_13 d_PV_knob_15 d_PV_knob_18 (hthr 0 _ rfl hP)
  · have hf := pv_f hf h
    refine lv_iload_n hx hb d_PV_knob_4 rfl (lv_at hl 1 rfl) ?_
    refine lv_iconst (v := (4 : Int32)) hx hb d_PV_knob_5 (by decide) ?_
    refine lv_icmp_lt (tgt := 19) hx hb d_PV_knob_6 (by decide) (fun h => ?_) (fun h => ?_)
    · have hf := pv_t hf h
      refine lv_aload_n hx hb d_PV_knob_19 rfl (lv_at hl 0 rfl) ?_
      refine pv_get C hP (v := .ref (a 26)) (j := 9) (by decide) (fx_0 _ _ _ _) fl_PV_40 rfl d_PV_knob_20 ?_
      refine lv_iload_n hx hb d_PV_knob_23 rfl (lv_at hl 1 rfl) ?_
      refine lv_iload_n hx hb d_PV_knob_24 rfl (lv_at hl 2 rfl) ?_
      obtain ⟨hg, hf⟩ := pv_g hf
      refine pv_iast C hP hS (t0 := 0) (x := x2) (by decide) (fun f g => (fx_26 _ _ f g)) rfl hg d_PV_knob_25 (fun H locs hP hS => ?_)
      obtain rfl := Option.some.inj hf
      exact hret _ rfl _ _ _ ⟨_, _, d_PV_knob_26, rfl⟩ hP hS
    · have hf := pv_f hf h
      obtain rfl := Option.some.inj hf
      exact pv_throw C hfl hlk hno (xa_IOOBE C.2.2.2.2.1 hT) (C.2.2.2.2.1 _ w_758) (C.2.2.2.2.1 _ w_759) (C.2.2.2.2.1 _ w_128) (hT.2.2.2 (156, "there is no such knob") (by decide)) (by decide) (by decide) hl.1 (Nat.le_trans (by decide) hRf) (Nat.le_trans (by decide) hRl) hRc hRs d_PV_knob_9 d_PV_knob_12 d_PV_knob_13 d_PV_knob_15 d_PV_knob_18 (hthr 0 _ rfl hP)
def f_PV_knob (σ : pv_S) (x1 : Int32) (x2 : Int32) : Option pv_X := f_PV_knob_0 σ x1 x2
def rm_PV_knob : Room := { frames := 6, cells := 1, slots := 6, locals := 82 }
theorem c_PV_knob {l : Launch} (hfl : l.flags = Jvm.pinnedFlags ++ [Jvm.noTraceFlag]) {D : va_G} {q : Nat → ClassId} {a t : Nat → Nat} {A : Nat → Prop} (hD : pv_D 52 a A) {σ : pv_S} {x1 : Int32} {x2 : Int32} {out : pv_X} (hf : f_PV_knob σ x1 x2 = some out) : pv_Mx l y_PV_knob (Cond.code y_PV_knob prog_1_method_19_code 3 none :: pv_TB) rm_PV_knob D pv_cl (pv_ty q) 52 a (pv_FX q a) A (pv_ZY t A) (fun _ => none) [.ref (a 0), .int x1, .int x2] σ out :=
  pv_ofX (fin := pv_fV) (by decide) (Nat.le_of_ble_eq_true rfl) hD (pv_finV l) (fun p e s m args below meth c Q ls C hlk hno hret hthr hl hP => s_PV_knob_0 C.x pv_mvX (Nat.le_refl _) (Nat.le_refl _) hret hfl hlk hno C.2.2.2.2.2.2.2.2 (Nat.le_refl _) (Nat.le_refl _) hthr hl hP hf)
theorem d_PV_run_0 : decode prog_1_method_20_code 0 = .ok (.iload_n 1, 1) := by decide +kernel
theorem d_PV_run_1 : decode prog_1_method_20_code 1 = .ok (.ifCond .lt 9, 3) := by decide +kernel
theorem d_PV_run_4 : decode prog_1_method_20_code 4 = .ok (.iload_n 1, 1) := by decide +kernel
theorem d_PV_run_5 : decode prog_1_method_20_code 5 = .ok (.bipush 64, 2) := by decide +kernel
theorem d_PV_run_7 : decode prog_1_method_20_code 7 = .ok (.if_icmp .le 13, 3) := by decide +kernel
theorem d_PV_run_10 : decode prog_1_method_20_code 10 = .ok (.new 97, 3) := by decide +kernel
theorem d_PV_run_13 : decode prog_1_method_20_code 13 = .ok (.dup, 1) := by decide +kernel
theorem d_PV_run_14 : decode prog_1_method_20_code 14 = .ok (.ldc 158, 2) := by decide +kernel
theorem d_PV_run_16 : decode prog_1_method_20_code 16 = .ok (.invokespecial 101, 3) := by decide +kernel
theorem d_PV_run_19 : decode prog_1_method_20_code 19 = .ok (.athrow, 1) := by decide +kernel
theorem d_PV_run_20 : decode prog_1_method_20_code 20 = .ok (.aload_n 0, 1) := by decide +kernel
theorem d_PV_run_21 : decode prog_1_method_20_code 21 = .ok (.getfield 23, 3) := by decide +kernel
theorem d_PV_run_24 : decode prog_1_method_20_code 24 = .ok (.invokevirtual 160, 3) := by decide +kernel
theorem d_PV_run_27 : decode prog_1_method_20_code 27 = .ok (.ifCond .eq 13, 3) := by decide +kernel
theorem d_PV_run_30 : decode prog_1_method_20_code 30 = .ok (.new 151, 3) := by decide +kernel
theorem d_PV_run_33 : decode prog_1_method_20_code 33 = .ok (.dup, 1) := by decide +kernel
theorem d_PV_run_34 : decode prog_1_method_20_code 34 = .ok (.ldc 164, 2) := by decide +kernel
theorem d_PV_run_36 : decode prog_1_method_20_code 36 = .ok (.invokespecial 155, 3) := by decide +kernel
theorem d_PV_run_39 : decode prog_1_method_20_code 39 = .ok (.athrow, 1) := by decide +kernel
theorem d_PV_run_40 : decode prog_1_method_20_code 40 = .ok (.iconst 0, 1) := by decide +kernel
theorem d_PV_run_41 : decode prog_1_method_20_code 41 = .ok (.istore_n 2, 1) := by decide +kernel
theorem d_PV_run_42 : decode prog_1_method_20_code 42 = .ok (.iload_n 2, 1) := by decide +kernel
theorem d_PV_run_43 : decode prog_1_method_20_code 43 = .ok (.iload_n 1, 1) := by decide +kernel
theorem d_PV_run_44 : decode prog_1_method_20_code 44 = .ok (.if_icmp .ge 19, 3) := by decide +kernel
theorem d_PV_run_47 : decode prog_1_method_20_code 47 = .ok (.aload_n 0, 1) := by decide +kernel
theorem d_PV_run_48 : decode prog_1_method_20_code 48 = .ok (.getfield 44, 3) := by decide +kernel
theorem d_PV_run_51 : decode prog_1_method_20_code 51 = .ok (.iload_n 2, 1) := by decide +kernel
theorem d_PV_run_52 : decode prog_1_method_20_code 52 = .ok (.aload_n 0, 1) := by decide +kernel
theorem d_PV_run_53 : decode prog_1_method_20_code 53 = .ok (.invokevirtual 166, 3) := by decide +kernel
theorem d_PV_run_56 : decode prog_1_method_20_code 56 = .ok (.iastore, 1) := by decide +kernel
theorem d_PV_run_57 : decode prog_1_method_20_code 57 = .ok (.iinc 2 1, 3) := by decide +kernel
theorem d_PV_run_60 : decode prog_1_method_20_code 60 = .ok (.goto (-18), 3) := by decide +kernel
theorem d_PV_run_63 : decode prog_1_method_20_code 63 = .ok (.aload_n 0, 1) := by decide +kernel
theorem d_PV_run_64 : decode prog_1_method_20_code 64 = .ok (.iload_n 1, 1) := by decide +kernel
theorem d_PV_run_65 : decode prog_1_method_20_code 65 = .ok (.putfield 169, 3) := by decide +kernel
theorem d_PV_run_68 : decode prog_1_method_20_code 68 = .ok (.return_, 1) := by decide +kernel
def f_PV_run_42b (k_42 : pv_S → Int32 → Int32 → Option pv_X) (σ : pv_S) (x1 : Int32) (x2 : Int32) : Option pv_X :=
  (if x1 ≤ x2 then
  some (.inl ((0 : Int32), (pv_uI σ 0 11 x1)))
  else
  ((f_PV_nextSample σ).bind fun q2 =>
(if pv_in x2 64 = true then
k_42 (pv_uI q2.2 27 (x2).toNatClampNeg q2.1) x1 (x2 + (1 : Int32))
  else none)))
set_option maxHeartbeats 4000000 in
set_option maxRecDepth 100000 in
theorem s_PV_run_42b {p : Program} {l : Launch} {e : Env} {R : Room} {s : State} {m : MethodId} {args : Array Value} {below : List Frame} {meth : Method} {c : Code} {Q : State → Prop} {D : va_G} {q : Nat → ClassId} {a t : Nat → Nat} {A : Nat → Prop} (C : pv_C p s m args c prog_1_method_20_code 3 "PatchVoices" pv_TB D pv_cl (pv_ty q) 52 a A (pv_ZX t A)) (hmv : pv_mv A (pv_ZX t A)) (hRf : 6 ≤ R.frames) (hRl : 134 ≤ R.locals) {out : pv_X} (hret : pv_Re p l e R s m args below meth c D pv_cl 52 a (pv_FX q a) A Q out (pv_fV m prog_1_method_20_code)) {k_42 : pv_S → Int32 → Int32 → Option pv_X} (hk_42 : ∀ (σ : pv_S) (x1 : Int32) (x2 : Int32) (H : Heap) (locs : List Loc) (ls : Array Slot), k_42 σ x1 x2 = some out → lv_has ls 3 [(0, .ref (a 0)), (1, .int x1), (2, .int x2)] → pv_W D pv_cl 52 a (pv_FX q a) σ H → va_S A s.heap H locs → W p l e R s m args below meth c H locs 0 0 Q (F0 m 42 ls [])) {σ : pv_S} {x1 : Int32} {x2 : Int32} {H : Heap} {locs : List Loc} {ls : Array Slot} (hl : lv_has ls 3 [(0, .ref (a 0)), (1, .int x1), (2, .int x2)]) (hP : pv_W D pv_cl 52 a (pv_FX q a) σ H) (hS : va_S A s.heap H locs) (hf : f_PV_run_42b k_42 σ x1 x2 = some out) : W p l e R s m args below meth c H locs 0 0 Q (F0 m 42 ls []) := by
  unfold f_PV_run_42b at hf
  have hx := C.1
  have hb := C.2.1
  refine lv_iload_n hx hb d_PV_run_42 rfl (lv_at hl 2 rfl) ?_
  refine lv_iload_n hx hb d_PV_run_43 rfl (lv_at hl 1 rfl) ?_
  refine lv_icmp_ge (tgt := 63) hx hb d_PV_run_44 (by decide) (fun h => ?_) (fun h => ?_)
  · have hf := pv_t hf h
    refine lv_aload_n hx hb d_PV_run_63 rfl (lv_at hl 0 rfl) ?_
    refine lv_iload_n hx hb d_PV_run_64 rfl (lv_at hl 1 rfl) ?_
    refine pv_putI C hP hS (x := x1) (by decide) (fx_0 _ _ _ _) fw_PV_169 rfl rfl (Nat.le_of_ble_eq_true rfl) (fxs_0_11 _ _ _ _ _) d_PV_run_65 (fun H locs hP hS => ?_)
    obtain rfl := Option.some.inj hf
    exact hret _ rfl _ _ _ ⟨_, _, d_PV_run_68, rfl⟩ hP hS
  · have hf := pv_f hf h
    refine lv_aload_n hx hb d_PV_run_47 rfl (lv_at hl 0 rfl) ?_
    refine pv_get C hP (v := .ref (a 27)) (j := 10) (by decide) (fx_0 _ _ _ _) fl_PV_44 rfl d_PV_run_48 ?_
    refine lv_iload_n hx hb d_PV_run_51 rfl (lv_at hl 2 rfl) ?_
    refine lv_aload_n hx hb d_PV_run_52 rfl (lv_at hl 0 rfl) ?_
    obtain ⟨q2, hc, hf⟩ := pv_b hf
    refine pv_callVi C hmv pv_good hP hS (As := []) (rest := [.int x2, .ref (a 27)]) (by decide) (fx_0 _ _ _ _) rfl (c_PV_nextSample C.2.2.2.2.2.2.1 hmv hc) cv_PV_166 ⟨rfl, rfl, Nat.le_trans (Nat.le_of_ble_eq_true rfl) hRf, Nat.le_trans (Nat.le_of_ble_eq_true rfl) hRl⟩ rfl hl.1 rfl (Nat.le_of_ble_eq_true rfl) d_PV_run_53 ⟨Nat.zero_le _, Nat.zero_le _⟩ (fun H locs hP hS => ?_)
    obtain ⟨hg, hf⟩ := pv_g hf
    refine pv_iast C hP hS (t0 := 0) (x := q2.1) (by decide) (fun f g => (fx_27 _ _ f g)) rfl hg d_PV_run_56 (fun H locs hP hS => ?_)
    refine lv_iinc (k := 2) (v := (x2 + (1 : Int32))) (lv' := [(2, .int (x2 + (1 : Int32))), (0, .ref (a 0)), (1, .int x1)]) hx hb d_PV_run_57 hl rfl (pv_inc (by decide)) (by decide) rfl (fun ls hl => ?_)
    refine lv_goto (tgt := 42) hx hb d_PV_run_60 (by decide) ?_
    exact hk_42 _ _ _ _ _ _ hf (lv_sub hl [1, 2, 0] rfl) hP hS
def f_PV_run_42 : Nat → pv_S → Int32 → Int32 → Option pv_X
  | 0 => fun _ _ _ => none
  | n + 1 => f_PV_run_42b (f_PV_run_42 n)
set_option maxHeartbeats 4000000 in
theorem s_PV_run_42 {p : Program} {l : Launch} {e : Env} {R : Room} {s : State} {m : MethodId} {args : Array Value} {below : List Frame} {meth : Method} {c : Code} {Q : State → Prop} {D : va_G} {q : Nat → ClassId} {a t : Nat → Nat} {A : Nat → Prop} (C : pv_C p s m args c prog_1_method_20_code 3 "PatchVoices" pv_TB D pv_cl (pv_ty q) 52 a A (pv_ZX t A)) (hmv : pv_mv A (pv_ZX t A)) (hRf : 6 ≤ R.frames) (hRl : 134 ≤ R.locals) {out : pv_X} (hret : pv_Re p l e R s m args below meth c D pv_cl 52 a (pv_FX q a) A Q out (pv_fV m prog_1_method_20_code)) (n : Nat) : ∀ {σ : pv_S} {x1 : Int32} {x2 : Int32} {H : Heap} {locs : List Loc} {ls : Array Slot}, lv_has ls 3 [(0, .ref (a 0)), (1, .int x1), (2, .int x2)] → pv_W D pv_cl 52 a (pv_FX q a) σ H → va_S A s.heap H locs → f_PV_run_42 n σ x1 x2 = some out → W p l e R s m args below meth c H locs 0 0 Q (F0 m 42 ls []) := by
  induction n with
  | zero => intro σ x1 x2 H locs ls hl hP hS hf; cases hf
  | succ n ih => intro σ x1 x2 H locs ls hl hP hS hf; exact s_PV_run_42b C hmv hRf hRl hret (fun σ x1 x2 H locs ls hf hl hP hS => ih hl hP hS hf) hl hP hS hf
def f_PV_run_0 (σ : pv_S) (x1 : Int32) : Option pv_X :=
  (if x1 < 0 then
  some (.inr (1, σ))
  else
  (if x1 ≤ (64 : Int32) then
  ((f_Pg_isNone σ).bind fun q1 =>
(if q1.1 = 0 then
  f_PV_run_42 pv_fu σ x1 (0 : Int32)
  else
  some (.inr (2, σ))))
  else
  some (.inr (1, σ))))
set_option maxHeartbeats 4000000 in
set_option maxRecDepth 100000 in
theorem s_PV_run_0 {p : Program} {l : Launch} {e : Env} {R : Room} {s : State} {m : MethodId} {args : Array Value} {below : List Frame} {meth : Method} {c : Code} {Q : State → Prop} {D : va_G} {q : Nat → ClassId} {a t : Nat → Nat} {A : Nat → Prop} (C : pv_C p s m args c prog_1_method_20_code 3 "PatchVoices" pv_TB D pv_cl (pv_ty q) 52 a A (pv_ZX t A)) (hmv : pv_mv A (pv_ZX t A)) (hRf : 6 ≤ R.frames) (hRl : 134 ≤ R.locals) {out : pv_X} (hret : pv_Re p l e R s m args below meth c D pv_cl 52 a (pv_FX q a) A Q out (pv_fV m prog_1_method_20_code)) (hfl : l.flags = Jvm.pinnedFlags ++ [Jvm.noTraceFlag]) (hlk : meth.locks = false) (hno : c.exceptionTable.isEmpty = true) (hT : pv_ZT t A s) (hRc : 1 ≤ R.cells) (hRs : 6 ≤ R.slots) (hthr : pv_Rt below s D pv_cl 52 a (pv_FX q a) Q out) {σ : pv_S} {x1 : Int32} {ls : Array Slot} (hl : lv_has ls 3 [(0, .ref (a 0)), (1, .int x1)]) (hP : pv_W D pv_cl 52 a (pv_FX q a) σ s.heap) (hf : f_PV_run_0 σ x1 = some out) : W p l e R s m args below meth c s.heap [] 0 0 Q (F0 m 0 ls []) := by
  unfold f_PV_run_0 at hf
  have hx := C.1
  have hb := C.2.1
  have hS : va_S A s.heap s.heap [] := va_S.rf
  refine lv_iload_n hx hb d_PV_run_0 rfl (lv_at hl 1 rfl) ?_
  refine lv_if_lt (tgt := 10) hx hb d_PV_run_1 (by decide) (fun h => ?_) (fun h => ?_)
  · have hf := pv_t hf h
    obtain rfl := Option.some.inj hf
    exact pv_throw C hfl hlk hno (xa_IAE C.2.2.2.2.1 hT) (C.2.2.2.2.1 _ w_826) (C.2.2.2.2.1 _ w_827) (C.2.2.2.2.1 _ w_129) (hT.2.2.2 (158, "the samples are not 0 .. 64") (by decide)) (by decide) (by decide) hl.1 (Nat.le_trans (by decide) hRf) (Nat.le_trans (by decide) hRl) hRc hRs d_PV_run_10 d_PV_run_13 d_PV_run_14 d_PV_run_16 d_PV_run_19 (hthr 1 _ rfl hP)
  · have hf := pv_f hf h
    refine lv_iload_n hx hb d_PV_run_4 rfl (lv_at hl 1 rfl) ?_
    refine lv_bipush (v := (64 : Int32)) hx hb d_PV_run_5 (by decide) ?_
    refine lv_icmp_le (tgt := 20) hx hb d_PV_run_7 (by decide) (fun h => ?_) (fun h => ?_)
    · have hf := pv_t hf h
      refine lv_aload_n hx hb d_PV_run_20 rfl (lv_at hl 0 rfl) ?_
      refine pv_get C hP (v := .ref (a 11)) (j := 3) (by decide) (fx_0 _ _ _ _) fl_PV_23 rfl d_PV_run_21 ?_
      obtain ⟨q1, hc, hf⟩ := pv_b hf
      refine pv_callVr C hmv pv_good hP hS (As := []) (rest := []) (by decide) (fx_11 _ _ _ _) rfl (r_Pg_isNone C.2.2.2.2.2.2.1 hmv hc) cv_PV_160 ⟨rfl, rfl, Nat.le_trans (Nat.le_of_ble_eq_true rfl) hRf, Nat.le_trans (Nat.le_of_ble_eq_true rfl) hRl⟩ rfl hl.1 rfl (Nat.le_of_ble_eq_true rfl) d_PV_run_24 ⟨Nat.zero_le _, Nat.zero_le _⟩ ?_
      refine lv_if_eq (tgt := 40) hx hb d_PV_run_27 (by decide) (fun h => ?_) (fun h => ?_)
      · have hf := pv_t hf h
        refine lv_iconst (v := (0 : Int32)) hx hb d_PV_run_40 (by decide) ?_
        refine lv_istore_n (lv' := [(2, .int (0 : Int32)), (0, .ref (a 0)), (1, .int x1)]) hx hb d_PV_run_41 rfl hl (by decide) rfl (fun ls hl => ?_)
        exact s_PV_run_42 C hmv hRf hRl hret pv_fu (lv_sub hl [1, 2, 0] rfl) hP hS hf
      · have hf := pv_f hf h
        obtain rfl := Option.some.inj hf
        exact pv_throw C hfl hlk hno (xa_ISE C.2.2.2.2.1 hT) (C.2.2.2.2.1 _ w_904) (C.2.2.2.2.1 _ w_905) (C.2.2.2.2.1 _ w_130) (hT.2.2.2 (164, "there is no program") (by decide)) (by decide) (by decide) hl.1 (Nat.le_trans (by decide) hRf) (Nat.le_trans (by decide) hRl) hRc hRs d_PV_run_30 d_PV_run_33 d_PV_run_34 d_PV_run_36 d_PV_run_39 (hthr 2 _ rfl hP)
    · have hf := pv_f hf h
      obtain rfl := Option.some.inj hf
      exact pv_throw C hfl hlk hno (xa_IAE C.2.2.2.2.1 hT) (C.2.2.2.2.1 _ w_826) (C.2.2.2.2.1 _ w_827) (C.2.2.2.2.1 _ w_129) (hT.2.2.2 (158, "the samples are not 0 .. 64") (by decide)) (by decide) (by decide) hl.1 (Nat.le_trans (by decide) hRf) (Nat.le_trans (by decide) hRl) hRc hRs d_PV_run_10 d_PV_run_13 d_PV_run_14 d_PV_run_16 d_PV_run_19 (hthr 1 _ rfl hP)
def f_PV_run (σ : pv_S) (x1 : Int32) : Option pv_X := f_PV_run_0 σ x1
def rm_PV_run : Room := { frames := 6, cells := 1, slots := 6, locals := 134 }
theorem c_PV_run {l : Launch} (hfl : l.flags = Jvm.pinnedFlags ++ [Jvm.noTraceFlag]) {D : va_G} {q : Nat → ClassId} {a t : Nat → Nat} {A : Nat → Prop} (hD : pv_D 52 a A) {σ : pv_S} {x1 : Int32} {out : pv_X} (hf : f_PV_run σ x1 = some out) : pv_Mx l y_PV_run (Cond.code y_PV_run prog_1_method_20_code 3 none :: pv_TB) rm_PV_run D pv_cl (pv_ty q) 52 a (pv_FX q a) A (pv_ZY t A) (fun _ => none) [.ref (a 0), .int x1] σ out :=
  pv_ofX (fin := pv_fV) (by decide) (Nat.le_of_ble_eq_true rfl) hD (pv_finV l) (fun p e s m args below meth c Q ls C hlk hno hret hthr hl hP => s_PV_run_0 C.x pv_mvX (Nat.le_refl _) (Nat.le_refl _) hret hfl hlk hno C.2.2.2.2.2.2.2.2 (Nat.le_refl _) (Nat.le_refl _) hthr hl hP hf)
theorem d_PV_out_0 : decode prog_1_method_22_code 0 = .ok (.iload_n 1, 1) := by decide +kernel
theorem d_PV_out_1 : decode prog_1_method_22_code 1 = .ok (.ifCond .lt 11, 3) := by decide +kernel
theorem d_PV_out_4 : decode prog_1_method_22_code 4 = .ok (.iload_n 1, 1) := by decide +kernel
theorem d_PV_out_5 : decode prog_1_method_22_code 5 = .ok (.aload_n 0, 1) := by decide +kernel
theorem d_PV_out_6 : decode prog_1_method_22_code 6 = .ok (.getfield 169, 3) := by decide +kernel
theorem d_PV_out_9 : decode prog_1_method_22_code 9 = .ok (.if_icmp .lt 13, 3) := by decide +kernel
theorem d_PV_out_12 : decode prog_1_method_22_code 12 = .ok (.new 90, 3) := by decide +kernel
theorem d_PV_out_15 : decode prog_1_method_22_code 15 = .ok (.dup, 1) := by decide +kernel
theorem d_PV_out_16 : decode prog_1_method_22_code 16 = .ok (.ldc 189, 2) := by decide +kernel
theorem d_PV_out_18 : decode prog_1_method_22_code 18 = .ok (.invokespecial 94, 3) := by decide +kernel
theorem d_PV_out_21 : decode prog_1_method_22_code 21 = .ok (.athrow, 1) := by decide +kernel
theorem d_PV_out_22 : decode prog_1_method_22_code 22 = .ok (.aload_n 0, 1) := by decide +kernel
theorem d_PV_out_23 : decode prog_1_method_22_code 23 = .ok (.getfield 44, 3) := by decide +kernel
theorem d_PV_out_26 : decode prog_1_method_22_code 26 = .ok (.iload_n 1, 1) := by decide +kernel
theorem d_PV_out_27 : decode prog_1_method_22_code 27 = .ok (.iaload, 1) := by decide +kernel
theorem d_PV_out_28 : decode prog_1_method_22_code 28 = .ok (.ireturn, 1) := by decide +kernel
def f_PV_out_0 (σ : pv_S) (x1 : Int32) : Option pv_X :=
  (if x1 < 0 then
  some (.inr (0, σ))
  else
  (if x1 < (σ.1 0 11) then
  (if pv_in x1 64 = true then
some (.inl ((σ.1 27 (x1).toNatClampNeg), σ))
  else none)
  else
  some (.inr (0, σ))))
set_option maxHeartbeats 4000000 in
set_option maxRecDepth 100000 in
theorem s_PV_out_0 {p : Program} {l : Launch} {e : Env} {R : Room} {s : State} {m : MethodId} {args : Array Value} {below : List Frame} {meth : Method} {c : Code} {Q : State → Prop} {D : va_G} {q : Nat → ClassId} {a t : Nat → Nat} {A : Nat → Prop} (C : pv_C p s m args c prog_1_method_22_code 2 "PatchVoices" pv_TB D pv_cl (pv_ty q) 52 a A (pv_ZX t A)) (hmv : pv_mv A (pv_ZX t A)) (hRf : 6 ≤ R.frames) (hRl : 82 ≤ R.locals) {out : pv_X} (hret : pv_Re p l e R s m args below meth c D pv_cl 52 a (pv_FX q a) A Q out (pv_fI m prog_1_method_22_code)) (hfl : l.flags = Jvm.pinnedFlags ++ [Jvm.noTraceFlag]) (hlk : meth.locks = false) (hno : c.exceptionTable.isEmpty = true) (hT : pv_ZT t A s) (hRc : 1 ≤ R.cells) (hRs : 6 ≤ R.slots) (hthr : pv_Rt below s D pv_cl 52 a (pv_FX q a) Q out) {σ : pv_S} {x1 : Int32} {ls : Array Slot} (hl : lv_has ls 2 [(0, .ref (a 0)), (1, .int x1)]) (hP : pv_W D pv_cl 52 a (pv_FX q a) σ s.heap) (hf : f_PV_out_0 σ x1 = some out) : W p l e R s m args below meth c s.heap [] 0 0 Q (F0 m 0 ls []) := by
  unfold f_PV_out_0 at hf
  have hx := C.1
  have hb := C.2.1
  have hS : va_S A s.heap s.heap [] := va_S.rf
  refine lv_iload_n hx hb d_PV_out_0 rfl (lv_at hl 1 rfl) ?_
  refine lv_if_lt (tgt := 12) hx hb d_PV_out_1 (by decide) (fun h => ?_) (fun h => ?_)
  · have hf := pv_t hf h
    obtain rfl := Option.some.inj hf
    exact pv_throw C hfl hlk hno (xa_IOOBE C.2.2.2.2.1 hT) (C.2.2.2.2.1 _ w_758) (C.2.2.2.2.1 _ w_759) (C.2.2.2.2.1 _ w_128) (hT.2.2.2 (189, "there is no such sample") (by decide)) (by decide) (by decide) hl.1 (Nat.le_trans (by decide) hRf) (Nat.le_trans (by decide) hRl) hRc hRs d_PV_out_12 d_PV_out_15 d_PV_out_16 d_PV_out_18 d_PV_out_21 (hthr 0 _ rfl hP)
  · have hf := pv_f hf h
    refine lv_iload_n hx hb d_PV_out_4 rfl (lv_at hl 1 rfl) ?_
    refine lv_aload_n hx hb d_PV_out_5 rfl (lv_at hl 0 rfl) ?_
    refine pv_get C hP (v := .int (σ.1 0 11)) (j := 11) (by decide) (fx_0 _ _ _ _) fl_PV_169 rfl d_PV_out_6 ?_
    refine lv_icmp_lt (tgt := 22) hx hb d_PV_out_9 (by decide) (fun h => ?_) (fun h => ?_)
    · have hf := pv_t hf h
      refine lv_aload_n hx hb d_PV_out_22 rfl (lv_at hl 0 rfl) ?_
      refine pv_get C hP (v := .ref (a 27)) (j := 10) (by decide) (fx_0 _ _ _ _) fl_PV_44 rfl d_PV_out_23 ?_
      refine lv_iload_n hx hb d_PV_out_26 rfl (lv_at hl 1 rfl) ?_
      obtain ⟨hg, hf⟩ := pv_g hf
      refine pv_iald C hP (t0 := 0) (by decide) (fx_27 _ _ _ _) rfl hg d_PV_out_27 ?_
      obtain rfl := Option.some.inj hf
      exact hret _ rfl _ _ _ ⟨_, _, d_PV_out_28, rfl⟩ hP hS
    · have hf := pv_f hf h
      obtain rfl := Option.some.inj hf
      exact pv_throw C hfl hlk hno (xa_IOOBE C.2.2.2.2.1 hT) (C.2.2.2.2.1 _ w_758) (C.2.2.2.2.1 _ w_759) (C.2.2.2.2.1 _ w_128) (hT.2.2.2 (189, "there is no such sample") (by decide)) (by decide) (by decide) hl.1 (Nat.le_trans (by decide) hRf) (Nat.le_trans (by decide) hRl) hRc hRs d_PV_out_12 d_PV_out_15 d_PV_out_16 d_PV_out_18 d_PV_out_21 (hthr 0 _ rfl hP)
def f_PV_out (σ : pv_S) (x1 : Int32) : Option pv_X := f_PV_out_0 σ x1
def rm_PV_out : Room := { frames := 6, cells := 1, slots := 6, locals := 82 }
theorem c_PV_out {l : Launch} (hfl : l.flags = Jvm.pinnedFlags ++ [Jvm.noTraceFlag]) {D : va_G} {q : Nat → ClassId} {a t : Nat → Nat} {A : Nat → Prop} (hD : pv_D 52 a A) {σ : pv_S} {x1 : Int32} {out : pv_X} (hf : f_PV_out σ x1 = some out) : pv_Mx l y_PV_out (Cond.code y_PV_out prog_1_method_22_code 2 (some .int) :: pv_TB) rm_PV_out D pv_cl (pv_ty q) 52 a (pv_FX q a) A (pv_ZY t A) (fun r => some (.int r)) [.ref (a 0), .int x1] σ out :=
  pv_ofX (fin := pv_fI) (by decide) (Nat.le_of_ble_eq_true rfl) hD (pv_finI l) (fun p e s m args below meth c Q ls C hlk hno hret hthr hl hP => s_PV_out_0 C.x pv_mvX (Nat.le_refl _) (Nat.le_refl _) hret hfl hlk hno C.2.2.2.2.2.2.2.2 (Nat.le_refl _) (Nat.le_refl _) hthr hl hP hf)
theorem d_PV_tap_0 : decode prog_1_method_23_code 0 = .ok (.aload_n 0, 1) := by decide +kernel
theorem d_PV_tap_1 : decode prog_1_method_23_code 1 = .ok (.iload_n 1, 1) := by decide +kernel
theorem d_PV_tap_2 : decode prog_1_method_23_code 2 = .ok (.invokevirtual 142, 3) := by decide +kernel
theorem d_PV_tap_5 : decode prog_1_method_23_code 5 = .ok (.ifCond .eq 13, 3) := by decide +kernel
theorem d_PV_tap_8 : decode prog_1_method_23_code 8 = .ok (.new 90, 3) := by decide +kernel
theorem d_PV_tap_11 : decode prog_1_method_23_code 11 = .ok (.dup, 1) := by decide +kernel
theorem d_PV_tap_12 : decode prog_1_method_23_code 12 = .ok (.ldc 146, 2) := by decide +kernel
theorem d_PV_tap_14 : decode prog_1_method_23_code 14 = .ok (.invokespecial 94, 3) := by decide +kernel
theorem d_PV_tap_17 : decode prog_1_method_23_code 17 = .ok (.athrow, 1) := by decide +kernel
theorem d_PV_tap_18 : decode prog_1_method_23_code 18 = .ok (.iload_n 2, 1) := by decide +kernel
theorem d_PV_tap_19 : decode prog_1_method_23_code 19 = .ok (.ifCond .lt 17, 3) := by decide +kernel
theorem d_PV_tap_22 : decode prog_1_method_23_code 22 = .ok (.iload_n 2, 1) := by decide +kernel
theorem d_PV_tap_23 : decode prog_1_method_23_code 23 = .ok (.aload_n 0, 1) := by decide +kernel
theorem d_PV_tap_24 : decode prog_1_method_23_code 24 = .ok (.getfield 23, 3) := by decide +kernel
theorem d_PV_tap_27 : decode prog_1_method_23_code 27 = .ok (.getfield 191, 3) := by decide +kernel
theorem d_PV_tap_30 : decode prog_1_method_23_code 30 = .ok (.getfield 195, 3) := by decide +kernel
theorem d_PV_tap_33 : decode prog_1_method_23_code 33 = .ok (.if_icmp .lt 13, 3) := by decide +kernel
theorem d_PV_tap_36 : decode prog_1_method_23_code 36 = .ok (.new 90, 3) := by decide +kernel
theorem d_PV_tap_39 : decode prog_1_method_23_code 39 = .ok (.dup, 1) := by decide +kernel
theorem d_PV_tap_40 : decode prog_1_method_23_code 40 = .ok (.ldc 200, 2) := by decide +kernel
theorem d_PV_tap_42 : decode prog_1_method_23_code 42 = .ok (.invokespecial 94, 3) := by decide +kernel
theorem d_PV_tap_45 : decode prog_1_method_23_code 45 = .ok (.athrow, 1) := by decide +kernel
theorem d_PV_tap_46 : decode prog_1_method_23_code 46 = .ok (.aload_n 0, 1) := by decide +kernel
theorem d_PV_tap_47 : decode prog_1_method_23_code 47 = .ok (.getfield 23, 3) := by decide +kernel
theorem d_PV_tap_50 : decode prog_1_method_23_code 50 = .ok (.getfield 191, 3) := by decide +kernel
theorem d_PV_tap_53 : decode prog_1_method_23_code 53 = .ok (.getfield 202, 3) := by decide +kernel
theorem d_PV_tap_56 : decode prog_1_method_23_code 56 = .ok (.iload_n 2, 1) := by decide +kernel
theorem d_PV_tap_57 : decode prog_1_method_23_code 57 = .ok (.baload, 1) := by decide +kernel
theorem d_PV_tap_58 : decode prog_1_method_23_code 58 = .ok (.ifCond .eq 15, 3) := by decide +kernel
theorem d_PV_tap_61 : decode prog_1_method_23_code 61 = .ok (.aload_n 0, 1) := by decide +kernel
theorem d_PV_tap_62 : decode prog_1_method_23_code 62 = .ok (.getfield 33, 3) := by decide +kernel
theorem d_PV_tap_65 : decode prog_1_method_23_code 65 = .ok (.iload_n 1, 1) := by decide +kernel
theorem d_PV_tap_66 : decode prog_1_method_23_code 66 = .ok (.aaload, 1) := by decide +kernel
theorem d_PV_tap_67 : decode prog_1_method_23_code 67 = .ok (.getfield 206, 3) := by decide +kernel
theorem d_PV_tap_70 : decode prog_1_method_23_code 70 = .ok (.ifCond .ne 13, 3) := by decide +kernel
theorem d_PV_tap_73 : decode prog_1_method_23_code 73 = .ok (.new 209, 3) := by decide +kernel
theorem d_PV_tap_76 : decode prog_1_method_23_code 76 = .ok (.dup, 1) := by decide +kernel
theorem d_PV_tap_77 : decode prog_1_method_23_code 77 = .ok (.ldc 211, 2) := by decide +kernel
theorem d_PV_tap_79 : decode prog_1_method_23_code 79 = .ok (.invokespecial 213, 3) := by decide +kernel
theorem d_PV_tap_82 : decode prog_1_method_23_code 82 = .ok (.athrow, 1) := by decide +kernel
theorem d_PV_tap_83 : decode prog_1_method_23_code 83 = .ok (.aload_n 0, 1) := by decide +kernel
theorem d_PV_tap_84 : decode prog_1_method_23_code 84 = .ok (.getfield 33, 3) := by decide +kernel
theorem d_PV_tap_87 : decode prog_1_method_23_code 87 = .ok (.iload_n 1, 1) := by decide +kernel
theorem d_PV_tap_88 : decode prog_1_method_23_code 88 = .ok (.aaload, 1) := by decide +kernel
theorem d_PV_tap_89 : decode prog_1_method_23_code 89 = .ok (.getfield 214, 3) := by decide +kernel
theorem d_PV_tap_92 : decode prog_1_method_23_code 92 = .ok (.iload_n 2, 1) := by decide +kernel
theorem d_PV_tap_93 : decode prog_1_method_23_code 93 = .ok (.iaload, 1) := by decide +kernel
theorem d_PV_tap_94 : decode prog_1_method_23_code 94 = .ok (.ireturn, 1) := by decide +kernel
def f_PV_tap_0 (σ : pv_S) (x1 : Int32) (x2 : Int32) : Option pv_X :=
  ((f_PV_isNoVoice σ x1).bind fun q1 =>
(if q1.1 = 0 then
  (if x2 < 0 then
  some (.inr (0, σ))
  else
  (if x2 < (σ.1 12 0) then
  (if pv_in x2 24 = true then
(if (σ.1 17 (x2).toNatClampNeg) = 0 then
  some (.inr (3, σ))
  else
  (if pv_in x1 4 = true then
(if (σ.1 (28 + 6 * (x1).toNatClampNeg) 3) = 0 then
  some (.inr (3, σ))
  else
  (if pv_in x1 4 = true then
(if pv_in x2 24 = true then
some (.inl ((σ.1 (28 + 6 * (x1).toNatClampNeg + 1) (x2).toNatClampNeg), σ))
  else none)
  else none))
  else none))
  else none)
  else
  some (.inr (0, σ))))
  else
  some (.inr (0, σ))))
set_option maxHeartbeats 4000000 in
set_option maxRecDepth 100000 in
theorem s_PV_tap_0 {p : Program} {l : Launch} {e : Env} {R : Room} {s : State} {m : MethodId} {args : Array Value} {below : List Frame} {meth : Method} {c : Code} {Q : State → Prop} {D : va_G} {q : Nat → ClassId} {a t : Nat → Nat} {A : Nat → Prop} (C : pv_C p s m args c prog_1_method_23_code 3 "PatchVoices" pv_TB D pv_cl (pv_ty q) 52 a A (pv_ZX t A)) (hmv : pv_mv A (pv_ZX t A)) (hRf : 6 ≤ R.frames) (hRl : 82 ≤ R.locals) {out : pv_X} (hret : pv_Re p l e R s m args below meth c D pv_cl 52 a (pv_FX q a) A Q out (pv_fI m prog_1_method_23_code)) (hfl : l.flags = Jvm.pinnedFlags ++ [Jvm.noTraceFlag]) (hlk : meth.locks = false) (hno : c.exceptionTable.isEmpty = true) (hT : pv_ZT t A s) (hRc : 1 ≤ R.cells) (hRs : 6 ≤ R.slots) (hthr : pv_Rt below s D pv_cl 52 a (pv_FX q a) Q out) {σ : pv_S} {x1 : Int32} {x2 : Int32} {ls : Array Slot} (hl : lv_has ls 3 [(0, .ref (a 0)), (1, .int x1), (2, .int x2)]) (hP : pv_W D pv_cl 52 a (pv_FX q a) σ s.heap) (hf : f_PV_tap_0 σ x1 x2 = some out) : W p l e R s m args below meth c s.heap [] 0 0 Q (F0 m 0 ls []) := by
  unfold f_PV_tap_0 at hf
  have hx := C.1
  have hb := C.2.1
  have hS : va_S A s.heap s.heap [] := va_S.rf
  refine lv_aload_n hx hb d_PV_tap_0 rfl (lv_at hl 0 rfl) ?_
  refine lv_iload_n hx hb d_PV_tap_1 rfl (lv_at hl 1 rfl) ?_
  obtain ⟨q1, hc, hf⟩ := pv_b hf
  refine pv_callVr C hmv pv_good hP hS (As := [.int x1]) (rest := []) (by decide) (fx_0 _ _ _ _) rfl (r_PV_isNoVoice C.2.2.2.2.2.2.1 hmv hc) cv_PV_142 ⟨rfl, rfl, Nat.le_trans (Nat.le_of_ble_eq_true rfl) hRf, Nat.le_trans (Nat.le_of_ble_eq_true rfl) hRl⟩ rfl hl.1 rfl (Nat.le_of_ble_eq_true rfl) d_PV_tap_2 ⟨Nat.zero_le _, Nat.zero_le _⟩ ?_
  refine lv_if_eq (tgt := 18) hx hb d_PV_tap_5 (by decide) (fun h => ?_) (fun h => ?_)
  · have hf := pv_t hf h
    refine lv_iload_n hx hb d_PV_tap_18 rfl (lv_at hl 2 rfl) ?_
    refine lv_if_lt (tgt := 36) hx hb d_PV_tap_19 (by decide) (fun h => ?_) (fun h => ?_)
    · have hf := pv_t hf h
      obtain rfl := Option.some.inj hf
      exact pv_throw C hfl hlk hno (xa_IOOBE C.2.2.2.2.1 hT) (C.2.2.2.2.1 _ w_758) (C.2.2.2.2.1 _ w_759) (C.2.2.2.2.1 _ w_128) (hT.2.2.2 (200, "there is no such module") (by decide)) (by decide) (by decide) hl.1 (Nat.le_trans (by decide) hRf) (Nat.le_trans (by decide) hRl) hRc hRs d_PV_tap_36 d_PV_tap_39 d_PV_tap_40 d_PV_tap_42 d_PV_tap_45 (hthr 0 _ rfl hP)
    · have hf := pv_f hf h
      refine lv_iload_n hx hb d_PV_tap_22 rfl (lv_at hl 2 rfl) ?_
      refine lv_aload_n hx hb d_PV_tap_23 rfl (lv_at hl 0 rfl) ?_
      refine pv_get C hP (v := .ref (a 11)) (j := 3) (by decide) (fx_0 _ _ _ _) fl_PV_23 rfl d_PV_tap_24 ?_
      refine pv_get C hP (v := .ref (a 12)) (j := 0) (by decide) (fx_11 _ _ _ _) fl_PV_191 rfl d_PV_tap_27 ?_
      refine pv_get C hP (v := .int (σ.1 12 0)) (j := 0) (by decide) (fx_12 _ _ _ _) fl_PV_195 rfl d_PV_tap_30 ?_
      refine lv_icmp_lt (tgt := 46) hx hb d_PV_tap_33 (by decide) (fun h => ?_) (fun h => ?_)
      · have hf := pv_t hf h
        refine lv_aload_n hx hb d_PV_tap_46 rfl (lv_at hl 0 rfl) ?_
        refine pv_get C hP (v := .ref (a 11)) (j := 3) (by decide) (fx_0 _ _ _ _) fl_PV_23 rfl d_PV_tap_47 ?_
        refine pv_get C hP (v := .ref (a 12)) (j := 0) (by decide) (fx_11 _ _ _ _) fl_PV_191 rfl d_PV_tap_50 ?_
        refine pv_get C hP (v := .ref (a 17)) (j := 5) (by decide) (fx_12 _ _ _ _) fl_PV_202 rfl d_PV_tap_53 ?_
        refine lv_iload_n hx hb d_PV_tap_56 rfl (lv_at hl 2 rfl) ?_
        obtain ⟨hg, hf⟩ := pv_g hf
        refine pv_zald C hP (t0 := 2) (by decide) (fx_17 _ _ _ _) rfl hg d_PV_tap_57 ?_
        refine lv_if_eq (tgt := 73) hx hb d_PV_tap_58 (by decide) (fun h => ?_) (fun h => ?_)
        · have hf := pv_t hf h
          obtain rfl := Option.some.inj hf
          exact pv_throwNSE C hfl hlk hno hT (hT.2.2.2 (211, "the module has no value there") (by decide)) hl.1 (Nat.le_trans (by decide) hRf) (Nat.le_trans (by decide) hRl) hRc hRs d_PV_tap_73 d_PV_tap_76 d_PV_tap_77 d_PV_tap_79 d_PV_tap_82 (hthr 3 _ rfl hP)
        · have hf := pv_f hf h
          refine lv_aload_n hx hb d_PV_tap_61 rfl (lv_at hl 0 rfl) ?_
          refine pv_get C hP (v := .ref (a 25)) (j := 6) (by decide) (fx_0 _ _ _ _) fl_PV_33 rfl d_PV_tap_62 ?_
          refine lv_iload_n hx hb d_PV_tap_65 rfl (lv_at hl 1 rfl) ?_
          obtain ⟨hg, hf⟩ := pv_g hf
          have hi1 := hg
          have hi1l := pv_in_lt hi1
          refine pv_aald C hP (t0 := 4) (b := a (28 + 6 * (x1).toNatClampNeg)) (by decide) (fx_25 _ _ _ _) rfl hg (if_pos hi1l) d_PV_tap_66 ?_
          refine pv_get C hP (v := .int (σ.1 (28 + 6 * (x1).toNatClampNeg) 3)) (j := 3) (by omega) (fx_v0 hi1l _ _ _ _) fl_PV_206 rfl d_PV_tap_67 ?_
          refine lv_if_ne (tgt := 83) hx hb d_PV_tap_70 (by decide) (fun h => ?_) (fun h => ?_)
          · have hf := pv_f hf h
            refine lv_aload_n hx hb d_PV_tap_83 rfl (lv_at hl 0 rfl) ?_
            refine pv_get C hP (v := .ref (a 25)) (j := 6) (by decide) (fx_0 _ _ _ _) fl_PV_33 rfl d_PV_tap_84 ?_
            refine lv_iload_n hx hb d_PV_tap_87 rfl (lv_at hl 1 rfl) ?_
            obtain ⟨hg, hf⟩ := pv_g hf
            have hi2 := hg
            have hi2l := pv_in_lt hi2
            refine pv_aald C hP (t0 := 4) (b := a (28 + 6 * (x1).toNatClampNeg)) (by decide) (fx_25 _ _ _ _) rfl hg (if_pos hi2l) d_PV_tap_88 ?_
            refine pv_get C hP (v := .ref (a (28 + 6 * (x1).toNatClampNeg + 1))) (j := 6) (by omega) (fx_v0 hi2l _ _ _ _) fl_PV_214 rfl d_PV_tap_89 ?_
            refine lv_iload_n hx hb d_PV_tap_92 rfl (lv_at hl 2 rfl) ?_
            obtain ⟨hg, hf⟩ := pv_g hf
            refine pv_iald C hP (t0 := 0) (by omega) (fx_v1 hi2l _ _ _ _) rfl hg d_PV_tap_93 ?_
            obtain rfl := Option.some.inj hf
            exact hret _ rfl _ _ _ ⟨_, _, d_PV_tap_94, rfl⟩ hP hS
          · have hf := pv_t hf h
            obtain rfl := Option.some.inj hf
            exact pv_throwNSE C hfl hlk hno hT (hT.2.2.2 (211, "the module has no value there") (by decide)) hl.1 (Nat.le_trans (by decide) hRf) (Nat.le_trans (by decide) hRl) hRc hRs d_PV_tap_73 d_PV_tap_76 d_PV_tap_77 d_PV_tap_79 d_PV_tap_82 (hthr 3 _ rfl hP)
      · have hf := pv_f hf h
        obtain rfl := Option.some.inj hf
        exact pv_throw C hfl hlk hno (xa_IOOBE C.2.2.2.2.1 hT) (C.2.2.2.2.1 _ w_758) (C.2.2.2.2.1 _ w_759) (C.2.2.2.2.1 _ w_128) (hT.2.2.2 (200, "there is no such module") (by decide)) (by decide) (by decide) hl.1 (Nat.le_trans (by decide) hRf) (Nat.le_trans (by decide) hRl) hRc hRs d_PV_tap_36 d_PV_tap_39 d_PV_tap_40 d_PV_tap_42 d_PV_tap_45 (hthr 0 _ rfl hP)
  · have hf := pv_f hf h
    obtain rfl := Option.some.inj hf
    exact pv_throw C hfl hlk hno (xa_IOOBE C.2.2.2.2.1 hT) (C.2.2.2.2.1 _ w_758) (C.2.2.2.2.1 _ w_759) (C.2.2.2.2.1 _ w_128) (hT.2.2.2 (146, "there is no such voice") (by decide)) (by decide) (by decide) hl.1 (Nat.le_trans (by decide) hRf) (Nat.le_trans (by decide) hRl) hRc hRs d_PV_tap_8 d_PV_tap_11 d_PV_tap_12 d_PV_tap_14 d_PV_tap_17 (hthr 0 _ rfl hP)
def f_PV_tap (σ : pv_S) (x1 : Int32) (x2 : Int32) : Option pv_X := f_PV_tap_0 σ x1 x2
def rm_PV_tap : Room := { frames := 6, cells := 1, slots := 6, locals := 82 }
theorem c_PV_tap {l : Launch} (hfl : l.flags = Jvm.pinnedFlags ++ [Jvm.noTraceFlag]) {D : va_G} {q : Nat → ClassId} {a t : Nat → Nat} {A : Nat → Prop} (hD : pv_D 52 a A) {σ : pv_S} {x1 : Int32} {x2 : Int32} {out : pv_X} (hf : f_PV_tap σ x1 x2 = some out) : pv_Mx l y_PV_tap (Cond.code y_PV_tap prog_1_method_23_code 3 (some .int) :: pv_TB) rm_PV_tap D pv_cl (pv_ty q) 52 a (pv_FX q a) A (pv_ZY t A) (fun r => some (.int r)) [.ref (a 0), .int x1, .int x2] σ out :=
  pv_ofX (fin := pv_fI) (by decide) (Nat.le_of_ble_eq_true rfl) hD (pv_finI l) (fun p e s m args below meth c Q ls C hlk hno hret hthr hl hP => s_PV_tap_0 C.x pv_mvX (Nat.le_refl _) (Nat.le_refl _) hret hfl hlk hno C.2.2.2.2.2.2.2.2 (Nat.le_refl _) (Nat.le_refl _) hthr hl hP hf)
