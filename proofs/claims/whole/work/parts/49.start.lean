theorem w_132 : Cond.classLink "PatchVoicesLaw" 8 "PatchVoices" ∈ pv_TB := pv_mem (i := 132) (by decide +kernel) (by decide +kernel)
theorem w_133 : Cond.instantiable "PatchVoices" 12 ∈ pv_TB := pv_mem (i := 133) (by decide +kernel) (by decide +kernel)
theorem w_135 : Cond.instanceMethod ⟨"PatchVoices", "<init>", "()V"⟩ ∈ pv_TB := pv_mem (i := 135) (by decide +kernel) (by decide +kernel)
theorem w_134 : Cond.methodLink "PatchVoicesLaw" 49 ⟨"PatchVoices", "<init>", "()V"⟩ ∈ pv_TB := pv_mem (i := 134) (by decide +kernel) (by decide +kernel)
theorem w_136 : Cond.code ⟨"PatchVoices", "<init>", "()V"⟩ prog_1_method_1_code 2 (Option.none : Option Jvm.ClassFile.FieldType) ∈ pv_TB := pv_mem (i := 136) (by decide +kernel) (by decide +kernel)
theorem w_1060 : Cond.classLink "PatchVoicesLaw" 50 "PatchVoicesModel" ∈ pv_TB := pv_mem (i := 1060) (by decide +kernel) (by decide +kernel)
theorem w_1061 : Cond.instantiable "PatchVoicesModel" 51 ∈ pv_TB := pv_mem (i := 1061) (by decide +kernel) (by decide +kernel)
theorem w_1063 : Cond.instanceMethod ⟨"PatchVoicesModel", "<init>", "()V"⟩ ∈ pv_TB := pv_mem (i := 1063) (by decide +kernel) (by decide +kernel)
theorem w_1062 : Cond.methodLink "PatchVoicesLaw" 52 ⟨"PatchVoicesModel", "<init>", "()V"⟩ ∈ pv_TB := pv_mem (i := 1062) (by decide +kernel) (by decide +kernel)
theorem w_1064 : Cond.code ⟨"PatchVoicesModel", "<init>", "()V"⟩ prog_9_method_1_code 1 (Option.none : Option Jvm.ClassFile.FieldType) ∈ pv_TB := pv_mem (i := 1064) (by decide +kernel) (by decide +kernel)
theorem d_LS_0 : decode code 0 = .ok (.new 8, 3) := by decide +kernel
theorem d_LS_3 : decode code 3 = .ok (.dup, 1) := by decide +kernel
theorem d_LS_4 : decode code 4 = .ok (.invokespecial 49, 3) := by decide +kernel
theorem d_LS_7 : decode code 7 = .ok (.astore_n 1, 1) := by decide +kernel
theorem d_LS_8 : decode code 8 = .ok (.new 50, 3) := by decide +kernel
theorem d_LS_11 : decode code 11 = .ok (.dup, 1) := by decide +kernel
theorem d_LS_12 : decode code 12 = .ok (.invokespecial 52, 3) := by decide +kernel
theorem d_LS_15 : decode code 15 = .ok (.astore_n 2, 1) := by decide +kernel
theorem d_LS_16 : decode code 16 = .ok (.iconst 1, 1) := by decide +kernel
theorem d_LS_17 : decode code 17 = .ok (.newarray .long, 2) := by decide +kernel
theorem d_LS_19 : decode code 19 = .ok (.astore_n 3, 1) := by decide +kernel
theorem d_LS_20 : decode code 20 = .ok (.iconst 0, 1) := by decide +kernel
theorem d_LS_21 : decode code 21 = .ok (.istore 4, 2) := by decide +kernel
/-! The law's entry: both objects and the cell for answers are made; then the loop. -/
abbrev pv_bx (h : Nat) : va_W := [(h, .inr (0, [.null, .int 0, .null, .null, .int 0, .int 0, .null, .int 0, .long 0, .null, .null, .int 0]))]
abbrev pv_bm (h : Nat) : va_W := [(h, .inr (6, [.int 0, .null, .int 0, .null, .null, .int 0, .null, .null, .null, .null, .null, .int 0, .int 0, .int 0, .int 0, .int 0, .int 0, .int 0, .int 0, .null, .null, .null, .null, .null, .null, .null, .null, .null, .int 0, .null, .null, .null, .int 0, .null, .null, .null, .null, .null, .null, .null, .null, .null, .null, .null, .null, .null, .null, .int 0, .int 0, .null, .int 0]))]
theorem pv_A1 {ws : va_W} {h sz : Nat} {e : va_E} (hw : ws = [(h, e)]) {q : Nat} (hq : va_A ws sz q) : q = h ∨ sz ≤ q := by
  subst hw
  rcases hq with ⟨k, e', hk⟩ | hq
  · have h2 := List.mem_of_getElem? hk
    rw [List.mem_singleton] at h2
    cases h2
    exact Or.inl rfl
  · exact Or.inr hq
theorem pv_atx {D : va_G} {q : Nat → ClassId} {A : Nat → Prop} {h0 : Nat} {t : State} (h : at_PV_init D q A h0 t) : ∃ a : Nat → Nat, a 0 = h0 ∧ pv_W D pv_cl 52 a (pv_FX q a) pv_x0 t.heap ∧ pv_D 52 a A := by
  obtain ⟨b1, b2, b3, b4, b5, b6, b7, b8, b9, b10, b11, b12, b13, b14, b15, b16, b17, b18, b19, b20, b21, b22, b23, b24, b25, b26, b27, b28, b29, b30, b31, b32, b33, b34, b35, b36, b37, b38, b39, b40, b41, b42, b43, b44, b45, b46, b47, b48, b49, b50, b51, h1, h2⟩ := h
  exact ⟨_, rfl, ix_PV h1 h2⟩
set_option maxHeartbeats 4000000 in
set_option maxRecDepth 100000 in
theorem k_start {p : Program} {l : Launch} {e : Env} {s : State} {m : MethodId} {below : List Frame} {meth : Method} {c : Code} {D : va_G} {q : Nat → ClassId} {t : Nat → Nat} {sb L : Nat} {xs : Nat → Int32} (hfl : l.flags = Jvm.pinnedFlags ++ [Jvm.noTraceFlag]) (hr : meth.sig.returnType = ret) (hlk : meth.locks = false) (S : CallFix p m c code 7 s #[Value.ref sb] pv_TB "PatchVoicesLaw") (hK : va_K D pv_cl (pv_ty q) s) (hZ : pv_ZH t (pv_A0 s) s) (hNB : pv_NB s) (hX : va_X sb L xs s s.heap) (hsb : sb < s.heap.size) (hL : L ≤ 2048) {Rel : Nat → pv_S → pv_S → Prop} (hR0 : Rel 0 pv_x0 pv_m0) (hsim : ∀ (j : Nat) (σx σm : pv_S), 4 * j + 4 ≤ L → Rel j σx σm → pv_Sim (Rel (j + 1)) σx σm) {ls : Array Slot} (hl : lv_has ls 7 [(0, .ref sb)]) : W p l e room_1 s m #[Value.ref sb] below meth c s.heap [] 0 0 (lw_Z below #[Value.ref sb] s) (F0 m 0 ls []) := by
  obtain ⟨hx, hb, hml, hown, hts⟩ := id S
  have hA : ∀ z, s.heap.size ≤ z → pv_A0 s z := fun z hz => hz
  have hS : va_S (pv_A0 s) s.heap s.heap [] := va_S.rf
  have hP0 : va_P D pv_cl [] s.heap := fun k z hk => by simp at hk
  have hD0 : va_D (pv_A0 s) ([] : va_W) := ⟨fun i j z w hi => by simp at hi, fun k z hk => by simp at hk⟩
  refine va_new (ci := 0) (fs := [.null, .int 0, .null, .null, .int 0, .int 0, .null, .int 0, .long 0, .null, .null, .int 0]) (C := R_PV) (T := F_PV) (N := 12) hx hb hts in_PV t_PV o_PV hown (hts _ w_132) (hts _ w_133) (hts _ w_109) hK hP0 hD0 hS hA rfl (fun j hj => by rcases (show j = 0 ∨ j = 1 ∨ j = 2 ∨ j = 3 ∨ j = 4 ∨ j = 5 ∨ j = 6 ∨ j = 7 ∨ j = 8 ∨ j = 9 ∨ j = 10 ∨ j = 11 by omega) with rfl | rfl | rfl | rfl | rfl | rfl | rfl | rfl | rfl | rfl | rfl | rfl <;> rfl) (Nat.le_of_ble_eq_true rfl) (Nat.le_of_ble_eq_true rfl) d_LS_0 (fun h H hP hD hS => ?_)
  have hP : va_P D pv_cl (pv_bx h) H := hP
  have hD : va_D (pv_A0 s) (pv_bx h) := hD
  refine lv_dup hx hb d_LS_3 rfl ?_
  have hFc : ∀ z, va_A (pv_bx h) H.size z → pv_A0 s z := fun z hz => by
    rcases pv_A1 rfl hz with h1 | h1
    · rw [h1]; exact hD.2 0 _ rfl
    · exact Nat.le_trans hS.1 h1
  refine va_callv (va_runI (As := []) (rest := [.ref h]) S (c_PV_init l D q h H.size) ⟨callB_of 0 hts (pv_goodC w_136) rfl rfl rfl (hts _ w_109) (hts _ w_134) ⟨by decide +kernel, by decide +kernel, by decide +kernel⟩ ⟨Nat.le_of_ble_eq_true rfl, Nat.le_of_ble_eq_true rfl⟩, rfl, hts _ w_135⟩ ⟨pv_blindC, fun U hU hW => ⟨rfl, by rw [hU], by rw [hU]; exact hP, va_K.moved hW.alike hK, hNB.move hW, hD.weaken (fun _ _ _ _ => trivial)⟩⟩ rfl rfl hl.1 rfl (lv_room (Nat.le_of_ble_eq_true rfl)) d_LS_4 ⟨Nat.le_of_ble_eq_true rfl, Nat.le_of_ble_eq_true rfl⟩) hS (fun z _ hz => hFc z hz) hFc (fun u t1 H1 locs ht hvm _ hB hz1 hk1 hS => ?_)
  obtain ⟨a, ha0, hWx, hDx⟩ := pv_atx hB
  rw [ht] at hWx
  have hxA : ∀ k, k < 52 → pv_A0 s (a k) := fun k hk => hFc _ (hDx.2 k hk)
  have hDx0 : pv_D 52 a (pv_A0 s) := ⟨hDx.1, hxA⟩
  subst ha0
  clear hk1 hz1 hB hP hD hFc hP0 hD0
  refine lv_astore_n hx hb d_LS_7 rfl hl (by decide) rfl (fun ls hl => ?_)
  refine va_new (ci := 6) (fs := [.int 0, .null, .int 0, .null, .null, .int 0, .null, .null, .null, .null, .null, .int 0, .int 0, .int 0, .int 0, .int 0, .int 0, .int 0, .int 0, .null, .null, .null, .null, .null, .null, .null, .null, .null, .int 0, .null, .null, .null, .int 0, .null, .null, .null, .null, .null, .null, .null, .null, .null, .null, .null, .null, .null, .null, .int 0, .int 0, .null, .int 0]) (C := R_Md) (T := F_Md) (N := 51) hx hb hts in_Md t_Md o_Md hown (hts _ w_1060) (hts _ w_1061) (hts _ w_115) hK hWx hDx0.va hS hA rfl (fun j hj => by rcases (show j = 0 ∨ j = 1 ∨ j = 2 ∨ j = 3 ∨ j = 4 ∨ j = 5 ∨ j = 6 ∨ j = 7 ∨ j = 8 ∨ j = 9 ∨ j = 10 ∨ j = 11 ∨ j = 12 ∨ j = 13 ∨ j = 14 ∨ j = 15 ∨ j = 16 ∨ j = 17 ∨ j = 18 ∨ j = 19 ∨ j = 20 ∨ j = 21 ∨ j = 22 ∨ j = 23 ∨ j = 24 ∨ j = 25 ∨ j = 26 ∨ j = 27 ∨ j = 28 ∨ j = 29 ∨ j = 30 ∨ j = 31 ∨ j = 32 ∨ j = 33 ∨ j = 34 ∨ j = 35 ∨ j = 36 ∨ j = 37 ∨ j = 38 ∨ j = 39 ∨ j = 40 ∨ j = 41 ∨ j = 42 ∨ j = 43 ∨ j = 44 ∨ j = 45 ∨ j = 46 ∨ j = 47 ∨ j = 48 ∨ j = 49 ∨ j = 50 by omega) with rfl | rfl | rfl | rfl | rfl | rfl | rfl | rfl | rfl | rfl | rfl | rfl | rfl | rfl | rfl | rfl | rfl | rfl | rfl | rfl | rfl | rfl | rfl | rfl | rfl | rfl | rfl | rfl | rfl | rfl | rfl | rfl | rfl | rfl | rfl | rfl | rfl | rfl | rfl | rfl | rfl | rfl | rfl | rfl | rfl | rfl | rfl | rfl | rfl | rfl | rfl <;> rfl) (Nat.le_of_ble_eq_true rfl) (Nat.le_of_ble_eq_true rfl) d_LS_8 (fun h H hP hD hS => ?_)
  have hat : (pv_ws 52 a (pv_FX q a) pv_x0 ++ pv_bm h)[52]? = some (h, .inr (6, [.int 0, .null, .int 0, .null, .null, .int 0, .null, .null, .null, .null, .null, .int 0, .int 0, .int 0, .int 0, .int 0, .int 0, .int 0, .int 0, .null, .null, .null, .null, .null, .null, .null, .null, .null, .int 0, .null, .null, .null, .int 0, .null, .null, .null, .null, .null, .null, .null, .null, .null, .null, .null, .null, .null, .null, .int 0, .int 0, .null, .int 0])) := by
    rw [List.getElem?_append_right (by rw [pv_ws_len]; exact Nat.le_refl _), pv_ws_len]
    rfl
  have hPm : va_P D pv_cl (pv_bm h) H := fun k z hk => hP (52 + k) z (by rw [List.getElem?_append_right (by rw [pv_ws_len]; omega), pv_ws_len, Nat.add_sub_cancel_left]; exact hk)
  have hWx : pv_W D pv_cl 52 a (pv_FX q a) pv_x0 H := fun k z hk => hP k z (by rw [List.getElem?_append_left (by exact (List.getElem?_eq_some_iff.mp hk).1)]; exact hk)
  have hne : ∀ k, k < 52 → a k ≠ h := fun k hk he => by
    have h9 := hD.1 k 52 _ _ (by rw [List.getElem?_append_left (by rw [pv_ws_len]; exact hk)]; exact pv_at hk) hat he
    omega
  have hDm : va_D (fun _ => True) (pv_bm h) := ⟨fun i j z w hi hj _ => by
    have l1 := (List.getElem?_eq_some_iff.mp hi).1
    have l2 := (List.getElem?_eq_some_iff.mp hj).1
    simp only [List.length_cons, List.length_nil] at l1 l2
    omega, fun _ _ _ => trivial⟩
  have hh : pv_A0 s h := hD.2 52 _ hat
  have hlt : ∀ k, k < 52 → a k < H.size := fun k hk => (hWx k _ (pv_at hk)).lt
  refine lv_dup hx hb d_LS_11 rfl ?_
  have hFc : ∀ z, va_A (pv_bm h) H.size z → pv_A0 s z := fun z hz => by
    rcases pv_A1 rfl hz with h1 | h1
    · rw [h1]; exact hh
    · exact Nat.le_trans hS.1 h1
  refine va_callv (va_runI (As := []) (rest := [.ref h]) S (c_Md_init l D q h H.size) ⟨callB_of 0 hts (pv_goodC w_1064) rfl rfl rfl (hts _ w_115) (hts _ w_1062) ⟨by decide +kernel, by decide +kernel, by decide +kernel⟩ ⟨Nat.le_of_ble_eq_true rfl, Nat.le_of_ble_eq_true rfl⟩, rfl, hts _ w_1063⟩ ⟨pv_blindC, fun U hU hW => ⟨rfl, by rw [hU], by rw [hU]; exact hPm, va_K.moved hW.alike hK, hNB.move hW, hDm⟩⟩ rfl rfl hl.1 rfl (lv_room (Nat.le_of_ble_eq_true rfl)) d_LS_12 ⟨Nat.le_of_ble_eq_true rfl, Nat.le_of_ble_eq_true rfl⟩) hS (fun z _ hz => hFc z hz) hFc (fun u t2 H1 locs ht2 hvm2 _ hB hz1 hk1 hS => ?_)
  obtain ⟨a', ha0, hWm, hDm'⟩ := hB
  rw [ht2] at hWm
  have hxm : ∀ k, k < 52 → ¬ va_A (pv_bm h) H.size (a k) := fun k hk hz => by
    rcases pv_A1 rfl hz with h1 | h1
    · exact hne k hk h1
    · exact absurd (hlt k hk) (Nat.not_lt.mpr h1)
  have hWx : pv_W D pv_cl 52 a (pv_FX q a) pv_x0 H1 := pv_Wkept hWx hxm hk1
  have hap : ∀ i j, i < 52 → j < 36 → a i ≠ a' j := fun i j hi hj he => hxm i hi (by rw [he]; exact hDm'.2 j hj)
  have hmA : ∀ j, j < 36 → pv_A0 s (a' j) := fun j hj => hFc _ (hDm'.2 j hj)
  have hDm0 : pv_D 36 a' (pv_A0 s) := ⟨hDm'.1, hmA⟩
  subst ha0
  generalize H1 = H at hWx hWm hS ⊢
  refine lv_astore_n hx hb d_LS_15 rfl hl (by decide) rfl (fun ls hl => ?_)
  refine lv_iconst (v := (1 : Int32)) hx hb d_LS_16 (by decide) ?_
  refine pv_newa (atype := .long) (t0 := 3) (cQ := q 3) (N' := 1) (a0 := (1, .inr (.inl (fun _ => 0)))) hx hb (hts _ w_184) rfl hK rfl (fun _ h => by cases h) (va_P.app hWx hWm) (va_D.app hDx0.va hDm0.va (fun i j z w h1 h2 h3 => by
    obtain ⟨g1, rfl⟩ := pv_of h1
    obtain ⟨g2, rfl⟩ := pv_of h2
    exact hap i j g1 g2 h3)) hS hA (fun _ => rfl) (by decide) (by decide) (by decide) (Nat.le_of_ble_eq_true rfl) (Nat.le_of_ble_eq_true rfl) d_LS_17 (fun b H hP hD hS => ?_)
  have len : (pv_ws 52 a (pv_FX q a) pv_x0 ++ pv_ws 36 a' (pv_FM q a') pv_m0).length = 88 := by rw [List.length_append, pv_ws_len, pv_ws_len]
  have at1 : ∀ k z, (pv_ws 52 a (pv_FX q a) pv_x0)[k]? = some z → ((pv_ws 52 a (pv_FX q a) pv_x0 ++ pv_ws 36 a' (pv_FM q a') pv_m0) ++ [(b, .inl (q 3, 1, .inr (.inl (fun _ => 0))))])[k]? = some z := fun k z hk => by
    have hl := (List.getElem?_eq_some_iff.mp hk).1
    rw [List.getElem?_append_left (by rw [len]; rw [pv_ws_len] at hl; omega), List.getElem?_append_left hl]
    exact hk
  have at2 : ∀ k z, (pv_ws 36 a' (pv_FM q a') pv_m0)[k]? = some z → ((pv_ws 52 a (pv_FX q a) pv_x0 ++ pv_ws 36 a' (pv_FM q a') pv_m0) ++ [(b, .inl (q 3, 1, .inr (.inl (fun _ => 0))))])[52 + k]? = some z := fun k z hk => by
    have hl := (List.getElem?_eq_some_iff.mp hk).1
    rw [List.getElem?_append_left (by rw [len]; rw [pv_ws_len] at hl; omega), List.getElem?_append_right (by rw [pv_ws_len]; omega), pv_ws_len, Nat.add_sub_cancel_left]
    exact hk
  have at3 : ∀ k z, (pv_O b (q 3) (fun _ => 0))[k]? = some z → ((pv_ws 52 a (pv_FX q a) pv_x0 ++ pv_ws 36 a' (pv_FM q a') pv_m0) ++ [(b, .inl (q 3, 1, .inr (.inl (fun _ => 0))))])[88 + k]? = some z := fun k z hk => by
    rw [List.getElem?_append_right (by rw [len]; omega), len, Nat.add_sub_cancel_left]
    exact hk
  have hbx : ∀ k, k < 52 → a k ≠ b := fun k hk he => by
    have h9 := hD.1 k 88 _ _ (at1 k _ (pv_at hk)) (at3 0 _ rfl) he
    omega
  have hbm : ∀ k, k < 36 → a' k ≠ b := fun k hk he => by
    have h9 := hD.1 (52 + k) 88 _ _ (at2 k _ (pv_at hk)) (at3 0 _ rfl) he
    omega
  have C : pv_LC p s m #[Value.ref sb] c D q a a' b t := ⟨S, hK, hZ, hDx.1, hDm'.1, hap, hbx, hbm, hxA, hmA, hD.2 88 _ (at3 0 _ rfl)⟩
  have hV : pv_V D q a a' b pv_x0 pv_m0 (fun _ => 0) H := ⟨fun k z hk => hP k z (at1 k z hk), fun k z hk => hP (52 + k) z (at2 k z hk), fun k z hk => hP (88 + k) z (at3 k z hk)⟩
  refine lv_astore_n hx hb d_LS_19 rfl hl (by decide) rfl (fun ls hl => ?_)
  refine lv_iconst (v := (0 : Int32)) hx hb d_LS_20 (by decide) ?_
  refine lv_istore hx hb d_LS_21 hl (by decide) rfl (fun ls hl => ?_)
  exact k_loop hfl hr hlk C hX hsb hL hsim 513 0 _ _ H _ ls pv_x0 pv_m0 _ (by omega) (by omega) (Nat.le_of_ble_eq_true rfl) (Nat.le_of_ble_eq_true rfl) hV hS (lv_sub hl [4, 3, 2, 1, 0] rfl) hR0
