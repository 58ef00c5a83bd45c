/-! String.charAt of the text WORDS, by the library's own code. -/
abbrev y_Sp_check : MethodName := ⟨"jdk/internal/util/Preconditions", "checkIndex", "(IILjava/util/function/BiFunction;)I"⟩
abbrev y_Sp_index : MethodName := ⟨"java/lang/String", "checkIndex", "(II)V"⟩
abbrev y_Sp_latin : MethodName := ⟨"java/lang/StringLatin1", "charAt", "([BI)C"⟩
abbrev y_Sp_isL : MethodName := ⟨"java/lang/String", "isLatin1", "()Z"⟩
abbrev y_Sp_at : MethodName := ⟨"java/lang/String", "charAt", "(I)C"⟩
theorem sp_118 : Cond.initialized "java/lang/String" ∈ pv_TB := pv_mem (i := 118) (by decide +kernel) (by decide +kernel)
theorem sp_119 : Cond.initialized "java/lang/StringLatin1" ∈ pv_TB := pv_mem (i := 119) (by decide +kernel) (by decide +kernel)
theorem sp_120 : Cond.initialized "jdk/internal/util/Preconditions" ∈ pv_TB := pv_mem (i := 120) (by decide +kernel) (by decide +kernel)
theorem sp_440 : Cond.methodLink "PatchVoices$Kinds" 15 y_Sp_at ∈ pv_TB := pv_mem (i := 440) (by decide +kernel) (by decide +kernel)
theorem sp_441 : Cond.instanceMethod y_Sp_at ∈ pv_TB := pv_mem (i := 441) (by decide +kernel) (by decide +kernel)
theorem sp_442 : Cond.selects "java/lang/String" y_Sp_at y_Sp_at ∈ pv_TB := pv_mem (i := 442) (by decide +kernel) (by decide +kernel)
theorem sp_443 : Cond.code y_Sp_at prog_17_method_56_code 2 (some .char) ∈ pv_TB := pv_mem (i := 443) (by decide +kernel) (by decide +kernel)
theorem sp_444 : Cond.methodLink "java/lang/String" 492 y_Sp_isL ∈ pv_TB := pv_mem (i := 444) (by decide +kernel) (by decide +kernel)
theorem sp_445 : Cond.instanceMethod y_Sp_isL ∈ pv_TB := pv_mem (i := 445) (by decide +kernel) (by decide +kernel)
theorem sp_446 : Cond.selects "java/lang/String" y_Sp_isL y_Sp_isL ∈ pv_TB := pv_mem (i := 446) (by decide +kernel) (by decide +kernel)
theorem sp_447 : Cond.code y_Sp_isL prog_17_method_154_code 1 (some .boolean) ∈ pv_TB := pv_mem (i := 447) (by decide +kernel) (by decide +kernel)
theorem sp_448 : Cond.fieldLink "java/lang/String" 38 "java/lang/String" "COMPACT_STRINGS" "Z" ∈ pv_TB := pv_mem (i := 448) (by decide +kernel) (by decide +kernel)
theorem sp_450 : Cond.methodLink "java/lang/String" 495 y_Sp_latin ∈ pv_TB := pv_mem (i := 450) (by decide +kernel) (by decide +kernel)
theorem sp_451 : Cond.static y_Sp_latin ∈ pv_TB := pv_mem (i := 451) (by decide +kernel) (by decide +kernel)
theorem sp_452 : Cond.code y_Sp_latin prog_18_method_2_code 2 (some .char) ∈ pv_TB := pv_mem (i := 452) (by decide +kernel) (by decide +kernel)
theorem sp_453 : Cond.methodLink "java/lang/StringLatin1" 9 y_Sp_index ∈ pv_TB := pv_mem (i := 453) (by decide +kernel) (by decide +kernel)
theorem sp_454 : Cond.static y_Sp_index ∈ pv_TB := pv_mem (i := 454) (by decide +kernel) (by decide +kernel)
theorem sp_455 : Cond.code y_Sp_index prog_17_method_155_code 2 none ∈ pv_TB := pv_mem (i := 455) (by decide +kernel) (by decide +kernel)
theorem sp_456 : Cond.fieldLink "java/lang/String" 1053 "jdk/internal/util/Preconditions" "SIOOBE_FORMATTER" "Ljava/util/function/BiFunction;" ∈ pv_TB := pv_mem (i := 456) (by decide +kernel) (by decide +kernel)
theorem sp_458 : Cond.methodLink "java/lang/String" 1059 y_Sp_check ∈ pv_TB := pv_mem (i := 458) (by decide +kernel) (by decide +kernel)
theorem sp_459 : Cond.static y_Sp_check ∈ pv_TB := pv_mem (i := 459) (by decide +kernel) (by decide +kernel)
theorem sp_460 : Cond.code y_Sp_check prog_24_method_11_code 3 (some .int) ∈ pv_TB := pv_mem (i := 460) (by decide +kernel) (by decide +kernel)
theorem sp_1509 : Cond.fieldLink "java/lang/String" 15 "java/lang/String" "coder" "B" ∈ pv_TB := pv_mem (i := 1509) (by decide +kernel) (by decide +kernel)
theorem sp_1510 : Cond.fieldLink "java/lang/String" 9 "java/lang/String" "value" "[B" ∈ pv_TB := pv_mem (i := 1510) (by decide +kernel) (by decide +kernel)
theorem cs_Sp_check : pv_CS pv_TB "java/lang/String" 1059 y_Sp_check prog_24_method_11_code 3 (some .int) 3 := ⟨⟨by decide +kernel, by decide +kernel, by decide +kernel⟩, sp_458, sp_459, sp_120, sp_460⟩
theorem cs_Sp_index : pv_CS pv_TB "java/lang/StringLatin1" 9 y_Sp_index prog_17_method_155_code 2 none 2 := ⟨⟨by decide +kernel, by decide +kernel, by decide +kernel⟩, sp_453, sp_454, sp_118, sp_455⟩
theorem cs_Sp_latin : pv_CS pv_TB "java/lang/String" 495 y_Sp_latin prog_18_method_2_code 2 (some .char) 2 := ⟨⟨by decide +kernel, by decide +kernel, by decide +kernel⟩, sp_450, sp_451, sp_119, sp_452⟩
theorem cv_Sp_isL : pv_CV pv_TB "java/lang/String" "java/lang/String" 492 y_Sp_isL prog_17_method_154_code 1 (some .boolean) 0 := ⟨⟨rfl, by decide +kernel, by decide +kernel, by decide +kernel⟩, sp_444, sp_445, sp_446, sp_118, sp_447⟩
theorem cv_Sp_at : pv_CV pv_TB "PatchVoices$Kinds" "java/lang/String" 15 y_Sp_at prog_17_method_56_code 2 (some .char) 1 := ⟨⟨rfl, by decide +kernel, by decide +kernel, by decide +kernel⟩, sp_440, sp_441, sp_442, sp_118, sp_443⟩
theorem ds_check_0 : decode prog_24_method_11_code 0 = .ok (.iload_n 0, 1) := by decide +kernel
theorem ds_check_1 : decode prog_24_method_11_code 1 = .ok (.ifCond .lt 8, 3) := by decide +kernel
theorem ds_check_4 : decode prog_24_method_11_code 4 = .ok (.iload_n 0, 1) := by decide +kernel
theorem ds_check_5 : decode prog_24_method_11_code 5 = .ok (.iload_n 1, 1) := by decide +kernel
theorem ds_check_6 : decode prog_24_method_11_code 6 = .ok (.if_icmp .lt 10, 3) := by decide +kernel
theorem ds_check_16 : decode prog_24_method_11_code 16 = .ok (.iload_n 0, 1) := by decide +kernel
theorem ds_check_17 : decode prog_24_method_11_code 17 = .ok (.ireturn, 1) := by decide +kernel
theorem ds_index_0 : decode prog_17_method_155_code 0 = .ok (.iload_n 0, 1) := by decide +kernel
theorem ds_index_1 : decode prog_17_method_155_code 1 = .ok (.iload_n 1, 1) := by decide +kernel
theorem ds_index_2 : decode prog_17_method_155_code 2 = .ok (.getstatic 1053, 3) := by decide +kernel
theorem ds_index_5 : decode prog_17_method_155_code 5 = .ok (.invokestatic 1059, 3) := by decide +kernel
theorem ds_index_8 : decode prog_17_method_155_code 8 = .ok (.pop, 1) := by decide +kernel
theorem ds_index_9 : decode prog_17_method_155_code 9 = .ok (.return_, 1) := by decide +kernel
theorem ds_latin_0 : decode prog_18_method_2_code 0 = .ok (.iload_n 1, 1) := by decide +kernel
theorem ds_latin_1 : decode prog_18_method_2_code 1 = .ok (.aload_n 0, 1) := by decide +kernel
theorem ds_latin_2 : decode prog_18_method_2_code 2 = .ok (.arraylength, 1) := by decide +kernel
theorem ds_latin_3 : decode prog_18_method_2_code 3 = .ok (.invokestatic 9, 3) := by decide +kernel
theorem ds_latin_6 : decode prog_18_method_2_code 6 = .ok (.aload_n 0, 1) := by decide +kernel
theorem ds_latin_7 : decode prog_18_method_2_code 7 = .ok (.iload_n 1, 1) := by decide +kernel
theorem ds_latin_8 : decode prog_18_method_2_code 8 = .ok (.baload, 1) := by decide +kernel
theorem ds_latin_9 : decode prog_18_method_2_code 9 = .ok (.sipush 255, 3) := by decide +kernel
theorem ds_latin_12 : decode prog_18_method_2_code 12 = .ok (.iand, 1) := by decide +kernel
theorem ds_latin_13 : decode prog_18_method_2_code 13 = .ok (.i2c, 1) := by decide +kernel
theorem ds_latin_14 : decode prog_18_method_2_code 14 = .ok (.ireturn, 1) := by decide +kernel
theorem ds_isL_0 : decode prog_17_method_154_code 0 = .ok (.getstatic 38, 3) := by decide +kernel
theorem ds_isL_3 : decode prog_17_method_154_code 3 = .ok (.ifCond .eq 14, 3) := by decide +kernel
theorem ds_isL_6 : decode prog_17_method_154_code 6 = .ok (.aload_n 0, 1) := by decide +kernel
theorem ds_isL_7 : decode prog_17_method_154_code 7 = .ok (.getfield 15, 3) := by decide +kernel
theorem ds_isL_10 : decode prog_17_method_154_code 10 = .ok (.ifCond .ne 7, 3) := by decide +kernel
theorem ds_isL_13 : decode prog_17_method_154_code 13 = .ok (.iconst 1, 1) := by decide +kernel
theorem ds_isL_14 : decode prog_17_method_154_code 14 = .ok (.goto 4, 3) := by decide +kernel
theorem ds_isL_18 : decode prog_17_method_154_code 18 = .ok (.ireturn, 1) := by decide +kernel
theorem ds_at_0 : decode prog_17_method_56_code 0 = .ok (.aload_n 0, 1) := by decide +kernel
theorem ds_at_1 : decode prog_17_method_56_code 1 = .ok (.invokevirtual 492, 3) := by decide +kernel
theorem ds_at_4 : decode prog_17_method_56_code 4 = .ok (.ifCond .eq 12, 3) := by decide +kernel
theorem ds_at_7 : decode prog_17_method_56_code 7 = .ok (.aload_n 0, 1) := by decide +kernel
theorem ds_at_8 : decode prog_17_method_56_code 8 = .ok (.getfield 9, 3) := by decide +kernel
theorem ds_at_11 : decode prog_17_method_56_code 11 = .ok (.iload_n 1, 1) := by decide +kernel
theorem ds_at_12 : decode prog_17_method_56_code 12 = .ok (.invokestatic 495, 3) := by decide +kernel
theorem ds_at_15 : decode prog_17_method_56_code 15 = .ok (.ireturn, 1) := by decide +kernel
section PVQ
variable {p : Program} {l : Launch} {e : Env} {R : Room} {s : State} {m : MethodId} {args : Array Value} {below : List Frame} {meth : Method} {c : Code} {H : Heap} {locs : List Loc} {cells slots : Nat} {Q : State → Prop}
variable {cc bytes : ByteArray} {pc nL maxL : Nat} {ls : Array Slot} {rest st0 As av : List Value} {own : String} {Ts : List Cond} {D : va_G} {cl : List vw_C} {tys : List (ClassId × FieldType)} {N : Nat} {a : Nat → Nat} {A : Nat → Prop} {F : pv_F} {σ : pv_S} {Z : State → Prop} {rm : Room} {y : MethodName} {ret : Option FieldType} {n : Nat}
/-- a call on a receiver that is no cell of the world, of a known class -/
theorem pv_callKi (C : pv_C p s m args c cc nL own Ts D cl tys N a A Z) (hmv : pv_mv A Z) (hg : ∀ w ∈ Ts, goodWord w = true) (hP : pv_W D cl N a F σ H) (hS : va_S A s.heap H locs) {b ix : Nat} {Cn : String} {out : Int32 × pv_S} (hr : ∃ cell : Cell, H[b]? = some cell ∧ cell.vm.isStatics = false ∧ s.vm.findClass Cn = some cell.cls)
    (hM : pv_Mi l y (Cond.code y bytes maxL ret :: Ts) rm D cl tys N a F A Z (.ref b :: As) σ out) (cw : pv_CV Ts own Cn ix y bytes maxL ret n) (hR : rm.cells = 0 ∧ rm.slots = 0 ∧ rm.frames + 1 ≤ R.frames ∧ 8 + (maxL + 11) + rm.locals ≤ R.locals) (hn : As.length = n) (hl : ls.size = nL) (hst : st0 = As.reverse ++ .ref b :: rest) (hW : (rest.map fun v => v.category).sum ≤ 8) (hdg : decode cc pc = .ok (.invokevirtual ix, 3)) (hf : cells ≤ R.cells ∧ slots ≤ R.slots)
    (kk : ∀ (H1 : Heap) (locs1 : List Loc), pv_W D cl N a F out.2 H1 → va_S A s.heap H1 locs1 → W p l e R s m args below meth c H1 locs1 cells slots Q (F0 m (pc + 3) ls (.int out.1 :: rest))) : W p l e R s m args below meth c H locs cells slots Q (F0 m pc ls st0) := by
  refine pv_goI (va_runV (pv_fix C) hM (pv_cwV C hg cw hR) ⟨pv_blind hmv, hr, pv_pre C hmv hP hS⟩ rfl hn hl hst (lv_room hW) hdg hf) hS kk
/-- the contract of a method that answers an int of a small type -/
theorem pv_ofN {out : Int32 × pv_S} {ty : FieldType} (hy : plainName y.cls = true) (hn : narrow ty (.int out.1) = .int out.1) (hav : (lg_sl av).length ≤ maxL) (hD : pv_D N a A)
    (body : ∀ (p : Program) (e : Env) (s : State) (m : MethodId) (args : Array Value) (below : List Frame) (meth : Method) (c : Code) (Q : State → Prop) (ls : Array Slot), pv_C p s m args c cc maxL y.cls Ts D cl tys N a A Z → pv_Ri p l e rm s m args below meth c cc D cl N a F A Q out → lv_has ls maxL (lv_args 0 av) → pv_W D cl N a F σ s.heap → W p l e rm s m args below meth c s.heap [] 0 0 Q (F0 m 0 ls [])) :
    pv_Mi l y (Cond.code y cc maxL (some ty) :: Ts) rm D cl tys N a F A Z av σ out := by
  refine Met.ofW (cc := cc) (maxL := maxL) (ret := some ty) hy rfl ?_
  intro p e s m args below meth c s₁ B hml hv
  obtain ⟨rfl, hP, hK, hZ⟩ := hv
  have hts := atoms_spec (ws := Cond.code y cc maxL (some ty) :: Ts) B.pre
  have hl := lv_entry av hav
  rw [lg_entry_eq]
  refine body p e s m _ below meth c _ _ ⟨B.exec, B.bytes, hml, findClass_of_methodNamed B.named, fun w hw => hts w (List.mem_cons_of_mem _ hw), hK, hD, hZ⟩ ?_ hl hP
  intro H locs ls pc hdg hP1 hS1
  exact W.zret B.exec B.bytes B.returns hn (fun t ht hW => ⟨⟨rfl, by rw [ht]; exact hP1⟩, hS1.F ht⟩) hS1.2.2 hdg (hlocks := B.notSynchronized)
end PVQ
def rm_Sp0 : Room := { frames := 0, cells := 0, slots := 0, locals := 0 }
def rm_Sp1 : Room := { frames := 1, cells := 0, slots := 0, locals := 22 }
def rm_Sp2 : Room := { frames := 2, cells := 0, slots := 0, locals := 43 }
def rm_Sp3 : Room := { frames := 3, cells := 0, slots := 0, locals := 64 }
section PVR
variable {l : Launch} {D : va_G} {q : Nat → ClassId} {a t : Nat → Nat} {A : Nat → Prop} {Z : State → Prop} {σ : pv_S}
theorem c_Sp_check (hD : pv_D 52 a A) {i n : Int32} {v : Value} (hv : v = .null ∨ ∃ b, v = .ref b) (h0 : ¬ i < 0) (h1 : i < n) : pv_Mi l y_Sp_check (Cond.code y_Sp_check prog_24_method_11_code 3 (some .int) :: pv_TB) rm_Sp0 D pv_cl (pv_ty q) 52 a (pv_FX q a) A Z [.int i, .int n, v] σ (i, σ) := by
  have walk : ∀ v : Value, (lg_sl [.int i, .int n, v]).length ≤ 3 → (∀ ls : Array Slot, lv_has ls 3 (lv_args 0 [.int i, .int n, v]) → ls[0]? = some (.val (.int i)) ∧ ls[1]? = some (.val (.int n))) → pv_Mi l y_Sp_check (Cond.code y_Sp_check prog_24_method_11_code 3 (some .int) :: pv_TB) rm_Sp0 D pv_cl (pv_ty q) 52 a (pv_FX q a) A Z [.int i, .int n, v] σ (i, σ) := by
    intro v hlen hloc
    refine pv_ofI (by decide) hlen hD (fun p e s m args below meth c Q ls C hret hl hP => ?_)
    have hx := C.1
    have hb := C.2.1
    obtain ⟨g0, g1⟩ := hloc ls hl
    refine lv_iload_n hx hb ds_check_0 rfl g0 ?_
    refine lv_if_lt (tgt := 9) hx hb ds_check_1 (by decide) (fun h => absurd h h0) (fun h => ?_)
    refine lv_iload_n hx hb ds_check_4 rfl g0 ?_
    refine lv_iload_n hx hb ds_check_5 rfl g1 ?_
    refine lv_icmp_lt (tgt := 16) hx hb ds_check_6 (by decide) (fun h => ?_) (fun h => absurd h1 h)
    refine lv_iload_n hx hb ds_check_16 rfl g0 ?_
    exact hret _ _ _ _ ds_check_17 hP va_S.rf
  rcases hv with rfl | ⟨b, rfl⟩
  · exact walk _ (Nat.le_of_ble_eq_true rfl) (fun ls hl => ⟨lv_at hl 0 rfl, lv_at hl 1 rfl⟩)
  · exact walk _ (Nat.le_of_ble_eq_true rfl) (fun ls hl => ⟨lv_at hl 0 rfl, lv_at hl 1 rfl⟩)
theorem c_Sp_index (hD : pv_D 52 a A) (hmv : pv_mv A Z) (hZs : ∀ U, Z U → pv_ZS t A U) {i n : Int32} (h0 : ¬ i < 0) (h1 : i < n) : pv_Mv l y_Sp_index (Cond.code y_Sp_index prog_17_method_155_code 2 none :: pv_TB) rm_Sp1 D pv_cl (pv_ty q) 52 a (pv_FX q a) A Z [.int i, .int n] σ σ := by
  refine pv_ofV (by decide) (Nat.le_of_ble_eq_true rfl) hD (fun p e s m args below meth c Q ls C hret hl hP => ?_)
  have hx := C.1
  have hb := C.2.1
  have hS : va_S A s.heap s.heap [] := va_S.rf
  obtain ⟨-, -, -, z4⟩ := hZs _ C.2.2.2.2.2.2.2
  refine lv_iload_n hx hb ds_index_0 rfl (lv_at hl 0 rfl) ?_
  refine lv_iload_n hx hb ds_index_1 rfl (lv_at hl 1 rfl) ?_
  have fin : ∀ v : Value, (v = .null ∨ ∃ b, v = .ref b) → va_Z "jdk/internal/util/Preconditions" "SIOOBE_FORMATTER" "Ljava/util/function/BiFunction;" v A s s.heap → W p l e rm_Sp1 s m args below meth c s.heap [] 0 0 Q (F0 m 2 ls [.int n, .int i]) := by
    intro v hv hz
    refine va_gets hx hb hz hS C.2.2.2.1 (C.2.2.2.2.1 _ sp_456) (fun _ h => h) ds_index_2 ?_
    refine pv_callSi C hmv pv_good hP hS (As := [.int i, .int n, v]) (rest := []) (c_Sp_check hD hv h0 h1) cs_Sp_check ⟨rfl, rfl, Nat.le_of_ble_eq_true rfl, Nat.le_of_ble_eq_true rfl⟩ rfl hl.1 rfl (Nat.le_of_ble_eq_true rfl) ds_index_5 ⟨Nat.zero_le _, Nat.zero_le _⟩ (fun H locs hP hS => ?_)
    refine lv_pop hx hb ds_index_8 rfl ?_
    exact hret _ _ _ _ ds_index_9 hP hS
  rcases z4 with z4 | ⟨b, z4⟩
  · exact fin _ (Or.inl rfl) z4
  · exact fin _ (Or.inr ⟨b, rfl⟩) z4
theorem sp_word : ∀ k : Nat, k < 60 → (((pv_WORDS k &&& 255).toUInt32 % 65536).toInt32 = pv_WORDS k ∧ narrow .char (.int (pv_WORDS k)) = .int (pv_WORDS k)) := by decide +kernel
theorem sp_in {i : Int32} (hin : pv_in i 60 = true) : ¬ i < 0 ∧ i < 60 := by
  unfold pv_in at hin
  rw [Bool.and_eq_true, decide_eq_true_eq, decide_eq_true_eq] at hin
  have h1 : (0 : Int32).toInt ≤ i.toInt := Int32.le_iff_toInt_le.mp hin.1
  have e0 : (0 : Int32).toInt = 0 := rfl
  have e60 : (60 : Int32).toInt = 60 := rfl
  have h2 : i.toNatClampNeg = i.toInt.toNat := rfl
  refine ⟨Int32.not_lt.mpr hin.1, Int32.lt_iff_toInt_lt.mpr ?_⟩
  rw [e60]
  omega
theorem c_Sp_latin (hD : pv_D 52 a A) (hmv : pv_mv A Z) (hZs : ∀ U, Z U → pv_ZS t A U) {i : Int32} (hin : pv_in i 60 = true) : pv_Mi l y_Sp_latin (Cond.code y_Sp_latin prog_18_method_2_code 2 (some .char) :: pv_TB) rm_Sp2 D pv_cl (pv_ty q) 52 a (pv_FX q a) A Z [.ref (t 3), .int i] σ (pv_WORDS i.toNatClampNeg, σ) := by
  have hlt := pv_in_lt hin
  obtain ⟨h0, h1⟩ := sp_in hin
  refine pv_ofN (by decide) (sp_word _ hlt).2 (Nat.le_of_ble_eq_true rfl) hD (fun p e s m args below meth c Q ls C hret hl hP => ?_)
  have hx := C.1
  have hb := C.2.1
  have hS : va_S A s.heap s.heap [] := va_S.rf
  obtain ⟨-, z2, -, -⟩ := hZs _ C.2.2.2.2.2.2.2
  obtain ⟨-, -, -, zT⟩ := z2.1 0 (by decide)
  have zT : va_T .byte (t 3) 60 (fun j => .int (pv_WORDS j)) A s s.heap := zT
  refine lv_iload_n hx hb ds_latin_0 rfl (lv_at hl 1 rfl) ?_
  refine lv_aload_n hx hb ds_latin_1 rfl (lv_at hl 0 rfl) ?_
  refine va_tlen hx hb zT hS (v := (60 : Int32)) (by decide) ds_latin_2 ?_
  refine pv_callSv C hmv pv_good hP hS (As := [.int i, .int 60]) (rest := []) (c_Sp_index hD hmv hZs h0 h1) cs_Sp_index ⟨rfl, rfl, Nat.le_of_ble_eq_true rfl, Nat.le_of_ble_eq_true rfl⟩ rfl hl.1 rfl (Nat.le_of_ble_eq_true rfl) ds_latin_3 ⟨Nat.zero_le _, Nat.zero_le _⟩ (fun H locs hP hS => ?_)
  refine lv_aload_n hx hb ds_latin_6 rfl (lv_at hl 0 rfl) ?_
  refine lv_iload_n hx hb ds_latin_7 rfl (lv_at hl 1 rfl) ?_
  refine va_tb hx hb zT hS (pv_in_vp hin) rfl ds_latin_8 ?_
  refine lv_sipush (v := (255 : Int32)) hx hb ds_latin_9 (by decide) ?_
  refine lv_iand hx hb ds_latin_12 ?_
  refine lv_i2c hx hb ds_latin_13 (sp_word _ hlt).1 ?_
  exact hret _ _ _ _ ds_latin_14 hP hS
theorem c_Sp_isL (hD : pv_D 52 a A) (hZs : ∀ U, Z U → pv_ZS t A U) : pv_Mi l y_Sp_isL (Cond.code y_Sp_isL prog_17_method_154_code 1 (some .boolean) :: pv_TB) rm_Sp0 D pv_cl (pv_ty q) 52 a (pv_FX q a) A Z [.ref (t 2)] σ (1, σ) := by
  refine pv_ofZ (by decide) (Nat.le_of_ble_eq_true rfl) hD (fun p e s m args below meth c Q ls C hret hl hP => ?_)
  have hx := C.1
  have hb := C.2.1
  have hS : va_S A s.heap s.heap [] := va_S.rf
  obtain ⟨-, z2, z3, -⟩ := hZs _ C.2.2.2.2.2.2.2
  obtain ⟨-, zC, -, -⟩ := z2.1 0 (by decide)
  refine va_gets hx hb z3 hS C.2.2.2.1 (C.2.2.2.2.1 _ sp_448) (fun _ h => h) ds_isL_0 ?_
  refine lv_if_eq (tgt := 17) hx hb ds_isL_3 (by decide) (fun h => absurd h (by decide)) (fun h => ?_)
  refine lv_aload_n hx hb ds_isL_6 rfl (lv_at hl 0 rfl) ?_
  refine vk_getf hx hb zC hS C.2.2.2.1 (C.2.2.2.2.1 _ sp_1509) (fun _ h => h) ds_isL_7 ?_
  refine lv_if_ne (tgt := 17) hx hb ds_isL_10 (by decide) (fun h => ?_) (fun h => ?_)
  · exact absurd rfl h
  · refine lv_iconst (v := (1 : Int32)) hx hb ds_isL_13 (by decide) ?_
    refine lv_goto (tgt := 18) hx hb ds_isL_14 (by decide) ?_
    exact hret _ _ _ _ ds_isL_18 (show pv_z (1 : Int32) = true by decide) hP hS
theorem c_Sp_at (hD : pv_D 52 a A) (hmv : pv_mv A Z) (hZs : ∀ U, Z U → pv_ZS t A U) {i : Int32} (hin : pv_in i 60 = true) : pv_Mi l y_Sp_at (Cond.code y_Sp_at prog_17_method_56_code 2 (some .char) :: pv_TB) rm_Sp3 D pv_cl (pv_ty q) 52 a (pv_FX q a) A Z [.ref (t 2), .int i] σ (pv_WORDS i.toNatClampNeg, σ) := by
  have hlt := pv_in_lt hin
  refine pv_ofN (by decide) (sp_word _ hlt).2 (Nat.le_of_ble_eq_true rfl) hD (fun p e s m args below meth c Q ls C hret hl hP => ?_)
  have hx := C.1
  have hb := C.2.1
  have hS : va_S A s.heap s.heap [] := va_S.rf
  obtain ⟨-, z2, -, -⟩ := hZs _ C.2.2.2.2.2.2.2
  obtain ⟨-, -, zV, -⟩ := z2.1 0 (by decide)
  refine lv_aload_n hx hb ds_at_0 rfl (lv_at hl 0 rfl) ?_
  refine pv_callKi C hmv pv_good hP hS (As := []) (rest := []) (vk_recv z2 (i := 0) (by decide) hS) (c_Sp_isL hD hZs) cv_Sp_isL ⟨rfl, rfl, Nat.le_of_ble_eq_true rfl, Nat.le_of_ble_eq_true rfl⟩ rfl hl.1 rfl (Nat.le_of_ble_eq_true rfl) ds_at_1 ⟨Nat.zero_le _, Nat.zero_le _⟩ (fun H locs hP hS => ?_)
  refine lv_if_eq (tgt := 16) hx hb ds_at_4 (by decide) (fun h => absurd h (show ¬ (1 : Int32) = 0 by decide)) (fun h => ?_)
  refine lv_aload_n hx hb ds_at_7 rfl (lv_at hl 0 rfl) ?_
  refine vk_getf hx hb zV hS C.2.2.2.1 (C.2.2.2.2.1 _ sp_1510) (fun _ h => h) ds_at_8 ?_
  refine lv_iload_n hx hb ds_at_11 rfl (lv_at hl 1 rfl) ?_
  refine pv_callSi C hmv pv_good hP hS (As := [.ref (t 3), .int i]) (rest := []) (c_Sp_latin hD hmv hZs hin) cs_Sp_latin ⟨rfl, rfl, Nat.le_of_ble_eq_true rfl, Nat.le_of_ble_eq_true rfl⟩ rfl hl.1 rfl (Nat.le_of_ble_eq_true rfl) ds_at_12 ⟨Nat.zero_le _, Nat.zero_le _⟩ (fun H locs hP hS => ?_)
  exact hret _ _ _ _ ds_at_15 hP hS
end PVR
section PVU
variable {p : Program} {l : Launch} {e : Env} {R : Room} {s : State} {m : MethodId} {args : Array Value} {below : List Frame} {meth : Method} {c : Code} {H : Heap} {locs : List Loc} {Q : State → Prop}
variable {cc : ByteArray} {pc nL : Nat} {ls : Array Slot} {rest : List Value} {D : va_G} {q : Nat → ClassId} {a t : Nat → Nat} {A : Nat → Prop} {σ : pv_S} {Z : State → Prop}
/-- the text's address -/
theorem pv_ldW (C : pv_C p s m args c cc nL "PatchVoices$Kinds" pv_TB D pv_cl (pv_ty q) 52 a A Z) (hZs : ∀ U, Z U → pv_ZS t A U) (hdg : decode cc pc = .ok (.ldc 13, 2))
    (kk : W p l e R s m args below meth c H locs 0 0 Q (F0 m (pc + 2) ls (.ref (t 2) :: rest))) : W p l e R s m args below meth c H locs 0 0 Q (F0 m pc ls rest) :=
  va_ldcS C.1 C.2.1 C.2.2.2.1 (hZs _ C.2.2.2.2.2.2.2).1 hdg kk
/-- a character of the text -/
theorem pv_charW (C : pv_C p s m args c cc nL "PatchVoices$Kinds" pv_TB D pv_cl (pv_ty q) 52 a A Z) (hmv : pv_mv A Z) (hZs : ∀ U, Z U → pv_ZS t A U) (hP : pv_W D pv_cl 52 a (pv_FX q a) σ H) (hS : va_S A s.heap H locs) {i : Int32} (hin : pv_in i 60 = true) (hRf : 4 ≤ R.frames) (hRl : 85 ≤ R.locals) (hl : ls.size = nL) (hW : (rest.map fun v => v.category).sum ≤ 8) (hdg : decode cc pc = .ok (.invokevirtual 15, 3))
    (kk : ∀ (H1 : Heap) (locs1 : List Loc), pv_W D pv_cl 52 a (pv_FX q a) σ H1 → va_S A s.heap H1 locs1 → W p l e R s m args below meth c H1 locs1 0 0 Q (F0 m (pc + 3) ls (.int (pv_WORDS i.toNatClampNeg) :: rest))) : W p l e R s m args below meth c H locs 0 0 Q (F0 m pc ls (.int i :: .ref (t 2) :: rest)) := by
  obtain ⟨-, z2, -, -⟩ := hZs _ C.2.2.2.2.2.2.2
  exact pv_callKi C hmv pv_good hP hS (As := [.int i]) (rest := rest) (vk_recv z2 (i := 0) (by decide) hS) (c_Sp_at C.2.2.2.2.2.2.1 hmv hZs hin) cv_Sp_at ⟨rfl, rfl, hRf, hRl⟩ rfl hl rfl hW hdg ⟨Nat.zero_le _, Nat.zero_le _⟩ kk
end PVU
