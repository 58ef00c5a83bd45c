/-! What the law's entry knows of the start. -/
theorem pv_NB0 {args : Array Value} {s : State} (hts : ∀ w ∈ lw_tbl, w.before args s = true) : pv_NB s := by
  refine ⟨fun w hw => ?_, va_AO.of (hts _ (List.mem_of_getElem? (i := 289) (by decide +kernel)))⟩
  simp only [pv_NW, List.mem_cons, List.not_mem_nil, or_false] at hw
  rcases hw with rfl | rfl | rfl | rfl | rfl
  · exact va_Nw.of rfl (hts _ (List.mem_of_getElem? (i := 142) (by decide +kernel)))
  · exact va_Nw.of rfl (hts _ (List.mem_of_getElem? (i := 148) (by decide +kernel)))
  · exact va_Nw.of rfl (hts _ (List.mem_of_getElem? (i := 204) (by decide +kernel)))
  · exact va_Nw.of rfl (hts _ (List.mem_of_getElem? (i := 210) (by decide +kernel)))
  · exact va_Nw.of rfl (hts _ (List.mem_of_getElem? (i := 291) (by decide +kernel)))
theorem pv_A0n {s : State} : ∀ a : Nat, a < s.heap.size → ¬ pv_A0 s a := fun a h => Nat.not_le.mpr h
theorem pv_ZN0 {args : Array Value} {s : State} (hs : ∀ w ∈ flatC (Jvm.Cond.and given_1 narrow_1), w.before args s = true) : pv_ZN s := by
  intro i j hi hj hij
  rcases (show i = 0 ∨ i = 1 ∨ i = 2 ∨ i = 3 by omega) with rfl | rfl | rfl | rfl <;> rcases (show j = 0 ∨ j = 1 ∨ j = 2 ∨ j = 3 by omega) with rfl | rfl | rfl | rfl
  · exact absurd rfl hij
  · exact va_Nc.of (hs (Cond.not (.castable "java/lang/IndexOutOfBoundsException" "java/lang/IllegalArgumentException")) (by decide +kernel))
  · exact va_Nc.of (hs (Cond.not (.castable "java/lang/IndexOutOfBoundsException" "java/lang/IllegalStateException")) (by decide +kernel))
  · exact va_Nc.of (hs (Cond.not (.castable "java/lang/IndexOutOfBoundsException" "java/util/NoSuchElementException")) (by decide +kernel))
  · exact va_Nc.of (hs (Cond.not (.castable "java/lang/IllegalArgumentException" "java/lang/IndexOutOfBoundsException")) (by decide +kernel))
  · exact absurd rfl hij
  · exact va_Nc.of (hs (Cond.not (.castable "java/lang/IllegalArgumentException" "java/lang/IllegalStateException")) (by decide +kernel))
  · exact va_Nc.of (hs (Cond.not (.castable "java/lang/IllegalArgumentException" "java/util/NoSuchElementException")) (by decide +kernel))
  · exact va_Nc.of (hs (Cond.not (.castable "java/lang/IllegalStateException" "java/lang/IndexOutOfBoundsException")) (by decide +kernel))
  · exact va_Nc.of (hs (Cond.not (.castable "java/lang/IllegalStateException" "java/lang/IllegalArgumentException")) (by decide +kernel))
  · exact absurd rfl hij
  · exact va_Nc.of (hs (Cond.not (.castable "java/lang/IllegalStateException" "java/util/NoSuchElementException")) (by decide +kernel))
  · exact va_Nc.of (hs (Cond.not (.castable "java/util/NoSuchElementException" "java/lang/IndexOutOfBoundsException")) (by decide +kernel))
  · exact va_Nc.of (hs (Cond.not (.castable "java/util/NoSuchElementException" "java/lang/IllegalArgumentException")) (by decide +kernel))
  · exact va_Nc.of (hs (Cond.not (.castable "java/util/NoSuchElementException" "java/lang/IllegalStateException")) (by decide +kernel))
  · exact absurd rfl hij
theorem pv_Z_INPUTS {args : Array Value} {s : State} (hts : ∀ w ∈ lw_tbl, w.before args s = true) (hs : ∀ w ∈ flatC (Jvm.Cond.and given_1 narrow_1), w.before args s = true) : ∃ t : Nat, va_Z "PatchVoices$Kinds" "INPUTS" "[I" (.ref t) (pv_A0 s) s s.heap ∧ va_T .int t 20 (fun j => .int (pv_INPUTS j)) (pv_A0 s) s s.heap := by
  obtain ⟨t, h1, h2⟩ := va_Tof (args := args) (s := s) (tm := (.static "PatchVoices$Kinds" "INPUTS" "[I")) (ty := .int) (N := 20) (f := fun j => .int (pv_INPUTS j)) (A := pv_A0 s) (by decide) (hs (Cond.arrayOf (.static "PatchVoices$Kinds" "INPUTS" "[I") .int) (by decide +kernel)) (va_eqt (hs (Cond.eq (.length (.static "PatchVoices$Kinds" "INPUTS" "[I")) (.int 20)) (by decide +kernel))) (fun j hj => by
    rcases (show j = 0 ∨ j = 1 ∨ j = 2 ∨ j = 3 ∨ j = 4 ∨ j = 5 ∨ j = 6 ∨ j = 7 ∨ j = 8 ∨ j = 9 ∨ j = 10 ∨ j = 11 ∨ j = 12 ∨ j = 13 ∨ j = 14 ∨ j = 15 ∨ j = 16 ∨ j = 17 ∨ j = 18 ∨ j = 19 by omega) with rfl | rfl | rfl | rfl | rfl | rfl | rfl | rfl | rfl | rfl | rfl | rfl | rfl | rfl | rfl | rfl | rfl | rfl | rfl | rfl
    · exact va_eqt (hs (Cond.eq (.elem (.static "PatchVoices$Kinds" "INPUTS" "[I") (.int 0)) (.int (pv_INPUTS 0))) (by decide +kernel))
    · exact va_eqt (hs (Cond.eq (.elem (.static "PatchVoices$Kinds" "INPUTS" "[I") (.int 1)) (.int (pv_INPUTS 1))) (by decide +kernel))
    · exact va_eqt (hs (Cond.eq (.elem (.static "PatchVoices$Kinds" "INPUTS" "[I") (.int 2)) (.int (pv_INPUTS 2))) (by decide +kernel))
    · exact va_eqt (hs (Cond.eq (.elem (.static "PatchVoices$Kinds" "INPUTS" "[I") (.int 3)) (.int (pv_INPUTS 3))) (by decide +kernel))
    · exact va_eqt (hs (Cond.eq (.elem (.static "PatchVoices$Kinds" "INPUTS" "[I") (.int 4)) (.int (pv_INPUTS 4))) (by decide +kernel))
    · exact va_eqt (hs (Cond.eq (.elem (.static "PatchVoices$Kinds" "INPUTS" "[I") (.int 5)) (.int (pv_INPUTS 5))) (by decide +kernel))
    · exact va_eqt (hs (Cond.eq (.elem (.static "PatchVoices$Kinds" "INPUTS" "[I") (.int 6)) (.int (pv_INPUTS 6))) (by decide +kernel))
    · exact va_eqt (hs (Cond.eq (.elem (.static "PatchVoices$Kinds" "INPUTS" "[I") (.int 7)) (.int (pv_INPUTS 7))) (by decide +kernel))
    · exact va_eqt (hs (Cond.eq (.elem (.static "PatchVoices$Kinds" "INPUTS" "[I") (.int 8)) (.int (pv_INPUTS 8))) (by decide +kernel))
    · exact va_eqt (hs (Cond.eq (.elem (.static "PatchVoices$Kinds" "INPUTS" "[I") (.int 9)) (.int (pv_INPUTS 9))) (by decide +kernel))
    · exact va_eqt (hs (Cond.eq (.elem (.static "PatchVoices$Kinds" "INPUTS" "[I") (.int 10)) (.int (pv_INPUTS 10))) (by decide +kernel))
    · exact va_eqt (hs (Cond.eq (.elem (.static "PatchVoices$Kinds" "INPUTS" "[I") (.int 11)) (.int (pv_INPUTS 11))) (by decide +kernel))
    · exact va_eqt (hs (Cond.eq (.elem (.static "PatchVoices$Kinds" "INPUTS" "[I") (.int 12)) (.int (pv_INPUTS 12))) (by decide +kernel))
    · exact va_eqt (hs (Cond.eq (.elem (.static "PatchVoices$Kinds" "INPUTS" "[I") (.int 13)) (.int (pv_INPUTS 13))) (by decide +kernel))
    · exact va_eqt (hs (Cond.eq (.elem (.static "PatchVoices$Kinds" "INPUTS" "[I") (.int 14)) (.int (pv_INPUTS 14))) (by decide +kernel))
    · exact va_eqt (hs (Cond.eq (.elem (.static "PatchVoices$Kinds" "INPUTS" "[I") (.int 15)) (.int (pv_INPUTS 15))) (by decide +kernel))
    · exact va_eqt (hs (Cond.eq (.elem (.static "PatchVoices$Kinds" "INPUTS" "[I") (.int 16)) (.int (pv_INPUTS 16))) (by decide +kernel))
    · exact va_eqt (hs (Cond.eq (.elem (.static "PatchVoices$Kinds" "INPUTS" "[I") (.int 17)) (.int (pv_INPUTS 17))) (by decide +kernel))
    · exact va_eqt (hs (Cond.eq (.elem (.static "PatchVoices$Kinds" "INPUTS" "[I") (.int 18)) (.int (pv_INPUTS 18))) (by decide +kernel))
    · exact va_eqt (hs (Cond.eq (.elem (.static "PatchVoices$Kinds" "INPUTS" "[I") (.int 19)) (.int (pv_INPUTS 19))) (by decide +kernel))
    ) pv_A0n
  exact ⟨t, va_Zof (hts _ (List.mem_of_getElem? (i := 578) (by decide +kernel))) (hts _ (List.mem_of_getElem? (i := 117) (by decide +kernel))) h1 pv_A0n, h2⟩
theorem pv_Z_FAULTS_IN_TURN {args : Array Value} {s : State} (hts : ∀ w ∈ lw_tbl, w.before args s = true) (hs : ∀ w ∈ flatC (Jvm.Cond.and given_1 narrow_1), w.before args s = true) : ∃ t : Nat, va_Z "PatchVoices$Patch" "FAULTS_IN_TURN" "[I" (.ref t) (pv_A0 s) s s.heap ∧ va_T .int t 5 (fun j => .int (pv_FAULTS_IN_TURN j)) (pv_A0 s) s s.heap := by
  obtain ⟨t, h1, h2⟩ := va_Tof (args := args) (s := s) (tm := (.static "PatchVoices$Patch" "FAULTS_IN_TURN" "[I")) (ty := .int) (N := 5) (f := fun j => .int (pv_FAULTS_IN_TURN j)) (A := pv_A0 s) (by decide) (hs (Cond.arrayOf (.static "PatchVoices$Patch" "FAULTS_IN_TURN" "[I") .int) (by decide +kernel)) (va_eqt (hs (Cond.eq (.length (.static "PatchVoices$Patch" "FAULTS_IN_TURN" "[I")) (.int 5)) (by decide +kernel))) (fun j hj => by
    rcases (show j = 0 ∨ j = 1 ∨ j = 2 ∨ j = 3 ∨ j = 4 by omega) with rfl | rfl | rfl | rfl | rfl
    · exact va_eqt (hs (Cond.eq (.elem (.static "PatchVoices$Patch" "FAULTS_IN_TURN" "[I") (.int 0)) (.int (pv_FAULTS_IN_TURN 0))) (by decide +kernel))
    · exact va_eqt (hs (Cond.eq (.elem (.static "PatchVoices$Patch" "FAULTS_IN_TURN" "[I") (.int 1)) (.int (pv_FAULTS_IN_TURN 1))) (by decide +kernel))
    · exact va_eqt (hs (Cond.eq (.elem (.static "PatchVoices$Patch" "FAULTS_IN_TURN" "[I") (.int 2)) (.int (pv_FAULTS_IN_TURN 2))) (by decide +kernel))
    · exact va_eqt (hs (Cond.eq (.elem (.static "PatchVoices$Patch" "FAULTS_IN_TURN" "[I") (.int 3)) (.int (pv_FAULTS_IN_TURN 3))) (by decide +kernel))
    · exact va_eqt (hs (Cond.eq (.elem (.static "PatchVoices$Patch" "FAULTS_IN_TURN" "[I") (.int 4)) (.int (pv_FAULTS_IN_TURN 4))) (by decide +kernel))
    ) pv_A0n
  exact ⟨t, va_Zof (hts _ (List.mem_of_getElem? (i := 557) (by decide +kernel))) (hts _ (List.mem_of_getElem? (i := 111) (by decide +kernel))) h1 pv_A0n, h2⟩
theorem pv_msg {args : Array Value} {s : State} {k : Nat} {tx : String} (h1 : (Cond.stringRef "PatchVoices" k tx).before args s = true) (h2 : (Cond.exactly (.string "PatchVoices" k) "java/lang/String").before args s = true) : ∃ a : Nat, vk_R "PatchVoices" k tx a s := by
  obtain ⟨a, c, cA, kA, q1, -⟩ := Cond.exactly_spec (args := args) (first := s) (o := none) (s := s) (idx := []) (t := .string "PatchVoices" k) (cls := "java/lang/String") h2
  exact ⟨a, vk_R.of h1 q1⟩
theorem pv_ZS0 {args : Array Value} {s : State} (hts : ∀ w ∈ lw_tbl, w.before args s = true) (hs : ∀ w ∈ flatC (Jvm.Cond.and given_1 narrow_1), w.before args s = true) : ∃ t2 t3 : Nat, ∀ t : Nat → Nat, t 2 = t2 → t 3 = t3 → pv_ZS t (pv_A0 s) s := by
  have key : ∀ j, j < 60 → Cond.eq (.elem (.field (.string "PatchVoices$Kinds" 13) "java/lang/String" "value" "[B") (.int (Int32.ofNat j))) (.int (([pv_WB].getD 0 []).getD j 0)) ∈ flatC (Jvm.Cond.and given_1 narrow_1) := by decide +kernel
  obtain ⟨adK, adV, hS, hK⟩ := vk_Sof (args := args) (s := s) (N := 1) (tm := fun _ => (.string "PatchVoices$Kinds" 13)) (len := [60]) (byt := [pv_WB]) (A := pv_A0 s) (fun i hi => by obtain rfl : i = 0 := (by omega); decide) (fun i hi => hs (Cond.exactly (.string "PatchVoices$Kinds" 13) "java/lang/String") (by decide +kernel)) (fun i hi => hs (Cond.eq (.field (.string "PatchVoices$Kinds" 13) "java/lang/String" "coder" "B") (.int 0)) (by decide +kernel)) (fun i hi => hs (Cond.arrayOf (.field (.string "PatchVoices$Kinds" 13) "java/lang/String" "value" "[B") .byte) (by decide +kernel)) (fun i hi => by obtain rfl : i = 0 := (by omega); exact hs (Cond.eq (.length (.field (.string "PatchVoices$Kinds" 13) "java/lang/String" "value" "[B")) (.int 60)) (by decide +kernel)) (fun i hi j hj => by obtain rfl : i = 0 := (by omega); exact hs _ (key j hj)) (fun i j hi hj hij => absurd (show i = j by omega) hij) pv_A0n
  refine ⟨adK 0, adV 0, fun t e2 e3 => ⟨vk_R.of (hts _ (List.mem_of_getElem? (i := 439) (by decide +kernel))) (by rw [e2]; exact hK 0 (by decide)), ⟨fun i hi => ?_, fun i j hi hj _ => by omega⟩, va_Zof (hts _ (List.mem_of_getElem? (i := 449) (by decide +kernel))) (hts _ (List.mem_of_getElem? (i := 118) (by decide +kernel))) (va_eqt (hs (Cond.eq (.static "java/lang/String" "COMPACT_STRINGS" "Z") (.int 1)) (by decide +kernel))) pv_A0n, va_Zqof (hts _ (List.mem_of_getElem? (i := 457) (by decide +kernel))) (hts _ (List.mem_of_getElem? (i := 120) (by decide +kernel))) (hs (Cond.isRef (.static "jdk/internal/util/Preconditions" "SIOOBE_FORMATTER" "Ljava/util/function/BiFunction;")) (by decide +kernel)) pv_A0n⟩⟩
  obtain rfl : i = 0 := (by omega)
  show va_O _ (t 2) _ _ _ ∧ va_OF _ _ _ _ (t 2) _ _ _ ∧ va_OF _ _ _ (.ref (t 3)) (t 2) _ _ _ ∧ va_T .byte (t 3) _ _ _ _ _
  rw [e2, e3]
  exact hS.1 0 (by decide)
theorem pv_ZH0 {args : Array Value} {s : State} (hts : ∀ w ∈ lw_tbl, w.before args s = true) (hs : ∀ w ∈ flatC (Jvm.Cond.and given_1 narrow_1), w.before args s = true) : ∃ t : Nat → Nat, pv_ZH t (pv_A0 s) s := by
  obtain ⟨t0, u0⟩ := pv_Z_INPUTS hts hs
  obtain ⟨t1, u1⟩ := pv_Z_FAULTS_IN_TURN hts hs
  obtain ⟨t2, t3, zs⟩ := pv_ZS0 hts hs
  obtain ⟨m92, n92⟩ := pv_msg (k := 92) (tx := "there is no such step") (hts _ (List.mem_of_getElem? (i := 800) (by decide +kernel))) (hs (Cond.exactly (.string "PatchVoices" 92) "java/lang/String") (by decide +kernel))
  obtain ⟨m99, n99⟩ := pv_msg (k := 99) (tx := "what is not 0 .. 10") (hts _ (List.mem_of_getElem? (i := 835) (by decide +kernel))) (hs (Cond.exactly (.string "PatchVoices" 99) "java/lang/String") (by decide +kernel))
  obtain ⟨m109, n109⟩ := pv_msg (k := 109) (tx := "the voices are not 1 .. 4") (hts _ (List.mem_of_getElem? (i := 861) (by decide +kernel))) (hs (Cond.exactly (.string "PatchVoices" 109) "java/lang/String") (by decide +kernel))
  obtain ⟨m111, n111⟩ := pv_msg (k := 111) (tx := "the strength is not 1 .. 127") (hts _ (List.mem_of_getElem? (i := 869) (by decide +kernel))) (hs (Cond.exactly (.string "PatchVoices" 111) "java/lang/String") (by decide +kernel))
  obtain ⟨m146, n146⟩ := pv_msg (k := 146) (tx := "there is no such voice") (hts _ (List.mem_of_getElem? (i := 903) (by decide +kernel))) (hs (Cond.exactly (.string "PatchVoices" 146) "java/lang/String") (by decide +kernel))
  obtain ⟨m153, n153⟩ := pv_msg (k := 153) (tx := "its gate is not on") (hts _ (List.mem_of_getElem? (i := 913) (by decide +kernel))) (hs (Cond.exactly (.string "PatchVoices" 153) "java/lang/String") (by decide +kernel))
  obtain ⟨m156, n156⟩ := pv_msg (k := 156) (tx := "there is no such knob") (hts _ (List.mem_of_getElem? (i := 934) (by decide +kernel))) (hs (Cond.exactly (.string "PatchVoices" 156) "java/lang/String") (by decide +kernel))
  obtain ⟨m158, n158⟩ := pv_msg (k := 158) (tx := "the samples are not 0 .. 64") (hts _ (List.mem_of_getElem? (i := 942) (by decide +kernel))) (hs (Cond.exactly (.string "PatchVoices" 158) "java/lang/String") (by decide +kernel))
  obtain ⟨m164, n164⟩ := pv_msg (k := 164) (tx := "there is no program") (hts _ (List.mem_of_getElem? (i := 947) (by decide +kernel))) (hs (Cond.exactly (.string "PatchVoices" 164) "java/lang/String") (by decide +kernel))
  obtain ⟨m189, n189⟩ := pv_msg (k := 189) (tx := "there is no such sample") (hts _ (List.mem_of_getElem? (i := 1034) (by decide +kernel))) (hs (Cond.exactly (.string "PatchVoices" 189) "java/lang/String") (by decide +kernel))
  obtain ⟨m200, n200⟩ := pv_msg (k := 200) (tx := "there is no such module") (hts _ (List.mem_of_getElem? (i := 1043) (by decide +kernel))) (hs (Cond.exactly (.string "PatchVoices" 200) "java/lang/String") (by decide +kernel))
  obtain ⟨m211, n211⟩ := pv_msg (k := 211) (tx := "the module has no value there") (hts _ (List.mem_of_getElem? (i := 1053) (by decide +kernel))) (hs (Cond.exactly (.string "PatchVoices" 211) "java/lang/String") (by decide +kernel))
  refine ⟨fun k => if k = 0 then t0 else if k = 1 then t1 else if k = 2 then t2 else if k = 3 then t3 else if k = 92 then m92 else if k = 99 then m99 else if k = 109 then m109 else if k = 111 then m111 else if k = 146 then m146 else if k = 153 then m153 else if k = 156 then m156 else if k = 158 then m158 else if k = 164 then m164 else if k = 189 then m189 else if k = 200 then m200 else if k = 211 then m211 else 0, ⟨⟨u0, u1, zs _ rfl rfl⟩, pv_ST.of (hts _ (List.mem_of_getElem? (i := 785) (by decide +kernel))) (hs (Cond.isRef (.static "java/lang/Throwable" "UNASSIGNED_STACK" "[Ljava/lang/StackTraceElement;")) (by decide +kernel)) pv_A0n, pv_ST.of (hts _ (List.mem_of_getElem? (i := 787) (by decide +kernel))) (hs (Cond.isRef (.static "java/lang/Throwable" "SUPPRESSED_SENTINEL" "Ljava/util/List;")) (by decide +kernel)) pv_A0n, fun w hw => ?_, fun z hz => ?_⟩, pv_ZN0 hs⟩
  · simp only [pv_XW, List.mem_cons, List.not_mem_nil, or_false] at hw
    rcases hw with rfl | rfl | rfl | rfl | rfl | rfl
    · exact va_Nw.of rfl (hts _ (List.mem_of_getElem? (i := 760) (by decide +kernel)))
    · exact va_Nw.of rfl (hts _ (List.mem_of_getElem? (i := 828) (by decide +kernel)))
    · exact va_Nw.of rfl (hts _ (List.mem_of_getElem? (i := 906) (by decide +kernel)))
    · exact va_Nw.of rfl (hts _ (List.mem_of_getElem? (i := 762) (by decide +kernel)))
    · exact va_Nw.of rfl (hts _ (List.mem_of_getElem? (i := 764) (by decide +kernel)))
    · exact va_Nw.of rfl (hts _ (List.mem_of_getElem? (i := 766) (by decide +kernel)))
  · simp only [pv_MSG, List.mem_cons, List.not_mem_nil, or_false] at hz
    rcases hz with rfl | rfl | rfl | rfl | rfl | rfl | rfl | rfl | rfl | rfl | rfl | rfl
    · exact n92
    · exact n99
    · exact n109
    · exact n111
    · exact n146
    · exact n153
    · exact n156
    · exact n158
    · exact n164
    · exact n189
    · exact n200
    · exact n211
