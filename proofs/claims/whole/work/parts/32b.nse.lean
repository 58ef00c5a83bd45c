/-! A throw of NoSuchElementException: its constructor passes the message on by another pool number than the other exceptions' do. -/
theorem n_131 : Cond.initialized "java/util/NoSuchElementException" ∈ pv_TB := pv_mem (i := 131) (by decide +kernel) (by decide +kernel)
theorem n_793 : Cond.selects "java/util/NoSuchElementException" ⟨"java/lang/Throwable", "fillInStackTrace", "()Ljava/lang/Throwable;"⟩ ⟨"java/lang/Throwable", "fillInStackTrace", "()Ljava/lang/Throwable;"⟩ ∈ pv_TB := pv_mem (i := 793) (by decide +kernel) (by decide +kernel)
theorem n_1044 : Cond.classLink "PatchVoices" 209 "java/util/NoSuchElementException" ∈ pv_TB := pv_mem (i := 1044) (by decide +kernel) (by decide +kernel)
theorem n_1045 : Cond.instantiable "java/util/NoSuchElementException" 6 ∈ pv_TB := pv_mem (i := 1045) (by decide +kernel) (by decide +kernel)
theorem n_1047 : Cond.selects "java/util/NoSuchElementException" ⟨"java/lang/Throwable", "fillInStackTrace", "(I)Ljava/lang/Throwable;"⟩ ⟨"java/lang/Throwable", "fillInStackTrace", "(I)Ljava/lang/Throwable;"⟩ ∈ pv_TB := pv_mem (i := 1047) (by decide +kernel) (by decide +kernel)
theorem n_1048 : Cond.lays "java/util/NoSuchElementException" "java/lang/Throwable" "cause" "Ljava/lang/Throwable;" ∈ pv_TB := pv_mem (i := 1048) (by decide +kernel) (by decide +kernel)
theorem n_1049 : Cond.lays "java/util/NoSuchElementException" "java/lang/Throwable" "stackTrace" "[Ljava/lang/StackTraceElement;" ∈ pv_TB := pv_mem (i := 1049) (by decide +kernel) (by decide +kernel)
theorem n_1050 : Cond.lays "java/util/NoSuchElementException" "java/lang/Throwable" "suppressedExceptions" "Ljava/util/List;" ∈ pv_TB := pv_mem (i := 1050) (by decide +kernel) (by decide +kernel)
theorem n_1051 : Cond.lays "java/util/NoSuchElementException" "java/lang/Throwable" "detailMessage" "Ljava/lang/String;" ∈ pv_TB := pv_mem (i := 1051) (by decide +kernel) (by decide +kernel)
theorem n_1052 : Cond.lays "java/util/NoSuchElementException" "java/lang/Throwable" "backtrace" "Ljava/lang/Object;" ∈ pv_TB := pv_mem (i := 1052) (by decide +kernel) (by decide +kernel)
theorem n_1054 : Cond.methodLink "PatchVoices" 213 ⟨"java/util/NoSuchElementException", "<init>", "(Ljava/lang/String;)V"⟩ ∈ pv_TB := pv_mem (i := 1054) (by decide +kernel) (by decide +kernel)
theorem n_1055 : Cond.instanceMethod ⟨"java/util/NoSuchElementException", "<init>", "(Ljava/lang/String;)V"⟩ ∈ pv_TB := pv_mem (i := 1055) (by decide +kernel) (by decide +kernel)
theorem n_1056 : Cond.code ⟨"java/util/NoSuchElementException", "<init>", "(Ljava/lang/String;)V"⟩ prog_23_method_4_code 2 (Option.none : Option Jvm.ClassFile.FieldType) ∈ pv_TB := pv_mem (i := 1056) (by decide +kernel) (by decide +kernel)
theorem n_1057 : Cond.methodLink "java/util/NoSuchElementException" 13 ⟨"java/lang/RuntimeException", "<init>", "(Ljava/lang/String;)V"⟩ ∈ pv_TB := pv_mem (i := 1057) (by decide +kernel) (by decide +kernel)
theorem n_d0 : decode prog_23_method_4_code 0 = .ok (.aload_n 0, 1) := by decide +kernel
theorem n_d1 : decode prog_23_method_4_code 1 = .ok (.aload_n 1, 1) := by decide +kernel
theorem n_d2 : decode prog_23_method_4_code 2 = .ok (.invokespecial 13, 3) := by decide +kernel
theorem n_d5 : decode prog_23_method_4_code 5 = .ok (.return_, 1) := by decide +kernel
set_option maxRecDepth 100000 in
set_option maxHeartbeats 4000000 in
/-- what the constructor's chain needs: Throwable's words, the first link, the others' links, the exception's own words -/
theorem xa_NSE {args : Array Value} {s : State} {t : Nat → Nat} {A : Nat → Prop} (hts : ∀ w ∈ pv_TB, w.before args s = true) (hT : pv_ZT t A s) :
    (∀ w ∈ Bundle.throwableAtoms, w.before args s = true) ∧ (∀ w ∈ Bundle.throwableSAtoms, w.before args s = true) ∧ (∀ w ∈ Bundle.passSAtoms "java/util/NoSuchElementException" "java/lang/RuntimeException" 13 prog_23_method_4_code, w.before args s = true) ∧ (∀ w ∈ Bundle.chainSAtoms "java/lang/RuntimeException" ["java/lang/Exception"], w.before args s = true) := by
  have h := xa_IOOBE hts hT
  refine ⟨fun w hw => h w (by simp [Bundle.ownAtoms, hw]), fun w hw => h w (by simp [Bundle.ownAtoms, hw]), fun w hw => ?_, fun w hw => h w (by simp only [Bundle.ownAtoms, Bundle.chainSAtoms, List.mem_append] at hw ⊢; simp only [hw, true_or, or_true])⟩
  have hw : w ∈ ([Cond.instanceMethod ⟨"java/util/NoSuchElementException", "<init>", "(Ljava/lang/String;)V"⟩, Cond.code ⟨"java/util/NoSuchElementException", "<init>", "(Ljava/lang/String;)V"⟩ prog_23_method_4_code 2 none, Cond.methodLink "java/util/NoSuchElementException" 13 ⟨"java/lang/RuntimeException", "<init>", "(Ljava/lang/String;)V"⟩, Cond.instanceMethod ⟨"java/lang/RuntimeException", "<init>", "(Ljava/lang/String;)V"⟩, Cond.declares ⟨"java/lang/RuntimeException", "<init>", "(Ljava/lang/String;)V"⟩] : List Cond) := hw
  simp only [List.mem_cons, List.not_mem_nil, or_false] at hw
  rcases hw with rfl | rfl | rfl | rfl | rfl
  · exact hts _ n_1055
  · exact hts _ n_1056
  · exact hts _ n_1057
  · exact hts _ w_805
  · exact va_Nw.use rfl (hT.2.2.1 _ (List.mem_of_getElem? (i := 3) rfl))
section PVN
variable {p : Program} {l : Launch} {e : Env} {R : Room} {s : State} {m : MethodId} {args : Array Value} {below : List Frame} {meth : Method} {c : Code} {Q : State → Prop}
variable {cc : ByteArray} {pc nL : Nat} {ls : Array Slot} {own : String} {D : va_G} {cl : List vw_C} {tys : List (ClassId × FieldType)} {N : Nat} {a t : Nat → Nat} {A : Nat → Prop} {Z : State → Prop}
set_option maxHeartbeats 4000000 in
theorem pv_ctorNSE {V : State} {locs : List Loc} {cells slots : Nat} (X : Stand p l e R s m args below meth c V locs cells slots) (hexec : p.tables.exec = Jvm.exec) (htr : e.platform.stackTraces = false)
    (hown : s.vm.findClass "PatchVoices" = some m.cls) (hts : ∀ w ∈ pv_TB, w.before args s = true) (hT : pv_ZT t A s)
    (hlocs : ∀ x ∈ locs, ∀ cell, s.heap[x.base]? = some cell → cell.vm.isStatics = false)
    {b : Addr} {cX : ClassId} {kX : Class} (hfoundX : s.vm.findClass "java/util/NoSuchElementException" = some cX) (hkX : s.vm.classes[cX]? = some kX) (hcell : V.heap[b]? = some (freshCell cX kX)) (hnew : s.heap.size ≤ b)
    {msg : Value} (hmsg : msg.isRef = true)
    {g : JFrame} (hg : g.method = m) (hsize : g.locals.size = c.maxLocals) (hlocked : g.locked = none) (hentered : g.entered = []) {rest : List Value} (hstack : g.stack = msg :: .ref b :: .ref b :: rest)
    (hd6 : decode c.code g.pc = .ok (.invokespecial 213, 3)) (hd9 : decode c.code (g.pc + 3) = .ok (.athrow, 1)) (hout : ∀ x ∈ c.exceptionTable.toList, covers x (g.pc + 3) = false)
    (hRframes : 2 + 3 < R.frames) (hRlocals : 2 * g.monitorRoom + ((Value.ref b :: rest).map fun v => v.category).sum + (13 * (2 + 1) + 42) ≤ R.locals) (hlocks : meth.locks = false) :
    ∃ U : State, Steps p.tables e below (V.setTop g) U ∧ U.status = .running ∧ Ended U below (.threw b) ∧ s.WarmedH U.vm ∧ s.sameButNew ({ U with vm := s.vm } : State) locs cells slots ∧
      ∃ ce : Cell, U.heap[b]? = some ce ∧ ce.vm = .none ∧ s.vm.findClass "java/util/NoSuchElementException" = some ce.cls := by
  have howns : e.platform.frameOwnsMonitors = true := by rw [X.admits.platform]
  have hfin : e.platform.finalization = false := by rw [X.admits.platform]
  have hpl : e.platform.magicAccessors = ({} : Platform).magicAccessors := by rw [X.admits.platform]
  obtain ⟨xT, xS, xP, xC⟩ := xa_NSE hts hT
  obtain ⟨T, Z0, L, -, Y⟩ := ThrowableC.of_atoms (args := args) howns hfin hpl xT
  obtain ⟨Z, M, LZ, LM, hnZ⟩ := Init0T.ofS_atoms (args := args) hpl L Y xS
  obtain ⟨P0, L0, hP0m, hP0s⟩ := PassC.ofS_atoms (args := args) hpl (X := "java/util/NoSuchElementException") (Y := "java/lang/RuntimeException") (by decide) (by decide) n_d0 n_d1 n_d2 n_d5 xP
  obtain ⟨P1, Ps, hlen, L1, hL, hP1m, hlink1, hlink⟩ := Bundle.chainS (args := args) hpl hnZ ["java/lang/Exception"] "java/lang/RuntimeException" (by decide) (by decide) xC
  have hsup0 : P0.sup = P1.m := Option.some.inj (hP0s.symm.trans hP1m)
  have hfound : s.vm.findClass "java/util/NoSuchElementException" = some P0.m.cls := findClass_of_methodNamed hP0m
  cases Option.some.inj (hfoundX.symm.trans hfound)
  obtain ⟨c1, kX', hc1, hk, hord, -, -, hn6⟩ := Cond.instantiable_spec (hts _ n_1045)
  cases Option.some.inj (hc1.symm.trans hfound)
  cases Option.some.inj (hkX.symm.trans hk)
  have hsel0 : selectMethod e.platform s.vm P0.m.cls T.fill0 = .method T.fill0 := by
    obtain ⟨c2, r2, m2, q1, q2, q3, q4, -⟩ := Cond.selects_spec (hts _ n_1047)
    cases Option.some.inj (q1.symm.trans hfound)
    cases Option.some.inj (q2.symm.trans (State.methodFound?_of_named Y.fill0 (by decide)))
    cases Option.some.inj (q3.symm.trans Y.fill0)
    rw [Launch.admits_selectMethod X.admits]; exact q4
  have hselF : selectMethod e.platform s.vm P0.m.cls T.fill = .method T.fill := by
    obtain ⟨c2, r2, m2, q1, q2, q3, q4, -⟩ := Cond.selects_spec (hts _ n_793)
    cases Option.some.inj (q1.symm.trans hfound)
    cases Option.some.inj (q2.symm.trans (State.methodFound?_of_named Y.fill (by decide)))
    cases Option.some.inj (q3.symm.trans Y.fill)
    rw [Launch.admits_selectMethod X.admits]; exact q4
  obtain ⟨cellS0, hcS0, hiss⟩ := Y.statics
  obtain ⟨u0, hu0⟩ := Cond.staticRefV Y.unassigned L.unassignedStatic L.statics hcS0 hiss (hT.1.isRef (args := args))
  obtain ⟨sen, hsen⟩ := Cond.staticRefV Y.sentinel L.sentinelStatic L.statics hcS0 hiss (hT.2.1.isRef (args := args))
  obtain ⟨ci198, i198, fB, hk198, hg198, ha198, hsB, -, hnB, htB, hffB⟩ := Cond.ownField (t := .object "java/lang/Object") Y.found L.cls (by decide +kernel) (hts _ w_779) (hts _ w_778) e.platform hpl
  obtain ⟨cellS, hcS', heS, -, hkeep⟩ := X.same.2.2.2.2.2 T.aS cellS0 hcS0
  have hcellS : V.heap[T.aS]? = some cellS := hcS'
  have hout' : ∀ i, (⟨T.aS, i⟩ : Loc) ∉ locs := fun i hmem => by
    have := hlocs _ hmem cellS0 hcS0
    rw [hiss] at this; cases this
  have hknownS : cellS.vm ≠ .unknown := by
    rw [heS]; intro hu
    rw [show cellS0.vm = .unknown from hu] at hiss
    cases hiss
  have hneS : T.aS ≠ b := Nat.ne_of_lt (Nat.lt_of_lt_of_le (Array.getElem?_eq_some_iff.mp hcS0).1 hnew)
  obtain ⟨iM, hffM⟩ := Y.msg
  obtain ⟨tyC, dC, hdC, hdnC⟩ := Cond.laysAt hfound hk Y.cause (hts _ n_1048)
  obtain ⟨tyS, dS, hdS, hdnS⟩ := Cond.laysAt hfound hk Y.stack (hts _ n_1049)
  obtain ⟨tyP, dP, hdP, hdnP⟩ := Cond.laysAt hfound hk Y.supp (hts _ n_1050)
  obtain ⟨tyM, dM, hdM, hdnM⟩ := Cond.laysAt hfound hk hffM (hts _ n_1051)
  obtain ⟨tyB, dB, hdB, hdnB⟩ := Cond.laysAt hfound hk hffB (hts _ n_1052)
  have bC := Cond.laysApart hdB hdC hdnB hdnC (by rw [hnB, Y.causeName]; decide)
  have bS := Cond.laysApart hdB hdS hdnB hdnS (by rw [hnB, Y.stackName]; decide)
  have bP := Cond.laysApart hdB hdP hdnB hdnP (by rw [hnB, Y.suppName]; decide)
  have hskip : SkipFacts T e.platform s (fun u => u) u0 ((preparedCellV T.toThrowableT (freshCell P0.m.cls kX) b u0 sen).withEntry V.cur) :=
    ⟨{ ci198 := ci198, i198 := i198, fBack := fB }, ⟨hk198, hg198, ha198, hsB⟩, by
      have := fresh_default (c := P0.m.cls) tyB
      rw [htB] at this
      simpa [preparedCellV, Cell.setSlot, Cell.withEntry, Array.getElem?_setIfInBounds, bC, bS, bP, bC.symm, bS.symm, bP.symm, defaultValue] using this, fun _ _ => rfl⟩
  obtain ⟨tm, methC, cdC, kC, vm₁, hnC, -, -, -, -, -, -, -, hW₁, st1⟩ := Steps.initColdS (tb := p.tables) (e := e) (below := below) (s := s) (U := V) X.here hexec X.warmed hpl hown (t := Bundle.initS "java/util/NoSuchElementException") rfl rfl (by decide)
    (hts _ n_1054) (hts _ n_1055) (bytes := prog_23_method_4_code) (maxL := 2) (hts _ n_1056) (f := g) hg (a := b) (msg := msg) (rest := .ref b :: rest) hstack hd6
  cases Option.some.inj (hnC.symm.trans hP0m)
  have X₁ := X.noted hW₁
  obtain ⟨vm₂, X₂, st2⟩ := X₁.ctorMessageOffV hexec (g := { g with stack := .ref b :: rest }) hg hsize T L Z LZ M LM (P0 :: P1 :: Ps)
    (fun P hP => by
      rcases List.mem_cons.mp hP with rfl | hP
      · exact L0
      · rcases List.mem_cons.mp hP with rfl | hP
        · exact L1
        · exact hL P hP) ⟨hsup0, hlink1, hlink⟩ (u0 := u0) (sen := sen) (self := b) hmsg (cell := freshCell P0.m.cls kX) (cellS := cellS)
    hcell (fun _ => by simp) (by simp) rfl rfl hsel0 hselF hcellS hneS hknownS (by rw [hkeep _ (hout' _)]; exact hu0) (by rw [hkeep _ (hout' _)]; exact hsen)
    (Takes.of_laid hk hord tyC (by rw [Y.causeType]; rfl)) (Takes.of_laid hk hord tyS (by rw [Y.stackType]; exact fits_refV_array _ u0)) (Takes.of_laid hk hord tyP (by rw [Y.suppType]; exact fits_refV_object _ sen))
    (Takes.of_laid hk hord tyM (by rw [Y.msgType]; exact fits_refV_object _ ⟨msg, hmsg⟩)) Y.objLocals hskip htr [] hd6
    (by simp only [List.length_cons, hlen, List.length_nil]; omega) (by simp only [List.length_cons, hlen, List.length_nil]; exact hRlocals)
  obtain ⟨hwalk, hrun, hended, hWU, hsame⟩ := X₂.athrowLeaves hexec (g := { g with stack := .ref b :: rest, pc := g.pc + 3 }) hg hlocked hentered hout (a := b) (rest := rest) rfl hd9
  have hlt : b < ((V.setVm vm₁).setVm vm₂).heap.size := (Array.getElem?_eq_some_iff.mp hcell).1
  have hU := heapAt_setCell_self (s := (V.setVm vm₁).setVm vm₂) (plainBareV T.toThrowableT (freshCell P0.m.cls kX) b u0 sen msg) hlt
  refine ⟨_, st1 _ (fun acts => ?_), hrun, hended, hWU, hsame.weaken (fun y hy hlt' => ?_) (Nat.le_refl _) (Nat.le_refl _), _, hU, rfl, hfound⟩
  · rw [doInvoke_state]
    exact st2 _ hwalk
  · rcases List.mem_append.mp hy with h1 | h1
    · exact h1
    · exfalso
      have hb : y.base = b := by
        simp only [List.mem_cons, List.not_mem_nil, or_false] at h1
        rcases h1 with rfl | rfl | rfl | rfl | rfl <;> rfl
      rw [hb] at hlt'
      exact Nat.not_lt.mpr hnew hlt'
set_option maxHeartbeats 4000000 in
theorem pv_throwNSE (C : pv_C p s m args c cc nL "PatchVoices" pv_TB D cl tys N a A Z) (hfl : l.flags = Jvm.pinnedFlags ++ [Jvm.noTraceFlag]) (hlk : meth.locks = false) (hno : c.exceptionTable.isEmpty = true) {ix b : Nat} {tx : String}
    (hT : pv_ZT t A s) (hstr : vk_R "PatchVoices" ix tx b s) (hls : ls.size = nL) (hRf : 2 + 3 < R.frames) (hRl : 1 + (13 * (2 + 1) + 42) ≤ R.locals) (hRc : 1 ≤ R.cells) (hRs : 6 ≤ R.slots)
    (d0 : decode cc pc = .ok (.new 209, 3)) (d3 : decode cc (pc + 3) = .ok (.dup, 1)) (d4 : decode cc (pc + 3 + 1) = .ok (.ldc ix, 2)) (d6 : decode cc (pc + 3 + 1 + 2) = .ok (.invokespecial 213, 3)) (d9 : decode cc (pc + 3 + 1 + 2 + 3) = .ok (.athrow, 1))
    (hq : ∀ (t : State) (x : Addr), t.status = .running → Ended t below (.threw x) → s.WarmedH t.vm → s.sameButNew ({ t with vm := s.vm } : State) [] 1 6 → (∃ ce : Cell, t.heap[x]? = some ce ∧ ce.vm = .none ∧ s.vm.findClass "java/util/NoSuchElementException" = some ce.cls) → Q t) :
    W p l e R s m args below meth c s.heap [] 0 0 Q (F0 m pc ls []) := by
  obtain ⟨hx, hb, hml, hown, hts, hK, hD, hZ⟩ := C
  have hins := hts _ n_1045
  obtain ⟨cX, kX, hfc, hkX, -⟩ := Cond.instantiable_spec hins
  refine W.newcK hx hb hown (hts _ n_1044) hins (hts _ n_131) rfl d0 (by omega) (by omega) hfc rfl (fun H1 kC hkC e1 z1 o1 => ?_)
  refine W.eq (g2 := F0 m (pc + 3) ls [.ref s.heap.size]) rfl ?_
  refine lv_dup hx hb d3 rfl ?_
  refine va_ldcS hx hb hown hstr d4 ?_
  intro T hT1 X
  obtain ⟨U, hs, hrun, hend, hW, hsame, hce⟩ := pv_ctorNSE X hx (Launch.traces_off hfl X.admits) hown hts hT (fun x hx' => absurd hx' List.not_mem_nil) (b := s.heap.size) hfc hkC (by rw [hT1]; exact e1) (Nat.le_refl _)
    (msg := .ref b) rfl (g := F0 m (pc + 3 + 1 + 2) ls [.ref b, .ref s.heap.size, .ref s.heap.size]) rfl (hls.trans hml.symm) rfl rfl (rest := []) rfl (by rw [hb]; exact d6) (by rw [hb]; exact d9)
    (fun x hx' => by
      have h0 : c.exceptionTable = #[] := Array.isEmpty_iff.mp hno
      rw [h0] at hx'
      exact absurd hx' List.not_mem_nil) hRf (by show 2 * 0 + 1 + _ ≤ _; omega) hlk
  exact ⟨U, hs, hq U _ hrun hend hW hsame hce⟩
end PVN
