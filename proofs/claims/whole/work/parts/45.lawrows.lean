/-! The law's own rows: both worlds and the cell for answers. -/
theorem pv_ST.narrow {C n d : String} {A B : Nat → Prop} {U : State} (h : pv_ST C n d A U) (hAB : ∀ q, B q → A q) : pv_ST C n d B U := by
  obtain ⟨c, k, i, f, a, cell, v, h1, h2, h3, h4, h5, h6, h7, h8, h9, h10, h11, h12⟩ := h
  exact ⟨c, k, i, f, a, cell, v, h1, h2, h3, h4, h5, h6, h7, h8, h9, h10, h11, fun z => h12 (hAB a z)⟩
theorem pv_ZX.narrow {t : Nat → Nat} {A B : Nat → Prop} {U : State} (h : pv_ZX t A U) (hAB : ∀ q, B q → A q) : pv_ZX t B U :=
  ⟨⟨h.1.1.narrow hAB, h.1.2.narrow hAB⟩, ⟨h.2.1.1.narrow hAB, h.2.1.2.narrow hAB⟩, h.2.2.narrow hAB⟩
theorem pv_ZH.narrow {t : Nat → Nat} {A B : Nat → Prop} {U : State} (h : pv_ZH t A U) (hAB : ∀ q, B q → A q) : pv_ZH t B U :=
  ⟨⟨h.1.1.narrow hAB, h.1.2.1.narrow hAB, h.1.2.2.1.narrow hAB, h.1.2.2.2⟩, h.2⟩
def pv_AX (n : Nat) (a : Nat → Nat) : Nat → Prop := fun q => ∃ k, k < n ∧ q = a k
def pv_A0 (s : State) : Nat → Prop := fun q => s.heap.size ≤ q
/-- the addresses of the law's objects: apart, and new -/
def pv_LD (a a' : Nat → Nat) (b sz : Nat) : Prop :=
  (∀ i j, i < 52 → j < 52 → a i = a j → i = j) ∧ (∀ i j, i < 36 → j < 36 → a' i = a' j → i = j) ∧ (∀ i j, i < 52 → j < 36 → a i ≠ a' j) ∧ (∀ i, i < 52 → a i ≠ b) ∧ (∀ j, j < 36 → a' j ≠ b) ∧ (∀ i, i < 52 → sz ≤ a i) ∧ (∀ j, j < 36 → sz ≤ a' j) ∧ sz ≤ b
/-- both worlds, and the cell -/
def pv_V (D : va_G) (q : Nat → ClassId) (a a' : Nat → Nat) (b : Nat) (σx σm : pv_S) (f : Nat → Int64) (H : Heap) : Prop :=
  pv_W D pv_cl 52 a (pv_FX q a) σx H ∧ pv_W D pv_cl 36 a' (pv_FM q a') σm H ∧ va_P D pv_cl (pv_O b (q 3) f) H
def pv_LC (p : Program) (s : State) (m : MethodId) (args : Array Value) (c : Code) (D : va_G) (q : Nat → ClassId) (a a' : Nat → Nat) (b : Nat) (t : Nat → Nat) : Prop :=
  CallFix p m c code 7 s args pv_TB "PatchVoicesLaw" ∧ va_K D pv_cl (pv_ty q) s ∧ pv_ZH t (pv_A0 s) s ∧ pv_LD a a' b s.heap.size
theorem pv_LD.x {a a' : Nat → Nat} {b sz : Nat} (h : pv_LD a a' b sz) : pv_D 52 a (pv_AX 52 a) := ⟨h.1, fun k hk => ⟨k, hk, rfl⟩⟩
theorem pv_LD.m {a a' : Nat → Nat} {b sz : Nat} (h : pv_LD a a' b sz) : pv_D 36 a' (pv_AX 36 a') := ⟨h.2.1, fun k hk => ⟨k, hk, rfl⟩⟩
theorem pv_LD.bx {a a' : Nat → Nat} {b sz : Nat} (h : pv_LD a a' b sz) : ¬ pv_AX 52 a b := fun ⟨k, hk, e⟩ => h.2.2.2.1 k hk e.symm
theorem pv_LD.bm {a a' : Nat → Nat} {b sz : Nat} (h : pv_LD a a' b sz) : ¬ pv_AX 36 a' b := fun ⟨k, hk, e⟩ => h.2.2.2.2.1 k hk e.symm
theorem pv_LD.x0 {s : State} {a a' : Nat → Nat} {b : Nat} (h : pv_LD a a' b s.heap.size) : ∀ q, pv_AX 52 a q → pv_A0 s q := fun q ⟨k, hk, e⟩ => by rw [e]; exact h.2.2.2.2.2.1 k hk
theorem pv_LD.m0 {s : State} {a a' : Nat → Nat} {b : Nat} (h : pv_LD a a' b s.heap.size) : ∀ q, pv_AX 36 a' q → pv_A0 s q := fun q ⟨k, hk, e⟩ => by rw [e]; exact h.2.2.2.2.2.2.1 k hk
/-- a world of which nothing was written -/
theorem pv_Wkept {D : va_G} {cl : List vw_C} {N : Nat} {a : Nat → Nat} {F : pv_F} {σ : pv_S} {H H1 : Heap} {A : Nat → Prop} (hP : pv_W D cl N a F σ H) (hn : ∀ k, k < N → ¬ A (a k)) (h : ∀ q : Nat, q < H.size → ¬ A q → H1[q]? = H[q]?) : pv_W D cl N a F σ H1 :=
  va_P.kept hP (fun k q hk => by
    have hl := (hP k q hk).lt
    obtain ⟨h1, rfl⟩ := pv_of hk
    exact h _ hl (hn k h1))
section PVL
variable {p : Program} {l : Launch} {e : Env} {R : Room} {s : State} {m : MethodId} {args : Array Value} {below : List Frame} {meth : Method} {c : Code} {H : Heap} {locs : List Loc} {cells slots : Nat} {Q : State → Prop}
variable {cc bytes : ByteArray} {pc nL maxL n ix mc ms : Nat} {ls : Array Slot} {rest st0 As av : List Value} {own Cn : String} {Ts : List Cond} {D : va_G} {cl : List vw_C} {tys : List (ClassId × FieldType)} {N : Nat} {a a' t : Nat → Nat} {A A0 : Nat → Prop} {F : pv_F} {σ σx σm : pv_S} {Z : State → Prop} {rm : Room} {y : MethodName} {ret : Option FieldType} {b : Nat} {q : Nat → ClassId} {f : Nat → Int64}
theorem pv_goW {v0 : Option Value} {Pst : Heap → Prop} {Qa : State → Outcome → State → Prop} (hr : va_Run p l e R s m args below meth c H locs cells slots mc ms (F0 m pc ls st0) rest Qa A) (hQ : ∀ st oc t, Qa st oc t → oc = .returned v0 ∧ Pst t.heap ∧ va_F A st t) (hS : va_S A0 s.heap H locs) (hA : ∀ q, A q → A0 q)
    (kk : ∀ (H1 : Heap) (locs1 : List Loc), Pst H1 → (∀ q : Nat, q < H.size → ¬ A q → H1[q]? = H[q]?) → va_S A0 s.heap H1 locs1 → W p l e R s m args below meth c H1 locs1 (cells + mc) (slots + ms) Q (F0 m (pc + 3) ls (v0.toList ++ rest))) : W p l e R s m args below meth c H locs cells slots Q (F0 m pc ls st0) := by
  intro T hT X
  obtain ⟨v, st₀, t, T', L, h0, X', hL, e1, e2, hq, st⟩ := hr T hT X
  obtain ⟨hv, hp, hz, hk⟩ := hQ _ _ _ hq
  cases hv
  rw [h0] at hz hk
  obtain ⟨t2, a1, b1⟩ := kk T'.heap (locs ++ L) (by rw [e1]; exact hp) (fun q h1 h2 => by rw [e1]; exact hk q h1 h2) ⟨Nat.le_trans hS.1 (by rw [e1]; exact hz), fun q h1 h2 => by rw [e1, hk q (Nat.lt_of_lt_of_le h1 hS.1) (fun h => h2 (hA q h))]; exact hS.2.1 q h1 h2, fun q hq => by
      rcases List.mem_append.mp hq with h | h
      · exact hS.2.2 q h
      · exact hA _ (hL q h)⟩ T' rfl X'
  exact ⟨t2, st t2 a1, b1⟩
/-- a call of a method that is selected by its receiver's class -/
theorem pv_lawV (S : CallFix p m c cc nL s args Ts own) (hK : va_K D cl tys s) (hmv : pv_mv A Z) (hg : ∀ w ∈ Ts, goodWord w = true) (hZ : ∀ U : State, U.heap = H → s.WarmedH U.vm → Z U) (hP : pv_W D cl N a F σ H) (hS : va_S A0 s.heap H locs) (hA : ∀ q, A q → A0 q) {k ci : Nat} {fs : List Value} {T : u_T} {nn : Nat} {v0 : Option Value} {Pst : Heap → Prop} {Qc : Array Value → State → Outcome → State → Prop} (hk : k < N) (he : F k (σ.1 k) (σ.2 k) = .inr (ci, fs)) (hc : cl[ci]? = some (Cn, T, nn))
    (hM : Met l y (Cond.code y bytes maxL ret :: Ts) rm (va_Pc (.ref (a k) :: As) (fun U => pv_W D cl N a F σ U.heap ∧ va_K D cl tys U ∧ Z U)) Qc mc ms A) (hQ : ∀ v st oc t, Qc v st oc t → oc = .returned v0 ∧ Pst t.heap ∧ va_F A st t) (cw : pv_CV Ts own Cn ix y bytes maxL ret n) (hR : rm.cells = mc ∧ rm.slots = ms ∧ rm.frames + 1 ≤ R.frames ∧ 8 + (maxL + 11) + rm.locals ≤ R.locals)
    (hn : As.length = n) (hl : ls.size = nL) (hst : st0 = As.reverse ++ .ref (a k) :: rest) (hW : (rest.map fun v => v.category).sum ≤ 8) (hdg : decode cc pc = .ok (.invokevirtual ix, 3)) (hf : cells + mc ≤ R.cells ∧ slots + ms ≤ R.slots)
    (kk : ∀ (H1 : Heap) (locs1 : List Loc), Pst H1 → (∀ q : Nat, q < H.size → ¬ A q → H1[q]? = H[q]?) → va_S A0 s.heap H1 locs1 → W p l e R s m args below meth c H1 locs1 (cells + mc) (slots + ms) Q (F0 m (pc + 3) ls (v0.toList ++ rest))) : W p l e R s m args below meth c H locs cells slots Q (F0 m pc ls st0) :=
  pv_goW (va_runV S hM (pv_cwX S.2.2.2.2 hg cw hR.1 hR.2.1 hR.2.2) ⟨pv_blind hmv, va_recv hK hP hc ((pv_at hk).trans (by rw [he])), fun U hU hW => ⟨rfl, by rw [hU]; exact hP, va_K.moved hW.alike hK, hZ U hU hW⟩⟩ rfl hn hl hst (lv_room hW) hdg hf) (fun st oc t => hQ _ st oc t) hS hA kk
/-- the words of a call of a static method with handlers -/
def pv_CSW (Ts : List Cond) (own : String) (ix : Nat) (y : MethodName) (bytes : ByteArray) (maxL : Nat) (ret : Option FieldType) (hh : List (Nat × Nat × Nat × Nat)) (n : Nat) : Prop :=
  (y.cls ≠ "java/lang/invoke/MethodHandle" ∧ y.cls ≠ "java/lang/invoke/VarHandle" ∧ (parseMethodDescriptor y.desc).map (fun d => d.parameters.length) = some n) ∧ Cond.methodLink own ix y ∈ Ts ∧ Cond.static y ∈ Ts ∧ Cond.initialized y.cls ∈ Ts ∧ Cond.codeWith y bytes maxL ret hh ∈ Ts
theorem pv_runSW (S : CallFix p m c cc nL s args Ts own) (hg : ∀ w ∈ Ts, goodWord w = true) {hh : List (Nat × Nat × Nat × Nat)} {Pc : Array Value → State → Prop} {Qc : Array Value → State → Outcome → State → Prop} {free : Addr → Prop} (hM : Met l y (Cond.codeWith y bytes maxL ret hh :: Ts) rm Pc Qc mc ms free) (cw : pv_CSW Ts own ix y bytes maxL ret hh n) (hR : rm.cells = mc ∧ rm.slots = ms ∧ rm.frames + 1 ≤ R.frames ∧ 8 + (maxL + 11) + rm.locals ≤ R.locals) (hp : PreS s H Pc As) {g : JFrame}
    (hgm : g.method = m) (hn : As.length = n) (hsize : g.locals.size = nL) (hstack : g.stack = As.reverse ++ rest) (hW : 2 * g.monitorRoom + (rest.map fun v => v.category).sum ≤ 8) (hdg : decode cc g.pc = .ok (.invokestatic ix, 3)) (hf : cells + mc ≤ R.cells ∧ slots + ms ≤ R.slots) :
    va_Run p l e R s m args below meth c H locs cells slots mc ms g rest (Qc As.toArray) free := by
  obtain ⟨⟨y1, y2, hd⟩, c1, c2, c3, c4⟩ := cw
  have hG : GoodIn Ts (Cond.codeWith y bytes maxL ret hh :: Ts) := pv_goodIn hg (fun w hw => by
    rcases List.mem_cons.mp hw with rfl | h
    · exact c4
    · exact h)
  have hws := pay_in S.2.2.2.2 hG
  have hK : Back l R p e below s args y 3 8 (PreOf R mc ms Pc) (PostOf Qc mc ms free) := va_backW (hh := hh) (bytes := bytes) (maxL := maxL) (ret := ret) hM hp.1 hR.1 hR.2.1 hR.2.2.1 hR.2.2.2 hws List.mem_cons_self (fun a' U hW => hws _ (List.mem_cons_of_mem _ c3) a' U hW)
  obtain ⟨hx, hb, hml, ho, ht⟩ := S
  obtain ⟨mk, methM, cM, hnamed, hmethM, -, -, -, -, -, -, hsigM⟩ := Cond.codeWith_spec (ht _ c4)
  have hstatic : methM.isStatic = true := Cond.static_spec hnamed hmethM (ht _ c2)
  obtain ⟨kP, hkP, -⟩ := className_of_methodNamed hnamed
  have hinitP : kP.init = .initialized := Cond.initialized_spec (findClass_of_methodNamed hnamed) hkP (ht _ c3)
  have hlen : As.length = methM.sig.parameters.length := by
    rw [hsigM] at hd
    exact hn.trans (Option.some.inj hd).symm
  intro T hT X
  obtain ⟨vm₁, X₁, hstep₁⟩ := X.invokestatic hx ho (ht _ c1) hnamed hmethM hstatic hkP hinitP ⟨y1, y2⟩ (g := g) hgm (argsL := As) (rest := rest) hlen hstack (by rw [hb]; exact hdg)
  obtain ⟨v, ⟨U', l2, c2', s2⟩, X', ⟨g', mk', t, L, e1, e2, hq, h1, hL, h2, h3⟩, hsteps⟩ := hK m meth c ⟨T.setVm vm₁, locs, cells, slots⟩ { g with stack := rest } (.invokestatic ix) mk As.toArray X₁ hgm (hsize.trans hml.symm) (by rw [hb]; exact hdg) hW (X₁.named hnamed) ⟨hf.1, hf.2, hp.2 (T.setVm vm₁) hT X₁.warmed⟩
  dsimp only [Pt.U, Pt.locs, Pt.cells, Pt.slots] at X' e1 e2 h1 h2 h3 hsteps
  subst h1; subst h2; subst h3
  exact ⟨v, (T.setVm vm₁).calling g' mk' As.toArray, t, U', L, hT, X', hL, e1, e2, hq, fun target h => hstep₁ _ fun acts => by rw [doInvoke_state]; exact hsteps.trans h⟩
theorem pv_lXi (C : pv_LC p s m args c D q a a' b t) (hV : pv_V D q a a' b σx σm f H) (hS : va_S (pv_A0 s) s.heap H locs) {out : Int32 × pv_S} (hM : pv_Mi l y (Cond.code y bytes maxL ret :: pv_TB) rm D pv_cl (pv_ty q) 52 a (pv_FX q a) (pv_AX 52 a) (pv_ZX t (pv_AX 52 a)) (.ref (a 0) :: As) σx out) (cw : pv_CV pv_TB "PatchVoicesLaw" "PatchVoices" ix y bytes maxL ret n) (hR : rm.cells = 0 ∧ rm.slots = 0 ∧ rm.frames + 1 ≤ R.frames ∧ 8 + (maxL + 11) + rm.locals ≤ R.locals) (hn : As.length = n) (hl : ls.size = 7) (hst : st0 = As.reverse ++ .ref (a 0) :: rest) (hW : (rest.map fun v => v.category).sum ≤ 8) (hdg : decode code pc = .ok (.invokevirtual ix, 3)) (hf : cells ≤ R.cells ∧ slots ≤ R.slots)
    (kk : ∀ (H1 : Heap) (locs1 : List Loc), pv_V D q a a' b out.2 σm f H1 → va_S (pv_A0 s) s.heap H1 locs1 → W p l e R s m args below meth c H1 locs1 cells slots Q (F0 m (pc + 3) ls (.int out.1 :: rest))) : W p l e R s m args below meth c H locs cells slots Q (F0 m pc ls st0) :=
  pv_lawV C.1 C.2.1 pv_mvX pv_good (fun U hU hW => ((pv_mvH s U H locs C.2.2.1 hS hU hW).narrow C.2.2.2.x0).1.1) hV.1 hS C.2.2.2.x0 (by decide) (fx_0 _ _ _ _) rfl hM (v0 := some (.int out.1)) (Pst := fun H => pv_W D pv_cl 52 a (pv_FX q a) out.2 H) (fun _ _ _ _ h => ⟨h.1.1, h.1.2, h.2⟩) cw hR hn hl hst hW hdg hf
    (fun H1 locs1 h1 h2 h3 => kk H1 locs1 ⟨h1, pv_Wkept hV.2.1 (fun k hk ⟨j, hj, e⟩ => C.2.2.2.2.2.1 j k hj hk e.symm) h2, pv_O_kept hV.2.2 (h2 b (pv_O_lt hV.2.2) C.2.2.2.bx)⟩ h3)
theorem pv_lXv (C : pv_LC p s m args c D q a a' b t) (hV : pv_V D q a a' b σx σm f H) (hS : va_S (pv_A0 s) s.heap H locs) {out : pv_S} (hM : pv_Mv l y (Cond.code y bytes maxL ret :: pv_TB) rm D pv_cl (pv_ty q) 52 a (pv_FX q a) (pv_AX 52 a) (pv_ZX t (pv_AX 52 a)) (.ref (a 0) :: As) σx out) (cw : pv_CV pv_TB "PatchVoicesLaw" "PatchVoices" ix y bytes maxL ret n) (hR : rm.cells = 0 ∧ rm.slots = 0 ∧ rm.frames + 1 ≤ R.frames ∧ 8 + (maxL + 11) + rm.locals ≤ R.locals) (hn : As.length = n) (hl : ls.size = 7) (hst : st0 = As.reverse ++ .ref (a 0) :: rest) (hW : (rest.map fun v => v.category).sum ≤ 8) (hdg : decode code pc = .ok (.invokevirtual ix, 3)) (hf : cells ≤ R.cells ∧ slots ≤ R.slots)
    (kk : ∀ (H1 : Heap) (locs1 : List Loc), pv_V D q a a' b out σm f H1 → va_S (pv_A0 s) s.heap H1 locs1 → W p l e R s m args below meth c H1 locs1 cells slots Q (F0 m (pc + 3) ls rest)) : W p l e R s m args below meth c H locs cells slots Q (F0 m pc ls st0) :=
  pv_lawV C.1 C.2.1 pv_mvX pv_good (fun U hU hW => ((pv_mvH s U H locs C.2.2.1 hS hU hW).narrow C.2.2.2.x0).1.1) hV.1 hS C.2.2.2.x0 (by decide) (fx_0 _ _ _ _) rfl hM (v0 := none) (Pst := fun H => pv_W D pv_cl 52 a (pv_FX q a) out H) (fun _ _ _ _ h => ⟨h.1.1, h.1.2, h.2⟩) cw hR hn hl hst hW hdg hf
    (fun H1 locs1 h1 h2 h3 => kk H1 locs1 ⟨h1, pv_Wkept hV.2.1 (fun k hk ⟨j, hj, e⟩ => C.2.2.2.2.2.1 j k hj hk e.symm) h2, pv_O_kept hV.2.2 (h2 b (pv_O_lt hV.2.2) C.2.2.2.bx)⟩ h3)
theorem pv_lMi (C : pv_LC p s m args c D q a a' b t) (hV : pv_V D q a a' b σx σm f H) (hS : va_S (pv_A0 s) s.heap H locs) {out : Int32 × pv_S} (hM : pv_Mi l y (Cond.code y bytes maxL ret :: pv_TB) rm D pv_cl (pv_ty q) 36 a' (pv_FM q a') (pv_AX 36 a') pv_ZM (.ref (a' 0) :: As) σm out) (cw : pv_CV pv_TB "PatchVoicesLaw" "PatchVoicesModel" ix y bytes maxL ret n) (hR : rm.cells = 0 ∧ rm.slots = 0 ∧ rm.frames + 1 ≤ R.frames ∧ 8 + (maxL + 11) + rm.locals ≤ R.locals) (hn : As.length = n) (hl : ls.size = 7) (hst : st0 = As.reverse ++ .ref (a' 0) :: rest) (hW : (rest.map fun v => v.category).sum ≤ 8) (hdg : decode code pc = .ok (.invokevirtual ix, 3)) (hf : cells ≤ R.cells ∧ slots ≤ R.slots)
    (kk : ∀ (H1 : Heap) (locs1 : List Loc), pv_V D q a a' b σx out.2 f H1 → va_S (pv_A0 s) s.heap H1 locs1 → W p l e R s m args below meth c H1 locs1 cells slots Q (F0 m (pc + 3) ls (.int out.1 :: rest))) : W p l e R s m args below meth c H locs cells slots Q (F0 m pc ls st0) :=
  pv_lawV C.1 C.2.1 pv_mvM pv_good (fun U hU hW => trivial) hV.2.1 hS C.2.2.2.m0 (by decide) (fm_0 _ _ _ _) rfl hM (v0 := some (.int out.1)) (Pst := fun H => pv_W D pv_cl 36 a' (pv_FM q a') out.2 H) (fun _ _ _ _ h => ⟨h.1.1, h.1.2, h.2⟩) cw hR hn hl hst hW hdg hf
    (fun H1 locs1 h1 h2 h3 => kk H1 locs1 ⟨pv_Wkept hV.1 (fun k hk ⟨j, hj, e⟩ => C.2.2.2.2.2.1 k j hk hj e) h2, h1, pv_O_kept hV.2.2 (h2 b (pv_O_lt hV.2.2) C.2.2.2.bm)⟩ h3)
theorem pv_lMv (C : pv_LC p s m args c D q a a' b t) (hV : pv_V D q a a' b σx σm f H) (hS : va_S (pv_A0 s) s.heap H locs) {out : pv_S} (hM : pv_Mv l y (Cond.code y bytes maxL ret :: pv_TB) rm D pv_cl (pv_ty q) 36 a' (pv_FM q a') (pv_AX 36 a') pv_ZM (.ref (a' 0) :: As) σm out) (cw : pv_CV pv_TB "PatchVoicesLaw" "PatchVoicesModel" ix y bytes maxL ret n) (hR : rm.cells = 0 ∧ rm.slots = 0 ∧ rm.frames + 1 ≤ R.frames ∧ 8 + (maxL + 11) + rm.locals ≤ R.locals) (hn : As.length = n) (hl : ls.size = 7) (hst : st0 = As.reverse ++ .ref (a' 0) :: rest) (hW : (rest.map fun v => v.category).sum ≤ 8) (hdg : decode code pc = .ok (.invokevirtual ix, 3)) (hf : cells ≤ R.cells ∧ slots ≤ R.slots)
    (kk : ∀ (H1 : Heap) (locs1 : List Loc), pv_V D q a a' b σx out f H1 → va_S (pv_A0 s) s.heap H1 locs1 → W p l e R s m args below meth c H1 locs1 cells slots Q (F0 m (pc + 3) ls rest)) : W p l e R s m args below meth c H locs cells slots Q (F0 m pc ls st0) :=
  pv_lawV C.1 C.2.1 pv_mvM pv_good (fun U hU hW => trivial) hV.2.1 hS C.2.2.2.m0 (by decide) (fm_0 _ _ _ _) rfl hM (v0 := none) (Pst := fun H => pv_W D pv_cl 36 a' (pv_FM q a') out H) (fun _ _ _ _ h => ⟨h.1.1, h.1.2, h.2⟩) cw hR hn hl hst hW hdg hf
    (fun H1 locs1 h1 h2 h3 => kk H1 locs1 ⟨pv_Wkept hV.1 (fun k hk ⟨j, hj, e⟩ => C.2.2.2.2.2.1 k j hk hj e) h2, h1, pv_O_kept hV.2.2 (h2 b (pv_O_lt hV.2.2) C.2.2.2.bm)⟩ h3)
theorem pv_lH (C : pv_LC p s m args c D q a a' b t) (hV : pv_V D q a a' b σx σm f H) (hS : va_S (pv_A0 s) s.heap H locs) {r : Int32} {σ' : pv_S} {f' : Nat → Int64} {hh : List (Nat × Nat × Nat × Nat)} (hM : pv_Mh l y (Cond.codeWith y bytes maxL (some .int) hh :: pv_TB) rm D pv_cl (pv_ty q) 52 a (pv_FX q a) (pv_AX 52 a) (pv_ZH t (pv_AX 52 a)) b (q 3) As σx f r σ' f') (cw : pv_CSW pv_TB "PatchVoicesLaw" ix y bytes maxL (some .int) hh n) (hR : rm.cells = 1 ∧ rm.slots = 6 ∧ rm.frames + 1 ≤ R.frames ∧ 8 + (maxL + 11) + rm.locals ≤ R.locals) (hn : As.length = n) (hl : ls.size = 7) (hst : st0 = As.reverse ++ rest) (hW : (rest.map fun v => v.category).sum ≤ 8) (hdg : decode code pc = .ok (.invokestatic ix, 3)) (hf : cells + 1 ≤ R.cells ∧ slots + 6 ≤ R.slots)
    (kk : ∀ (H1 : Heap) (locs1 : List Loc), pv_V D q a a' b σ' σm f' H1 → va_S (pv_A0 s) s.heap H1 locs1 → W p l e R s m args below meth c H1 locs1 (cells + 1) (slots + 6) Q (F0 m (pc + 3) ls (.int r :: rest))) : W p l e R s m args below meth c H locs cells slots Q (F0 m pc ls st0) := by
  have hA : ∀ z, pv_AH (pv_AX 52 a) b z → pv_A0 s z := fun z hz => by
    rcases hz with h | h
    · exact C.2.2.2.x0 z h
    · rw [h]; exact C.2.2.2.2.2.2.2.2.2.2
  have hbl : FrameBlind (va_Pc As (fun U => (pv_W D pv_cl 52 a (pv_FX q a) σx U.heap ∧ va_P D pv_cl (pv_O b (q 3) f) U.heap) ∧ va_K D pv_cl (pv_ty q) U ∧ pv_ZH t (pv_AX 52 a) U)) := by
    intro a9 U g mk z
    obtain ⟨z0, zP, zK, zZ⟩ := z
    exact ⟨z0, zP, va_K.moved (u := U) (U := U.calling g mk a9) (Vm.Alike.refl U.vm) zK, pv_mvH U (U.calling g mk a9) U.heap [] zZ va_S.rf rfl (State.WarmedH.refl U)⟩
  refine pv_goW (pv_runSW C.1 pv_good hM cw hR ⟨hbl, fun U hU hW => ⟨rfl, ⟨by rw [hU]; exact hV.1, by rw [hU]; exact hV.2.2⟩, va_K.moved hW.alike C.2.1, (pv_mvH s U H locs C.2.2.1 hS hU hW).narrow C.2.2.2.x0⟩⟩ rfl hn hl hst (lv_room hW) hdg hf) (v0 := some (.int r)) (Pst := fun H => pv_W D pv_cl 52 a (pv_FX q a) σ' H ∧ va_P D pv_cl (pv_O b (q 3) f') H) (fun _ _ _ h => ⟨h.1, h.2.1, h.2.2⟩) hS hA (fun H1 locs1 h1 h2 h3 => kk H1 locs1 ⟨h1.1, pv_Wkept hV.2.1 (fun k hk h => ?_) h2, h1.2⟩ h3)
  rcases h with ⟨j, hj, e⟩ | h
  · exact C.2.2.2.2.2.1 j k hj hk e.symm
  · exact C.2.2.2.2.2.2.2.1 k hk h
end PVL
