/-! Contracts of methods that may throw; of methods that only read. -/
abbrev pv_X : Type := (Int32 × pv_S) ⊕ (Nat × pv_S)
def pv_xn : Nat → String
  | 0 => "java/lang/IndexOutOfBoundsException"
  | 1 => "java/lang/IllegalArgumentException"
  | 2 => "java/lang/IllegalStateException"
  | _ => "java/util/NoSuchElementException"
/-- how such a method ends: it returned (rv: its answer's value), or threw the exception number k.1 -/
def pv_Qx (D : va_G) (cl : List vw_C) (N : Nat) (a : Nat → Nat) (F : pv_F) (A : Nat → Prop) (rv : Int32 → Option Value) (out : pv_X) (st : State) (oc : Outcome) (t : State) : Prop :=
  (∃ r : Int32 × pv_S, out = .inl r ∧ oc = .returned (rv r.1) ∧ pv_W D cl N a F r.2 t.heap ∧ va_F A st t ∧ ∃ L, FrameEnd st oc t L 0 0 ∧ ∀ q ∈ L, A q.base) ∨
  (∃ (k : Nat × pv_S) (x : Addr), out = .inr k ∧ oc = .threw x ∧ pv_W D cl N a F k.2 t.heap ∧ va_F A st t ∧ st.WarmedH t.vm ∧ st.sameButNew ({ t with vm := st.vm } : State) [] 1 6 ∧ ∃ ce : Cell, t.heap[x]? = some ce ∧ ce.vm = .none ∧ st.vm.findClass (pv_xn k.1) = some ce.cls)
def pv_Mx (l : Launch) (y : MethodName) (ws : List Cond) (rm : Room) (D : va_G) (cl : List vw_C) (tys : List (ClassId × FieldType)) (N : Nat) (a : Nat → Nat) (F : pv_F) (A : Nat → Prop) (Z : State → Prop) (rv : Int32 → Option Value) (av : List Value) (σ : pv_S) (out : pv_X) : Prop :=
  MetFree l y (headSpec ws rm) (va_Pc av (fun U => pv_W D cl N a F σ U.heap ∧ va_K D cl tys U ∧ Z U)) (fun _ _ _ _ _ => True) (fun _ st o t => pv_Qx D cl N a F A rv out st o t)
theorem pv_Wmono {p : Program} {l : Launch} {e : Env} {R : Room} {s : State} {m : MethodId} {args : Array Value} {below : List Frame} {meth : Method} {c : Code} {H : Heap} {locs : List Loc} {cells slots : Nat} {Q Q' : State → Prop} {g : JFrame} (h : ∀ t, Q t → Q' t) (k : W p l e R s m args below meth c H locs cells slots Q g) : W p l e R s m args below meth c H locs cells slots Q' g := by
  intro T hT X
  obtain ⟨t, h1, h2⟩ := k T hT X
  exact ⟨t, h1, h t h2⟩
/-- nothing old was written: the old cells are as they were -/
theorem pv_same {s t : State} {k n : Nat} (h : s.sameButNew ({ t with vm := s.vm } : State) [] k n) : s.heap.size ≤ t.heap.size ∧ ∀ q : Nat, q < s.heap.size → t.heap[q]? = s.heap[q]? := by
  obtain ⟨-, h2, -, -, -, h6⟩ := h
  refine ⟨h2, fun q hq => ?_⟩
  obtain ⟨cell, hc⟩ : ∃ cell, s.heap[q]? = some cell := ⟨_, Array.getElem?_eq_getElem hq⟩
  obtain ⟨cell', h7, h8, h9, h10⟩ := h6 q cell hc
  have e : cell'.slots = cell.slots := by
    apply Array.ext_getElem?
    intro i
    exact h10 i List.not_mem_nil
  have h7' : t.heap[q]? = some cell' := h7
  rw [h7', hc, h8, e]
theorem pv_keep {D : va_G} {cl : List vw_C} {N : Nat} {a : Nat → Nat} {F : pv_F} {σ : pv_S} {H H1 : Heap} (hP : pv_W D cl N a F σ H) (h : ∀ q : Nat, q < H.size → H1[q]? = H[q]?) : pv_W D cl N a F σ H1 :=
  va_P.kept hP (fun k q hk => h q.1 (hP k q hk).lt)
section PVX
variable {l : Launch} {cc : ByteArray} {maxL : Nat} {av : List Value} {Ts : List Cond} {D : va_G} {cl : List vw_C} {tys : List (ClassId × FieldType)} {N : Nat} {a : Nat → Nat} {A : Nat → Prop} {F : pv_F} {σ : pv_S} {Z : State → Prop} {rm : Room} {y : MethodName} {ret : Option FieldType} {rv : Int32 → Option Value}
/-- the end of a throw -/
def pv_Rt (below : List Frame) (s : State) (D : va_G) (cl : List vw_C) (N : Nat) (a : Nat → Nat) (F : pv_F) (Q : State → Prop) (out : pv_X) : Prop :=
  ∀ (k : Nat) (σ : pv_S), out = .inr (k, σ) → pv_W D cl N a F σ s.heap → ∀ (t : State) (x : Addr), t.status = .running → Ended t below (.threw x) → s.WarmedH t.vm → s.sameButNew ({ t with vm := s.vm } : State) [] 1 6 → (∃ ce : Cell, t.heap[x]? = some ce ∧ ce.vm = .none ∧ s.vm.findClass (pv_xn k) = some ce.cls) → Q t
/-- the end of a return, where the walk's end may be a throw too -/
def pv_Re (p : Program) (l : Launch) (e : Env) (R : Room) (s : State) (m : MethodId) (args : Array Value) (below : List Frame) (meth : Method) (c : Code) (D : va_G) (cl : List vw_C) (N : Nat) (a : Nat → Nat) (F : pv_F) (A : Nat → Prop) (Q : State → Prop) (out : pv_X) (fin : Int32 → JFrame → Prop) : Prop :=
  ∀ (r : Int32 × pv_S), out = .inl r → ∀ (H : Heap) (locs : List Loc) (g : JFrame), fin r.1 g → pv_W D cl N a F r.2 H → va_S A s.heap H locs → W p l e R s m args below meth c H locs 0 0 Q g
/-- the frames from which a method answers -/
def pv_fI (m : MethodId) (cc : ByteArray) (r : Int32) (g : JFrame) : Prop := ∃ (pc : Nat) (ls : Array Slot), decode cc pc = .ok (.ireturn, 1) ∧ g = F0 m pc ls [.int r]
def pv_fZ (m : MethodId) (cc : ByteArray) (r : Int32) (g : JFrame) : Prop := ∃ (pc : Nat) (ls : Array Slot), decode cc pc = .ok (.ireturn, 1) ∧ pv_z r = true ∧ g = F0 m pc ls [.int r]
def pv_fV (m : MethodId) (cc : ByteArray) (r : Int32) (g : JFrame) : Prop := ∃ (pc : Nat) (ls : Array Slot), decode cc pc = .ok (.return_, 1) ∧ g = F0 m pc ls []
theorem pv_ofX {out : pv_X} {fin : MethodId → ByteArray → Int32 → JFrame → Prop} (hy : plainName y.cls = true) (hav : (lg_sl av).length ≤ maxL) (hD : pv_D N a A)
    (hfin : ∀ (p : Program) (e : Env) (s : State) (m : MethodId) (args : Array Value) (below : List Frame) (meth : Method) (c : Code) (H : Heap) (locs : List Loc) (r : Int32) (g : JFrame) (Qc : Array Value → State → Outcome → State → Prop), p.tables.exec = Jvm.exec → c.code = cc → meth.sig.returnType = ret → meth.locks = false → fin m cc r g → (∀ t : State, t.heap = H → s.WarmedH t.vm → Qc args s (.returned (rv r)) t) → (∀ q ∈ locs, A q.base) → W p l e rm s m args below meth c H locs 0 0 (MQ below Qc args s 0 0 A) g)
    (body : ∀ (p : Program) (e : Env) (s : State) (m : MethodId) (args : Array Value) (below : List Frame) (meth : Method) (c : Code) (Q : State → Prop) (ls : Array Slot), pv_C p s m args c cc maxL y.cls Ts D cl tys N a A Z → meth.locks = false → c.exceptionTable.isEmpty = true → pv_Re p l e rm s m args below meth c D cl N a F A Q out (fin m cc) → pv_Rt below s D cl N a F Q out → lv_has ls maxL (lv_args 0 av) → pv_W D cl N a F σ s.heap → W p l e rm s m args below meth c s.heap [] 0 0 Q (F0 m 0 ls [])) :
    pv_Mx l y (Cond.code y cc maxL ret :: Ts) rm D cl tys N a F A Z rv av σ out := by
  refine MetFree.of_bodyS (code := cc) (maxLocals := maxL) (ret := ret) hy ?_ ?_
  · intro args s m h hn
    obtain ⟨meth, c, h1, h2, h3, h4, h5, h6, -, -⟩ := Cond.code_spec hn (atoms_spec (ws := Cond.code y cc maxL ret :: Ts) h _ List.mem_cons_self)
    exact ⟨meth, c, h1, h2, h3, h4, h5, h6⟩
  · intro p e s m args below meth c s₁ B hml hv _
    obtain ⟨rfl, hP, hK, hZ⟩ := hv
    have hts := atoms_spec (ws := Cond.code y cc maxL ret :: Ts) B.pre
    have hl := lv_entry av hav
    have hh0 : s₁.heap = s.heap := by rw [B.state]; rfl
    have hw := body p e s m _ below meth c (fun t => ∃ o, t.status = .running ∧ Ended t below o ∧ pv_Qx D cl N a F A rv out s o t) _ ⟨B.exec, B.bytes, hml, findClass_of_methodNamed B.named, fun w hw => hts w (List.mem_cons_of_mem _ hw), hK, hD, hZ⟩ B.notSynchronized (BodyLoose.noHandlers B (hts _ List.mem_cons_self)) ?_ ?_ hl hP
    · rw [← lg_entry_eq] at hw
      obtain ⟨t, a1, o, b1, b2, b3⟩ := hw s₁ hh0 (Stand.of_body B)
      exact ⟨t, o, a1, b1, b2, b3⟩
    · intro r hr H locs g hg hP1 hS1
      refine pv_Wmono (fun t ht => ?_) (hfin p e s m _ below meth c H locs r.1 g (fun _ st oc t => oc = .returned (rv r.1) ∧ pv_W D cl N a F r.2 t.heap ∧ va_F A st t) B.exec B.bytes B.returns B.notSynchronized hg (fun t ht hW => ⟨rfl, by rw [ht]; exact hP1, hS1.F ht⟩) hS1.2.2)
      obtain ⟨o, h1, h2, ⟨h3, h4, h5⟩, h6⟩ := ht
      exact ⟨o, h1, h2, Or.inl ⟨r, hr, h3, h4, h5, h6⟩⟩
    · intro k σ' hk hP1 t x h1 h2 h3 h4 h5
      have hsm := pv_same h4
      exact ⟨.threw x, h1, h2, Or.inr ⟨(k, σ'), x, hk, rfl, pv_keep hP1 hsm.2, ⟨hsm.1, fun q hq _ => hsm.2 q hq⟩, h3, h4, h5⟩⟩
theorem pv_finI (l : Launch) {rm : Room} {A : Nat → Prop} {cc : ByteArray} : ∀ (p : Program) (e : Env) (s : State) (m : MethodId) (args : Array Value) (below : List Frame) (meth : Method) (c : Code) (H : Heap) (locs : List Loc) (r : Int32) (g : JFrame) (Qc : Array Value → State → Outcome → State → Prop), p.tables.exec = Jvm.exec → c.code = cc → meth.sig.returnType = some .int → meth.locks = false → pv_fI m cc r g → (∀ t : State, t.heap = H → s.WarmedH t.vm → Qc args s (.returned (some (.int r))) t) → (∀ q ∈ locs, A q.base) → W p l e rm s m args below meth c H locs 0 0 (MQ below Qc args s 0 0 A) g := by
  intro p e s m args below meth c H locs r g Qc hx hb hr hlk hg hq hf
  obtain ⟨pc, ls, hd, rfl⟩ := hg
  exact W.iret hx hb hr hq hf hd (hlocks := hlk)
theorem pv_finZ (l : Launch) {rm : Room} {A : Nat → Prop} {cc : ByteArray} : ∀ (p : Program) (e : Env) (s : State) (m : MethodId) (args : Array Value) (below : List Frame) (meth : Method) (c : Code) (H : Heap) (locs : List Loc) (r : Int32) (g : JFrame) (Qc : Array Value → State → Outcome → State → Prop), p.tables.exec = Jvm.exec → c.code = cc → meth.sig.returnType = some .boolean → meth.locks = false → pv_fZ m cc r g → (∀ t : State, t.heap = H → s.WarmedH t.vm → Qc args s (.returned (some (.int r))) t) → (∀ q ∈ locs, A q.base) → W p l e rm s m args below meth c H locs 0 0 (MQ below Qc args s 0 0 A) g := by
  intro p e s m args below meth c H locs r g Qc hx hb hr hlk hg hq hf
  obtain ⟨pc, ls, hd, hz, rfl⟩ := hg
  exact W.zret hx hb hr (pv_z_nar hz) hq hf hd (hlocks := hlk)
theorem pv_finV (l : Launch) {rm : Room} {A : Nat → Prop} {cc : ByteArray} : ∀ (p : Program) (e : Env) (s : State) (m : MethodId) (args : Array Value) (below : List Frame) (meth : Method) (c : Code) (H : Heap) (locs : List Loc) (r : Int32) (g : JFrame) (Qc : Array Value → State → Outcome → State → Prop), p.tables.exec = Jvm.exec → c.code = cc → meth.sig.returnType = none → meth.locks = false → pv_fV m cc r g → (∀ t : State, t.heap = H → s.WarmedH t.vm → Qc args s (.returned none) t) → (∀ q ∈ locs, A q.base) → W p l e rm s m args below meth c H locs 0 0 (MQ below Qc args s 0 0 A) g := by
  intro p e s m args below meth c H locs r g Qc hx hb hr hlk hg hq hf
  obtain ⟨pc, ls, hd, rfl⟩ := hg
  exact W.vret hx hb hr hq hf hd (hlocks := hlk)
end PVX
/-! methods that only read -/
def pv_Mr (l : Launch) (y : MethodName) (ws : List Cond) (rm : Room) (D : va_G) (cl : List vw_C) (tys : List (ClassId × FieldType)) (N : Nat) (a : Nat → Nat) (F : pv_F) (A : Nat → Prop) (Z : State → Prop) (av : List Value) (σ : pv_S) (r : Int32) : Prop :=
  Met l y ws rm (va_Pc av (fun U => pv_W D cl N a F σ U.heap ∧ va_K D cl tys U ∧ Z U)) (QcRead r) 0 0 (fun _ => False)
def pv_Ro (p : Program) (l : Launch) (e : Env) (R : Room) (s : State) (m : MethodId) (args : Array Value) (below : List Frame) (meth : Method) (c : Code) (cc : ByteArray) (H : Heap) (locs : List Loc) (Q : State → Prop) (r : Int32) : Prop :=
  ∀ (ls : Array Slot) (pc : Nat), decode cc pc = .ok (.ireturn, 1) → pv_z r = true → W p l e R s m args below meth c H locs 0 0 Q (F0 m pc ls [.int r])
theorem pv_ofR {l : Launch} {cc : ByteArray} {maxL : Nat} {av : List Value} {Ts : List Cond} {D : va_G} {cl : List vw_C} {tys : List (ClassId × FieldType)} {N : Nat} {a : Nat → Nat} {A : Nat → Prop} {F : pv_F} {σ : pv_S} {Z : State → Prop} {rm : Room} {y : MethodName} {r : Int32} (hy : plainName y.cls = true) (hav : (lg_sl av).length ≤ maxL) (hD : pv_D N a A)
    (body : ∀ (p : Program) (e : Env) (s : State) (m : MethodId) (args : Array Value) (below : List Frame) (meth : Method) (c : Code) (Q : State → Prop) (ls : Array Slot), pv_C p s m args c cc maxL y.cls Ts D cl tys N a A Z → pv_Ro p l e rm s m args below meth c cc s.heap [] Q r → lv_has ls maxL (lv_args 0 av) → pv_W D cl N a F σ s.heap → W p l e rm s m args below meth c s.heap [] 0 0 Q (F0 m 0 ls [])) :
    pv_Mr l y (Cond.code y cc maxL (some .boolean) :: Ts) rm D cl tys N a F A Z av σ r := by
  refine Met.ofW (cc := cc) (maxL := maxL) (ret := some .boolean) hy rfl ?_
  intro p e s m args below meth c s₁ B hml hv
  obtain ⟨rfl, hP, hK, hZ⟩ := hv
  have hts := atoms_spec (ws := Cond.code y cc maxL (some .boolean) :: Ts) B.pre
  have hl := lv_entry av hav
  rw [lg_entry_eq]
  refine body p e s m _ below meth c _ _ ⟨B.exec, B.bytes, hml, findClass_of_methodNamed B.named, fun w hw => hts w (List.mem_cons_of_mem _ hw), hK, hD, hZ⟩ ?_ hl hP
  intro ls pc hdg hz
  exact W.zret B.exec B.bytes B.returns (pv_z_nar hz) (fun t ht hW => ⟨rfl, ht⟩) (fun q hq => absurd hq List.not_mem_nil) hdg (hlocks := B.notSynchronized)
theorem pv_callVr {p : Program} {l : Launch} {e : Env} {R : Room} {s : State} {m : MethodId} {args : Array Value} {below : List Frame} {meth : Method} {c : Code} {H : Heap} {locs : List Loc} {cells slots : Nat} {Q : State → Prop} {cc bytes : ByteArray} {pc nL maxL : Nat} {ls : Array Slot} {rest st0 As : List Value} {own : String} {Ts : List Cond} {D : va_G} {cl : List vw_C} {tys : List (ClassId × FieldType)} {N : Nat} {a : Nat → Nat} {A : Nat → Prop} {F : pv_F} {σ : pv_S} {Z : State → Prop} {rm : Room} {y : MethodName} {ret : Option FieldType} {n : Nat}
    (C : pv_C p s m args c cc nL own Ts D cl tys N a A Z) (hmv : pv_mv A Z) (hg : ∀ w ∈ Ts, goodWord w = true) (hP : pv_W D cl N a F σ H) (hS : va_S A s.heap H locs) {k ci ix : Nat} {fs : List Value} {Cn : String} {T : u_T} {nn : Nat} {r : Int32} (hk : k < N) (he : F k (σ.1 k) (σ.2 k) = .inr (ci, fs)) (hc : cl[ci]? = some (Cn, T, nn))
    (hM : pv_Mr l y (Cond.code y bytes maxL ret :: Ts) rm D cl tys N a F A Z (.ref (a k) :: As) σ r) (cw : pv_CV Ts own Cn ix y bytes maxL ret n) (hR : rm.cells = 0 ∧ rm.slots = 0 ∧ rm.frames + 1 ≤ R.frames ∧ 8 + (maxL + 11) + rm.locals ≤ R.locals) (hn : As.length = n) (hl : ls.size = nL) (hst : st0 = As.reverse ++ .ref (a k) :: rest) (hW : (rest.map fun v => v.category).sum ≤ 8) (hdg : decode cc pc = .ok (.invokevirtual ix, 3)) (hf : cells ≤ R.cells ∧ slots ≤ R.slots)
    (kk : W p l e R s m args below meth c H locs cells slots Q (F0 m (pc + 3) ls (.int r :: rest))) : W p l e R s m args below meth c H locs cells slots Q (F0 m pc ls st0) :=
  W.callR (W.runV (pv_fix C) hM (pv_cwV C hg cw hR) ⟨pv_blind hmv, va_recv C.2.2.2.2.2.1 hP hc ((pv_at hk).trans (by rw [he])), pv_pre C hmv hP hS⟩ rfl hn hl hst (lv_room hW) hdg hf) kk
/-- what the class's own throwing methods need of the state -/
def pv_ZY (t : Nat → Nat) (A : Nat → Prop) (U : State) : Prop := pv_ZX t A U ∧ pv_ZT t A U
theorem pv_mvY {t : Nat → Nat} {A : Nat → Prop} : pv_mv A (pv_ZY t A) := fun s U H locs hZ hS hU hW => ⟨pv_mvX s U H locs hZ.1 hS hU hW, pv_mvT s U H locs hZ.2 hS hU hW⟩
theorem pv_C.x {p : Program} {s : State} {m : MethodId} {args : Array Value} {c : Code} {cc : ByteArray} {nL : Nat} {own : String} {Ts : List Cond} {D : va_G} {cl : List vw_C} {tys : List (ClassId × FieldType)} {N : Nat} {a t : Nat → Nat} {A : Nat → Prop} (C : pv_C p s m args c cc nL own Ts D cl tys N a A (pv_ZY t A)) : pv_C p s m args c cc nL own Ts D cl tys N a A (pv_ZX t A) :=
  ⟨C.1, C.2.1, C.2.2.1, C.2.2.2.1, C.2.2.2.2.1, C.2.2.2.2.2.1, C.2.2.2.2.2.2.1, C.2.2.2.2.2.2.2.1⟩
