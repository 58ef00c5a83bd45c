/-! An exception is caught in the walked method, its catch types linked or not yet. -/
section PVK
variable {p : Program} {l : Launch} {e : Env} {R : Room} {s : State} {m : MethodId} {args : Array Value} {below : List Frame} {meth : Method} {c : Code} {T : State} {locs : List Loc} {cells slots : Nat}
/-- one entry that covers the place: its class is linked, and the search ends or goes on by the object's class -/
theorem pv_go1 {Q : Handler → Pre} {E : CtlPost} {d : Bool} {acts : List Action} {S : State} {f : JFrame} {a : Addr} {x : ExceptionTableEntry} {t : List ExceptionTableEntry} {cx : ClassId} {cell : Cell} (hx : covers x f.pc = true) (h0 : x.catchType ≠ 0) (hl : S.vm.ClassLinks e.platform f.method.cls x.catchType cx) (hcell : S.heap[a]? = some cell) (hobj : ∀ k, cell.vm ≠ .statics k) (hk : ∃ k, S.vm.classes[cell.cls]? = some k) :
    wp (findHandler.go f a (x :: t)) Q E e d acts S ↔ (if S.vm.assignable cell.cls cx = true then Q (.found x.handlerPc) d acts (S.setVm (S.vm.noted f.method.cls x.catchType (.cls cx))) else wp (findHandler.go f a t) Q E e d acts (S.setVm (S.vm.noted f.method.cls x.catchType (.cls cx)))) := by
  simp only [covers] at hx
  obtain ⟨g1, g2⟩ := (resolveClass_links e.toSetting hl).op (op := VmOp.resolveClass f.method.cls x.catchType) rfl
  obtain ⟨-, -, -, kc, -, -, -, -, -, hc, -, -⟩ := hl.here
  have hal : S.vm.Alike (S.vm.noted f.method.cls x.catchType (.cls cx)) := (Vm.Alike.refl S.vm).noted _ _ _
  obtain ⟨k1, hk1⟩ := hk
  obtain ⟨k2, hk2, -⟩ := hal.2.2 _ _ hk1
  obtain ⟨k3, hk3, -⟩ := hal.2.2 _ _ hc
  have hasg := hal.assignable cell.cls cx
  cases hfit : S.vm.assignable cell.cls cx with
  | true =>
    rw [hfit] at hasg
    simp [findHandler.go, hx, h0, g1, g2, hcell, hobj, hk2, hk3, hasg, VmOp.dirties, VmOp.acts]
  | false =>
    rw [hfit] at hasg
    simp [findHandler.go, hx, h0, g1, g2, hcell, hobj, hk2, hk3, hasg, VmOp.dirties, VmOp.acts]
/-- the search: entries that cover the place and name other classes are passed, the next one takes it -/
theorem pv_seek {S : State} {f : JFrame} {a : Addr} {cell : Cell} (hcell : S.heap[a]? = some cell) (hobj : ∀ k, cell.vm ≠ .statics k) (hk : ∃ k, s.vm.classes[cell.cls]? = some k) (x : ExceptionTableEntry) (rest : List ExceptionTableEntry) {cx : ClassId} (hx : covers x f.pc = true) (hx0 : x.catchType ≠ 0) (hxl : s.vm.ClassLinks e.platform f.method.cls x.catchType cx) (hxf : s.vm.assignable cell.cls cx = true) :
    ∀ (pre : List ExceptionTableEntry), (∀ y ∈ pre, covers y f.pc = true ∧ y.catchType ≠ 0 ∧ ∃ cy, s.vm.ClassLinks e.platform f.method.cls y.catchType cy ∧ s.vm.assignable cell.cls cy = false) → ∀ vm : Vm, s.WarmedH vm →
      ∃ vm' : Vm, s.WarmedH vm' ∧ ∀ (Q : Handler → Pre) (E : CtlPost) (d : Bool) (acts : List Action), wp (findHandler.go f a (pre ++ x :: rest)) Q E e d acts (S.setVm vm) ↔ Q (.found x.handlerPc) d acts (S.setVm vm') := by
  intro pre
  induction pre with
  | nil =>
    intro _ vm hW
    obtain ⟨dk, -, -, -, hd, -, -, -, -, -, -, hopen⟩ := hxl.here
    obtain ⟨k, hk⟩ := hk
    obtain ⟨k', hk', -⟩ := hW.alike.2.2 _ _ hk
    refine ⟨vm.noted f.method.cls x.catchType (.cls cx), hW.noted hd hopen (State.rightAt_cls hxl), fun Q E d acts => ?_⟩
    rw [List.nil_append, pv_go1 (S := S.setVm vm) hx hx0 (hW.classLinks hxl) hcell hobj ⟨k', hk'⟩]
    have hf : (S.setVm vm).vm.assignable cell.cls cx = true := by
      show vm.assignable cell.cls cx = true
      rw [hW.alike.assignable]; exact hxf
    rw [if_pos hf]
    exact Iff.rfl
  | cons y ys ih =>
    intro hs vm hW
    obtain ⟨hy, hy0, cy, hyl, hyf⟩ := hs y List.mem_cons_self
    obtain ⟨dk, -, -, -, hd, -, -, -, -, -, -, hopen⟩ := hyl.here
    have hW1 : s.WarmedH (vm.noted f.method.cls y.catchType (.cls cy)) := hW.noted hd hopen (State.rightAt_cls hyl)
    obtain ⟨vm', hW', h'⟩ := ih (fun z hz => hs z (List.mem_cons_of_mem _ hz)) _ hW1
    obtain ⟨k, hk⟩ := hk
    obtain ⟨k', hk', -⟩ := hW.alike.2.2 _ _ hk
    refine ⟨vm', hW', fun Q E d acts => ?_⟩
    rw [List.cons_append, pv_go1 (S := S.setVm vm) hy hy0 (hW.classLinks hyl) hcell hobj ⟨k', hk'⟩]
    have hf : ¬ (S.setVm vm).vm.assignable cell.cls cy = true := by
      show ¬ vm.assignable cell.cls cy = true
      rw [hW.alike.assignable, hyf]; decide
    rw [if_neg hf]
    exact h' Q E d acts
/-- the machine's step into the handler, the tables noted on the way -/
theorem pv_into {tb : Tables} {u target : State} {g : JFrame} {a : Addr} {pc : Nat} {vm' : Vm} (h : At u g.method c below) (hfind : ∀ (Q : Handler → Pre) (E : CtlPost) (d : Bool) (acts : List Action), wp (findHandler g a) Q E e d acts ((u.setTop g).pushFrame (.throwing a)) ↔ Q (.found pc) d acts (((u.setTop g).pushFrame (.throwing a)).setVm vm'))
    (hrest : Steps tb e below ((u.setVm vm').setTop { g with pc := pc, stack := [.ref a] }) target) : Steps tb e below ((u.setTop g).pushFrame (.throwing a)) target := by
  obtain ⟨hgo, hw⟩ := h.throwing a
  refine Steps.head hgo hw ?_
  obtain ⟨g₀, hg⟩ := Option.isSome_iff_exists.mp h.top
  obtain ⟨r, hr⟩ := State.topJava?_eq_some.mp hg
  have key : (stepThrowing e ((u.setTop g).pushFrame (.throwing a)) a (.java g :: u.frames.tail)).Is ((((u.setTop g).pushFrame (.throwing a)).setVm vm').setFrames (.java { g with pc := pc, stack := [.ref a] } :: u.frames.tail)) [] := by
    simp only [stepThrowing, searchFrame, vmDo]
    generalize hres : Sem.go _ e false [] ((u.setTop g).pushFrame (.throwing a)) = res
    obtain ⟨as, rfl, ha⟩ := Sem.eq_ok_of hres (a := Handler.found pc) (s' := ((u.setTop g).pushFrame (.throwing a)).setVm vm') (acts' := []) (by simp [hfind _ _ _ _])
    exact ⟨rfl, ha⟩
  rw [stepThread_throwing (frames_entered h.top _), key.1]
  have hr' : (u.setVm vm').frames = .java g₀ :: r := hr
  rw [State.setTop_of_frames _ hr'] at hrest
  have e1 : (((u.setTop g).pushFrame (.throwing a)).setVm vm').setFrames (.java { g with pc := pc, stack := [.ref a] } :: u.frames.tail) = (u.setVm vm').setFrames (.java { g with pc := pc, stack := [.ref a] } :: r) := by
    rw [hr, State.setTop_of_frames _ hr, State.pushFrame]
    show ((((u.setVm vm').setFrames _).setFrames _).setFrames _) = _
    rw [State.setFrames_setFrames, State.setFrames_setFrames]
    rfl
  rw [e1]
  exact hrest
end PVK
