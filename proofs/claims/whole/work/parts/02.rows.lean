/-! GENERIC ROWS OF MINE: a world of cells by index. A state is two tables of rows (ints, longs), a row for each cell; a cell's picture is a function of its rows. -/
abbrev pv_S : Type := (Nat → Nat → Int32) × (Nat → Nat → Int64)
abbrev pv_F : Type := Nat → (Nat → Int32) → (Nat → Int64) → va_E
def pv_rI (σ : pv_S) (c : Nat) (f : Nat → Int32) : pv_S := (fun d => if d = c then f else σ.1 d, σ.2)
def pv_rL (σ : pv_S) (c : Nat) (f : Nat → Int64) : pv_S := (σ.1, fun d => if d = c then f else σ.2 d)
def pv_uI (σ : pv_S) (c k : Nat) (x : Int32) : pv_S := pv_rI σ c (upd (σ.1 c) k x)
def pv_uL (σ : pv_S) (c k : Nat) (x : Int64) : pv_S := pv_rL σ c (vp_updL (σ.2 c) k x)
def pv_ws (N : Nat) (a : Nat → Nat) (F : pv_F) (σ : pv_S) : va_W := (List.range N).map fun k => (a k, F k (σ.1 k) (σ.2 k))
theorem pv_at {N : Nat} {a : Nat → Nat} {F : pv_F} {σ : pv_S} {k : Nat} (h : k < N) : (pv_ws N a F σ)[k]? = some (a k, F k (σ.1 k) (σ.2 k)) := by
  unfold pv_ws
  rw [List.getElem?_map, List.getElem?_range h]
  rfl
theorem pv_of {N : Nat} {a : Nat → Nat} {F : pv_F} {σ : pv_S} {k : Nat} {q : Nat × va_E} (h : (pv_ws N a F σ)[k]? = some q) : k < N ∧ q = (a k, F k (σ.1 k) (σ.2 k)) := by
  have hk : k < N := by
    have h1 := (List.getElem?_eq_some_iff.mp h).1
    simpa [pv_ws] using h1
  exact ⟨hk, (Option.some.inj ((pv_at hk).symm.trans h)).symm⟩
theorem pv_setI {N : Nat} {a : Nat → Nat} {F : pv_F} {σ : pv_S} {k : Nat} {f : Nat → Int32} {e : va_E} (he : F k f (σ.2 k) = e) : (pv_ws N a F σ).set k (a k, e) = pv_ws N a F (pv_rI σ k f) := by
  subst he
  apply List.ext_getElem?
  intro j
  rw [List.getElem?_set]
  by_cases hj : j < N
  · rw [pv_at hj, pv_at hj]
    by_cases e : k = j
    · subst e
      simp [pv_ws, pv_rI, hj]
    · have e' : ¬ j = k := fun z => e z.symm
      simp [pv_rI, e, e']
  · have h1 : (pv_ws N a F σ)[j]? = none := List.getElem?_eq_none (by simp [pv_ws]; omega)
    have h2 : (pv_ws N a F (pv_rI σ k f))[j]? = none := List.getElem?_eq_none (by simp [pv_ws]; omega)
    rw [h1, h2]
    by_cases e : k = j
    · subst e
      simp [pv_ws, hj]
    · simp [e]
theorem pv_setL {N : Nat} {a : Nat → Nat} {F : pv_F} {σ : pv_S} {k : Nat} {f : Nat → Int64} {e : va_E} (he : F k (σ.1 k) f = e) : (pv_ws N a F σ).set k (a k, e) = pv_ws N a F (pv_rL σ k f) := by
  subst he
  apply List.ext_getElem?
  intro j
  rw [List.getElem?_set]
  by_cases hj : j < N
  · rw [pv_at hj, pv_at hj]
    by_cases e : k = j
    · subst e
      simp [pv_ws, pv_rL, hj]
    · have e' : ¬ j = k := fun z => e z.symm
      simp [pv_rL, e, e']
  · have h1 : (pv_ws N a F σ)[j]? = none := List.getElem?_eq_none (by simp [pv_ws]; omega)
    have h2 : (pv_ws N a F (pv_rL σ k f))[j]? = none := List.getElem?_eq_none (by simp [pv_ws]; omega)
    rw [h1, h2]
    by_cases e : k = j
    · subst e
      simp [pv_ws, hj]
    · simp [e]
def pv_D (N : Nat) (a : Nat → Nat) (A : Nat → Prop) : Prop := (∀ i j, i < N → j < N → a i = a j → i = j) ∧ ∀ k, k < N → A (a k)
theorem pv_D.va {N : Nat} {a : Nat → Nat} {A : Nat → Prop} {F : pv_F} {σ : pv_S} (h : pv_D N a A) : va_D A (pv_ws N a F σ) := by
  refine ⟨fun i j p q hi hj e => ?_, fun k q hk => ?_⟩
  · obtain ⟨h1, rfl⟩ := pv_of hi
    obtain ⟨h2, rfl⟩ := pv_of hj
    exact h.1 i j h1 h2 e
  · obtain ⟨h1, rfl⟩ := pv_of hk
    exact h.2 k h1
def pv_W (D : va_G) (cl : List vw_C) (N : Nat) (a : Nat → Nat) (F : pv_F) (σ : pv_S) (H : Heap) : Prop := va_P D cl (pv_ws N a F σ) H
/-- an index within an array of n -/
def pv_in (i : Int32) (n : Nat) : Bool := decide (0 ≤ i) && decide (i.toNatClampNeg < n)
theorem pv_in_vp {i : Int32} {n : Nat} (h : pv_in i n = true) : vp_in i n := by
  unfold pv_in at h
  rw [Bool.and_eq_true, decide_eq_true_eq, decide_eq_true_eq] at h
  intro q
  rcases q with q | q
  · exact absurd h.1 (Int32.not_le.mpr q)
  · omega
theorem pv_in_lt {i : Int32} {n : Nat} (h : pv_in i n = true) : i.toNatClampNeg < n := by
  unfold pv_in at h
  rw [Bool.and_eq_true, decide_eq_true_eq, decide_eq_true_eq] at h
  exact h.2
/-- reading a definition's shape -/
theorem pv_t {α : Type} {c : Prop} [Decidable c] {A B : Option α} {o : Option α} (hf : (if c then A else B) = o) (h : c) : A = o := by rw [if_pos h] at hf; exact hf
theorem pv_f {α : Type} {c : Prop} [Decidable c] {A B : Option α} {o : Option α} (hf : (if c then A else B) = o) (h : ¬ c) : B = o := by rw [if_neg h] at hf; exact hf
theorem pv_g {α : Type} {c : Prop} [Decidable c] {A : Option α} {o : α} (hf : (if c then A else none) = some o) : c ∧ A = some o := by
  by_cases h : c
  · rw [if_pos h] at hf; exact ⟨h, hf⟩
  · rw [if_neg h] at hf; cases hf
theorem pv_b {α β : Type} {x : Option α} {f : α → Option β} {o : β} (hf : x.bind f = some o) : ∃ q, x = some q ∧ f q = some o := by
  cases x with
  | none => cases hf
  | some q => exact ⟨q, rfl, hf⟩
/-- the fixed things of a method that is walked: machine, code, locals' number, class, words, tables, the cells' addresses -/
def pv_C (p : Program) (s : State) (m : MethodId) (args : Array Value) (c : Code) (cc : ByteArray) (nL : Nat) (own : String) (Ts : List Cond) (D : va_G) (cl : List vw_C) (tys : List (ClassId × FieldType)) (N : Nat) (a : Nat → Nat) (A : Nat → Prop) (Z : State → Prop) : Prop :=
  p.tables.exec = Jvm.exec ∧ c.code = cc ∧ c.maxLocals = nL ∧ s.vm.findClass own = some m.cls ∧ (∀ w ∈ Ts, w.before args s = true) ∧ va_K D cl tys s ∧ pv_D N a A ∧ Z s
/-- what else a method needs of the state stays: statics, nest mates' words -/
def pv_mv (A : Nat → Prop) (Z : State → Prop) : Prop := ∀ (s U : State) (H : Heap) (locs : List Loc), Z s → va_S A s.heap H locs → U.heap = H → s.WarmedH U.vm → Z U
/-- a field's link: pool number ix of own is field j of class ci -/
def pv_FL (Ts : List Cond) (cl : List vw_C) (own : String) (ix ci j : Nat) : Prop := ∃ (Cn : String) (T : u_T) (n : Nat), cl[ci]? = some (Cn, T, n) ∧ j < n ∧ (∀ w ∈ u_ws Cn T n, w ∈ Ts) ∧ Cond.fieldLink own ix (T j).1 (T j).2.1 (T j).2.2.1 ∈ Ts
/-- the same, to be written: not final, of type ty -/
def pv_FW (Ts : List Cond) (cl : List vw_C) (own : String) (ix ci j : Nat) (ty : FieldType) : Prop := ∃ (Cn : String) (T : u_T) (n : Nat) (ty0 : Nat → FieldType), cl[ci]? = some (Cn, T, n) ∧ j < n ∧ (∀ w ∈ u_ws Cn T n, w ∈ Ts) ∧ Cond.fieldLink own ix (T j).1 (T j).2.1 (T j).2.2.1 ∈ Ts ∧
  (∀ k, k < n → parseFieldDescriptor (T k).2.2.1 = some (ty0 k)) ∧ (∀ a, a < n → ∀ b, b < n → a ≠ b → (T a).2.1 ≠ (T b).2.1) ∧ (T j).2.2.2 = false ∧ parseFieldDescriptor (T j).2.2.1 = some ty
section PVR
variable {p : Program} {l : Launch} {e : Env} {R : Room} {s : State} {m : MethodId} {args : Array Value} {below : List Frame} {meth : Method} {c : Code} {H : Heap} {locs : List Loc} {cells slots : Nat} {Q : State → Prop}
variable {cc : ByteArray} {pc nL : Nat} {ls : Array Slot} {rest : List Value} {own : String} {Ts : List Cond} {D : va_G} {cl : List vw_C} {tys : List (ClassId × FieldType)} {N : Nat} {a : Nat → Nat} {A : Nat → Prop} {F : pv_F} {σ : pv_S} {Z : State → Prop}
theorem pv_get (C : pv_C p s m args c cc nL own Ts D cl tys N a A Z) (hP : pv_W D cl N a F σ H) {k ci ix j : Nat} {fs : List Value} {v : Value} (hk : k < N) (he : F k (σ.1 k) (σ.2 k) = .inr (ci, fs)) (fl : pv_FL Ts cl own ix ci j) (hv : fs[j]? = some v) (hdg : decode cc pc = .ok (.getfield ix, 3))
    (kk : W p l e R s m args below meth c H locs cells slots Q (F0 m (pc + 3) ls (v :: rest))) : W p l e R s m args below meth c H locs cells slots Q (F0 m pc ls (.ref (a k) :: rest)) := by
  obtain ⟨hx, hb, -, hown, hts, hK, -⟩ := C
  obtain ⟨Cn, T, n, h1, h2, h3, h4⟩ := fl
  exact va_get (D := D) hx hb hts h3 hown hK hP k ((pv_at hk).trans (by rw [he])) h1 j h2 (hts _ h4) (fun _ h => h) hv hdg kk
theorem pv_putI (C : pv_C p s m args c cc nL own Ts D cl tys N a A Z) (hP : pv_W D cl N a F σ H) (hS : va_S A s.heap H locs) {k ci ix j : Nat} {fs : List Value} {x : Int32} {ty : FieldType} (hk : k < N) (he : F k (σ.1 k) (σ.2 k) = .inr (ci, fs)) (fl : pv_FW Ts cl own ix ci j ty) (hn : narrow ty (.int x) = .int x) (hfit : fits ty (.int x) = true) (hl : j < fs.length) (hu : F k (upd (σ.1 k) j x) (σ.2 k) = .inr (ci, fs.set j (.int x))) (hdg : decode cc pc = .ok (.putfield ix, 3))
    (kk : ∀ (H1 : Heap) (locs1 : List Loc), pv_W D cl N a F (pv_uI σ k j x) H1 → va_S A s.heap H1 locs1 → W p l e R s m args below meth c H1 locs1 cells slots Q (F0 m (pc + 3) ls rest)) : W p l e R s m args below meth c H locs cells slots Q (F0 m pc ls (.int x :: .ref (a k) :: rest)) := by
  obtain ⟨hx, hb, -, hown, hts, hK, hD, -⟩ := C
  obtain ⟨Cn, T, n, ty0, h1, h2, h3, h4, h5, h6, h7, h8⟩ := fl
  refine va_put (D := D) hx hb hts h3 ty0 h5 h6 hown hK hP hD.va hS k ((pv_at hk).trans (by rw [he])) h1 j h2 (hts _ h4) (fun _ h => h) h7 h8 hn hfit hl hdg (fun H1 locs1 hP1 _ hS1 => ?_)
  rw [pv_setI hu] at hP1
  exact kk H1 locs1 hP1 hS1
theorem pv_putL (C : pv_C p s m args c cc nL own Ts D cl tys N a A Z) (hP : pv_W D cl N a F σ H) (hS : va_S A s.heap H locs) {k ci ix j : Nat} {fs : List Value} {x : Int64} (hk : k < N) (he : F k (σ.1 k) (σ.2 k) = .inr (ci, fs)) (fl : pv_FW Ts cl own ix ci j .long) (hl : j < fs.length) (hu : F k (σ.1 k) (vp_updL (σ.2 k) j x) = .inr (ci, fs.set j (.long x))) (hdg : decode cc pc = .ok (.putfield ix, 3))
    (kk : ∀ (H1 : Heap) (locs1 : List Loc), pv_W D cl N a F (pv_uL σ k j x) H1 → va_S A s.heap H1 locs1 → W p l e R s m args below meth c H1 locs1 cells slots Q (F0 m (pc + 3) ls rest)) : W p l e R s m args below meth c H locs cells slots Q (F0 m pc ls (.long x :: .ref (a k) :: rest)) := by
  obtain ⟨hx, hb, -, hown, hts, hK, hD, -⟩ := C
  obtain ⟨Cn, T, n, ty0, h1, h2, h3, h4, h5, h6, h7, h8⟩ := fl
  refine va_put (D := D) hx hb hts h3 ty0 h5 h6 hown hK hP hD.va hS k ((pv_at hk).trans (by rw [he])) h1 j h2 (hts _ h4) (fun _ h => h) h7 h8 rfl rfl hl hdg (fun H1 locs1 hP1 _ hS1 => ?_)
  rw [pv_setL hu] at hP1
  exact kk H1 locs1 hP1 hS1
theorem pv_iald (C : pv_C p s m args c cc nL own Ts D cl tys N a A Z) (hP : pv_W D cl N a F σ H) {k n t0 : Nat} {cA : ClassId} {i : Int32} (hk : k < N) (he : F k (σ.1 k) (σ.2 k) = .inl (cA, n, .inl (σ.1 k))) (ht : tys[t0]? = some (cA, .int)) (hin : pv_in i n = true) (hdg : decode cc pc = .ok (.iaload, 1))
    (kk : W p l e R s m args below meth c H locs cells slots Q (F0 m (pc + 1) ls (.int (σ.1 k i.toNatClampNeg) :: rest))) : W p l e R s m args below meth c H locs cells slots Q (F0 m pc ls (.int i :: .ref (a k) :: rest)) :=
  va_iald C.1 C.2.1 C.2.2.2.2.2.1 hP k t0 ((pv_at hk).trans (by rw [he])) ht (pv_in_vp hin) hdg kk
theorem pv_zald (C : pv_C p s m args c cc nL own Ts D cl tys N a A Z) (hP : pv_W D cl N a F σ H) {k n t0 : Nat} {cA : ClassId} {i : Int32} (hk : k < N) (he : F k (σ.1 k) (σ.2 k) = .inl (cA, n, .inl (σ.1 k))) (ht : tys[t0]? = some (cA, .boolean)) (hin : pv_in i n = true) (hdg : decode cc pc = .ok (.baload, 1))
    (kk : W p l e R s m args below meth c H locs cells slots Q (F0 m (pc + 1) ls (.int (σ.1 k i.toNatClampNeg) :: rest))) : W p l e R s m args below meth c H locs cells slots Q (F0 m pc ls (.int i :: .ref (a k) :: rest)) :=
  va_zald C.1 C.2.1 C.2.2.2.2.2.1 hP k t0 ((pv_at hk).trans (by rw [he])) ht (pv_in_vp hin) hdg kk
theorem pv_cald (C : pv_C p s m args c cc nL own Ts D cl tys N a A Z) (hP : pv_W D cl N a F σ H) {k n t0 : Nat} {cA : ClassId} {i : Int32} (hk : k < N) (he : F k (σ.1 k) (σ.2 k) = .inl (cA, n, .inl (σ.1 k))) (ht : tys[t0]? = some (cA, .char)) (hin : pv_in i n = true) (hdg : decode cc pc = .ok (.caload, 1))
    (kk : W p l e R s m args below meth c H locs cells slots Q (F0 m (pc + 1) ls (.int (σ.1 k i.toNatClampNeg) :: rest))) : W p l e R s m args below meth c H locs cells slots Q (F0 m pc ls (.int i :: .ref (a k) :: rest)) :=
  va_cald C.1 C.2.1 C.2.2.2.2.2.1 hP k t0 ((pv_at hk).trans (by rw [he])) ht (pv_in_vp hin) hdg kk
theorem pv_lald (C : pv_C p s m args c cc nL own Ts D cl tys N a A Z) (hP : pv_W D cl N a F σ H) {k n t0 : Nat} {cA : ClassId} {i : Int32} (hk : k < N) (he : F k (σ.1 k) (σ.2 k) = .inl (cA, n, .inr (.inl (σ.2 k)))) (ht : tys[t0]? = some (cA, .long)) (hin : pv_in i n = true) (hdg : decode cc pc = .ok (.laload, 1))
    (kk : W p l e R s m args below meth c H locs cells slots Q (F0 m (pc + 1) ls (.long (σ.2 k i.toNatClampNeg) :: rest))) : W p l e R s m args below meth c H locs cells slots Q (F0 m pc ls (.int i :: .ref (a k) :: rest)) :=
  va_lald C.1 C.2.1 C.2.2.2.2.2.1 hP k t0 ((pv_at hk).trans (by rw [he])) ht (pv_in_vp hin) hdg kk
theorem pv_iast (C : pv_C p s m args c cc nL own Ts D cl tys N a A Z) (hP : pv_W D cl N a F σ H) (hS : va_S A s.heap H locs) {k n t0 : Nat} {cA : ClassId} {i x : Int32} (hk : k < N) (he : ∀ f g, F k f g = .inl (cA, n, .inl f)) (ht : tys[t0]? = some (cA, .int)) (hin : pv_in i n = true) (hdg : decode cc pc = .ok (.iastore, 1))
    (kk : ∀ (H1 : Heap) (locs1 : List Loc), pv_W D cl N a F (pv_uI σ k i.toNatClampNeg x) H1 → va_S A s.heap H1 locs1 → W p l e R s m args below meth c H1 locs1 cells slots Q (F0 m (pc + 1) ls rest)) : W p l e R s m args below meth c H locs cells slots Q (F0 m pc ls (.int x :: .int i :: .ref (a k) :: rest)) := by
  refine va_iast C.1 C.2.1 C.2.2.2.2.2.1 hP C.2.2.2.2.2.2.1.va hS k t0 ((pv_at hk).trans (by rw [he])) ht (pv_in_vp hin) hdg (fun H1 locs1 hP1 _ hS1 => ?_)
  rw [pv_setI (he _ _)] at hP1
  exact kk H1 locs1 hP1 hS1
theorem pv_zast (C : pv_C p s m args c cc nL own Ts D cl tys N a A Z) (hP : pv_W D cl N a F σ H) (hS : va_S A s.heap H locs) {k n t0 : Nat} {cA : ClassId} {i x : Int32} (hk : k < N) (he : ∀ f g, F k f g = .inl (cA, n, .inl f)) (ht : tys[t0]? = some (cA, .boolean)) (hin : pv_in i n = true) (hdg : decode cc pc = .ok (.bastore, 1))
    (kk : ∀ (H1 : Heap) (locs1 : List Loc), pv_W D cl N a F (pv_uI σ k i.toNatClampNeg (vp_nar .boolean x)) H1 → va_S A s.heap H1 locs1 → W p l e R s m args below meth c H1 locs1 cells slots Q (F0 m (pc + 1) ls rest)) : W p l e R s m args below meth c H locs cells slots Q (F0 m pc ls (.int x :: .int i :: .ref (a k) :: rest)) := by
  refine va_zast C.1 C.2.1 C.2.2.2.2.2.1 hP C.2.2.2.2.2.2.1.va hS k t0 ((pv_at hk).trans (by rw [he])) ht (pv_in_vp hin) hdg (fun H1 locs1 hP1 _ hS1 => ?_)
  rw [pv_setI (he _ _)] at hP1
  exact kk H1 locs1 hP1 hS1
theorem pv_cast (C : pv_C p s m args c cc nL own Ts D cl tys N a A Z) (hP : pv_W D cl N a F σ H) (hS : va_S A s.heap H locs) {k n t0 : Nat} {cA : ClassId} {i x : Int32} (hk : k < N) (he : ∀ f g, F k f g = .inl (cA, n, .inl f)) (ht : tys[t0]? = some (cA, .char)) (hin : pv_in i n = true) (hdg : decode cc pc = .ok (.castore, 1))
    (kk : ∀ (H1 : Heap) (locs1 : List Loc), pv_W D cl N a F (pv_uI σ k i.toNatClampNeg (vp_nar .char x)) H1 → va_S A s.heap H1 locs1 → W p l e R s m args below meth c H1 locs1 cells slots Q (F0 m (pc + 1) ls rest)) : W p l e R s m args below meth c H locs cells slots Q (F0 m pc ls (.int x :: .int i :: .ref (a k) :: rest)) := by
  refine va_cast C.1 C.2.1 C.2.2.2.2.2.1 hP C.2.2.2.2.2.2.1.va hS k t0 ((pv_at hk).trans (by rw [he])) ht (pv_in_vp hin) hdg (fun H1 locs1 hP1 _ hS1 => ?_)
  rw [pv_setI (he _ _)] at hP1
  exact kk H1 locs1 hP1 hS1
theorem pv_last (C : pv_C p s m args c cc nL own Ts D cl tys N a A Z) (hP : pv_W D cl N a F σ H) (hS : va_S A s.heap H locs) {k n t0 : Nat} {cA : ClassId} {i : Int32} {x : Int64} (hk : k < N) (he : ∀ f g, F k f g = .inl (cA, n, .inr (.inl g))) (ht : tys[t0]? = some (cA, .long)) (hin : pv_in i n = true) (hdg : decode cc pc = .ok (.lastore, 1))
    (kk : ∀ (H1 : Heap) (locs1 : List Loc), pv_W D cl N a F (pv_uL σ k i.toNatClampNeg x) H1 → va_S A s.heap H1 locs1 → W p l e R s m args below meth c H1 locs1 cells slots Q (F0 m (pc + 1) ls rest)) : W p l e R s m args below meth c H locs cells slots Q (F0 m pc ls (.long x :: .int i :: .ref (a k) :: rest)) := by
  refine va_last C.1 C.2.1 C.2.2.2.2.2.1 hP C.2.2.2.2.2.2.1.va hS k t0 ((pv_at hk).trans (by rw [he])) ht (pv_in_vp hin) hdg (fun H1 locs1 hP1 _ hS1 => ?_)
  rw [pv_setL (he _ _)] at hP1
  exact kk H1 locs1 hP1 hS1
theorem pv_alen (C : pv_C p s m args c cc nL own Ts D cl tys N a A Z) (hP : pv_W D cl N a F σ H) {k t0 : Nat} {cA : ClassId} {x : vp_A} {ty : FieldType} {v : Int32} (hk : k < N) (he : F k (σ.1 k) (σ.2 k) = .inl (cA, x)) (ht : tys[t0]? = some (cA, ty)) (hv : Int32.ofNat x.1 = v) (hdg : decode cc pc = .ok (.arraylength, 1))
    (kk : W p l e R s m args below meth c H locs cells slots Q (F0 m (pc + 1) ls (.int v :: rest))) : W p l e R s m args below meth c H locs cells slots Q (F0 m pc ls (.ref (a k) :: rest)) :=
  va_alen C.1 C.2.1 C.2.2.2.2.2.1 hP k t0 ((pv_at hk).trans (by rw [he])) ht hv hdg kk
/-- an element of an array of references that never changes -/
theorem pv_aald (C : pv_C p s m args c cc nL own Ts D cl tys N a A Z) (hP : pv_W D cl N a F σ H) {k n t0 b : Nat} {cA : ClassId} {Cn : String} {f : Nat → Option Nat} {i : Int32} (hk : k < N) (he : F k (σ.1 k) (σ.2 k) = .inl (cA, n, .inr (.inr (.inr (.inr f))))) (ht : tys[t0]? = some (cA, .object Cn)) (hin : pv_in i n = true) (hb : f i.toNatClampNeg = some b) (hdg : decode cc pc = .ok (.aaload, 1))
    (kk : W p l e R s m args below meth c H locs cells slots Q (F0 m (pc + 1) ls (.ref b :: rest))) : W p l e R s m args below meth c H locs cells slots Q (F0 m pc ls (.int i :: .ref (a k) :: rest)) := by
  refine va_aldq C.1 C.2.1 C.2.2.2.2.2.1 hP k t0 ((pv_at hk).trans (by rw [he])) ht (pv_in_vp hin) hdg ?_
  rw [hb]
  exact kk
end PVR
