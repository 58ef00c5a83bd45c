/-! A static of the JDK of which only 'a reference or null' is said, kept over heaps; what a throw needs of the state. -/
def pv_ST (C n d : String) (A : Nat → Prop) (U : State) : Prop := ∃ (c : ClassId) (k : Class) (i : Nat) (f : Field) (a : Nat) (cell : Cell) (v : Value), U.vm.findClass C = some c ∧ U.fieldFound? C n d = some (c, k, i, f) ∧ f.isStatic = true ∧ k.statics = some a ∧ U.heap[a]? = some cell ∧ cell.vm.isStatics = true ∧ cell.cls = c ∧ f.slot < cell.slots.size ∧ k.staticTypes[f.slot]? = some f.type ∧ cell.slots[f.slot]? = some v ∧ (v = .null ∨ ∃ b, v = .ref b) ∧ ¬ A a
theorem pv_ST.move {C n d : String} {A : Nat → Prop} {s U : State} (h : pv_ST C n d A s) (hvm : s.vm.Alike U.vm) (hq : ∀ a : Nat, a < s.heap.size → ¬ A a → U.heap[a]? = s.heap[a]?) : pv_ST C n d A U := by
  obtain ⟨c, k, i, f, a, cell, v, h1, h2, h3, h4, h5, h6, h7, h8, h9, h10, h11, h12⟩ := h
  obtain ⟨k', hi', he⟩ := State.fieldFound?_setVm hvm h2
  exact ⟨c, k', i, f, a, cell, v, by rw [hvm.findClass]; exact h1, hi', h3, by rw [he]; exact h4, by rw [hq a (Array.getElem?_eq_some_iff.mp h5).1 h12]; exact h5, h6, h7, h8, by rw [he]; exact h9, h10, h11, h12⟩
theorem pv_ST.lays {C n d : String} {A : Nat → Prop} {U : State} (h : pv_ST C n d A U) {args : Array Value} : (Cond.laysStatic C n d).before args U = true := by
  obtain ⟨c, k, i, f, a, cell, v, h1, h2, h3, h4, h5, h6, h7, h8, h9, h10, h11, h12⟩ := h
  exact Cond.laysStatic_of h1 h2 h3 h4 h5 h6 h7 h8 h9
theorem pv_ST.isRef {C n d : String} {A : Nat → Prop} {U : State} (h : pv_ST C n d A U) {args : Array Value} : (Cond.isRef (.static C n d)).before args U = true := by
  obtain ⟨c, k, i, f, a, cell, v, h1, h2, h3, h4, h5, h6, h7, h8, h9, h10, h11, h12⟩ := h
  have hv : (Term.static C n d).eval args U none [] U = some v := by
    simp [Term.eval, State.fieldNamed?, h2, h3, h4, h5, h6, h10]
  rcases h11 with rfl | ⟨b, rfl⟩ <;> simp [Cond.before, Cond.holds, Cond.value, hv]
theorem pv_ST.of {C n d : String} {A : Nat → Prop} {s : State} {args : Array Value} (hl : (Cond.laysStatic C n d).before args s = true) (hr : (Cond.isRef (.static C n d)).before args s = true) (hA : ∀ a : Nat, a < s.heap.size → ¬ A a) : pv_ST C n d A s := by
  obtain ⟨c, k, i, f, a, cell, hc, hi, hst, ha, hcell, hs, hcls, hlt, hty⟩ := Cond.laysStatic_spec hl
  obtain ⟨v, hv⟩ : ∃ v, cell.slots[f.slot]? = some v := ⟨_, Array.getElem?_eq_getElem hlt⟩
  have hev : (Term.static C n d).eval args s none [] s = some v := by
    simp [Term.eval, State.fieldNamed?, hi, hst, ha, hcell, hs, hv]
  refine ⟨c, k, i, f, a, cell, v, hc, hi, hst, ha, hcell, hs, hcls, hlt, hty, hv, ?_, hA a (Array.getElem?_eq_some_iff.mp hcell).1⟩
  simp only [Cond.before, Cond.holds, Cond.value, hev] at hr
  cases v <;> simp at hr ⊢
