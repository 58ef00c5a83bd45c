/-! The law's helpers: a call that may throw, and its handlers. -/
section PVH
variable {p : Program} {l : Launch} {e : Env} {R : Room} {s : State} {m : MethodId} {args : Array Value} {below : List Frame} {meth : Method} {c : Code} {H : Heap} {locs : List Loc} {cells slots : Nat} {Q : State → Prop}
theorem pv_asg (vm : Vm) (x : ClassId) : vm.assignable x x = true := by
  show vm.assignableAux (255 + 1) x x = true
  rw [Vm.assignableAux]
  simp only [beq_self_eq_true, Bool.true_or]
/-- the exception that stands over the walked frame is caught there -/
theorem pv_caught {T : State} (X : Stand p l e R s m args below meth c T locs cells slots) {g : JFrame} (hg : g.method = m) {x : Addr} {cell : Cell} (hcell : T.heap[x]? = some cell) (hobj : cell.vm = .none) (hk : ∃ k, s.vm.classes[cell.cls]? = some k)
    {pre rest : List ExceptionTableEntry} {h : ExceptionTableEntry} (ht : c.exceptionTable.toList = pre ++ h :: rest) (hx : covers h g.pc = true) (h0 : h.catchType ≠ 0) {cx : ClassId} (hl : s.vm.ClassLinks e.platform m.cls h.catchType cx) (hf : s.vm.assignable cell.cls cx = true)
    (hpre : ∀ y ∈ pre, covers y g.pc = true ∧ y.catchType ≠ 0 ∧ ∃ cy, s.vm.ClassLinks e.platform m.cls y.catchType cy ∧ s.vm.assignable cell.cls cy = false) :
    ∃ T' : State, T'.heap = T.heap ∧ Stand p l e R s m args below meth c T' locs cells slots ∧ ∀ target, Steps p.tables e below (T'.setTop { g with pc := h.handlerPc, stack := [.ref x] }) target → Steps p.tables e below ((T.setTop g).pushFrame (.throwing x)) target := by
  subst hg
  obtain ⟨vm', hW', hs⟩ := pv_seek (s := s) (e := e) (S := (T.setTop g).pushFrame (.throwing x)) (f := g) (a := x) (cell := cell) (by rw [Stand.throwing_heap]; exact hcell) (fun k hk => by rw [hobj] at hk; cases hk) hk h rest hx h0 hl hf pre hpre T.vm X.warmed
  refine ⟨T.setVm vm', rfl, X.noted hW', fun target hrest => ?_⟩
  have hvm : ∀ S : State, S.vm = T.vm → S.setVm T.vm = S := fun S h => by rw [← h]; rfl
  have hm : ((T.setTop g).pushFrame (.throwing x)).vm.method? g.method = some meth := by rw [Stand.throwing_vm]; exact X.method'
  refine pv_into (vm' := vm') X.here (fun Q E d acts => ?_) hrest
  have h1 : wp (findHandler g x) Q E e d acts ((T.setTop g).pushFrame (.throwing x)) ↔ wp (findHandler.go g x c.exceptionTable.toList) Q E e d acts ((T.setTop g).pushFrame (.throwing x)) := by simp [findHandler, hm, X.code]
  rw [h1, ht]
  have h2 := hs Q E d acts
  rw [hvm _ (Stand.throwing_vm T g x)] at h2
  exact h2
theorem pv_table {t : List ExceptionTableEntry} {hp hr : List (Nat × Nat × Nat × Nat)} {h0 : Nat × Nat × Nat × Nat} (h : t.map (fun h => (h.startPc, h.endPc, h.handlerPc, h.catchType)) = hp ++ h0 :: hr) :
    ∃ (pre : List ExceptionTableEntry) (x : ExceptionTableEntry) (rest : List ExceptionTableEntry), t = pre ++ x :: rest ∧ pre.map (fun h => (h.startPc, h.endPc, h.handlerPc, h.catchType)) = hp ∧ (x.startPc, x.endPc, x.handlerPc, x.catchType) = h0 := by
  obtain ⟨l1, l2, rfl, h1, h2⟩ := List.map_eq_append_iff.mp h
  obtain ⟨x, l3, rfl, h3, -⟩ := List.map_eq_cons_iff.mp h2
  exact ⟨l1, x, l3, rfl, h1, h3⟩
/-- the pool numbers of the exceptions in the law's class -/
def pv_ct : Nat → Nat
  | 0 => 13
  | 1 => 15
  | 2 => 27
  | _ => 47
/-- what the helpers need of the tables for their handlers -/
def pv_ZN (U : State) : Prop := ∀ i j, i < 4 → j < 4 → i ≠ j → va_Nc (pv_xn i) (pv_xn j) U
theorem pv_ZN.moved {u U : State} (hvm : u.vm.Alike U.vm) (h : pv_ZN u) : pv_ZN U := fun i j hi hj hij => (h i j hi hj hij).moved hvm
variable {cc bytes : ByteArray} {pc nL maxL n ix : Nat} {ls : Array Slot} {rest st0 As : List Value} {own Cn : String} {Ts : List Cond} {D : va_G} {cl : List vw_C} {tys : List (ClassId × FieldType)} {N : Nat} {a : Nat → Nat} {A : Nat → Prop} {F : pv_F} {σ : pv_S} {Z : State → Prop} {rm : Room} {y : MethodName} {ret : Option FieldType} {rv : Int32 → Option Value}
/-- where the exception number k, thrown at pc, is caught: the entry, behind entries of other exceptions -/
def pv_hd (hh : List (Nat × Nat × Nat × Nat)) (pc k tgt : Nat) : Prop := ∃ (hp hr : List (Nat × Nat × Nat × Nat)) (a b : Nat), hh = hp ++ (a, b, tgt, pv_ct k) :: hr ∧ a ≤ pc ∧ pc < b ∧ k < 4 ∧ ∀ z ∈ hp, z.1 ≤ pc ∧ pc < z.2.1 ∧ ∃ j, j < 4 ∧ j ≠ k ∧ z.2.2.2 = pv_ct j
theorem pv_ct0 (j : Nat) : pv_ct j ≠ 0 := by
  unfold pv_ct
  split <;> decide
theorem pv_callX (S : CallFix p m c cc nL s args Ts own) {hh : List (Nat × Nat × Nat × Nat)} (hhh : c.exceptionTable.toList.map (fun h => (h.startPc, h.endPc, h.handlerPc, h.catchType)) = hh)
    (hlk : ∀ j, j < 4 → (Cond.classLink own (pv_ct j) (pv_xn j)).before args s = true) (hZN : pv_ZN s) {b : Addr} {av : List Value} {out : pv_X}
    (hM : pv_Mx l y (Cond.code y bytes maxL ret :: Ts) rm D cl tys N a F A Z rv av σ out) (cw : CallW R s args own Cn ix y bytes maxL ret (Cond.code y bytes maxL ret :: Ts) rm 1 6 n)
    (hp : PreV s H Cn b (va_Pc av (fun U => pv_W D cl N a F σ U.heap ∧ va_K D cl tys U ∧ Z U)) As) (hn : As.length = n) (hl : ls.size = nL) (hst : st0 = As.reverse ++ .ref b :: rest) (hW : (rest.map fun v => v.category).sum ≤ 8) (hdg : decode cc pc = .ok (.invokevirtual ix, 3)) (hf : cells + 1 ≤ R.cells ∧ slots + 6 ≤ R.slots)
    (kx : ∀ (k : Nat) (σ' : pv_S), out = .inr (k, σ') → ∃ tgt, pv_hd hh pc k tgt ∧ ∀ (H1 : Heap) (x : Addr), pv_W D cl N a F σ' H1 → (H.size ≤ H1.size ∧ ∀ q : Nat, q < H.size → H1[q]? = H[q]? ∨ A q) → W p l e R s m args below meth c H1 locs (cells + 1) (slots + 6) Q (F0 m tgt ls [.ref x]))
    (kk : ∀ (r : Int32) (σ' : pv_S), out = .inl (r, σ') → ∀ (H1 : Heap) (L : List Loc), pv_W D cl N a F σ' H1 → (H.size ≤ H1.size ∧ ∀ q : Nat, q < H.size → H1[q]? = H[q]? ∨ A q) → (∀ q ∈ L, A q.base) → W p l e R s m args below meth c H1 (locs ++ L) (cells + 1) (slots + 6) Q (F0 m (pc + 3) ls ((rv r).toList ++ rest))) : W p l e R s m args below meth c H locs cells slots Q (F0 m pc ls st0) := by
  have near : ∀ st t : State, st.heap = H → va_F A st t → H.size ≤ t.heap.size ∧ ∀ q : Nat, q < H.size → t.heap[q]? = H[q]? ∨ A q := by
    intro st t h0 hF
    refine ⟨by rw [← h0]; exact hF.1, fun q hq => ?_⟩
    by_cases hA : A q
    · exact Or.inr hA
    · exact Or.inl (by rw [← h0]; exact hF.2 q (by rw [h0]; exact hq) hA)
  cases out with
  | inl r =>
    have hM' : Met l y (Cond.code y bytes maxL ret :: Ts) rm (va_Pc av (fun U => pv_W D cl N a F σ U.heap ∧ va_K D cl tys U ∧ Z U)) (fun _ st o t => o = .returned (rv r.1) ∧ pv_W D cl N a F r.2 t.heap ∧ va_F A st t) 1 6 A := by
      refine MetFree.mono hM (fun _ _ h => h) (fun _ _ _ _ _ h => h) (fun a' st o t _ hq => ?_)
      rcases hq with ⟨r', h1, h2, h3, h4, L, h5, h6⟩ | ⟨k, x, h1, -⟩
      · cases h1
        exact ⟨⟨h2, h3, h4⟩, L, ⟨h5.1, h5.2.1, h5.2.2.mono (Nat.zero_le _) (Nat.zero_le _)⟩, h6⟩
      · cases h1
    intro T hT X
    obtain ⟨v, st₀, t, T', L, h0, X', hL, e1, e2, ⟨hv, hP1, hF1⟩, st⟩ := va_runV S hM' cw hp (g := F0 m pc ls st0) rfl hn hl hst (lv_room hW) hdg hf T hT X
    cases hv
    obtain ⟨t2, a1, b1⟩ := kk r.1 r.2 rfl T'.heap L (by rw [e1]; exact hP1) (by rw [e1]; exact near st₀ t h0 hF1) hL T' rfl X'
    exact ⟨t2, st t2 a1, b1⟩
  | inr k =>
    intro T hT X
    have hrc : rm.cells = 1 := cw.1.1
    have hrs : rm.slots = 6 := cw.1.2.1
    have hp' : PreV s T.heap Cn b (va_Pc av (fun U => pv_W D cl N a F σ U.heap ∧ va_K D cl tys U ∧ Z U)) As := by rw [hT]; exact hp
    obtain ⟨x, st, t, T', h0, hWs, hQ, hT', X', hgo⟩ := pv_threw X S.1 (Qx := fun _ st o t => pv_Qx D cl N a F A rv (.inr k) st o t) hM S.2.2.2.1 (by rw [hrc, hrs]; exact cw) hp' (g := F0 m pc ls st0) rfl hn (hl.trans S.2.2.1.symm) hst (lv_room hW) (by rw [S.2.1]; exact hdg) (by rw [hrc]; exact hf.1) (by rw [hrs]; exact hf.2) (fun a' st t o hq => by
      rcases hq with ⟨r', h1, -⟩ | ⟨k', x, h1, h2, h3, h4, h5, h6, h7⟩
      · cases h1
      · exact ⟨x, h2, h5, h6⟩)
    rcases hQ with ⟨r', h1, -⟩ | ⟨k', x', h1, h2, h3, h4, h5, h6, ce, h7, h8, h9⟩
    · cases h1
    cases h1
    cases h2
    obtain ⟨tgt, ⟨hp1, hr1, a1, b1, e1, l1, l2, l3, l4⟩, hk⟩ := kx k.1 k.2 rfl
    obtain ⟨pre, xe, rs, t1, t2, t3⟩ := pv_table (hhh.trans e1)
    have hfc : s.vm.findClass (pv_xn k.1) = some ce.cls := by rw [← hWs.alike.findClass]; exact h9
    have hpl : e.platform.magicAccessors = ({} : Platform).magicAccessors := by rw [X.admits.platform]
    obtain ⟨cx, q1, q2⟩ := Cond.classLink_spec S.2.2.2.1 (hlk k.1 l3) e.platform hpl
    cases hfc.symm.trans q1
    obtain ⟨-, -, -, kc, -, -, -, -, -, hkc, -, -⟩ := q2.here
    injection t3 with u1 t3
    injection t3 with u2 t3
    injection t3 with u3 u4
    obtain ⟨T'', g1, g2, g3⟩ := pv_caught X' (g := F0 m pc ls rest) rfl (x := x) (cell := ce) (by rw [hT']; exact h7) h8 ⟨kc, hkc⟩ t1 (by show (decide (xe.startPc ≤ pc) && decide (pc < xe.endPc)) = true; rw [u1, u2]; simp [l1, l2]) (by rw [u4]; exact pv_ct0 _) (cx := ce.cls) (by rw [u4]; exact q2) (pv_asg _ _) (fun z hz => by
      have hz2 : (z.startPc, z.endPc, z.handlerPc, z.catchType) ∈ hp1 := by rw [← t2]; exact List.mem_map_of_mem hz
      obtain ⟨v1, v2, j, v3, v4, v5⟩ := l4 _ hz2
      obtain ⟨cy, w1, w2⟩ := Cond.classLink_spec S.2.2.2.1 (hlk j v3) e.platform hpl
      obtain ⟨c1, c2, o1, o2, o3⟩ := hZN k.1 j l3 v3 (fun h => v4 h.symm)
      cases hfc.symm.trans o1
      cases w1.symm.trans o2
      have v5' : z.catchType = pv_ct j := v5
      refine ⟨?_, by rw [v5']; exact pv_ct0 _, cy, by rw [v5']; exact w2, o3⟩
      show (decide (z.startPc ≤ pc) && decide (pc < z.endPc)) = true
      have v1' : z.startPc ≤ pc := v1
      have v2' : pc < z.endPc := v2
      simp [v1', v2'])
    rw [List.append_nil] at g2
    have g4 : T''.heap = t.heap := g1.trans hT'
    obtain ⟨t2, b1, b2⟩ := hk T''.heap x (by rw [g4]; exact h3) (by rw [g4]; exact near st t (h0.trans hT) h4) T'' rfl g2
    exact ⟨t2, hgo t2 (g3 t2 (by rw [u3]; exact b1)), b2⟩
end PVH
