/-! The law's cell for answers, and the form of a helper's contract. -/
def pv_O (b : Nat) (cA : ClassId) (f : Nat → Int64) : va_W := [(b, .inl (cA, 1, .inr (.inl f)))]
def pv_AH (A : Nat → Prop) (b : Nat) : Nat → Prop := fun q => A q ∨ q = b
theorem pv_ws_len {N : Nat} {a : Nat → Nat} {F : pv_F} {σ : pv_S} : (pv_ws N a F σ).length = N := by simp [pv_ws]
theorem pv_O_at {b : Nat} {cA : ClassId} {f : Nat → Int64} {k : Nat} {q : Nat × va_E} (h : (pv_O b cA f)[k]? = some q) : q = (b, .inl (cA, 1, .inr (.inl f))) := by
  have h2 := List.mem_of_getElem? h
  simpa [pv_O] using h2
theorem pv_O_kept {D : va_G} {cl : List vw_C} {b : Nat} {cA : ClassId} {f : Nat → Int64} {H H1 : Heap} (hO : va_P D cl (pv_O b cA f) H) (h : H1[b]? = H[b]?) : va_P D cl (pv_O b cA f) H1 :=
  va_P.kept hO (fun k q hk => by rw [pv_O_at hk]; exact h)
theorem pv_O_lt {D : va_G} {cl : List vw_C} {b : Nat} {cA : ClassId} {f : Nat → Int64} {H : Heap} (hO : va_P D cl (pv_O b cA f) H) : b < H.size := (hO 0 _ rfl).lt
/-- what a helper needs of the state -/
def pv_ZH (t : Nat → Nat) (A : Nat → Prop) (U : State) : Prop := pv_ZY t A U ∧ pv_ZN U
theorem pv_mvH {t : Nat → Nat} {A : Nat → Prop} : pv_mv A (pv_ZH t A) := fun s U H locs hZ hS hU hW => ⟨pv_mvY s U H locs hZ.1 hS hU hW, hZ.2.moved hW.alike⟩
/-- how the outcome of a throwing method shows behind its helper: the number, the state, the cell -/
def pv_rx (cod : Nat → Int32) : pv_X → Int32
  | .inl _ => 0
  | .inr k => cod k.1
def pv_sx : pv_X → pv_S
  | .inl r => r.2
  | .inr k => k.2
def pv_fx (cv : Int32 → Int64) (f : Nat → Int64) : pv_X → Nat → Int64
  | .inl r => vp_updL f 0 (cv r.1)
  | .inr _ => f
def pv_okx (ks : List Nat) : pv_X → Prop
  | .inl _ => True
  | .inr k => k.1 ∈ ks
def pv_Mh (l : Launch) (y : MethodName) (ws : List Cond) (rm : Room) (D : va_G) (cl : List vw_C) (tys : List (ClassId × FieldType)) (N : Nat) (a : Nat → Nat) (F : pv_F) (A : Nat → Prop) (Z : State → Prop) (b : Nat) (cA : ClassId) (av : List Value) (σ : pv_S) (f : Nat → Int64) (r : Int32) (σ' : pv_S) (f' : Nat → Int64) : Prop :=
  Met l y ws rm (va_Pc av (fun U => (pv_W D cl N a F σ U.heap ∧ va_P D cl (pv_O b cA f) U.heap) ∧ va_K D cl tys U ∧ Z U)) (fun _ st o t => o = .returned (some (.int r)) ∧ (pv_W D cl N a F σ' t.heap ∧ va_P D cl (pv_O b cA f') t.heap) ∧ va_F (pv_AH A b) st t) 1 6 (pv_AH A b)
section PVH2
variable {p : Program} {l : Launch} {e : Env} {R : Room} {s : State} {m : MethodId} {args : Array Value} {below : List Frame} {meth : Method} {c : Code} {H : Heap} {locs : List Loc} {cells slots : Nat} {Q : State → Prop}
variable {cc bytes : ByteArray} {pc nL maxL n ix : Nat} {ls : Array Slot} {rest st0 As av : List Value} {own Cn : String} {Ts : List Cond} {D : va_G} {cl : List vw_C} {tys : List (ClassId × FieldType)} {N : Nat} {a : Nat → Nat} {A : Nat → Prop} {F : pv_F} {σ : pv_S} {Z : State → Prop} {rm : Room} {y : MethodName} {ret : Option FieldType} {rv : Int32 → Option Value} {b : Nat} {cA : ClassId} {f : Nat → Int64}
theorem pv_ofH {hh : List (Nat × Nat × Nat × Nat)} {r : Int32} {σ' : pv_S} {f' : Nat → Int64} (hy : plainName y.cls = true) (hav : (lg_sl av).length ≤ maxL)
    (body : ∀ (p : Program) (e : Env) (s : State) (m : MethodId) (args : Array Value) (below : List Frame) (meth : Method) (c : Code) (Q : State → Prop) (ls : Array Slot), CallFix p m c cc maxL s args Ts y.cls → c.exceptionTable.toList.map (fun h => (h.startPc, h.endPc, h.handlerPc, h.catchType)) = hh → va_K D cl tys s → Z s →
      (∀ (H : Heap) (L : List Loc) (pc : Nat) (ls : Array Slot), decode cc pc = .ok (.ireturn, 1) → pv_W D cl N a F σ' H → va_P D cl (pv_O b cA f') H → va_S (pv_AH A b) s.heap H L → W p l e rm s m args below meth c H L 1 6 Q (F0 m pc ls [.int r])) →
      lv_has ls maxL (lv_args 0 av) → pv_W D cl N a F σ s.heap → va_P D cl (pv_O b cA f) s.heap → W p l e rm s m args below meth c s.heap [] 0 0 Q (F0 m 0 ls [])) :
    pv_Mh l y (Cond.codeWith y cc maxL (some .int) hh :: Ts) rm D cl tys N a F A Z b cA av σ f r σ' f' := by
  refine va_MetW (cc := cc) (maxL := maxL) (ret := some .int) (hh := hh) hy rfl ?_
  intro p e s m args below meth c s₁ B hml hv
  obtain ⟨rfl, ⟨hP, hO⟩, hK, hZ⟩ := hv
  have hts := atoms_spec (ws := Cond.codeWith y cc maxL (some .int) hh :: Ts) B.pre
  have hl := lv_entry av hav
  obtain ⟨m9, meth9, c9, n1, n2, n3, n4, n5, n6, -⟩ := Cond.codeWith_spec (hts _ List.mem_cons_self)
  cases B.named.symm.trans n1
  have X₀ := Stand.of_body B
  cases X₀.method.symm.trans n2
  cases X₀.code.symm.trans n3
  rw [lg_entry_eq]
  refine body p e s m _ below meth c _ _ ⟨B.exec, B.bytes, hml, findClass_of_methodNamed B.named, fun w hw => hts w (List.mem_cons_of_mem _ hw)⟩ n6 hK hZ ?_ hl hP hO
  intro H L pc ls hdg hP1 hO1 hS1
  exact W.iret B.exec B.bytes B.returns (fun t ht hW => ⟨rfl, ⟨by rw [ht]; exact hP1, by rw [ht]; exact hO1⟩, hS1.F ht⟩) hS1.2.2 hdg (hlocks := B.notSynchronized)
theorem pv_cwX (ht : ∀ w ∈ Ts, w.before args s = true) (hg : ∀ w ∈ Ts, goodWord w = true) (h : pv_CV Ts own Cn ix y bytes maxL ret n) {mc ms : Nat} (hrc : rm.cells = mc) (hrs : rm.slots = ms) (hR : rm.frames + 1 ≤ R.frames ∧ 8 + (maxL + 11) + rm.locals ≤ R.locals) : CallW R s args own Cn ix y bytes maxL ret (Cond.code y bytes maxL ret :: Ts) rm mc ms n := by
  obtain ⟨h0, h1, h2, h3, h4, h5⟩ := h
  refine cwV n ht (pv_goodIn hg ?_) rfl hrc hrs h0 hR
  intro w hw
  unfold wsV at hw
  rcases List.mem_append.mp hw with hw | hw
  · simp only [List.mem_cons, List.not_mem_nil, or_false] at hw
    rcases hw with rfl | rfl | rfl | rfl <;> assumption
  · rcases List.mem_cons.mp hw with rfl | hw
    · exact h5
    · exact hw
theorem pv_nearS {H1 : Heap} {L : List Loc} (h : s.heap.size ≤ H1.size ∧ ∀ q : Nat, q < s.heap.size → H1[q]? = s.heap[q]? ∨ A q) (hL : ∀ q ∈ L, A q.base) : va_S (pv_AH A b) s.heap H1 L :=
  ⟨h.1, fun q hq hn => (h.2 q hq).resolve_right (fun hA => hn (Or.inl hA)), fun q hq => Or.inl (hL q hq)⟩
/-- a helper's call: the class's method, the cell for answers kept -/
theorem pv_callH (C : pv_C p s m args c cc nL own Ts D cl tys N a A Z) (hmv : pv_mv A Z) (hg : ∀ w ∈ Ts, goodWord w = true) {hh : List (Nat × Nat × Nat × Nat)} (hhh : c.exceptionTable.toList.map (fun h => (h.startPc, h.endPc, h.handlerPc, h.catchType)) = hh) (hlk : ∀ j, j < 4 → Cond.classLink own (pv_ct j) (pv_xn j) ∈ Ts) (hZN : pv_ZN s)
    (hP : pv_W D cl N a F σ s.heap) (hO : va_P D cl (pv_O b cA f) s.heap) (hb : ¬ A b) {k ci : Nat} {fs : List Value} {T : u_T} {nn : Nat} {out : pv_X} (hk : k < N) (he : F k (σ.1 k) (σ.2 k) = .inr (ci, fs)) (hc : cl[ci]? = some (Cn, T, nn))
    (hM : pv_Mx l y (Cond.code y bytes maxL ret :: Ts) rm D cl tys N a F A Z rv (.ref (a k) :: As) σ out) (cw : pv_CV Ts own Cn ix y bytes maxL ret n) (hR : rm.cells = 1 ∧ rm.slots = 6 ∧ (rm.frames + 1 ≤ R.frames ∧ 8 + (maxL + 11) + rm.locals ≤ R.locals) ∧ 0 + 1 ≤ R.cells ∧ 0 + 6 ≤ R.slots)
    (hn : As.length = n) (hl : ls.size = nL) (hst : st0 = As.reverse ++ .ref (a k) :: rest) (hW : (rest.map fun v => v.category).sum ≤ 8) (hdg : decode cc pc = .ok (.invokevirtual ix, 3))
    (kx : ∀ (k : Nat) (σ' : pv_S), out = .inr (k, σ') → ∃ tgt, pv_hd hh pc k tgt ∧ ∀ (H1 : Heap) (x : Addr), pv_W D cl N a F σ' H1 → va_P D cl (pv_O b cA f) H1 → va_S (pv_AH A b) s.heap H1 [] → W p l e R s m args below meth c H1 [] 1 6 Q (F0 m tgt ls [.ref x]))
    (kk : ∀ (r : Int32) (σ' : pv_S), out = .inl (r, σ') → ∀ (H1 : Heap) (L : List Loc), pv_W D cl N a F σ' H1 → va_P D cl (pv_O b cA f) H1 → va_S (pv_AH A b) s.heap H1 L → W p l e R s m args below meth c H1 L 1 6 Q (F0 m (pc + 3) ls ((rv r).toList ++ rest))) : W p l e R s m args below meth c s.heap [] 0 0 Q (F0 m pc ls st0) := by
  have hbl := pv_O_lt hO
  refine pv_callX (pv_fix C) hhh (fun j hj => C.2.2.2.2.1 _ (hlk j hj)) hZN hM (pv_cwX C.2.2.2.2.1 hg cw hR.1 hR.2.1 hR.2.2.1) ⟨pv_blind hmv, va_recv C.2.2.2.2.2.1 hP hc ((pv_at hk).trans (by rw [he])), pv_pre C hmv hP va_S.rf⟩ hn hl hst hW hdg hR.2.2.2 (fun k' σ' ho => ?_) (fun r σ' ho H1 L hP1 hne hL => ?_)
  · obtain ⟨tgt, h1, h2⟩ := kx k' σ' ho
    exact ⟨tgt, h1, fun H1 x hP1 hne => h2 H1 x hP1 (pv_O_kept hO ((hne.2 b hbl).resolve_right hb)) (pv_nearS hne (fun q hq => absurd hq List.not_mem_nil))⟩
  · exact kk r σ' ho H1 L hP1 (pv_O_kept hO ((hne.2 b hbl).resolve_right hb)) (pv_nearS hne hL)
/-- the answer is written into its cell -/
theorem pv_lastO (hx : p.tables.exec = Jvm.exec) (hcb : c.code = cc) (hK : va_K D cl tys s) (hP : pv_W D cl N a F σ H) (hO : va_P D cl (pv_O b cA f) H) (hD : pv_D N a A) (hb : ¬ A b) {H0 : Heap} (hS : va_S (pv_AH A b) H0 H locs) {t0 : Nat} (ht : tys[t0]? = some (cA, .long)) {x : Int64} (hdg : decode cc pc = .ok (.lastore, 1))
    (kk : ∀ (H1 : Heap) (locs1 : List Loc), pv_W D cl N a F σ H1 → va_P D cl (pv_O b cA (vp_updL f 0 x)) H1 → va_S (pv_AH A b) H0 H1 locs1 → W p l e R s m args below meth c H1 locs1 cells slots Q (F0 m (pc + 1) ls rest)) : W p l e R s m args below meth c H locs cells slots Q (F0 m pc ls (.long x :: .int 0 :: .ref b :: rest)) := by
  have hne : ∀ (i j : Nat) (z w : Nat × va_E), (pv_ws N a F σ)[i]? = some z → (pv_O b cA f)[j]? = some w → z.1 ≠ w.1 := by
    intro i j z w h1 h2 h3
    obtain ⟨h4, rfl⟩ := pv_of h1
    rw [pv_O_at h2] at h3
    have h3' : a i = b := h3
    exact hb (h3' ▸ hD.2 i h4)
  have hD1 : va_D (pv_AH A b) (pv_ws N a F σ) := (hD.va).weaken (fun _ _ _ h => Or.inl h)
  have hD2 : va_D (pv_AH A b) (pv_O b cA f) := ⟨fun i j z w h1 h2 _ => by
    have l1 := (List.getElem?_eq_some_iff.mp h1).1
    have l2 := (List.getElem?_eq_some_iff.mp h2).1
    simp only [pv_O, List.length_cons, List.length_nil] at l1 l2
    omega, fun k w hk => by rw [pv_O_at hk]; exact Or.inr rfl⟩
  have hat : (pv_ws N a F σ ++ pv_O b cA f)[N]? = some (b, .inl (cA, 1, .inr (.inl f))) := by
    rw [List.getElem?_append_right (by rw [pv_ws_len]; exact Nat.le_refl _), pv_ws_len, Nat.sub_self]
    rfl
  refine va_last hx hcb hK (va_P.app hP hO) (va_D.app hD1 hD2 hne) hS N t0 hat ht (pv_in_vp (by decide)) hdg (fun H1 locs1 hP1 _ hS1 => ?_)
  rw [List.set_append_right _ _ (by rw [pv_ws_len]; exact Nat.le_refl _), pv_ws_len, Nat.sub_self] at hP1
  refine kk H1 locs1 (fun k q hk => hP1 k q ?_) (fun k q hk => hP1 (N + k) q ?_) hS1
  · rw [List.getElem?_append_left (by exact (List.getElem?_eq_some_iff.mp hk).1)]
    exact hk
  · rw [List.getElem?_append_right (by rw [pv_ws_len]; omega), pv_ws_len, Nat.add_sub_cancel_left]
    exact hk
end PVH2
