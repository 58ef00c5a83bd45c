/-! Rows for constructors: arrays made, nest mates' words. -/
theorem pv_goodC {w : Cond} (h : w ∈ pv_TB) : GoodIn pv_TB (w :: pv_TB) := pv_goodIn pv_good (fun x hx => by
  rcases List.mem_cons.mp hx with rfl | hx
  · exact h
  · exact hx)
def pv_NW : List Cond := [Cond.methodLinkNest "PatchVoices" 15 ⟨"PatchVoices$Reader", "<init>", "()V"⟩ "PatchVoices", Cond.methodLinkNest "PatchVoices$Reader" 11 ⟨"PatchVoices$Patch", "<init>", "()V"⟩ "PatchVoices", Cond.methodLinkNest "PatchVoices" 22 ⟨"PatchVoices$Program", "<init>", "()V"⟩ "PatchVoices", Cond.methodLinkNest "PatchVoices$Program" 11 ⟨"PatchVoices$Wiring", "<init>", "()V"⟩ "PatchVoices", Cond.methodLinkNest "PatchVoices" 47 ⟨"PatchVoices$Voice", "<init>", "()V"⟩ "PatchVoices"]
def pv_NB (U : State) : Prop := (∀ w ∈ pv_NW, va_Nw w U) ∧ va_AO "PatchVoices$Voice" U
theorem pv_NB.move {s U : State} (hW : s.WarmedH U.vm) (h : pv_NB s) : pv_NB U := by
  refine ⟨fun w hw => ?_, va_AO.moved hW.alike h.2⟩
  have h1 := h.1 w hw
  simp only [pv_NW, List.mem_cons, List.not_mem_nil, or_false] at hw
  rcases hw with rfl | rfl | rfl | rfl | rfl <;> exact va_Nw.warmM hW h1
section PVN
variable {p : Program} {l : Launch} {e : Env} {R : Room} {s : State} {m : MethodId} {args : Array Value} {below : List Frame} {meth : Method} {c : Code} {H : Heap} {locs : List Loc} {cells slots : Nat} {Q : State → Prop}
variable {cc : ByteArray} {pc : Nat} {ls : Array Slot} {rest : List Value} {D : va_G} {cl : List vw_C} {A : Nat → Prop} {ws : va_W} {H0 : Heap} {tys : List (ClassId × FieldType)}
theorem pv_newa (hexec : p.tables.exec = Jvm.exec) (hb : c.code = cc) {atype : ArrayType} (harr : (Cond.arrayClass (newarray.typeOf atype)).before args s = true) {ty : FieldType} (hty : newarray.typeOf atype = ty) (hK : va_K D cl tys s) {t0 : Nat} {cQ : ClassId} (ht : tys[t0]? = some (cQ, ty)) (hpr : ∀ C, ty ≠ .object C) (hP : va_P D cl ws H) (hD : va_D A ws) (hS : va_S A H0 H locs) (hA : ∀ q, H0.size ≤ q → A q)
    {n : Int32} {N' : Nat} {a0 : vp_A} (ha : ∀ cA : ClassId, vp_cell cA a0 = arrV cA N' (fun _ => defaultValue ty)) (hn : ¬ n < 0) (hN : n.toNatClampNeg = N') (hbytes : N' * componentBytes ty ≤ 536870912) (hcells : cells + 1 ≤ R.cells) (hslots : slots + N' ≤ R.slots) (hdg : decode cc pc = .ok (.newarray atype, 2))
    (kk : ∀ (q : Nat) (H1 : Heap), va_P D cl (ws ++ [(q, .inl (cQ, a0))]) H1 → va_D A (ws ++ [(q, .inl (cQ, a0))]) → va_S A H0 H1 locs → W p l e R s m args below meth c H1 locs (cells + 1) (slots + N') Q (F0 m (pc + 2) ls (.ref q :: rest))) : W p l e R s m args below meth c H locs cells slots Q (F0 m pc ls (.int n :: rest)) := by
  refine va_newa hexec hb harr hty hK hP hD hS hA ha hn hN hbytes hcells hslots hdg (fun q cA H1 hK1 hP1 hD1 hS1 => ?_)
  have h1 : va_RA s cA ty := (hK1.2 tys.length (cA, ty) (by simp)).2
  have h2 : va_RA s cQ ty := (hK.2 t0 _ ht).2
  have e1 : cA = cQ := by
    cases ty with
    | object C => exact absurd rfl (hpr C)
    | _ => exact Option.some.inj (h1.symm.trans h2)
  subst e1
  exact kk q H1 hP1 hD1 hS1
theorem pv_newq (hexec : p.tables.exec = Jvm.exec) (hb : c.code = cc) {own C : String} {index : Nat} (hown : s.vm.findClass own = some m.cls) (hclink : (Cond.classLink own index C).before args s = true) (hover : va_AO C s) (hK : va_K D cl tys s) {t0 : Nat} {cQ : ClassId} (ht : tys[t0]? = some (cQ, .object C)) (hP : va_P D cl ws H) (hD : va_D A ws) (hS : va_S A H0 H locs) (hA : ∀ q, H0.size ≤ q → A q)
    {n : Int32} {N' : Nat} (hn : ¬ n < 0) (hN : n.toNatClampNeg = N') (hbytes : N' * 4 ≤ 536870912) (hcells : cells + 1 ≤ R.cells) (hslots : slots + N' ≤ R.slots) (hdg : decode cc pc = .ok (.anewarray index, 3))
    (kk : ∀ (q : Nat) (H1 : Heap), va_P D cl (ws ++ [(q, .inl (cQ, N', .inr (.inr (.inr (.inr (fun _ => none))))))]) H1 → va_D A (ws ++ [(q, .inl (cQ, N', .inr (.inr (.inr (.inr (fun _ => none))))))]) → va_S A H0 H1 locs → W p l e R s m args below meth c H1 locs (cells + 1) (slots + N') Q (F0 m (pc + 3) ls (.ref q :: rest))) : W p l e R s m args below meth c H locs cells slots Q (F0 m pc ls (.int n :: rest)) := by
  refine va_newq hexec hb hown hclink hover hK hP hD hS hA hn hN hbytes hcells hslots hdg (fun q cA H1 hK1 hP1 hD1 hS1 => ?_)
  obtain ⟨-, -, -, -, -, h1⟩ := (hK1.2 tys.length (cA, .object C) (by simp)).2
  obtain ⟨-, -, -, -, -, h2⟩ := (hK.2 t0 _ ht).2
  have e1 : cA = cQ := Option.some.inj (h1.symm.trans h2)
  subst e1
  exact kk q H1 hP1 hD1 hS1
end PVN
