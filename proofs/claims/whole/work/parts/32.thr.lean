/-! A throw of an exception of the JDK's with a message, from a state in which nothing was written yet. -/
section PVT
variable {p : Program} {l : Launch} {e : Env} {R : Room} {s : State} {m : MethodId} {args : Array Value} {below : List Frame} {meth : Method} {c : Code} {Q : State → Prop}
variable {cc : ByteArray} {pc nL : Nat} {ls : Array Slot} {own : String} {Ts : List Cond} {D : va_G} {cl : List vw_C} {tys : List (ClassId × FieldType)} {N : Nat} {a : Nat → Nat} {A : Nat → Prop} {Z : State → Prop}
set_option maxHeartbeats 1000000 in
theorem pv_throw (C : pv_C p s m args c cc nL own Ts D cl tys N a A Z) (hfl : l.flags = Jvm.pinnedFlags ++ [Jvm.noTraceFlag]) (hlk : meth.locks = false) (hno : c.exceptionTable.isEmpty = true) {ik ix ic b : Nat} {cls tx : String} {names : List String}
    (hat : ∀ w ∈ Bundle.ownAtoms own ic cls names, w.before args s = true) (hcl : (Cond.classLink own ik cls).before args s = true) (hins : (Cond.instantiable cls 6).before args s = true) (hini : (Cond.initialized cls).before args s = true) (hstr : vk_R own ix tx b s)
    (hfit : Bundle.fit cls = true) (hnm : ∀ n ∈ names, Bundle.fit n = true) (hls : ls.size = nL) (hRf : names.length + 3 < R.frames) (hRl : 1 + (13 * (names.length + 1) + 42) ≤ R.locals) (hRc : 1 ≤ R.cells) (hRs : 6 ≤ R.slots)
    (d0 : decode cc pc = .ok (.new ik, 3)) (d3 : decode cc (pc + 3) = .ok (.dup, 1)) (d4 : decode cc (pc + 3 + 1) = .ok (.ldc ix, 2)) (d6 : decode cc (pc + 3 + 1 + 2) = .ok (.invokespecial ic, 3)) (d9 : decode cc (pc + 3 + 1 + 2 + 3) = .ok (.athrow, 1))
    (hq : ∀ (t : State) (x : Addr), t.status = .running → Ended t below (.threw x) → s.WarmedH t.vm → s.sameButNew ({ t with vm := s.vm } : State) [] 1 6 → (∃ ce : Cell, t.heap[x]? = some ce ∧ ce.vm = .none ∧ s.vm.findClass cls = some ce.cls) → Q t) :
    W p l e R s m args below meth c s.heap [] 0 0 Q (F0 m pc ls []) := by
  obtain ⟨hx, hb, hml, hown, hts, hK, hD, hZ⟩ := C
  obtain ⟨cX, kX, hfc, hkX, -⟩ := Cond.instantiable_spec hins
  refine W.newcK hx hb hown hcl hins hini rfl d0 (by omega) (by omega) hfc rfl (fun H1 kC hkC e1 z1 o1 => ?_)
  refine W.eq (g2 := F0 m (pc + 3) ls [.ref s.heap.size]) rfl ?_
  refine lv_dup hx hb d3 rfl ?_
  refine va_ldcS hx hb hown hstr d4 ?_
  intro T hT X
  obtain ⟨U, hs, hrun, hend, hW, hsame, ce, hce, hoc⟩ := Stand.ctorThrowS X hx (Launch.traces_off hfl X.admits) (own := own) (cls := cls) (names := names) (ic := ic) hown hfit hnm hat (fun x hx' => absurd hx' List.not_mem_nil) (a := s.heap.size) hfc hkC (by rw [hT]; exact e1) (Nat.le_refl _)
    (msg := .ref b) rfl (g := F0 m (pc + 3 + 1 + 2) ls [.ref b, .ref s.heap.size, .ref s.heap.size]) rfl (hls.trans hml.symm) rfl rfl (rest := []) rfl (by rw [hb]; exact d6) (by rw [hb]; exact d9)
    (fun x hx' => by
      have h0 : c.exceptionTable = #[] := Array.isEmpty_iff.mp hno
      rw [h0] at hx'
      exact absurd hx' List.not_mem_nil) hRf (by show 2 * 0 + 1 + _ ≤ _; omega) (hlocks := hlk)
  exact ⟨U, hs, hq U _ hrun hend hW hsame ⟨ce, hce, hoc.vm, hoc.cls⟩⟩
end PVT
