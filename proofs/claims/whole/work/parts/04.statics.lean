/-! The class's tables that nobody writes: INPUTS, FAULTS_IN_TURN. -/
def pv_INPUTS (j : Nat) : Int32 := ([2, 2, 2, 3, 3, 2, 3, 1, 0, 0, 0, 1, 1, 1, 1, 0, 4, 3, 2, 2] : List Int32).getD j 0
def pv_FAULTS_IN_TURN (j : Nat) : Int32 := ([3, 2, 4, 5, 1] : List Int32).getD j 0
def pv_WORDS (j : Nat) : Int32 := ([97, 100, 100, 115, 117, 98, 109, 117, 108, 109, 105, 120, 108, 105, 109, 99, 109, 112, 115, 101, 108, 107, 110, 111, 112, 105, 116, 103, 97, 116, 118, 101, 108, 115, 97, 119, 115, 113, 114, 116, 114, 105, 98, 111, 119, 110, 111, 105, 101, 110, 118, 108, 111, 119, 100, 101, 108, 104, 108, 100] : List Int32).getD j 0
/-! The text WORDS: a String constant that nobody writes. -/
def pv_WB : List Int32 := [97, 100, 100, 115, 117, 98, 109, 117, 108, 109, 105, 120, 108, 105, 109, 99, 109, 112, 115, 101, 108, 107, 110, 111, 112, 105, 116, 103, 97, 116, 118, 101, 108, 115, 97, 119, 115, 113, 114, 116, 114, 105, 98, 111, 119, 110, 111, 105, 101, 110, 118, 108, 111, 119, 100, 101, 108, 104, 108, 100]
def pv_ZS (t : Nat → Nat) (A : Nat → Prop) (U : State) : Prop :=
  vk_R "PatchVoices$Kinds" 13 "addsubmulmixlimcmpselknopitgatvelsawsqrtribownoienvlowdelhld" (t 2) U ∧ vk_S 1 [60] [pv_WB] (fun _ => t 2) (fun _ => t 3) A U U.heap ∧ va_Z "java/lang/String" "COMPACT_STRINGS" "Z" (.int 1) A U U.heap ∧ va_Zq "jdk/internal/util/Preconditions" "SIOOBE_FORMATTER" "Ljava/util/function/BiFunction;" A U U.heap
theorem pv_mvS {t : Nat → Nat} {A : Nat → Prop} : pv_mv A (pv_ZS t A) := by
  intro s U H locs hZ hS hU hW
  obtain ⟨h1, h2, h3, h4⟩ := hZ
  have hk : ∀ a : Nat, a < s.heap.size → ¬ A a → U.heap[a]? = s.heap[a]? := by rw [hU]; exact hS.2.1
  exact ⟨vk_R.warm hW h1, vk_S.moved hW.alike (h2.kept hk), va_Z.moved hW.alike (h3.kept hk), va_Zq.moved hW.alike (h4.kept hk)⟩
theorem pv_ZS.narrow {t : Nat → Nat} {A B : Nat → Prop} {U : State} (h : pv_ZS t A U) (hAB : ∀ q, B q → A q) : pv_ZS t B U :=
  ⟨h.1, h.2.1.narrow hAB, h.2.2.1.narrow hAB, h.2.2.2.narrow hAB⟩
def pv_ZX (t : Nat → Nat) (A : Nat → Prop) (U : State) : Prop :=
  (va_Z "PatchVoices$Kinds" "INPUTS" "[I" (.ref (t 0)) A U U.heap ∧ va_T .int (t 0) 20 (fun j => .int (pv_INPUTS j)) A U U.heap) ∧
  (va_Z "PatchVoices$Patch" "FAULTS_IN_TURN" "[I" (.ref (t 1)) A U U.heap ∧ va_T .int (t 1) 5 (fun j => .int (pv_FAULTS_IN_TURN j)) A U U.heap) ∧ pv_ZS t A U
theorem pv_ZsX {t : Nat → Nat} {A : Nat → Prop} : ∀ U, pv_ZX t A U → pv_ZS t A U := fun _ h => h.2.2
def pv_ZM : State → Prop := fun _ => True
theorem pv_mvM {A : Nat → Prop} : pv_mv A pv_ZM := fun _ _ _ _ _ _ _ _ => trivial
theorem pv_mvX {t : Nat → Nat} {A : Nat → Prop} : pv_mv A (pv_ZX t A) := by
  intro s U H locs hZ hS hU hW
  obtain ⟨⟨h1, h2⟩, ⟨h3, h4⟩, h5⟩ := hZ
  have hk : ∀ a : Nat, a < s.heap.size → ¬ A a → U.heap[a]? = s.heap[a]? := by rw [hU]; exact hS.2.1
  exact ⟨⟨va_Z.moved hW.alike (h1.kept hk), va_T.moved hW.alike (h2.kept hk)⟩, ⟨va_Z.moved hW.alike (h3.kept hk), va_T.moved hW.alike (h4.kept hk)⟩, pv_mvS s U H locs h5 hS hU hW⟩
section PVZ
variable {p : Program} {l : Launch} {e : Env} {R : Room} {s : State} {m : MethodId} {args : Array Value} {below : List Frame} {meth : Method} {c : Code} {H : Heap} {locs : List Loc} {cells slots : Nat} {Q : State → Prop}
variable {cc : ByteArray} {pc nL : Nat} {ls : Array Slot} {rest : List Value} {own : String} {Ts : List Cond} {D : va_G} {cl : List vw_C} {tys : List (ClassId × FieldType)} {N : Nat} {a t : Nat → Nat} {A : Nat → Prop}
theorem pv_sINPUTS (C : pv_C p s m args c cc nL own Ts D cl tys N a A (pv_ZX t A)) (hS : va_S A s.heap H locs) {ix : Nat} (hl : Cond.fieldLink own ix "PatchVoices$Kinds" "INPUTS" "[I" ∈ Ts) (hdg : decode cc pc = .ok (.getstatic ix, 3))
    (kk : W p l e R s m args below meth c H locs cells slots Q (F0 m (pc + 3) ls (.ref (t 0) :: rest))) : W p l e R s m args below meth c H locs cells slots Q (F0 m pc ls rest) := by
  obtain ⟨hx, hb, -, hown, hts, -, -, hZ⟩ := C
  exact va_gets hx hb hZ.1.1 hS hown (hts _ hl) (fun _ h => h) hdg kk
theorem pv_sFAULTS_IN_TURN (C : pv_C p s m args c cc nL own Ts D cl tys N a A (pv_ZX t A)) (hS : va_S A s.heap H locs) {ix : Nat} (hl : Cond.fieldLink own ix "PatchVoices$Patch" "FAULTS_IN_TURN" "[I" ∈ Ts) (hdg : decode cc pc = .ok (.getstatic ix, 3))
    (kk : W p l e R s m args below meth c H locs cells slots Q (F0 m (pc + 3) ls (.ref (t 1) :: rest))) : W p l e R s m args below meth c H locs cells slots Q (F0 m pc ls rest) := by
  obtain ⟨hx, hb, -, hown, hts, -, -, hZ⟩ := C
  exact va_gets hx hb hZ.2.1.1 hS hown (hts _ hl) (fun _ h => h) hdg kk
theorem pv_tINPUTS (C : pv_C p s m args c cc nL own Ts D cl tys N a A (pv_ZX t A)) (hS : va_S A s.heap H locs) {i : Int32} (hin : pv_in i 20 = true) (hdg : decode cc pc = .ok (.iaload, 1))
    (kk : W p l e R s m args below meth c H locs cells slots Q (F0 m (pc + 1) ls (.int (pv_INPUTS i.toNatClampNeg) :: rest))) : W p l e R s m args below meth c H locs cells slots Q (F0 m pc ls (.int i :: .ref (t 0) :: rest)) := by
  obtain ⟨hx, hb, -, hown, hts, -, -, hZ⟩ := C
  exact va_ti hx hb hZ.1.2 hS (pv_in_vp hin) rfl hdg kk
theorem pv_tFAULTS_IN_TURN (C : pv_C p s m args c cc nL own Ts D cl tys N a A (pv_ZX t A)) (hS : va_S A s.heap H locs) {i : Int32} (hin : pv_in i 5 = true) (hdg : decode cc pc = .ok (.iaload, 1))
    (kk : W p l e R s m args below meth c H locs cells slots Q (F0 m (pc + 1) ls (.int (pv_FAULTS_IN_TURN i.toNatClampNeg) :: rest))) : W p l e R s m args below meth c H locs cells slots Q (F0 m pc ls (.int i :: .ref (t 1) :: rest)) := by
  obtain ⟨hx, hb, -, hown, hts, -, -, hZ⟩ := C
  exact va_ti hx hb hZ.2.1.2 hS (pv_in_vp hin) rfl hdg kk
theorem pv_nFAULTS_IN_TURN (C : pv_C p s m args c cc nL own Ts D cl tys N a A (pv_ZX t A)) (hS : va_S A s.heap H locs) (hdg : decode cc pc = .ok (.arraylength, 1))
    (kk : W p l e R s m args below meth c H locs cells slots Q (F0 m (pc + 1) ls (.int (5 : Int32) :: rest))) : W p l e R s m args below meth c H locs cells slots Q (F0 m pc ls (.ref (t 1) :: rest)) := by
  obtain ⟨hx, hb, -, hown, hts, -, -, hZ⟩ := C
  exact va_tlen hx hb hZ.2.1.2 hS (v := (5 : Int32)) (by decide) hdg kk
end PVZ
