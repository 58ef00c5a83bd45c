/-! GENERIC ROWS OF MINE: contracts over a world by index, and calls. -/
/-- a method that answers an int: from the state σ it returns out.1 and leaves out.2; nothing outside A changes; no cell is made -/
def pv_Mi (l : Launch) (y : MethodName) (ws : List Cond) (rm : Room) (D : va_G) (cl : List vw_C) (tys : List (ClassId × FieldType)) (N : Nat) (a : Nat → Nat) (F : pv_F) (A : Nat → Prop) (Z : State → Prop) (av : List Value) (σ : pv_S) (out : Int32 × pv_S) : Prop :=
  Met l y ws rm (va_Pc av (fun U => pv_W D cl N a F σ U.heap ∧ va_K D cl tys U ∧ Z U)) (fun _ st oc t => (oc = .returned (some (.int out.1)) ∧ pv_W D cl N a F out.2 t.heap) ∧ va_F A st t) 0 0 A
def pv_Ml (l : Launch) (y : MethodName) (ws : List Cond) (rm : Room) (D : va_G) (cl : List vw_C) (tys : List (ClassId × FieldType)) (N : Nat) (a : Nat → Nat) (F : pv_F) (A : Nat → Prop) (Z : State → Prop) (av : List Value) (σ : pv_S) (out : Int64 × pv_S) : Prop :=
  Met l y ws rm (va_Pc av (fun U => pv_W D cl N a F σ U.heap ∧ va_K D cl tys U ∧ Z U)) (fun _ st oc t => (oc = .returned (some (.long out.1)) ∧ pv_W D cl N a F out.2 t.heap) ∧ va_F A st t) 0 0 A
def pv_Mv (l : Launch) (y : MethodName) (ws : List Cond) (rm : Room) (D : va_G) (cl : List vw_C) (tys : List (ClassId × FieldType)) (N : Nat) (a : Nat → Nat) (F : pv_F) (A : Nat → Prop) (Z : State → Prop) (av : List Value) (σ : pv_S) (out : pv_S) : Prop :=
  Met l y ws rm (va_Pc av (fun U => pv_W D cl N a F σ U.heap ∧ va_K D cl tys U ∧ Z U)) (fun _ st oc t => (oc = .returned none ∧ pv_W D cl N a F out t.heap) ∧ va_F A st t) 0 0 A
/-- the end of a walk -/
def pv_Ri (p : Program) (l : Launch) (e : Env) (R : Room) (s : State) (m : MethodId) (args : Array Value) (below : List Frame) (meth : Method) (c : Code) (cc : ByteArray) (D : va_G) (cl : List vw_C) (N : Nat) (a : Nat → Nat) (F : pv_F) (A : Nat → Prop) (Q : State → Prop) (out : Int32 × pv_S) : Prop :=
  ∀ (H : Heap) (locs : List Loc) (ls : Array Slot) (pc : Nat), decode cc pc = .ok (.ireturn, 1) → pv_W D cl N a F out.2 H → va_S A s.heap H locs → W p l e R s m args below meth c H locs 0 0 Q (F0 m pc ls [.int out.1])
def pv_Rl (p : Program) (l : Launch) (e : Env) (R : Room) (s : State) (m : MethodId) (args : Array Value) (below : List Frame) (meth : Method) (c : Code) (cc : ByteArray) (D : va_G) (cl : List vw_C) (N : Nat) (a : Nat → Nat) (F : pv_F) (A : Nat → Prop) (Q : State → Prop) (out : Int64 × pv_S) : Prop :=
  ∀ (H : Heap) (locs : List Loc) (ls : Array Slot) (pc : Nat), decode cc pc = .ok (.lreturn, 1) → pv_W D cl N a F out.2 H → va_S A s.heap H locs → W p l e R s m args below meth c H locs 0 0 Q (F0 m pc ls [.long out.1])
def pv_Rv (p : Program) (l : Launch) (e : Env) (R : Room) (s : State) (m : MethodId) (args : Array Value) (below : List Frame) (meth : Method) (c : Code) (cc : ByteArray) (D : va_G) (cl : List vw_C) (N : Nat) (a : Nat → Nat) (F : pv_F) (A : Nat → Prop) (Q : State → Prop) (out : pv_S) : Prop :=
  ∀ (H : Heap) (locs : List Loc) (ls : Array Slot) (pc : Nat), decode cc pc = .ok (.return_, 1) → pv_W D cl N a F out H → va_S A s.heap H locs → W p l e R s m args below meth c H locs 0 0 Q (F0 m pc ls [])
/-- a boolean answer: 0 or 1 -/
def pv_z (x : Int32) : Bool := decide (x = 0) || decide (x = 1)
theorem pv_z_nar {x : Int32} (h : pv_z x = true) : narrow .boolean (.int x) = .int x := by
  unfold pv_z at h
  rw [Bool.or_eq_true, decide_eq_true_eq, decide_eq_true_eq] at h
  rcases h with rfl | rfl <;> rfl
theorem pv_z_fit {x : Int32} (h : pv_z x = true) : fits .boolean (.int x) = true := by
  unfold pv_z at h
  rw [Bool.or_eq_true, decide_eq_true_eq, decide_eq_true_eq] at h
  rcases h with rfl | rfl <;> rfl
def pv_Rz (p : Program) (l : Launch) (e : Env) (R : Room) (s : State) (m : MethodId) (args : Array Value) (below : List Frame) (meth : Method) (c : Code) (cc : ByteArray) (D : va_G) (cl : List vw_C) (N : Nat) (a : Nat → Nat) (F : pv_F) (A : Nat → Prop) (Q : State → Prop) (out : Int32 × pv_S) : Prop :=
  ∀ (H : Heap) (locs : List Loc) (ls : Array Slot) (pc : Nat), decode cc pc = .ok (.ireturn, 1) → pv_z out.1 = true → pv_W D cl N a F out.2 H → va_S A s.heap H locs → W p l e R s m args below meth c H locs 0 0 Q (F0 m pc ls [.int out.1])
theorem pv_goodIn {Ts : List Cond} (hg : ∀ w ∈ Ts, goodWord w = true) {xs : List Cond} (h : ∀ w ∈ xs, w ∈ Ts) : GoodIn Ts xs := fun w hw => ⟨h w hw, good_of_word (hg w (h w hw))⟩
/-- the words of a call of a method that is selected by its receiver's class -/
def pv_CV (Ts : List Cond) (own Cn : String) (ix : Nat) (y : MethodName) (bytes : ByteArray) (maxL : Nat) (ret : Option FieldType) (n : Nat) : Prop :=
  (y.cls = Cn ∧ y.cls ≠ "java/lang/invoke/MethodHandle" ∧ y.cls ≠ "java/lang/invoke/VarHandle" ∧ (parseMethodDescriptor y.desc).map (fun d => d.parameters.length) = some n) ∧ Cond.methodLink own ix y ∈ Ts ∧ Cond.instanceMethod y ∈ Ts ∧ Cond.selects Cn y y ∈ Ts ∧ Cond.initialized Cn ∈ Ts ∧ Cond.code y bytes maxL ret ∈ Ts
/-- .. of a static method -/
def pv_CS (Ts : List Cond) (own : String) (ix : Nat) (y : MethodName) (bytes : ByteArray) (maxL : Nat) (ret : Option FieldType) (n : Nat) : Prop :=
  (y.cls ≠ "java/lang/invoke/MethodHandle" ∧ y.cls ≠ "java/lang/invoke/VarHandle" ∧ (parseMethodDescriptor y.desc).map (fun d => d.parameters.length) = some n) ∧ Cond.methodLink own ix y ∈ Ts ∧ Cond.static y ∈ Ts ∧ Cond.initialized y.cls ∈ Ts ∧ Cond.code y bytes maxL ret ∈ Ts
section PVC
variable {p : Program} {l : Launch} {e : Env} {R : Room} {s : State} {m : MethodId} {args : Array Value} {below : List Frame} {meth : Method} {c : Code} {H : Heap} {locs : List Loc} {cells slots : Nat} {Q : State → Prop}
variable {cc bytes : ByteArray} {pc nL maxL : Nat} {ls : Array Slot} {rest st0 As av : List Value} {own : String} {Ts : List Cond} {D : va_G} {cl : List vw_C} {tys : List (ClassId × FieldType)} {N : Nat} {a : Nat → Nat} {A : Nat → Prop} {F : pv_F} {σ : pv_S} {Z : State → Prop} {rm : Room} {y : MethodName} {ret : Option FieldType} {n : Nat}
theorem pv_goI {out : Int32 × pv_S} (hr : va_Run p l e R s m args below meth c H locs cells slots 0 0 (F0 m pc ls st0) rest (fun st oc t => (oc = .returned (some (.int out.1)) ∧ pv_W D cl N a F out.2 t.heap) ∧ va_F A st t) A) (hS : va_S A s.heap H locs)
    (kk : ∀ (H1 : Heap) (locs1 : List Loc), pv_W D cl N a F out.2 H1 → va_S A s.heap H1 locs1 → W p l e R s m args below meth c H1 locs1 cells slots Q (F0 m (pc + 3) ls (.int out.1 :: rest))) : W p l e R s m args below meth c H locs cells slots Q (F0 m pc ls st0) := by
  intro T hT X
  obtain ⟨v, st₀, t, T', L, h0, X', hL, e1, e2, ⟨⟨hv, hp⟩, hz, hk⟩, st⟩ := hr T hT X
  cases hv
  rw [h0] at hz hk
  obtain ⟨t2, a1, b1⟩ := kk T'.heap (locs ++ L) (by rw [e1]; exact hp) ⟨Nat.le_trans hS.1 (by rw [e1]; exact hz), fun q h1 h2 => by rw [e1, hk q (Nat.lt_of_lt_of_le h1 hS.1) h2]; exact hS.2.1 q h1 h2, fun q hq => by
      rcases List.mem_append.mp hq with h | h
      · exact hS.2.2 q h
      · exact hL q h⟩ T' rfl X'
  exact ⟨t2, st t2 a1, b1⟩
theorem pv_goL {out : Int64 × pv_S} (hr : va_Run p l e R s m args below meth c H locs cells slots 0 0 (F0 m pc ls st0) rest (fun st oc t => (oc = .returned (some (.long out.1)) ∧ pv_W D cl N a F out.2 t.heap) ∧ va_F A st t) A) (hS : va_S A s.heap H locs)
    (kk : ∀ (H1 : Heap) (locs1 : List Loc), pv_W D cl N a F out.2 H1 → va_S A s.heap H1 locs1 → W p l e R s m args below meth c H1 locs1 cells slots Q (F0 m (pc + 3) ls (.long out.1 :: rest))) : W p l e R s m args below meth c H locs cells slots Q (F0 m pc ls st0) := by
  intro T hT X
  obtain ⟨v, st₀, t, T', L, h0, X', hL, e1, e2, ⟨⟨hv, hp⟩, hz, hk⟩, st⟩ := hr T hT X
  cases hv
  rw [h0] at hz hk
  obtain ⟨t2, a1, b1⟩ := kk T'.heap (locs ++ L) (by rw [e1]; exact hp) ⟨Nat.le_trans hS.1 (by rw [e1]; exact hz), fun q h1 h2 => by rw [e1, hk q (Nat.lt_of_lt_of_le h1 hS.1) h2]; exact hS.2.1 q h1 h2, fun q hq => by
      rcases List.mem_append.mp hq with h | h
      · exact hS.2.2 q h
      · exact hL q h⟩ T' rfl X'
  exact ⟨t2, st t2 a1, b1⟩
theorem pv_goV {out : pv_S} (hr : va_Run p l e R s m args below meth c H locs cells slots 0 0 (F0 m pc ls st0) rest (fun st oc t => (oc = .returned none ∧ pv_W D cl N a F out t.heap) ∧ va_F A st t) A) (hS : va_S A s.heap H locs)
    (kk : ∀ (H1 : Heap) (locs1 : List Loc), pv_W D cl N a F out H1 → va_S A s.heap H1 locs1 → W p l e R s m args below meth c H1 locs1 cells slots Q (F0 m (pc + 3) ls rest)) : W p l e R s m args below meth c H locs cells slots Q (F0 m pc ls st0) := by
  intro T hT X
  obtain ⟨v, st₀, t, T', L, h0, X', hL, e1, e2, ⟨⟨hv, hp⟩, hz, hk⟩, st⟩ := hr T hT X
  cases hv
  rw [h0] at hz hk
  obtain ⟨t2, a1, b1⟩ := kk T'.heap (locs ++ L) (by rw [e1]; exact hp) ⟨Nat.le_trans hS.1 (by rw [e1]; exact hz), fun q h1 h2 => by rw [e1, hk q (Nat.lt_of_lt_of_le h1 hS.1) h2]; exact hS.2.1 q h1 h2, fun q hq => by
      rcases List.mem_append.mp hq with h | h
      · exact hS.2.2 q h
      · exact hL q h⟩ T' rfl X'
  exact ⟨t2, st t2 a1, b1⟩
theorem pv_blind (hmv : pv_mv A Z) : FrameBlind (va_Pc av (fun U => pv_W D cl N a F σ U.heap ∧ va_K D cl tys U ∧ Z U)) := by
  intro a' U g mk q
  obtain ⟨q0, qP, qK, qZ⟩ := q
  exact ⟨q0, qP, va_K.moved (u := U) (U := U.calling g mk a') (Vm.Alike.refl U.vm) qK, hmv U (U.calling g mk a') U.heap [] qZ va_S.rf rfl (State.WarmedH.refl U)⟩
/-- the start of a callee, out of the caller's walk -/
theorem pv_pre (C : pv_C p s m args c cc nL own Ts D cl tys N a A Z) (hmv : pv_mv A Z) (hP : pv_W D cl N a F σ H) (hS : va_S A s.heap H locs) : ∀ U : State, U.heap = H → s.WarmedH U.vm → va_Pc av (fun U => pv_W D cl N a F σ U.heap ∧ va_K D cl tys U ∧ Z U) av.toArray U := by
  intro U hU hW
  obtain ⟨-, -, -, -, -, hK, -, hZ⟩ := C
  exact ⟨rfl, by rw [hU]; exact hP, va_K.moved hW.alike hK, hmv s U H locs hZ hS hU hW⟩
theorem pv_cwV (C : pv_C p s m args c cc nL own Ts D cl tys N a A Z) (hg : ∀ w ∈ Ts, goodWord w = true) {Cn : String} {ix : Nat} (h : pv_CV Ts own Cn ix y bytes maxL ret n) (hR : rm.cells = 0 ∧ rm.slots = 0 ∧ rm.frames + 1 ≤ R.frames ∧ 8 + (maxL + 11) + rm.locals ≤ R.locals) : CallW R s args own Cn ix y bytes maxL ret (Cond.code y bytes maxL ret :: Ts) rm 0 0 n := by
  obtain ⟨h0, h1, h2, h3, h4, h5⟩ := h
  refine cwV n C.2.2.2.2.1 (pv_goodIn hg ?_) rfl hR.1 hR.2.1 h0 hR.2.2
  intro w hw
  unfold wsV at hw
  rcases List.mem_append.mp hw with hw | hw
  · simp only [List.mem_cons, List.not_mem_nil, or_false] at hw
    rcases hw with rfl | rfl | rfl | rfl <;> assumption
  · rcases List.mem_cons.mp hw with rfl | hw
    · exact h5
    · exact hw
theorem pv_cwS (C : pv_C p s m args c cc nL own Ts D cl tys N a A Z) (hg : ∀ w ∈ Ts, goodWord w = true) {ix : Nat} (h : pv_CS Ts own ix y bytes maxL ret n) (hR : rm.cells = 0 ∧ rm.slots = 0 ∧ rm.frames + 1 ≤ R.frames ∧ 8 + (maxL + 11) + rm.locals ≤ R.locals) : CallB R s args own ix y bytes maxL ret (Cond.code y bytes maxL ret :: Ts) rm 0 0 n ∧ (Cond.static y).before args s = true := by
  obtain ⟨h0, h1, h2, h3, h4⟩ := h
  refine va_cwS n C.2.2.2.2.1 (pv_goodIn hg ?_) rfl hR.1 hR.2.1 h0 hR.2.2
  intro w hw
  unfold va_wsS at hw
  rcases List.mem_append.mp hw with hw | hw
  · simp only [List.mem_cons, List.not_mem_nil, or_false] at hw
    rcases hw with rfl | rfl | rfl <;> assumption
  · rcases List.mem_cons.mp hw with rfl | hw
    · exact h4
    · exact hw
theorem pv_fix (C : pv_C p s m args c cc nL own Ts D cl tys N a A Z) : CallFix p m c cc nL s args Ts own := ⟨C.1, C.2.1, C.2.2.1, C.2.2.2.1, C.2.2.2.2.1⟩
theorem pv_callVi (C : pv_C p s m args c cc nL own Ts D cl tys N a A Z) (hmv : pv_mv A Z) (hg : ∀ w ∈ Ts, goodWord w = true) (hP : pv_W D cl N a F σ H) (hS : va_S A s.heap H locs) {k ci ix : Nat} {fs : List Value} {Cn : String} {T : u_T} {nn : Nat} {out : Int32 × pv_S} (hk : k < N) (he : F k (σ.1 k) (σ.2 k) = .inr (ci, fs)) (hc : cl[ci]? = some (Cn, T, nn))
    (hM : pv_Mi l y (Cond.code y bytes maxL ret :: Ts) rm D cl tys N a F A Z (.ref (a k) :: As) σ out) (cw : pv_CV Ts own Cn ix y bytes maxL ret n) (hR : rm.cells = 0 ∧ rm.slots = 0 ∧ rm.frames + 1 ≤ R.frames ∧ 8 + (maxL + 11) + rm.locals ≤ R.locals) (hn : As.length = n) (hl : ls.size = nL) (hst : st0 = As.reverse ++ .ref (a k) :: rest) (hW : (rest.map fun v => v.category).sum ≤ 8) (hdg : decode cc pc = .ok (.invokevirtual ix, 3)) (hf : cells ≤ R.cells ∧ slots ≤ R.slots)
    (kk : ∀ (H1 : Heap) (locs1 : List Loc), pv_W D cl N a F out.2 H1 → va_S A s.heap H1 locs1 → W p l e R s m args below meth c H1 locs1 cells slots Q (F0 m (pc + 3) ls (.int out.1 :: rest))) : W p l e R s m args below meth c H locs cells slots Q (F0 m pc ls st0) := by
  refine pv_goI (va_runV (pv_fix C) hM (pv_cwV C hg cw hR) ⟨pv_blind hmv, va_recv C.2.2.2.2.2.1 hP hc ((pv_at hk).trans (by rw [he])), pv_pre C hmv hP hS⟩ rfl hn hl hst (lv_room hW) hdg hf) hS kk
theorem pv_callVv (C : pv_C p s m args c cc nL own Ts D cl tys N a A Z) (hmv : pv_mv A Z) (hg : ∀ w ∈ Ts, goodWord w = true) (hP : pv_W D cl N a F σ H) (hS : va_S A s.heap H locs) {k ci ix : Nat} {fs : List Value} {Cn : String} {T : u_T} {nn : Nat} {out : pv_S} (hk : k < N) (he : F k (σ.1 k) (σ.2 k) = .inr (ci, fs)) (hc : cl[ci]? = some (Cn, T, nn))
    (hM : pv_Mv l y (Cond.code y bytes maxL ret :: Ts) rm D cl tys N a F A Z (.ref (a k) :: As) σ out) (cw : pv_CV Ts own Cn ix y bytes maxL ret n) (hR : rm.cells = 0 ∧ rm.slots = 0 ∧ rm.frames + 1 ≤ R.frames ∧ 8 + (maxL + 11) + rm.locals ≤ R.locals) (hn : As.length = n) (hl : ls.size = nL) (hst : st0 = As.reverse ++ .ref (a k) :: rest) (hW : (rest.map fun v => v.category).sum ≤ 8) (hdg : decode cc pc = .ok (.invokevirtual ix, 3)) (hf : cells ≤ R.cells ∧ slots ≤ R.slots)
    (kk : ∀ (H1 : Heap) (locs1 : List Loc), pv_W D cl N a F out H1 → va_S A s.heap H1 locs1 → W p l e R s m args below meth c H1 locs1 cells slots Q (F0 m (pc + 3) ls rest)) : W p l e R s m args below meth c H locs cells slots Q (F0 m pc ls st0) := by
  refine pv_goV (va_runV (pv_fix C) hM (pv_cwV C hg cw hR) ⟨pv_blind hmv, va_recv C.2.2.2.2.2.1 hP hc ((pv_at hk).trans (by rw [he])), pv_pre C hmv hP hS⟩ rfl hn hl hst (lv_room hW) hdg hf) hS kk
theorem pv_callSi (C : pv_C p s m args c cc nL own Ts D cl tys N a A Z) (hmv : pv_mv A Z) (hg : ∀ w ∈ Ts, goodWord w = true) (hP : pv_W D cl N a F σ H) (hS : va_S A s.heap H locs) {ix : Nat} {out : Int32 × pv_S}
    (hM : pv_Mi l y (Cond.code y bytes maxL ret :: Ts) rm D cl tys N a F A Z As σ out) (cw : pv_CS Ts own ix y bytes maxL ret n) (hR : rm.cells = 0 ∧ rm.slots = 0 ∧ rm.frames + 1 ≤ R.frames ∧ 8 + (maxL + 11) + rm.locals ≤ R.locals) (hn : As.length = n) (hl : ls.size = nL) (hst : st0 = As.reverse ++ rest) (hW : (rest.map fun v => v.category).sum ≤ 8) (hdg : decode cc pc = .ok (.invokestatic ix, 3)) (hf : cells ≤ R.cells ∧ slots ≤ R.slots)
    (kk : ∀ (H1 : Heap) (locs1 : List Loc), pv_W D cl N a F out.2 H1 → va_S A s.heap H1 locs1 → W p l e R s m args below meth c H1 locs1 cells slots Q (F0 m (pc + 3) ls (.int out.1 :: rest))) : W p l e R s m args below meth c H locs cells slots Q (F0 m pc ls st0) := by
  refine pv_goI (va_runS (pv_fix C) hM (pv_cwS C hg cw hR) ⟨pv_blind hmv, pv_pre C hmv hP hS⟩ rfl hn hl hst (lv_room hW) hdg hf) hS kk
theorem pv_callSl (C : pv_C p s m args c cc nL own Ts D cl tys N a A Z) (hmv : pv_mv A Z) (hg : ∀ w ∈ Ts, goodWord w = true) (hP : pv_W D cl N a F σ H) (hS : va_S A s.heap H locs) {ix : Nat} {out : Int64 × pv_S}
    (hM : pv_Ml l y (Cond.code y bytes maxL ret :: Ts) rm D cl tys N a F A Z As σ out) (cw : pv_CS Ts own ix y bytes maxL ret n) (hR : rm.cells = 0 ∧ rm.slots = 0 ∧ rm.frames + 1 ≤ R.frames ∧ 8 + (maxL + 11) + rm.locals ≤ R.locals) (hn : As.length = n) (hl : ls.size = nL) (hst : st0 = As.reverse ++ rest) (hW : (rest.map fun v => v.category).sum ≤ 8) (hdg : decode cc pc = .ok (.invokestatic ix, 3)) (hf : cells ≤ R.cells ∧ slots ≤ R.slots)
    (kk : ∀ (H1 : Heap) (locs1 : List Loc), pv_W D cl N a F out.2 H1 → va_S A s.heap H1 locs1 → W p l e R s m args below meth c H1 locs1 cells slots Q (F0 m (pc + 3) ls (.long out.1 :: rest))) : W p l e R s m args below meth c H locs cells slots Q (F0 m pc ls st0) := by
  refine pv_goL (va_runS (pv_fix C) hM (pv_cwS C hg cw hR) ⟨pv_blind hmv, pv_pre C hmv hP hS⟩ rfl hn hl hst (lv_room hW) hdg hf) hS kk
theorem pv_callSv (C : pv_C p s m args c cc nL own Ts D cl tys N a A Z) (hmv : pv_mv A Z) (hg : ∀ w ∈ Ts, goodWord w = true) (hP : pv_W D cl N a F σ H) (hS : va_S A s.heap H locs) {ix : Nat} {out : pv_S}
    (hM : pv_Mv l y (Cond.code y bytes maxL ret :: Ts) rm D cl tys N a F A Z As σ out) (cw : pv_CS Ts own ix y bytes maxL ret n) (hR : rm.cells = 0 ∧ rm.slots = 0 ∧ rm.frames + 1 ≤ R.frames ∧ 8 + (maxL + 11) + rm.locals ≤ R.locals) (hn : As.length = n) (hl : ls.size = nL) (hst : st0 = As.reverse ++ rest) (hW : (rest.map fun v => v.category).sum ≤ 8) (hdg : decode cc pc = .ok (.invokestatic ix, 3)) (hf : cells ≤ R.cells ∧ slots ≤ R.slots)
    (kk : ∀ (H1 : Heap) (locs1 : List Loc), pv_W D cl N a F out H1 → va_S A s.heap H1 locs1 → W p l e R s m args below meth c H1 locs1 cells slots Q (F0 m (pc + 3) ls rest)) : W p l e R s m args below meth c H locs cells slots Q (F0 m pc ls st0) := by
  refine pv_goV (va_runS (pv_fix C) hM (pv_cwS C hg cw hR) ⟨pv_blind hmv, pv_pre C hmv hP hS⟩ rfl hn hl hst (lv_room hW) hdg hf) hS kk
end PVC
section PVO
variable {l : Launch} {cc : ByteArray} {maxL : Nat} {av : List Value} {Ts : List Cond} {D : va_G} {cl : List vw_C} {tys : List (ClassId × FieldType)} {N : Nat} {a : Nat → Nat} {A : Nat → Prop} {F : pv_F} {σ : pv_S} {Z : State → Prop} {rm : Room} {y : MethodName}
/-- a contract out of the walk of the body from its entry -/
theorem pv_ofI {out : Int32 × pv_S} (hy : plainName y.cls = true) (hav : (lg_sl av).length ≤ maxL) (hD : pv_D N a A)
    (body : ∀ (p : Program) (e : Env) (s : State) (m : MethodId) (args : Array Value) (below : List Frame) (meth : Method) (c : Code) (Q : State → Prop) (ls : Array Slot), pv_C p s m args c cc maxL y.cls Ts D cl tys N a A Z → pv_Ri p l e rm s m args below meth c cc D cl N a F A Q out → lv_has ls maxL (lv_args 0 av) → pv_W D cl N a F σ s.heap → W p l e rm s m args below meth c s.heap [] 0 0 Q (F0 m 0 ls [])) :
    pv_Mi l y (Cond.code y cc maxL (some .int) :: Ts) rm D cl tys N a F A Z av σ out := by
  refine Met.ofW (cc := cc) (maxL := maxL) (ret := some .int) hy rfl ?_
  intro p e s m args below meth c s₁ B hml hv
  obtain ⟨rfl, hP, hK, hZ⟩ := hv
  have hts := atoms_spec (ws := Cond.code y cc maxL (some .int) :: Ts) B.pre
  have hl := lv_entry av hav
  rw [lg_entry_eq]
  refine body p e s m _ below meth c _ _ ⟨B.exec, B.bytes, hml, findClass_of_methodNamed B.named, fun w hw => hts w (List.mem_cons_of_mem _ hw), hK, hD, hZ⟩ ?_ hl hP
  intro H locs ls pc hdg hP1 hS1
  exact W.iret B.exec B.bytes B.returns (fun t ht hW => ⟨⟨rfl, by rw [ht]; exact hP1⟩, hS1.F ht⟩) hS1.2.2 hdg (hlocks := B.notSynchronized)
theorem pv_ofZ {out : Int32 × pv_S} (hy : plainName y.cls = true) (hav : (lg_sl av).length ≤ maxL) (hD : pv_D N a A)
    (body : ∀ (p : Program) (e : Env) (s : State) (m : MethodId) (args : Array Value) (below : List Frame) (meth : Method) (c : Code) (Q : State → Prop) (ls : Array Slot), pv_C p s m args c cc maxL y.cls Ts D cl tys N a A Z → pv_Rz p l e rm s m args below meth c cc D cl N a F A Q out → lv_has ls maxL (lv_args 0 av) → pv_W D cl N a F σ s.heap → W p l e rm s m args below meth c s.heap [] 0 0 Q (F0 m 0 ls [])) :
    pv_Mi l y (Cond.code y cc maxL (some .boolean) :: Ts) rm D cl tys N a F A Z av σ out := by
  refine Met.ofW (cc := cc) (maxL := maxL) (ret := some .boolean) hy rfl ?_
  intro p e s m args below meth c s₁ B hml hv
  obtain ⟨rfl, hP, hK, hZ⟩ := hv
  have hts := atoms_spec (ws := Cond.code y cc maxL (some .boolean) :: Ts) B.pre
  have hl := lv_entry av hav
  rw [lg_entry_eq]
  refine body p e s m _ below meth c _ _ ⟨B.exec, B.bytes, hml, findClass_of_methodNamed B.named, fun w hw => hts w (List.mem_cons_of_mem _ hw), hK, hD, hZ⟩ ?_ hl hP
  intro H locs ls pc hdg hz hP1 hS1
  exact W.zret B.exec B.bytes B.returns (pv_z_nar hz) (fun t ht hW => ⟨⟨rfl, by rw [ht]; exact hP1⟩, hS1.F ht⟩) hS1.2.2 hdg (hlocks := B.notSynchronized)
theorem pv_ofL {out : Int64 × pv_S} (hy : plainName y.cls = true) (hav : (lg_sl av).length ≤ maxL) (hD : pv_D N a A)
    (body : ∀ (p : Program) (e : Env) (s : State) (m : MethodId) (args : Array Value) (below : List Frame) (meth : Method) (c : Code) (Q : State → Prop) (ls : Array Slot), pv_C p s m args c cc maxL y.cls Ts D cl tys N a A Z → pv_Rl p l e rm s m args below meth c cc D cl N a F A Q out → lv_has ls maxL (lv_args 0 av) → pv_W D cl N a F σ s.heap → W p l e rm s m args below meth c s.heap [] 0 0 Q (F0 m 0 ls [])) :
    pv_Ml l y (Cond.code y cc maxL (some .long) :: Ts) rm D cl tys N a F A Z av σ out := by
  refine Met.ofW (cc := cc) (maxL := maxL) (ret := some .long) hy rfl ?_
  intro p e s m args below meth c s₁ B hml hv
  obtain ⟨rfl, hP, hK, hZ⟩ := hv
  have hts := atoms_spec (ws := Cond.code y cc maxL (some .long) :: Ts) B.pre
  have hl := lv_entry av hav
  rw [lg_entry_eq]
  refine body p e s m _ below meth c _ _ ⟨B.exec, B.bytes, hml, findClass_of_methodNamed B.named, fun w hw => hts w (List.mem_cons_of_mem _ hw), hK, hD, hZ⟩ ?_ hl hP
  intro H locs ls pc hdg hP1 hS1
  exact W.lret B.exec B.bytes B.returns (fun t ht hW => ⟨⟨rfl, by rw [ht]; exact hP1⟩, hS1.F ht⟩) hS1.2.2 hdg (hlocks := B.notSynchronized)
theorem pv_ofV {out : pv_S} (hy : plainName y.cls = true) (hav : (lg_sl av).length ≤ maxL) (hD : pv_D N a A)
    (body : ∀ (p : Program) (e : Env) (s : State) (m : MethodId) (args : Array Value) (below : List Frame) (meth : Method) (c : Code) (Q : State → Prop) (ls : Array Slot), pv_C p s m args c cc maxL y.cls Ts D cl tys N a A Z → pv_Rv p l e rm s m args below meth c cc D cl N a F A Q out → lv_has ls maxL (lv_args 0 av) → pv_W D cl N a F σ s.heap → W p l e rm s m args below meth c s.heap [] 0 0 Q (F0 m 0 ls [])) :
    pv_Mv l y (Cond.code y cc maxL none :: Ts) rm D cl tys N a F A Z av σ out := by
  refine Met.ofW (cc := cc) (maxL := maxL) (ret := none) hy rfl ?_
  intro p e s m args below meth c s₁ B hml hv
  obtain ⟨rfl, hP, hK, hZ⟩ := hv
  have hts := atoms_spec (ws := Cond.code y cc maxL none :: Ts) B.pre
  have hl := lv_entry av hav
  rw [lg_entry_eq]
  refine body p e s m _ below meth c _ _ ⟨B.exec, B.bytes, hml, findClass_of_methodNamed B.named, fun w hw => hts w (List.mem_cons_of_mem _ hw), hK, hD, hZ⟩ ?_ hl hP
  intro H locs ls pc hdg hP1 hS1
  exact W.vret B.exec B.bytes B.returns (fun t ht hW => ⟨⟨rfl, by rw [ht]; exact hP1⟩, hS1.F ht⟩) hS1.2.2 hdg (hlocks := B.notSynchronized)
end PVO
theorem pv_inc {x k : Int32} {n : Int} (h : Int32.ofInt n = k) : x + Int32.ofInt n = x + k := by rw [h]
/-- more turns than any loop of a method takes -/
def pv_fu : Nat := 1000
/-- System.arraycopy between two arrays of ints of the world: where it does not throw -/
def pv_cp (sp dp n : Int32) (n0 n1 : Nat) : Bool := decide (0 ≤ sp) && (decide (0 ≤ dp) && (decide (0 ≤ n) && (decide (sp.toNatClampNeg + n.toNatClampNeg ≤ n0) && decide (dp.toNatClampNeg + n.toNatClampNeg ≤ n1))))
section PVA
variable {p : Program} {l : Launch} {e : Env} {R : Room} {s : State} {m : MethodId} {args : Array Value} {below : List Frame} {meth : Method} {c : Code} {H : Heap} {locs : List Loc} {cells slots : Nat} {Q : State → Prop}
variable {cc : ByteArray} {pc nL : Nat} {ls : Array Slot} {rest : List Value} {own : String} {Ts : List Cond} {D : va_G} {cl : List vw_C} {tys : List (ClassId × FieldType)} {N : Nat} {a : Nat → Nat} {A : Nat → Prop} {F : pv_F} {σ : pv_S} {Z : State → Prop}
theorem pv_acopy (C : pv_C p s m args c cc nL own Ts D cl tys N a A Z) (hP : pv_W D cl N a F σ H) (hS : va_S A s.heap H locs) {k0 k1 n0 n1 t0 ix : Nat} {cA : ClassId} {sp dp n : Int32} (hk0 : k0 < N) (hk1 : k1 < N) (he0 : F k0 (σ.1 k0) (σ.2 k0) = .inl (cA, n0, .inl (σ.1 k0))) (he1 : ∀ f g, F k1 f g = .inl (cA, n1, .inl f)) (ht : tys[t0]? = some (cA, .int))
    (w1 : Cond.methodLink own ix arraycopyName ∈ Ts) (w2 : Cond.native arraycopyName ∈ Ts) (w3 : Cond.static arraycopyName ∈ Ts) (w4 : Cond.initialized "java/lang/System" ∈ Ts) (hg : pv_cp sp dp n n0 n1 = true) (hl : ls.size = nL) (hfr : 1 ≤ R.frames) (hlo : (rest.map fun v => v.category).sum + (nativeFrameWords "java/lang/System" "arraycopy" 5 + 11) ≤ R.locals) (hdg : decode cc pc = .ok (.invokestatic ix, 3))
    (kk : ∀ (H1 : Heap) (locs1 : List Loc), pv_W D cl N a F (pv_rI σ k1 (va_cpy (σ.1 k0) (σ.1 k1) sp.toNatClampNeg dp.toNatClampNeg n.toNatClampNeg)) H1 → va_S A s.heap H1 locs1 → W p l e R s m args below meth c H1 locs1 cells slots Q (F0 m (pc + 3) ls rest)) : W p l e R s m args below meth c H locs cells slots Q (F0 m pc ls (.int n :: .int dp :: .ref (a k1) :: .int sp :: .ref (a k0) :: rest)) := by
  obtain ⟨hx, hb, hml, hown, hts, hK, hD, -⟩ := C
  simp only [pv_cp, Bool.and_eq_true, decide_eq_true_eq] at hg
  obtain ⟨g1, g2, g3, g4, g5⟩ := hg
  refine va_copyi hx hb (hml.trans hl.symm) hown (hts _ w1) (hts _ w2) (hts _ w3) (hts _ w4) hK hP hD.va hS k0 k1 t0 t0 ((pv_at hk0).trans (by rw [he0])) ((pv_at hk1).trans (by rw [he1])) ht ht rfl (Int32.not_lt.mpr g1) (Int32.not_lt.mpr g2) (Int32.not_lt.mpr g3) g4 g5 (fun _ _ => rfl) hfr hlo hdg (fun H1 locs1 hP1 _ hS1 => ?_)
  rw [pv_setI (he1 _ _)] at hP1
  exact kk H1 locs1 hP1 hS1
end PVA
