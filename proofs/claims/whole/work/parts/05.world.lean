def R_PV : String := "PatchVoices"
def F_PV : u_T := fun k => match k with
  | 0 => ("PatchVoices", "text", "[C", true)
  | 1 => ("PatchVoices", "length", "I", false)
  | 2 => ("PatchVoices", "reader", "LPatchVoices$Reader;", true)
  | 3 => ("PatchVoices", "program", "LPatchVoices$Program;", true)
  | 4 => ("PatchVoices", "optimising", "Z", false)
  | 5 => ("PatchVoices", "faulty", "I", false)
  | 6 => ("PatchVoices", "desk", "[LPatchVoices$Voice;", true)
  | 7 => ("PatchVoices", "voiceCount", "I", false)
  | 8 => ("PatchVoices", "takings", "J", false)
  | 9 => ("PatchVoices", "knobs", "[I", true)
  | 10 => ("PatchVoices", "samples", "[I", true)
  | _ => ("PatchVoices", "sampleCount", "I", false)
def t_PV : Nat → FieldType := fun k => match k with
  | 0 => .array (.char)
  | 1 => .int
  | 2 => .object "PatchVoices$Reader"
  | 3 => .object "PatchVoices$Program"
  | 4 => .boolean
  | 5 => .int
  | 6 => .array (.object "PatchVoices$Voice")
  | 7 => .int
  | 8 => .long
  | 9 => .array (.int)
  | 10 => .array (.int)
  | _ => .int
theorem n_PV : ∀ a, a < 12 → ∀ b, b < 12 → a ≠ b → (F_PV a).2.1 ≠ (F_PV b).2.1 := by decide +kernel
theorem o_PV : ∀ k, k < 12 → parseFieldDescriptor (F_PV k).2.2.1 = some (t_PV k) := by decide +kernel
def R_Rd : String := "PatchVoices$Reader"
def F_Rd : u_T := fun k => match k with
  | 0 => ("PatchVoices$Reader", "patch", "LPatchVoices$Patch;", true)
  | 1 => ("PatchVoices$Reader", "state", "I", false)
  | 2 => ("PatchVoices$Reader", "size", "I", false)
  | 3 => ("PatchVoices$Reader", "kinds", "I", false)
  | _ => ("PatchVoices$Reader", "sign", "I", false)
def t_Rd : Nat → FieldType := fun k => match k with
  | 0 => .object "PatchVoices$Patch"
  | 1 => .int
  | 2 => .int
  | 3 => .int
  | _ => .int
theorem n_Rd : ∀ a, a < 5 → ∀ b, b < 5 → a ≠ b → (F_Rd a).2.1 ≠ (F_Rd b).2.1 := by decide +kernel
theorem o_Rd : ∀ k, k < 5 → parseFieldDescriptor (F_Rd k).2.2.1 = some (t_Rd k) := by decide +kernel
def R_Pt : String := "PatchVoices$Patch"
def F_Pt : u_T := fun k => match k with
  | 0 => ("PatchVoices$Patch", "modules", "I", false)
  | 1 => ("PatchVoices$Patch", "kind", "[I", true)
  | 2 => ("PatchVoices$Patch", "from", "[I", true)
  | 3 => ("PatchVoices$Patch", "number", "[I", true)
  | 4 => ("PatchVoices$Patch", "name", "[I", true)
  | 5 => ("PatchVoices$Patch", "inputs", "[I", true)
  | 6 => ("PatchVoices$Patch", "cord", "[I", true)
  | _ => ("PatchVoices$Patch", "behind", "[J", true)
def t_Pt : Nat → FieldType := fun k => match k with
  | 0 => .int
  | 1 => .array (.int)
  | 2 => .array (.int)
  | 3 => .array (.int)
  | 4 => .array (.int)
  | 5 => .array (.int)
  | 6 => .array (.int)
  | _ => .array (.long)
theorem n_Pt : ∀ a, a < 8 → ∀ b, b < 8 → a ≠ b → (F_Pt a).2.1 ≠ (F_Pt b).2.1 := by decide +kernel
theorem o_Pt : ∀ k, k < 8 → parseFieldDescriptor (F_Pt k).2.2.1 = some (t_Pt k) := by decide +kernel
def R_Pg : String := "PatchVoices$Program"
def F_Pg : u_T := fun k => match k with
  | 0 => ("PatchVoices$Program", "wiring", "LPatchVoices$Wiring;", true)
  | 1 => ("PatchVoices$Program", "stepCount", "I", false)
  | 2 => ("PatchVoices$Program", "firstPut", "I", false)
  | 3 => ("PatchVoices$Program", "stepModule", "[I", true)
  | 4 => ("PatchVoices$Program", "slotCount", "I", false)
  | 5 => ("PatchVoices$Program", "lineStart", "[I", true)
  | 6 => ("PatchVoices$Program", "slot", "[I", true)
  | 7 => ("PatchVoices$Program", "lastReader", "[I", true)
  | _ => ("PatchVoices$Program", "busyUntil", "[I", true)
def t_Pg : Nat → FieldType := fun k => match k with
  | 0 => .object "PatchVoices$Wiring"
  | 1 => .int
  | 2 => .int
  | 3 => .array (.int)
  | 4 => .int
  | 5 => .array (.int)
  | 6 => .array (.int)
  | 7 => .array (.int)
  | _ => .array (.int)
theorem n_Pg : ∀ a, a < 9 → ∀ b, b < 9 → a ≠ b → (F_Pg a).2.1 ≠ (F_Pg b).2.1 := by decide +kernel
theorem o_Pg : ∀ k, k < 9 → parseFieldDescriptor (F_Pg k).2.2.1 = some (t_Pg k) := by decide +kernel
def R_Wr : String := "PatchVoices$Wiring"
def F_Wr : u_T := fun k => match k with
  | 0 => ("PatchVoices$Wiring", "modules", "I", false)
  | 1 => ("PatchVoices$Wiring", "kind", "[I", true)
  | 2 => ("PatchVoices$Wiring", "from", "[I", true)
  | 3 => ("PatchVoices$Wiring", "number", "[I", true)
  | 4 => ("PatchVoices$Wiring", "order", "[I", true)
  | 5 => ("PatchVoices$Wiring", "kept", "[Z", true)
  | 6 => ("PatchVoices$Wiring", "stand", "[I", true)
  | _ => ("PatchVoices$Wiring", "standNumber", "[I", true)
def t_Wr : Nat → FieldType := fun k => match k with
  | 0 => .int
  | 1 => .array (.int)
  | 2 => .array (.int)
  | 3 => .array (.int)
  | 4 => .array (.int)
  | 5 => .array (.boolean)
  | 6 => .array (.int)
  | _ => .array (.int)
theorem n_Wr : ∀ a, a < 8 → ∀ b, b < 8 → a ≠ b → (F_Wr a).2.1 ≠ (F_Wr b).2.1 := by decide +kernel
theorem o_Wr : ∀ k, k < 8 → parseFieldDescriptor (F_Wr k).2.2.1 = some (t_Wr k) := by decide +kernel
def R_Vc : String := "PatchVoices$Voice"
def F_Vc : u_T := fun k => match k with
  | 0 => ("PatchVoices$Voice", "taken", "Z", false)
  | 1 => ("PatchVoices$Voice", "gate", "Z", false)
  | 2 => ("PatchVoices$Voice", "sounding", "Z", false)
  | 3 => ("PatchVoices$Voice", "played", "Z", false)
  | 4 => ("PatchVoices$Voice", "quiet", "I", false)
  | 5 => ("PatchVoices$Voice", "taking", "J", false)
  | 6 => ("PatchVoices$Voice", "values", "[I", true)
  | 7 => ("PatchVoices$Voice", "pitch", "I", false)
  | 8 => ("PatchVoices$Voice", "strength", "I", false)
  | 9 => ("PatchVoices$Voice", "zeros", "I", false)
  | 10 => ("PatchVoices$Voice", "in", "[I", true)
  | 11 => ("PatchVoices$Voice", "memory", "[I", true)
  | 12 => ("PatchVoices$Voice", "memoryToo", "[I", true)
  | _ => ("PatchVoices$Voice", "lines", "[I", true)
def t_Vc : Nat → FieldType := fun k => match k with
  | 0 => .boolean
  | 1 => .boolean
  | 2 => .boolean
  | 3 => .boolean
  | 4 => .int
  | 5 => .long
  | 6 => .array (.int)
  | 7 => .int
  | 8 => .int
  | 9 => .int
  | 10 => .array (.int)
  | 11 => .array (.int)
  | 12 => .array (.int)
  | _ => .array (.int)
theorem n_Vc : ∀ a, a < 14 → ∀ b, b < 14 → a ≠ b → (F_Vc a).2.1 ≠ (F_Vc b).2.1 := by decide +kernel
theorem o_Vc : ∀ k, k < 14 → parseFieldDescriptor (F_Vc k).2.2.1 = some (t_Vc k) := by decide +kernel
def R_Md : String := "PatchVoicesModel"
def F_Md : u_T := fun k => match k with
  | 0 => ("PatchVoicesModel", "code", "I", false)
  | 1 => ("PatchVoicesModel", "text", "[I", true)
  | 2 => ("PatchVoicesModel", "size", "I", false)
  | 3 => ("PatchVoicesModel", "words", "[I", true)
  | 4 => ("PatchVoicesModel", "needs", "[I", true)
  | 5 => ("PatchVoicesModel", "read", "I", false)
  | 6 => ("PatchVoicesModel", "names", "[I", true)
  | 7 => ("PatchVoicesModel", "kinds", "[I", true)
  | 8 => ("PatchVoicesModel", "counts", "[I", true)
  | 9 => ("PatchVoicesModel", "cords", "[I", true)
  | 10 => ("PatchVoicesModel", "numbers", "[I", true)
  | 11 => ("PatchVoicesModel", "phase", "I", false)
  | 12 => ("PatchVoicesModel", "length", "I", false)
  | 13 => ("PatchVoicesModel", "made", "I", false)
  | 14 => ("PatchVoicesModel", "minus", "Z", false)
  | 15 => ("PatchVoicesModel", "faulty", "I", false)
  | 16 => ("PatchVoicesModel", "there", "Z", false)
  | 17 => ("PatchVoicesModel", "optimising", "Z", false)
  | 18 => ("PatchVoicesModel", "many", "I", false)
  | 19 => ("PatchVoicesModel", "kind", "[I", true)
  | 20 => ("PatchVoicesModel", "count", "[I", true)
  | 21 => ("PatchVoicesModel", "from", "[I", true)
  | 22 => ("PatchVoicesModel", "number", "[I", true)
  | 23 => ("PatchVoicesModel", "order", "[I", true)
  | 24 => ("PatchVoicesModel", "offset", "[I", true)
  | 25 => ("PatchVoicesModel", "stands", "[I", true)
  | 26 => ("PatchVoicesModel", "standing", "[I", true)
  | 27 => ("PatchVoicesModel", "kept", "[Z", true)
  | 28 => ("PatchVoicesModel", "stepped", "I", false)
  | 29 => ("PatchVoicesModel", "stepOf", "[I", true)
  | 30 => ("PatchVoicesModel", "puts", "[Z", true)
  | 31 => ("PatchVoicesModel", "slot", "[I", true)
  | 32 => ("PatchVoicesModel", "voices", "I", false)
  | 33 => ("PatchVoicesModel", "knobs", "[I", true)
  | 34 => ("PatchVoicesModel", "taken", "[Z", true)
  | 35 => ("PatchVoicesModel", "pitch", "[I", true)
  | 36 => ("PatchVoicesModel", "strength", "[I", true)
  | 37 => ("PatchVoicesModel", "gate", "[Z", true)
  | 38 => ("PatchVoicesModel", "idle", "[Z", true)
  | 39 => ("PatchVoicesModel", "zeros", "[I", true)
  | 40 => ("PatchVoicesModel", "idleAt", "[I", true)
  | 41 => ("PatchVoicesModel", "takenAt", "[I", true)
  | 42 => ("PatchVoicesModel", "age", "[I", true)
  | 43 => ("PatchVoicesModel", "memory", "[I", true)
  | 44 => ("PatchVoicesModel", "second", "[I", true)
  | 45 => ("PatchVoicesModel", "value", "[I", true)
  | 46 => ("PatchVoicesModel", "line", "[I", true)
  | 47 => ("PatchVoicesModel", "takings", "I", false)
  | 48 => ("PatchVoicesModel", "samples", "I", false)
  | 49 => ("PatchVoicesModel", "outs", "[I", true)
  | _ => ("PatchVoicesModel", "outCount", "I", false)
def t_Md : Nat → FieldType := fun k => match k with
  | 0 => .int
  | 1 => .array (.int)
  | 2 => .int
  | 3 => .array (.int)
  | 4 => .array (.int)
  | 5 => .int
  | 6 => .array (.int)
  | 7 => .array (.int)
  | 8 => .array (.int)
  | 9 => .array (.int)
  | 10 => .array (.int)
  | 11 => .int
  | 12 => .int
  | 13 => .int
  | 14 => .boolean
  | 15 => .int
  | 16 => .boolean
  | 17 => .boolean
  | 18 => .int
  | 19 => .array (.int)
  | 20 => .array (.int)
  | 21 => .array (.int)
  | 22 => .array (.int)
  | 23 => .array (.int)
  | 24 => .array (.int)
  | 25 => .array (.int)
  | 26 => .array (.int)
  | 27 => .array (.boolean)
  | 28 => .int
  | 29 => .array (.int)
  | 30 => .array (.boolean)
  | 31 => .array (.int)
  | 32 => .int
  | 33 => .array (.int)
  | 34 => .array (.boolean)
  | 35 => .array (.int)
  | 36 => .array (.int)
  | 37 => .array (.boolean)
  | 38 => .array (.boolean)
  | 39 => .array (.int)
  | 40 => .array (.int)
  | 41 => .array (.int)
  | 42 => .array (.int)
  | 43 => .array (.int)
  | 44 => .array (.int)
  | 45 => .array (.int)
  | 46 => .array (.int)
  | 47 => .int
  | 48 => .int
  | 49 => .array (.int)
  | _ => .int
theorem n_Md : ∀ a, a < 51 → ∀ b, b < 51 → a ≠ b → (F_Md a).2.1 ≠ (F_Md b).2.1 := by decide +kernel
theorem o_Md : ∀ k, k < 51 → parseFieldDescriptor (F_Md k).2.2.1 = some (t_Md k) := by decide +kernel
abbrev pv_cl : List vw_C := [(R_PV, F_PV, 12), (R_Rd, F_Rd, 5), (R_Pt, F_Pt, 8), (R_Pg, F_Pg, 9), (R_Wr, F_Wr, 8), (R_Vc, F_Vc, 14), (R_Md, F_Md, 51)]
abbrev pv_ty (q : Nat → ClassId) : List (ClassId × FieldType) := [(q 0, .int), (q 1, .char), (q 2, .boolean), (q 3, .long), (q 4, .object "PatchVoices$Voice")]
def pv_FV (q : Nat → ClassId) (a : Nat → Nat) (k : Nat) (f : Nat → Int32) (g : Nat → Int64) : Nat → va_E := fun j => match j with
  | 0 => .inr (5, [.int (f 0), .int (f 1), .int (f 2), .int (f 3), .int (f 4), .long (g 5), .ref (a (k + 1)), .int (f 7), .int (f 8), .int (f 9), .ref (a (k + 2)), .ref (a (k + 3)), .ref (a (k + 4)), .ref (a (k + 5))])
  | 1 => .inl (q 0, 24, .inl f)
  | 2 => .inl (q 0, 4, .inl f)
  | 3 => .inl (q 0, 24, .inl f)
  | 4 => .inl (q 0, 24, .inl f)
  | _ => .inl (q 0, 128, .inl f)
def pv_FX (q : Nat → ClassId) (a : Nat → Nat) : pv_F := fun k f g =>
  if k < 28 then ([.inr (0, [.ref (a 1), .int (f 1), .ref (a 2), .ref (a 11), .int (f 4), .int (f 5), .ref (a 25), .int (f 7), .long (g 8), .ref (a 26), .ref (a 27), .int (f 11)]),
    .inl (q 1, 300, .inl f),
    .inr (1, [.ref (a 3), .int (f 1), .int (f 2), .int (f 3), .int (f 4)]),
    .inr (2, [.int (f 0), .ref (a 4), .ref (a 5), .ref (a 6), .ref (a 7), .ref (a 8), .ref (a 9), .ref (a 10)]),
    .inl (q 0, 38, .inl f),
    .inl (q 0, 152, .inl f),
    .inl (q 0, 152, .inl f),
    .inl (q 0, 38, .inl f),
    .inl (q 0, 38, .inl f),
    .inl (q 0, 152, .inl f),
    .inl (q 3, 38, .inr (.inl g)),
    .inr (3, [.ref (a 12), .int (f 1), .int (f 2), .ref (a 20), .int (f 4), .ref (a 21), .ref (a 22), .ref (a 23), .ref (a 24)]),
    .inr (4, [.int (f 0), .ref (a 13), .ref (a 14), .ref (a 15), .ref (a 16), .ref (a 17), .ref (a 18), .ref (a 19)]),
    .inl (q 0, 24, .inl f),
    .inl (q 0, 96, .inl f),
    .inl (q 0, 96, .inl f),
    .inl (q 0, 24, .inl f),
    .inl (q 2, 24, .inl f),
    .inl (q 0, 24, .inl f),
    .inl (q 0, 24, .inl f),
    .inl (q 0, 48, .inl f),
    .inl (q 0, 24, .inl f),
    .inl (q 0, 24, .inl f),
    .inl (q 0, 24, .inl f),
    .inl (q 0, 24, .inl f),
    .inl (q 4, 4, .inr (.inr (.inr (.inr (fun j => if j < 4 then some (a (28 + 6 * j)) else none))))),
    .inl (q 0, 4, .inl f),
    .inl (q 0, 64, .inl f)] : List va_E).getD k (.inr (0, []))
  else pv_FV q a k f g ((k - 28) % 6)
theorem fx_0 (q : Nat → ClassId) (a : Nat → Nat) (f : Nat → Int32) (g : Nat → Int64) : pv_FX q a 0 f g = .inr (0, [.ref (a 1), .int (f 1), .ref (a 2), .ref (a 11), .int (f 4), .int (f 5), .ref (a 25), .int (f 7), .long (g 8), .ref (a 26), .ref (a 27), .int (f 11)]) := rfl
theorem fx_1 (q : Nat → ClassId) (a : Nat → Nat) (f : Nat → Int32) (g : Nat → Int64) : pv_FX q a 1 f g = .inl (q 1, 300, .inl f) := rfl
theorem fx_2 (q : Nat → ClassId) (a : Nat → Nat) (f : Nat → Int32) (g : Nat → Int64) : pv_FX q a 2 f g = .inr (1, [.ref (a 3), .int (f 1), .int (f 2), .int (f 3), .int (f 4)]) := rfl
theorem fx_3 (q : Nat → ClassId) (a : Nat → Nat) (f : Nat → Int32) (g : Nat → Int64) : pv_FX q a 3 f g = .inr (2, [.int (f 0), .ref (a 4), .ref (a 5), .ref (a 6), .ref (a 7), .ref (a 8), .ref (a 9), .ref (a 10)]) := rfl
theorem fx_4 (q : Nat → ClassId) (a : Nat → Nat) (f : Nat → Int32) (g : Nat → Int64) : pv_FX q a 4 f g = .inl (q 0, 38, .inl f) := rfl
theorem fx_5 (q : Nat → ClassId) (a : Nat → Nat) (f : Nat → Int32) (g : Nat → Int64) : pv_FX q a 5 f g = .inl (q 0, 152, .inl f) := rfl
theorem fx_6 (q : Nat → ClassId) (a : Nat → Nat) (f : Nat → Int32) (g : Nat → Int64) : pv_FX q a 6 f g = .inl (q 0, 152, .inl f) := rfl
theorem fx_7 (q : Nat → ClassId) (a : Nat → Nat) (f : Nat → Int32) (g : Nat → Int64) : pv_FX q a 7 f g = .inl (q 0, 38, .inl f) := rfl
theorem fx_8 (q : Nat → ClassId) (a : Nat → Nat) (f : Nat → Int32) (g : Nat → Int64) : pv_FX q a 8 f g = .inl (q 0, 38, .inl f) := rfl
theorem fx_9 (q : Nat → ClassId) (a : Nat → Nat) (f : Nat → Int32) (g : Nat → Int64) : pv_FX q a 9 f g = .inl (q 0, 152, .inl f) := rfl
theorem fx_10 (q : Nat → ClassId) (a : Nat → Nat) (f : Nat → Int32) (g : Nat → Int64) : pv_FX q a 10 f g = .inl (q 3, 38, .inr (.inl g)) := rfl
theorem fx_11 (q : Nat → ClassId) (a : Nat → Nat) (f : Nat → Int32) (g : Nat → Int64) : pv_FX q a 11 f g = .inr (3, [.ref (a 12), .int (f 1), .int (f 2), .ref (a 20), .int (f 4), .ref (a 21), .ref (a 22), .ref (a 23), .ref (a 24)]) := rfl
theorem fx_12 (q : Nat → ClassId) (a : Nat → Nat) (f : Nat → Int32) (g : Nat → Int64) : pv_FX q a 12 f g = .inr (4, [.int (f 0), .ref (a 13), .ref (a 14), .ref (a 15), .ref (a 16), .ref (a 17), .ref (a 18), .ref (a 19)]) := rfl
theorem fx_13 (q : Nat → ClassId) (a : Nat → Nat) (f : Nat → Int32) (g : Nat → Int64) : pv_FX q a 13 f g = .inl (q 0, 24, .inl f) := rfl
theorem fx_14 (q : Nat → ClassId) (a : Nat → Nat) (f : Nat → Int32) (g : Nat → Int64) : pv_FX q a 14 f g = .inl (q 0, 96, .inl f) := rfl
theorem fx_15 (q : Nat → ClassId) (a : Nat → Nat) (f : Nat → Int32) (g : Nat → Int64) : pv_FX q a 15 f g = .inl (q 0, 96, .inl f) := rfl
theorem fx_16 (q : Nat → ClassId) (a : Nat → Nat) (f : Nat → Int32) (g : Nat → Int64) : pv_FX q a 16 f g = .inl (q 0, 24, .inl f) := rfl
theorem fx_17 (q : Nat → ClassId) (a : Nat → Nat) (f : Nat → Int32) (g : Nat → Int64) : pv_FX q a 17 f g = .inl (q 2, 24, .inl f) := rfl
theorem fx_18 (q : Nat → ClassId) (a : Nat → Nat) (f : Nat → Int32) (g : Nat → Int64) : pv_FX q a 18 f g = .inl (q 0, 24, .inl f) := rfl
theorem fx_19 (q : Nat → ClassId) (a : Nat → Nat) (f : Nat → Int32) (g : Nat → Int64) : pv_FX q a 19 f g = .inl (q 0, 24, .inl f) := rfl
theorem fx_20 (q : Nat → ClassId) (a : Nat → Nat) (f : Nat → Int32) (g : Nat → Int64) : pv_FX q a 20 f g = .inl (q 0, 48, .inl f) := rfl
theorem fx_21 (q : Nat → ClassId) (a : Nat → Nat) (f : Nat → Int32) (g : Nat → Int64) : pv_FX q a 21 f g = .inl (q 0, 24, .inl f) := rfl
theorem fx_22 (q : Nat → ClassId) (a : Nat → Nat) (f : Nat → Int32) (g : Nat → Int64) : pv_FX q a 22 f g = .inl (q 0, 24, .inl f) := rfl
theorem fx_23 (q : Nat → ClassId) (a : Nat → Nat) (f : Nat → Int32) (g : Nat → Int64) : pv_FX q a 23 f g = .inl (q 0, 24, .inl f) := rfl
theorem fx_24 (q : Nat → ClassId) (a : Nat → Nat) (f : Nat → Int32) (g : Nat → Int64) : pv_FX q a 24 f g = .inl (q 0, 24, .inl f) := rfl
theorem fx_25 (q : Nat → ClassId) (a : Nat → Nat) (f : Nat → Int32) (g : Nat → Int64) : pv_FX q a 25 f g = .inl (q 4, 4, .inr (.inr (.inr (.inr (fun j => if j < 4 then some (a (28 + 6 * j)) else none))))) := rfl
theorem fx_26 (q : Nat → ClassId) (a : Nat → Nat) (f : Nat → Int32) (g : Nat → Int64) : pv_FX q a 26 f g = .inl (q 0, 4, .inl f) := rfl
theorem fx_27 (q : Nat → ClassId) (a : Nat → Nat) (f : Nat → Int32) (g : Nat → Int64) : pv_FX q a 27 f g = .inl (q 0, 64, .inl f) := rfl
theorem fxs_0_1 (q : Nat → ClassId) (a : Nat → Nat) (f : Nat → Int32) (g : Nat → Int64) (x : Int32) : pv_FX q a 0 (upd f 1 x) g = .inr (0, List.set ([.ref (a 1), .int (f 1), .ref (a 2), .ref (a 11), .int (f 4), .int (f 5), .ref (a 25), .int (f 7), .long (g 8), .ref (a 26), .ref (a 27), .int (f 11)] : List Value) 1 (.int x)) := rfl
theorem fxs_0_4 (q : Nat → ClassId) (a : Nat → Nat) (f : Nat → Int32) (g : Nat → Int64) (x : Int32) : pv_FX q a 0 (upd f 4 x) g = .inr (0, List.set ([.ref (a 1), .int (f 1), .ref (a 2), .ref (a 11), .int (f 4), .int (f 5), .ref (a 25), .int (f 7), .long (g 8), .ref (a 26), .ref (a 27), .int (f 11)] : List Value) 4 (.int x)) := rfl
theorem fxs_0_5 (q : Nat → ClassId) (a : Nat → Nat) (f : Nat → Int32) (g : Nat → Int64) (x : Int32) : pv_FX q a 0 (upd f 5 x) g = .inr (0, List.set ([.ref (a 1), .int (f 1), .ref (a 2), .ref (a 11), .int (f 4), .int (f 5), .ref (a 25), .int (f 7), .long (g 8), .ref (a 26), .ref (a 27), .int (f 11)] : List Value) 5 (.int x)) := rfl
theorem fxs_0_7 (q : Nat → ClassId) (a : Nat → Nat) (f : Nat → Int32) (g : Nat → Int64) (x : Int32) : pv_FX q a 0 (upd f 7 x) g = .inr (0, List.set ([.ref (a 1), .int (f 1), .ref (a 2), .ref (a 11), .int (f 4), .int (f 5), .ref (a 25), .int (f 7), .long (g 8), .ref (a 26), .ref (a 27), .int (f 11)] : List Value) 7 (.int x)) := rfl
theorem fxs_0_8 (q : Nat → ClassId) (a : Nat → Nat) (f : Nat → Int32) (g : Nat → Int64) (x : Int64) : pv_FX q a 0 f (vp_updL g 8 x) = .inr (0, List.set ([.ref (a 1), .int (f 1), .ref (a 2), .ref (a 11), .int (f 4), .int (f 5), .ref (a 25), .int (f 7), .long (g 8), .ref (a 26), .ref (a 27), .int (f 11)] : List Value) 8 (.long x)) := rfl
theorem fxs_0_11 (q : Nat → ClassId) (a : Nat → Nat) (f : Nat → Int32) (g : Nat → Int64) (x : Int32) : pv_FX q a 0 (upd f 11 x) g = .inr (0, List.set ([.ref (a 1), .int (f 1), .ref (a 2), .ref (a 11), .int (f 4), .int (f 5), .ref (a 25), .int (f 7), .long (g 8), .ref (a 26), .ref (a 27), .int (f 11)] : List Value) 11 (.int x)) := rfl
theorem fxs_2_1 (q : Nat → ClassId) (a : Nat → Nat) (f : Nat → Int32) (g : Nat → Int64) (x : Int32) : pv_FX q a 2 (upd f 1 x) g = .inr (1, List.set ([.ref (a 3), .int (f 1), .int (f 2), .int (f 3), .int (f 4)] : List Value) 1 (.int x)) := rfl
theorem fxs_2_2 (q : Nat → ClassId) (a : Nat → Nat) (f : Nat → Int32) (g : Nat → Int64) (x : Int32) : pv_FX q a 2 (upd f 2 x) g = .inr (1, List.set ([.ref (a 3), .int (f 1), .int (f 2), .int (f 3), .int (f 4)] : List Value) 2 (.int x)) := rfl
theorem fxs_2_3 (q : Nat → ClassId) (a : Nat → Nat) (f : Nat → Int32) (g : Nat → Int64) (x : Int32) : pv_FX q a 2 (upd f 3 x) g = .inr (1, List.set ([.ref (a 3), .int (f 1), .int (f 2), .int (f 3), .int (f 4)] : List Value) 3 (.int x)) := rfl
theorem fxs_2_4 (q : Nat → ClassId) (a : Nat → Nat) (f : Nat → Int32) (g : Nat → Int64) (x : Int32) : pv_FX q a 2 (upd f 4 x) g = .inr (1, List.set ([.ref (a 3), .int (f 1), .int (f 2), .int (f 3), .int (f 4)] : List Value) 4 (.int x)) := rfl
theorem fxs_3_0 (q : Nat → ClassId) (a : Nat → Nat) (f : Nat → Int32) (g : Nat → Int64) (x : Int32) : pv_FX q a 3 (upd f 0 x) g = .inr (2, List.set ([.int (f 0), .ref (a 4), .ref (a 5), .ref (a 6), .ref (a 7), .ref (a 8), .ref (a 9), .ref (a 10)] : List Value) 0 (.int x)) := rfl
theorem fxs_11_1 (q : Nat → ClassId) (a : Nat → Nat) (f : Nat → Int32) (g : Nat → Int64) (x : Int32) : pv_FX q a 11 (upd f 1 x) g = .inr (3, List.set ([.ref (a 12), .int (f 1), .int (f 2), .ref (a 20), .int (f 4), .ref (a 21), .ref (a 22), .ref (a 23), .ref (a 24)] : List Value) 1 (.int x)) := rfl
theorem fxs_11_2 (q : Nat → ClassId) (a : Nat → Nat) (f : Nat → Int32) (g : Nat → Int64) (x : Int32) : pv_FX q a 11 (upd f 2 x) g = .inr (3, List.set ([.ref (a 12), .int (f 1), .int (f 2), .ref (a 20), .int (f 4), .ref (a 21), .ref (a 22), .ref (a 23), .ref (a 24)] : List Value) 2 (.int x)) := rfl
theorem fxs_11_4 (q : Nat → ClassId) (a : Nat → Nat) (f : Nat → Int32) (g : Nat → Int64) (x : Int32) : pv_FX q a 11 (upd f 4 x) g = .inr (3, List.set ([.ref (a 12), .int (f 1), .int (f 2), .ref (a 20), .int (f 4), .ref (a 21), .ref (a 22), .ref (a 23), .ref (a 24)] : List Value) 4 (.int x)) := rfl
theorem fxs_12_0 (q : Nat → ClassId) (a : Nat → Nat) (f : Nat → Int32) (g : Nat → Int64) (x : Int32) : pv_FX q a 12 (upd f 0 x) g = .inr (4, List.set ([.int (f 0), .ref (a 13), .ref (a 14), .ref (a 15), .ref (a 16), .ref (a 17), .ref (a 18), .ref (a 19)] : List Value) 0 (.int x)) := rfl
theorem fxs_v0_0 {v : Nat} (hv : v < 4) (q : Nat → ClassId) (a : Nat → Nat) (f : Nat → Int32) (g : Nat → Int64) (x : Int32) : pv_FX q a (28 + 6 * v) (upd f 0 x) g = .inr (5, List.set ([.int (f 0), .int (f 1), .int (f 2), .int (f 3), .int (f 4), .long (g 5), .ref (a (28 + 6 * v + 1)), .int (f 7), .int (f 8), .int (f 9), .ref (a (28 + 6 * v + 2)), .ref (a (28 + 6 * v + 3)), .ref (a (28 + 6 * v + 4)), .ref (a (28 + 6 * v + 5))] : List Value) 0 (.int x)) := by
  rcases (show v = 0 ∨ v = 1 ∨ v = 2 ∨ v = 3 by omega) with rfl | rfl | rfl | rfl <;> rfl
theorem fxs_v0_1 {v : Nat} (hv : v < 4) (q : Nat → ClassId) (a : Nat → Nat) (f : Nat → Int32) (g : Nat → Int64) (x : Int32) : pv_FX q a (28 + 6 * v) (upd f 1 x) g = .inr (5, List.set ([.int (f 0), .int (f 1), .int (f 2), .int (f 3), .int (f 4), .long (g 5), .ref (a (28 + 6 * v + 1)), .int (f 7), .int (f 8), .int (f 9), .ref (a (28 + 6 * v + 2)), .ref (a (28 + 6 * v + 3)), .ref (a (28 + 6 * v + 4)), .ref (a (28 + 6 * v + 5))] : List Value) 1 (.int x)) := by
  rcases (show v = 0 ∨ v = 1 ∨ v = 2 ∨ v = 3 by omega) with rfl | rfl | rfl | rfl <;> rfl
theorem fxs_v0_2 {v : Nat} (hv : v < 4) (q : Nat → ClassId) (a : Nat → Nat) (f : Nat → Int32) (g : Nat → Int64) (x : Int32) : pv_FX q a (28 + 6 * v) (upd f 2 x) g = .inr (5, List.set ([.int (f 0), .int (f 1), .int (f 2), .int (f 3), .int (f 4), .long (g 5), .ref (a (28 + 6 * v + 1)), .int (f 7), .int (f 8), .int (f 9), .ref (a (28 + 6 * v + 2)), .ref (a (28 + 6 * v + 3)), .ref (a (28 + 6 * v + 4)), .ref (a (28 + 6 * v + 5))] : List Value) 2 (.int x)) := by
  rcases (show v = 0 ∨ v = 1 ∨ v = 2 ∨ v = 3 by omega) with rfl | rfl | rfl | rfl <;> rfl
theorem fxs_v0_3 {v : Nat} (hv : v < 4) (q : Nat → ClassId) (a : Nat → Nat) (f : Nat → Int32) (g : Nat → Int64) (x : Int32) : pv_FX q a (28 + 6 * v) (upd f 3 x) g = .inr (5, List.set ([.int (f 0), .int (f 1), .int (f 2), .int (f 3), .int (f 4), .long (g 5), .ref (a (28 + 6 * v + 1)), .int (f 7), .int (f 8), .int (f 9), .ref (a (28 + 6 * v + 2)), .ref (a (28 + 6 * v + 3)), .ref (a (28 + 6 * v + 4)), .ref (a (28 + 6 * v + 5))] : List Value) 3 (.int x)) := by
  rcases (show v = 0 ∨ v = 1 ∨ v = 2 ∨ v = 3 by omega) with rfl | rfl | rfl | rfl <;> rfl
theorem fxs_v0_4 {v : Nat} (hv : v < 4) (q : Nat → ClassId) (a : Nat → Nat) (f : Nat → Int32) (g : Nat → Int64) (x : Int32) : pv_FX q a (28 + 6 * v) (upd f 4 x) g = .inr (5, List.set ([.int (f 0), .int (f 1), .int (f 2), .int (f 3), .int (f 4), .long (g 5), .ref (a (28 + 6 * v + 1)), .int (f 7), .int (f 8), .int (f 9), .ref (a (28 + 6 * v + 2)), .ref (a (28 + 6 * v + 3)), .ref (a (28 + 6 * v + 4)), .ref (a (28 + 6 * v + 5))] : List Value) 4 (.int x)) := by
  rcases (show v = 0 ∨ v = 1 ∨ v = 2 ∨ v = 3 by omega) with rfl | rfl | rfl | rfl <;> rfl
theorem fxs_v0_5 {v : Nat} (hv : v < 4) (q : Nat → ClassId) (a : Nat → Nat) (f : Nat → Int32) (g : Nat → Int64) (x : Int64) : pv_FX q a (28 + 6 * v) f (vp_updL g 5 x) = .inr (5, List.set ([.int (f 0), .int (f 1), .int (f 2), .int (f 3), .int (f 4), .long (g 5), .ref (a (28 + 6 * v + 1)), .int (f 7), .int (f 8), .int (f 9), .ref (a (28 + 6 * v + 2)), .ref (a (28 + 6 * v + 3)), .ref (a (28 + 6 * v + 4)), .ref (a (28 + 6 * v + 5))] : List Value) 5 (.long x)) := by
  rcases (show v = 0 ∨ v = 1 ∨ v = 2 ∨ v = 3 by omega) with rfl | rfl | rfl | rfl <;> rfl
theorem fxs_v0_7 {v : Nat} (hv : v < 4) (q : Nat → ClassId) (a : Nat → Nat) (f : Nat → Int32) (g : Nat → Int64) (x : Int32) : pv_FX q a (28 + 6 * v) (upd f 7 x) g = .inr (5, List.set ([.int (f 0), .int (f 1), .int (f 2), .int (f 3), .int (f 4), .long (g 5), .ref (a (28 + 6 * v + 1)), .int (f 7), .int (f 8), .int (f 9), .ref (a (28 + 6 * v + 2)), .ref (a (28 + 6 * v + 3)), .ref (a (28 + 6 * v + 4)), .ref (a (28 + 6 * v + 5))] : List Value) 7 (.int x)) := by
  rcases (show v = 0 ∨ v = 1 ∨ v = 2 ∨ v = 3 by omega) with rfl | rfl | rfl | rfl <;> rfl
theorem fxs_v0_8 {v : Nat} (hv : v < 4) (q : Nat → ClassId) (a : Nat → Nat) (f : Nat → Int32) (g : Nat → Int64) (x : Int32) : pv_FX q a (28 + 6 * v) (upd f 8 x) g = .inr (5, List.set ([.int (f 0), .int (f 1), .int (f 2), .int (f 3), .int (f 4), .long (g 5), .ref (a (28 + 6 * v + 1)), .int (f 7), .int (f 8), .int (f 9), .ref (a (28 + 6 * v + 2)), .ref (a (28 + 6 * v + 3)), .ref (a (28 + 6 * v + 4)), .ref (a (28 + 6 * v + 5))] : List Value) 8 (.int x)) := by
  rcases (show v = 0 ∨ v = 1 ∨ v = 2 ∨ v = 3 by omega) with rfl | rfl | rfl | rfl <;> rfl
theorem fxs_v0_9 {v : Nat} (hv : v < 4) (q : Nat → ClassId) (a : Nat → Nat) (f : Nat → Int32) (g : Nat → Int64) (x : Int32) : pv_FX q a (28 + 6 * v) (upd f 9 x) g = .inr (5, List.set ([.int (f 0), .int (f 1), .int (f 2), .int (f 3), .int (f 4), .long (g 5), .ref (a (28 + 6 * v + 1)), .int (f 7), .int (f 8), .int (f 9), .ref (a (28 + 6 * v + 2)), .ref (a (28 + 6 * v + 3)), .ref (a (28 + 6 * v + 4)), .ref (a (28 + 6 * v + 5))] : List Value) 9 (.int x)) := by
  rcases (show v = 0 ∨ v = 1 ∨ v = 2 ∨ v = 3 by omega) with rfl | rfl | rfl | rfl <;> rfl
theorem fx_v0 {v : Nat} (hv : v < 4) (q : Nat → ClassId) (a : Nat → Nat) (f : Nat → Int32) (g : Nat → Int64) : pv_FX q a (28 + 6 * v) f g = .inr (5, [.int (f 0), .int (f 1), .int (f 2), .int (f 3), .int (f 4), .long (g 5), .ref (a (28 + 6 * v + 1)), .int (f 7), .int (f 8), .int (f 9), .ref (a (28 + 6 * v + 2)), .ref (a (28 + 6 * v + 3)), .ref (a (28 + 6 * v + 4)), .ref (a (28 + 6 * v + 5))]) := by
  rcases (show v = 0 ∨ v = 1 ∨ v = 2 ∨ v = 3 by omega) with rfl | rfl | rfl | rfl <;> rfl
theorem fx_v1 {v : Nat} (hv : v < 4) (q : Nat → ClassId) (a : Nat → Nat) (f : Nat → Int32) (g : Nat → Int64) : pv_FX q a (28 + 6 * v + 1) f g = .inl (q 0, 24, .inl f) := by
  rcases (show v = 0 ∨ v = 1 ∨ v = 2 ∨ v = 3 by omega) with rfl | rfl | rfl | rfl <;> rfl
theorem fx_v2 {v : Nat} (hv : v < 4) (q : Nat → ClassId) (a : Nat → Nat) (f : Nat → Int32) (g : Nat → Int64) : pv_FX q a (28 + 6 * v + 2) f g = .inl (q 0, 4, .inl f) := by
  rcases (show v = 0 ∨ v = 1 ∨ v = 2 ∨ v = 3 by omega) with rfl | rfl | rfl | rfl <;> rfl
theorem fx_v3 {v : Nat} (hv : v < 4) (q : Nat → ClassId) (a : Nat → Nat) (f : Nat → Int32) (g : Nat → Int64) : pv_FX q a (28 + 6 * v + 3) f g = .inl (q 0, 24, .inl f) := by
  rcases (show v = 0 ∨ v = 1 ∨ v = 2 ∨ v = 3 by omega) with rfl | rfl | rfl | rfl <;> rfl
theorem fx_v4 {v : Nat} (hv : v < 4) (q : Nat → ClassId) (a : Nat → Nat) (f : Nat → Int32) (g : Nat → Int64) : pv_FX q a (28 + 6 * v + 4) f g = .inl (q 0, 24, .inl f) := by
  rcases (show v = 0 ∨ v = 1 ∨ v = 2 ∨ v = 3 by omega) with rfl | rfl | rfl | rfl <;> rfl
theorem fx_v5 {v : Nat} (hv : v < 4) (q : Nat → ClassId) (a : Nat → Nat) (f : Nat → Int32) (g : Nat → Int64) : pv_FX q a (28 + 6 * v + 5) f g = .inl (q 0, 128, .inl f) := by
  rcases (show v = 0 ∨ v = 1 ∨ v = 2 ∨ v = 3 by omega) with rfl | rfl | rfl | rfl <;> rfl
def pv_FM (q : Nat → ClassId) (a : Nat → Nat) : pv_F := fun k f g =>
  ([.inr (6, [.int (f 0), .ref (a 1), .int (f 2), .ref (a 2), .ref (a 3), .int (f 5), .ref (a 4), .ref (a 5), .ref (a 6), .ref (a 7), .ref (a 8), .int (f 11), .int (f 12), .int (f 13), .int (f 14), .int (f 15), .int (f 16), .int (f 17), .int (f 18), .ref (a 9), .ref (a 10), .ref (a 11), .ref (a 12), .ref (a 13), .ref (a 14), .ref (a 15), .ref (a 16), .ref (a 17), .int (f 28), .ref (a 18), .ref (a 19), .ref (a 20), .int (f 32), .ref (a 21), .ref (a 22), .ref (a 23), .ref (a 24), .ref (a 25), .ref (a 26), .ref (a 27), .ref (a 28), .ref (a 29), .ref (a 30), .ref (a 31), .ref (a 32), .ref (a 33), .ref (a 34), .int (f 47), .int (f 48), .ref (a 35), .int (f 50)]),
    .inl (q 0, 300, .inl f),
    .inl (q 0, 20, .inl f),
    .inl (q 0, 20, .inl f),
    .inl (q 0, 40, .inl f),
    .inl (q 0, 40, .inl f),
    .inl (q 0, 40, .inl f),
    .inl (q 0, 160, .inl f),
    .inl (q 0, 160, .inl f),
    .inl (q 0, 24, .inl f),
    .inl (q 0, 24, .inl f),
    .inl (q 0, 96, .inl f),
    .inl (q 0, 96, .inl f),
    .inl (q 0, 24, .inl f),
    .inl (q 0, 24, .inl f),
    .inl (q 0, 24, .inl f),
    .inl (q 0, 24, .inl f),
    .inl (q 2, 24, .inl f),
    .inl (q 0, 48, .inl f),
    .inl (q 2, 48, .inl f),
    .inl (q 0, 48, .inl f),
    .inl (q 0, 4, .inl f),
    .inl (q 2, 4, .inl f),
    .inl (q 0, 4, .inl f),
    .inl (q 0, 4, .inl f),
    .inl (q 2, 4, .inl f),
    .inl (q 2, 4, .inl f),
    .inl (q 0, 4, .inl f),
    .inl (q 0, 4, .inl f),
    .inl (q 0, 4, .inl f),
    .inl (q 0, 4, .inl f),
    .inl (q 0, 96, .inl f),
    .inl (q 0, 96, .inl f),
    .inl (q 0, 96, .inl f),
    .inl (q 0, 512, .inl f),
    .inl (q 0, 64, .inl f)] : List va_E).getD k (.inr (0, []))
theorem fm_0 (q : Nat → ClassId) (a : Nat → Nat) (f : Nat → Int32) (g : Nat → Int64) : pv_FM q a 0 f g = .inr (6, [.int (f 0), .ref (a 1), .int (f 2), .ref (a 2), .ref (a 3), .int (f 5), .ref (a 4), .ref (a 5), .ref (a 6), .ref (a 7), .ref (a 8), .int (f 11), .int (f 12), .int (f 13), .int (f 14), .int (f 15), .int (f 16), .int (f 17), .int (f 18), .ref (a 9), .ref (a 10), .ref (a 11), .ref (a 12), .ref (a 13), .ref (a 14), .ref (a 15), .ref (a 16), .ref (a 17), .int (f 28), .ref (a 18), .ref (a 19), .ref (a 20), .int (f 32), .ref (a 21), .ref (a 22), .ref (a 23), .ref (a 24), .ref (a 25), .ref (a 26), .ref (a 27), .ref (a 28), .ref (a 29), .ref (a 30), .ref (a 31), .ref (a 32), .ref (a 33), .ref (a 34), .int (f 47), .int (f 48), .ref (a 35), .int (f 50)]) := rfl
theorem fm_1 (q : Nat → ClassId) (a : Nat → Nat) (f : Nat → Int32) (g : Nat → Int64) : pv_FM q a 1 f g = .inl (q 0, 300, .inl f) := rfl
theorem fm_2 (q : Nat → ClassId) (a : Nat → Nat) (f : Nat → Int32) (g : Nat → Int64) : pv_FM q a 2 f g = .inl (q 0, 20, .inl f) := rfl
theorem fm_3 (q : Nat → ClassId) (a : Nat → Nat) (f : Nat → Int32) (g : Nat → Int64) : pv_FM q a 3 f g = .inl (q 0, 20, .inl f) := rfl
theorem fm_4 (q : Nat → ClassId) (a : Nat → Nat) (f : Nat → Int32) (g : Nat → Int64) : pv_FM q a 4 f g = .inl (q 0, 40, .inl f) := rfl
theorem fm_5 (q : Nat → ClassId) (a : Nat → Nat) (f : Nat → Int32) (g : Nat → Int64) : pv_FM q a 5 f g = .inl (q 0, 40, .inl f) := rfl
theorem fm_6 (q : Nat → ClassId) (a : Nat → Nat) (f : Nat → Int32) (g : Nat → Int64) : pv_FM q a 6 f g = .inl (q 0, 40, .inl f) := rfl
theorem fm_7 (q : Nat → ClassId) (a : Nat → Nat) (f : Nat → Int32) (g : Nat → Int64) : pv_FM q a 7 f g = .inl (q 0, 160, .inl f) := rfl
theorem fm_8 (q : Nat → ClassId) (a : Nat → Nat) (f : Nat → Int32) (g : Nat → Int64) : pv_FM q a 8 f g = .inl (q 0, 160, .inl f) := rfl
theorem fm_9 (q : Nat → ClassId) (a : Nat → Nat) (f : Nat → Int32) (g : Nat → Int64) : pv_FM q a 9 f g = .inl (q 0, 24, .inl f) := rfl
theorem fm_10 (q : Nat → ClassId) (a : Nat → Nat) (f : Nat → Int32) (g : Nat → Int64) : pv_FM q a 10 f g = .inl (q 0, 24, .inl f) := rfl
theorem fm_11 (q : Nat → ClassId) (a : Nat → Nat) (f : Nat → Int32) (g : Nat → Int64) : pv_FM q a 11 f g = .inl (q 0, 96, .inl f) := rfl
theorem fm_12 (q : Nat → ClassId) (a : Nat → Nat) (f : Nat → Int32) (g : Nat → Int64) : pv_FM q a 12 f g = .inl (q 0, 96, .inl f) := rfl
theorem fm_13 (q : Nat → ClassId) (a : Nat → Nat) (f : Nat → Int32) (g : Nat → Int64) : pv_FM q a 13 f g = .inl (q 0, 24, .inl f) := rfl
theorem fm_14 (q : Nat → ClassId) (a : Nat → Nat) (f : Nat → Int32) (g : Nat → Int64) : pv_FM q a 14 f g = .inl (q 0, 24, .inl f) := rfl
theorem fm_15 (q : Nat → ClassId) (a : Nat → Nat) (f : Nat → Int32) (g : Nat → Int64) : pv_FM q a 15 f g = .inl (q 0, 24, .inl f) := rfl
theorem fm_16 (q : Nat → ClassId) (a : Nat → Nat) (f : Nat → Int32) (g : Nat → Int64) : pv_FM q a 16 f g = .inl (q 0, 24, .inl f) := rfl
theorem fm_17 (q : Nat → ClassId) (a : Nat → Nat) (f : Nat → Int32) (g : Nat → Int64) : pv_FM q a 17 f g = .inl (q 2, 24, .inl f) := rfl
theorem fm_18 (q : Nat → ClassId) (a : Nat → Nat) (f : Nat → Int32) (g : Nat → Int64) : pv_FM q a 18 f g = .inl (q 0, 48, .inl f) := rfl
theorem fm_19 (q : Nat → ClassId) (a : Nat → Nat) (f : Nat → Int32) (g : Nat → Int64) : pv_FM q a 19 f g = .inl (q 2, 48, .inl f) := rfl
theorem fm_20 (q : Nat → ClassId) (a : Nat → Nat) (f : Nat → Int32) (g : Nat → Int64) : pv_FM q a 20 f g = .inl (q 0, 48, .inl f) := rfl
theorem fm_21 (q : Nat → ClassId) (a : Nat → Nat) (f : Nat → Int32) (g : Nat → Int64) : pv_FM q a 21 f g = .inl (q 0, 4, .inl f) := rfl
theorem fm_22 (q : Nat → ClassId) (a : Nat → Nat) (f : Nat → Int32) (g : Nat → Int64) : pv_FM q a 22 f g = .inl (q 2, 4, .inl f) := rfl
theorem fm_23 (q : Nat → ClassId) (a : Nat → Nat) (f : Nat → Int32) (g : Nat → Int64) : pv_FM q a 23 f g = .inl (q 0, 4, .inl f) := rfl
theorem fm_24 (q : Nat → ClassId) (a : Nat → Nat) (f : Nat → Int32) (g : Nat → Int64) : pv_FM q a 24 f g = .inl (q 0, 4, .inl f) := rfl
theorem fm_25 (q : Nat → ClassId) (a : Nat → Nat) (f : Nat → Int32) (g : Nat → Int64) : pv_FM q a 25 f g = .inl (q 2, 4, .inl f) := rfl
theorem fm_26 (q : Nat → ClassId) (a : Nat → Nat) (f : Nat → Int32) (g : Nat → Int64) : pv_FM q a 26 f g = .inl (q 2, 4, .inl f) := rfl
theorem fm_27 (q : Nat → ClassId) (a : Nat → Nat) (f : Nat → Int32) (g : Nat → Int64) : pv_FM q a 27 f g = .inl (q 0, 4, .inl f) := rfl
theorem fm_28 (q : Nat → ClassId) (a : Nat → Nat) (f : Nat → Int32) (g : Nat → Int64) : pv_FM q a 28 f g = .inl (q 0, 4, .inl f) := rfl
theorem fm_29 (q : Nat → ClassId) (a : Nat → Nat) (f : Nat → Int32) (g : Nat → Int64) : pv_FM q a 29 f g = .inl (q 0, 4, .inl f) := rfl
theorem fm_30 (q : Nat → ClassId) (a : Nat → Nat) (f : Nat → Int32) (g : Nat → Int64) : pv_FM q a 30 f g = .inl (q 0, 4, .inl f) := rfl
theorem fm_31 (q : Nat → ClassId) (a : Nat → Nat) (f : Nat → Int32) (g : Nat → Int64) : pv_FM q a 31 f g = .inl (q 0, 96, .inl f) := rfl
theorem fm_32 (q : Nat → ClassId) (a : Nat → Nat) (f : Nat → Int32) (g : Nat → Int64) : pv_FM q a 32 f g = .inl (q 0, 96, .inl f) := rfl
theorem fm_33 (q : Nat → ClassId) (a : Nat → Nat) (f : Nat → Int32) (g : Nat → Int64) : pv_FM q a 33 f g = .inl (q 0, 96, .inl f) := rfl
theorem fm_34 (q : Nat → ClassId) (a : Nat → Nat) (f : Nat → Int32) (g : Nat → Int64) : pv_FM q a 34 f g = .inl (q 0, 512, .inl f) := rfl
theorem fm_35 (q : Nat → ClassId) (a : Nat → Nat) (f : Nat → Int32) (g : Nat → Int64) : pv_FM q a 35 f g = .inl (q 0, 64, .inl f) := rfl
theorem fms_0_0 (q : Nat → ClassId) (a : Nat → Nat) (f : Nat → Int32) (g : Nat → Int64) (x : Int32) : pv_FM q a 0 (upd f 0 x) g = .inr (6, List.set ([.int (f 0), .ref (a 1), .int (f 2), .ref (a 2), .ref (a 3), .int (f 5), .ref (a 4), .ref (a 5), .ref (a 6), .ref (a 7), .ref (a 8), .int (f 11), .int (f 12), .int (f 13), .int (f 14), .int (f 15), .int (f 16), .int (f 17), .int (f 18), .ref (a 9), .ref (a 10), .ref (a 11), .ref (a 12), .ref (a 13), .ref (a 14), .ref (a 15), .ref (a 16), .ref (a 17), .int (f 28), .ref (a 18), .ref (a 19), .ref (a 20), .int (f 32), .ref (a 21), .ref (a 22), .ref (a 23), .ref (a 24), .ref (a 25), .ref (a 26), .ref (a 27), .ref (a 28), .ref (a 29), .ref (a 30), .ref (a 31), .ref (a 32), .ref (a 33), .ref (a 34), .int (f 47), .int (f 48), .ref (a 35), .int (f 50)] : List Value) 0 (.int x)) := rfl
theorem fms_0_2 (q : Nat → ClassId) (a : Nat → Nat) (f : Nat → Int32) (g : Nat → Int64) (x : Int32) : pv_FM q a 0 (upd f 2 x) g = .inr (6, List.set ([.int (f 0), .ref (a 1), .int (f 2), .ref (a 2), .ref (a 3), .int (f 5), .ref (a 4), .ref (a 5), .ref (a 6), .ref (a 7), .ref (a 8), .int (f 11), .int (f 12), .int (f 13), .int (f 14), .int (f 15), .int (f 16), .int (f 17), .int (f 18), .ref (a 9), .ref (a 10), .ref (a 11), .ref (a 12), .ref (a 13), .ref (a 14), .ref (a 15), .ref (a 16), .ref (a 17), .int (f 28), .ref (a 18), .ref (a 19), .ref (a 20), .int (f 32), .ref (a 21), .ref (a 22), .ref (a 23), .ref (a 24), .ref (a 25), .ref (a 26), .ref (a 27), .ref (a 28), .ref (a 29), .ref (a 30), .ref (a 31), .ref (a 32), .ref (a 33), .ref (a 34), .int (f 47), .int (f 48), .ref (a 35), .int (f 50)] : List Value) 2 (.int x)) := rfl
theorem fms_0_5 (q : Nat → ClassId) (a : Nat → Nat) (f : Nat → Int32) (g : Nat → Int64) (x : Int32) : pv_FM q a 0 (upd f 5 x) g = .inr (6, List.set ([.int (f 0), .ref (a 1), .int (f 2), .ref (a 2), .ref (a 3), .int (f 5), .ref (a 4), .ref (a 5), .ref (a 6), .ref (a 7), .ref (a 8), .int (f 11), .int (f 12), .int (f 13), .int (f 14), .int (f 15), .int (f 16), .int (f 17), .int (f 18), .ref (a 9), .ref (a 10), .ref (a 11), .ref (a 12), .ref (a 13), .ref (a 14), .ref (a 15), .ref (a 16), .ref (a 17), .int (f 28), .ref (a 18), .ref (a 19), .ref (a 20), .int (f 32), .ref (a 21), .ref (a 22), .ref (a 23), .ref (a 24), .ref (a 25), .ref (a 26), .ref (a 27), .ref (a 28), .ref (a 29), .ref (a 30), .ref (a 31), .ref (a 32), .ref (a 33), .ref (a 34), .int (f 47), .int (f 48), .ref (a 35), .int (f 50)] : List Value) 5 (.int x)) := rfl
theorem fms_0_11 (q : Nat → ClassId) (a : Nat → Nat) (f : Nat → Int32) (g : Nat → Int64) (x : Int32) : pv_FM q a 0 (upd f 11 x) g = .inr (6, List.set ([.int (f 0), .ref (a 1), .int (f 2), .ref (a 2), .ref (a 3), .int (f 5), .ref (a 4), .ref (a 5), .ref (a 6), .ref (a 7), .ref (a 8), .int (f 11), .int (f 12), .int (f 13), .int (f 14), .int (f 15), .int (f 16), .int (f 17), .int (f 18), .ref (a 9), .ref (a 10), .ref (a 11), .ref (a 12), .ref (a 13), .ref (a 14), .ref (a 15), .ref (a 16), .ref (a 17), .int (f 28), .ref (a 18), .ref (a 19), .ref (a 20), .int (f 32), .ref (a 21), .ref (a 22), .ref (a 23), .ref (a 24), .ref (a 25), .ref (a 26), .ref (a 27), .ref (a 28), .ref (a 29), .ref (a 30), .ref (a 31), .ref (a 32), .ref (a 33), .ref (a 34), .int (f 47), .int (f 48), .ref (a 35), .int (f 50)] : List Value) 11 (.int x)) := rfl
theorem fms_0_12 (q : Nat → ClassId) (a : Nat → Nat) (f : Nat → Int32) (g : Nat → Int64) (x : Int32) : pv_FM q a 0 (upd f 12 x) g = .inr (6, List.set ([.int (f 0), .ref (a 1), .int (f 2), .ref (a 2), .ref (a 3), .int (f 5), .ref (a 4), .ref (a 5), .ref (a 6), .ref (a 7), .ref (a 8), .int (f 11), .int (f 12), .int (f 13), .int (f 14), .int (f 15), .int (f 16), .int (f 17), .int (f 18), .ref (a 9), .ref (a 10), .ref (a 11), .ref (a 12), .ref (a 13), .ref (a 14), .ref (a 15), .ref (a 16), .ref (a 17), .int (f 28), .ref (a 18), .ref (a 19), .ref (a 20), .int (f 32), .ref (a 21), .ref (a 22), .ref (a 23), .ref (a 24), .ref (a 25), .ref (a 26), .ref (a 27), .ref (a 28), .ref (a 29), .ref (a 30), .ref (a 31), .ref (a 32), .ref (a 33), .ref (a 34), .int (f 47), .int (f 48), .ref (a 35), .int (f 50)] : List Value) 12 (.int x)) := rfl
theorem fms_0_13 (q : Nat → ClassId) (a : Nat → Nat) (f : Nat → Int32) (g : Nat → Int64) (x : Int32) : pv_FM q a 0 (upd f 13 x) g = .inr (6, List.set ([.int (f 0), .ref (a 1), .int (f 2), .ref (a 2), .ref (a 3), .int (f 5), .ref (a 4), .ref (a 5), .ref (a 6), .ref (a 7), .ref (a 8), .int (f 11), .int (f 12), .int (f 13), .int (f 14), .int (f 15), .int (f 16), .int (f 17), .int (f 18), .ref (a 9), .ref (a 10), .ref (a 11), .ref (a 12), .ref (a 13), .ref (a 14), .ref (a 15), .ref (a 16), .ref (a 17), .int (f 28), .ref (a 18), .ref (a 19), .ref (a 20), .int (f 32), .ref (a 21), .ref (a 22), .ref (a 23), .ref (a 24), .ref (a 25), .ref (a 26), .ref (a 27), .ref (a 28), .ref (a 29), .ref (a 30), .ref (a 31), .ref (a 32), .ref (a 33), .ref (a 34), .int (f 47), .int (f 48), .ref (a 35), .int (f 50)] : List Value) 13 (.int x)) := rfl
theorem fms_0_14 (q : Nat → ClassId) (a : Nat → Nat) (f : Nat → Int32) (g : Nat → Int64) (x : Int32) : pv_FM q a 0 (upd f 14 x) g = .inr (6, List.set ([.int (f 0), .ref (a 1), .int (f 2), .ref (a 2), .ref (a 3), .int (f 5), .ref (a 4), .ref (a 5), .ref (a 6), .ref (a 7), .ref (a 8), .int (f 11), .int (f 12), .int (f 13), .int (f 14), .int (f 15), .int (f 16), .int (f 17), .int (f 18), .ref (a 9), .ref (a 10), .ref (a 11), .ref (a 12), .ref (a 13), .ref (a 14), .ref (a 15), .ref (a 16), .ref (a 17), .int (f 28), .ref (a 18), .ref (a 19), .ref (a 20), .int (f 32), .ref (a 21), .ref (a 22), .ref (a 23), .ref (a 24), .ref (a 25), .ref (a 26), .ref (a 27), .ref (a 28), .ref (a 29), .ref (a 30), .ref (a 31), .ref (a 32), .ref (a 33), .ref (a 34), .int (f 47), .int (f 48), .ref (a 35), .int (f 50)] : List Value) 14 (.int x)) := rfl
theorem fms_0_15 (q : Nat → ClassId) (a : Nat → Nat) (f : Nat → Int32) (g : Nat → Int64) (x : Int32) : pv_FM q a 0 (upd f 15 x) g = .inr (6, List.set ([.int (f 0), .ref (a 1), .int (f 2), .ref (a 2), .ref (a 3), .int (f 5), .ref (a 4), .ref (a 5), .ref (a 6), .ref (a 7), .ref (a 8), .int (f 11), .int (f 12), .int (f 13), .int (f 14), .int (f 15), .int (f 16), .int (f 17), .int (f 18), .ref (a 9), .ref (a 10), .ref (a 11), .ref (a 12), .ref (a 13), .ref (a 14), .ref (a 15), .ref (a 16), .ref (a 17), .int (f 28), .ref (a 18), .ref (a 19), .ref (a 20), .int (f 32), .ref (a 21), .ref (a 22), .ref (a 23), .ref (a 24), .ref (a 25), .ref (a 26), .ref (a 27), .ref (a 28), .ref (a 29), .ref (a 30), .ref (a 31), .ref (a 32), .ref (a 33), .ref (a 34), .int (f 47), .int (f 48), .ref (a 35), .int (f 50)] : List Value) 15 (.int x)) := rfl
theorem fms_0_16 (q : Nat → ClassId) (a : Nat → Nat) (f : Nat → Int32) (g : Nat → Int64) (x : Int32) : pv_FM q a 0 (upd f 16 x) g = .inr (6, List.set ([.int (f 0), .ref (a 1), .int (f 2), .ref (a 2), .ref (a 3), .int (f 5), .ref (a 4), .ref (a 5), .ref (a 6), .ref (a 7), .ref (a 8), .int (f 11), .int (f 12), .int (f 13), .int (f 14), .int (f 15), .int (f 16), .int (f 17), .int (f 18), .ref (a 9), .ref (a 10), .ref (a 11), .ref (a 12), .ref (a 13), .ref (a 14), .ref (a 15), .ref (a 16), .ref (a 17), .int (f 28), .ref (a 18), .ref (a 19), .ref (a 20), .int (f 32), .ref (a 21), .ref (a 22), .ref (a 23), .ref (a 24), .ref (a 25), .ref (a 26), .ref (a 27), .ref (a 28), .ref (a 29), .ref (a 30), .ref (a 31), .ref (a 32), .ref (a 33), .ref (a 34), .int (f 47), .int (f 48), .ref (a 35), .int (f 50)] : List Value) 16 (.int x)) := rfl
theorem fms_0_17 (q : Nat → ClassId) (a : Nat → Nat) (f : Nat → Int32) (g : Nat → Int64) (x : Int32) : pv_FM q a 0 (upd f 17 x) g = .inr (6, List.set ([.int (f 0), .ref (a 1), .int (f 2), .ref (a 2), .ref (a 3), .int (f 5), .ref (a 4), .ref (a 5), .ref (a 6), .ref (a 7), .ref (a 8), .int (f 11), .int (f 12), .int (f 13), .int (f 14), .int (f 15), .int (f 16), .int (f 17), .int (f 18), .ref (a 9), .ref (a 10), .ref (a 11), .ref (a 12), .ref (a 13), .ref (a 14), .ref (a 15), .ref (a 16), .ref (a 17), .int (f 28), .ref (a 18), .ref (a 19), .ref (a 20), .int (f 32), .ref (a 21), .ref (a 22), .ref (a 23), .ref (a 24), .ref (a 25), .ref (a 26), .ref (a 27), .ref (a 28), .ref (a 29), .ref (a 30), .ref (a 31), .ref (a 32), .ref (a 33), .ref (a 34), .int (f 47), .int (f 48), .ref (a 35), .int (f 50)] : List Value) 17 (.int x)) := rfl
theorem fms_0_18 (q : Nat → ClassId) (a : Nat → Nat) (f : Nat → Int32) (g : Nat → Int64) (x : Int32) : pv_FM q a 0 (upd f 18 x) g = .inr (6, List.set ([.int (f 0), .ref (a 1), .int (f 2), .ref (a 2), .ref (a 3), .int (f 5), .ref (a 4), .ref (a 5), .ref (a 6), .ref (a 7), .ref (a 8), .int (f 11), .int (f 12), .int (f 13), .int (f 14), .int (f 15), .int (f 16), .int (f 17), .int (f 18), .ref (a 9), .ref (a 10), .ref (a 11), .ref (a 12), .ref (a 13), .ref (a 14), .ref (a 15), .ref (a 16), .ref (a 17), .int (f 28), .ref (a 18), .ref (a 19), .ref (a 20), .int (f 32), .ref (a 21), .ref (a 22), .ref (a 23), .ref (a 24), .ref (a 25), .ref (a 26), .ref (a 27), .ref (a 28), .ref (a 29), .ref (a 30), .ref (a 31), .ref (a 32), .ref (a 33), .ref (a 34), .int (f 47), .int (f 48), .ref (a 35), .int (f 50)] : List Value) 18 (.int x)) := rfl
theorem fms_0_28 (q : Nat → ClassId) (a : Nat → Nat) (f : Nat → Int32) (g : Nat → Int64) (x : Int32) : pv_FM q a 0 (upd f 28 x) g = .inr (6, List.set ([.int (f 0), .ref (a 1), .int (f 2), .ref (a 2), .ref (a 3), .int (f 5), .ref (a 4), .ref (a 5), .ref (a 6), .ref (a 7), .ref (a 8), .int (f 11), .int (f 12), .int (f 13), .int (f 14), .int (f 15), .int (f 16), .int (f 17), .int (f 18), .ref (a 9), .ref (a 10), .ref (a 11), .ref (a 12), .ref (a 13), .ref (a 14), .ref (a 15), .ref (a 16), .ref (a 17), .int (f 28), .ref (a 18), .ref (a 19), .ref (a 20), .int (f 32), .ref (a 21), .ref (a 22), .ref (a 23), .ref (a 24), .ref (a 25), .ref (a 26), .ref (a 27), .ref (a 28), .ref (a 29), .ref (a 30), .ref (a 31), .ref (a 32), .ref (a 33), .ref (a 34), .int (f 47), .int (f 48), .ref (a 35), .int (f 50)] : List Value) 28 (.int x)) := rfl
theorem fms_0_32 (q : Nat → ClassId) (a : Nat → Nat) (f : Nat → Int32) (g : Nat → Int64) (x : Int32) : pv_FM q a 0 (upd f 32 x) g = .inr (6, List.set ([.int (f 0), .ref (a 1), .int (f 2), .ref (a 2), .ref (a 3), .int (f 5), .ref (a 4), .ref (a 5), .ref (a 6), .ref (a 7), .ref (a 8), .int (f 11), .int (f 12), .int (f 13), .int (f 14), .int (f 15), .int (f 16), .int (f 17), .int (f 18), .ref (a 9), .ref (a 10), .ref (a 11), .ref (a 12), .ref (a 13), .ref (a 14), .ref (a 15), .ref (a 16), .ref (a 17), .int (f 28), .ref (a 18), .ref (a 19), .ref (a 20), .int (f 32), .ref (a 21), .ref (a 22), .ref (a 23), .ref (a 24), .ref (a 25), .ref (a 26), .ref (a 27), .ref (a 28), .ref (a 29), .ref (a 30), .ref (a 31), .ref (a 32), .ref (a 33), .ref (a 34), .int (f 47), .int (f 48), .ref (a 35), .int (f 50)] : List Value) 32 (.int x)) := rfl
theorem fms_0_47 (q : Nat → ClassId) (a : Nat → Nat) (f : Nat → Int32) (g : Nat → Int64) (x : Int32) : pv_FM q a 0 (upd f 47 x) g = .inr (6, List.set ([.int (f 0), .ref (a 1), .int (f 2), .ref (a 2), .ref (a 3), .int (f 5), .ref (a 4), .ref (a 5), .ref (a 6), .ref (a 7), .ref (a 8), .int (f 11), .int (f 12), .int (f 13), .int (f 14), .int (f 15), .int (f 16), .int (f 17), .int (f 18), .ref (a 9), .ref (a 10), .ref (a 11), .ref (a 12), .ref (a 13), .ref (a 14), .ref (a 15), .ref (a 16), .ref (a 17), .int (f 28), .ref (a 18), .ref (a 19), .ref (a 20), .int (f 32), .ref (a 21), .ref (a 22), .ref (a 23), .ref (a 24), .ref (a 25), .ref (a 26), .ref (a 27), .ref (a 28), .ref (a 29), .ref (a 30), .ref (a 31), .ref (a 32), .ref (a 33), .ref (a 34), .int (f 47), .int (f 48), .ref (a 35), .int (f 50)] : List Value) 47 (.int x)) := rfl
theorem fms_0_48 (q : Nat → ClassId) (a : Nat → Nat) (f : Nat → Int32) (g : Nat → Int64) (x : Int32) : pv_FM q a 0 (upd f 48 x) g = .inr (6, List.set ([.int (f 0), .ref (a 1), .int (f 2), .ref (a 2), .ref (a 3), .int (f 5), .ref (a 4), .ref (a 5), .ref (a 6), .ref (a 7), .ref (a 8), .int (f 11), .int (f 12), .int (f 13), .int (f 14), .int (f 15), .int (f 16), .int (f 17), .int (f 18), .ref (a 9), .ref (a 10), .ref (a 11), .ref (a 12), .ref (a 13), .ref (a 14), .ref (a 15), .ref (a 16), .ref (a 17), .int (f 28), .ref (a 18), .ref (a 19), .ref (a 20), .int (f 32), .ref (a 21), .ref (a 22), .ref (a 23), .ref (a 24), .ref (a 25), .ref (a 26), .ref (a 27), .ref (a 28), .ref (a 29), .ref (a 30), .ref (a 31), .ref (a 32), .ref (a 33), .ref (a 34), .int (f 47), .int (f 48), .ref (a 35), .int (f 50)] : List Value) 48 (.int x)) := rfl
theorem fms_0_50 (q : Nat → ClassId) (a : Nat → Nat) (f : Nat → Int32) (g : Nat → Int64) (x : Int32) : pv_FM q a 0 (upd f 50 x) g = .inr (6, List.set ([.int (f 0), .ref (a 1), .int (f 2), .ref (a 2), .ref (a 3), .int (f 5), .ref (a 4), .ref (a 5), .ref (a 6), .ref (a 7), .ref (a 8), .int (f 11), .int (f 12), .int (f 13), .int (f 14), .int (f 15), .int (f 16), .int (f 17), .int (f 18), .ref (a 9), .ref (a 10), .ref (a 11), .ref (a 12), .ref (a 13), .ref (a 14), .ref (a 15), .ref (a 16), .ref (a 17), .int (f 28), .ref (a 18), .ref (a 19), .ref (a 20), .int (f 32), .ref (a 21), .ref (a 22), .ref (a 23), .ref (a 24), .ref (a 25), .ref (a 26), .ref (a 27), .ref (a 28), .ref (a 29), .ref (a 30), .ref (a 31), .ref (a 32), .ref (a 33), .ref (a 34), .int (f 47), .int (f 48), .ref (a 35), .int (f 50)] : List Value) 50 (.int x)) := rfl
