/-! Pure: answers of the f_M, ints that count, reading back. -/
def pw {α : Type} (o : Option α) (P : α → Prop) : Prop := ∃ a, o = some a ∧ P a
theorem pw_some {α : Type} {a : α} {P : α → Prop} : pw (some a) P ↔ P a := ⟨fun ⟨b, h, p⟩ => by cases h; exact p, fun p => ⟨a, rfl, p⟩⟩
theorem pw_none {α : Type} {P : α → Prop} : pw (none : Option α) P ↔ False := ⟨fun ⟨b, h, _⟩ => (nomatch h), fun h => h.elim⟩
theorem pw_bind {α β : Type} {o : Option α} {f : α → Option β} {P : β → Prop} : pw (o.bind f) P ↔ pw o (fun a => pw (f a) P) := by
  constructor
  · rintro ⟨b, h, p⟩
    cases o with
    | none => cases h
    | some a => exact ⟨a, rfl, b, h, p⟩
  · rintro ⟨a, rfl, b, h, p⟩
    exact ⟨b, h, p⟩
theorem pw_ite {α : Type} {c : Prop} [Decidable c] {x y : Option α} {P : α → Prop} : pw (if c then x else y) P ↔ (c → pw x P) ∧ (¬ c → pw y P) := by
  by_cases h : c
  · rw [if_pos h]; exact ⟨fun k => ⟨fun _ => k, fun n => absurd h n⟩, fun k => k.1 h⟩
  · rw [if_neg h]; exact ⟨fun k => ⟨fun n => absurd n h, fun _ => k⟩, fun k => k.2 h⟩
theorem pw_mono {α : Type} {o : Option α} {P Q : α → Prop} (h : pw o P) (k : ∀ a, P a → Q a) : pw o Q := ⟨h.choose, h.choose_spec.1, k _ h.choose_spec.2⟩
theorem pw_eq {α : Type} {o : Option α} {a : α} {P : α → Prop} (h : o = some a) (p : P a) : pw o P := ⟨a, h, p⟩
theorem pw_get {α : Type} {o : Option α} {a : α} {P : α → Prop} (h : o = some a) : pw o P ↔ P a := by rw [h]; exact pw_some
def pI (n : Nat) : Int32 := Int32.ofNat n
theorem pI_toInt {n : Nat} (h : n < 2147483648) : (pI n).toInt = n := Int32.toInt_ofNat_of_lt h
theorem pI_nat {n : Nat} (h : n < 2147483648) : (pI n).toNatClampNeg = n := Int32.toNatClampNeg_ofNat_of_lt h
theorem pI_lt {i j : Nat} (hi : i < 2147483648) (hj : j < 2147483648) : pI i < pI j ↔ i < j := by rw [Int32.lt_iff_toInt_lt, pI_toInt hi, pI_toInt hj]; omega
theorem pI_le {i j : Nat} (hi : i < 2147483648) (hj : j < 2147483648) : pI i ≤ pI j ↔ i ≤ j := by rw [Int32.le_iff_toInt_le, pI_toInt hi, pI_toInt hj]; omega
theorem pI_eq {i j : Nat} (hi : i < 2147483648) (hj : j < 2147483648) : pI i = pI j ↔ i = j := by rw [← Int32.toInt_inj, pI_toInt hi, pI_toInt hj]; omega
theorem pI_add (i j : Nat) : pI i + pI j = pI (i + j) := (Int32.ofNat_add i j).symm
theorem pI_mul (i j : Nat) : pI i * pI j = pI (i * j) := (Int32.ofNat_mul i j).symm
theorem pI_sub {i j : Nat} (h : j ≤ i) : pI i - pI j = pI (i - j) := by
  have e : pI i = pI (i - j) + pI j := by rw [pI_add]; congr 1; omega
  rw [e, Int32.add_sub_cancel]
theorem pI_pred (i : Nat) : pI (i + 1) + -1 = pI i := by
  rw [← pI_add, Int32.add_assoc]
  have : pI 1 + -1 = 0 := by decide
  rw [this, Int32.add_zero]
theorem pI_neg {i : Nat} (h : i < 2147483648) : pI i = -1 ↔ False := by
  refine ⟨fun e => ?_, fun h => h.elim⟩
  have := congrArg Int32.toInt e
  rw [pI_toInt h] at this
  have e1 : (-1 : Int32).toInt = -1 := rfl
  omega
theorem pI_neg' {i : Nat} (h : i < 2147483648) : -1 = pI i ↔ False := by rw [eq_comm]; exact pI_neg h
theorem pI_lt0 {i : Nat} (h : i < 2147483648) : pI i < 0 ↔ False := by
  rw [Int32.lt_iff_toInt_lt, pI_toInt h]
  have e1 : (0 : Int32).toInt = 0 := rfl
  rw [e1]
  exact ⟨fun h => by omega, fun h => h.elim⟩
theorem pI_in {i N : Nat} (h : i < 2147483648) : pv_in (pI i) N = true ↔ i < N := by
  have h0 : (0 : Int32) ≤ pI i := by rw [Int32.le_iff_toInt_le, pI_toInt h]; show (0 : Int) ≤ _; omega
  unfold pv_in
  rw [pI_nat h, decide_eq_true h0]
  simp
theorem l_0 : (0 : Int32) = pI 0 := rfl
theorem l_1 : (1 : Int32) = pI 1 := rfl
theorem l_2 : (2 : Int32) = pI 2 := rfl
theorem l_3 : (3 : Int32) = pI 3 := rfl
theorem l_4 : (4 : Int32) = pI 4 := rfl
theorem l_8 : (8 : Int32) = pI 8 := rfl
theorem l_24 : (24 : Int32) = pI 24 := rfl
theorem l_64 : (64 : Int32) = pI 64 := rfl
theorem l_128 : (128 : Int32) = pI 128 := rfl
theorem l_300 : (300 : Int32) = pI 300 := rfl
/-- an Int32 of 0 .. n is a count -/
theorem pI_of {x : Int32} (h : ¬ x < 0) : x = pI x.toNatClampNeg ∧ x.toNatClampNeg < 2147483648 := by
  have h1 : ¬ x.toInt < 0 := fun z => h (Int32.lt_iff_toInt_lt.mpr z)
  have h5 : x.toNatClampNeg = x.toInt.toNat := rfl
  have h6 := Int32.toInt_lt x
  have h7 : x.toNatClampNeg < 2147483648 := by rw [h5]; omega
  refine ⟨?_, h7⟩
  rw [← Int32.toInt_inj, pI_toInt h7, h5]
  omega
theorem pI_of1 {x : Int32} (h : ¬ x < 1) : ¬ x < 0 := by
  rw [Int32.lt_iff_toInt_lt] at *
  have e1 : (1 : Int32).toInt = 1 := rfl
  have e0 : (0 : Int32).toInt = 0 := rfl
  omega
theorem uI1 (σ : pv_S) (c k c' k' : Nat) (x : Int32) : (pv_uI σ c k x).1 c' k' = if c' = c ∧ k' = k then x else σ.1 c' k' := by
  unfold pv_uI pv_rI upd
  by_cases h : c' = c
  · subst h
    by_cases h2 : k' = k
    · simp [h2]
    · simp [h2]
  · simp [h]
theorem uI1c (σ : pv_S) (c k k' : Nat) (x : Int32) : (pv_uI σ c k x).1 c k' = if k' = k then x else σ.1 c k' := by rw [uI1]; simp
theorem uI1n {c c' : Nat} (h : c' ≠ c) (σ : pv_S) (k k' : Nat) (x : Int32) : (pv_uI σ c k x).1 c' k' = σ.1 c' k' := by rw [uI1]; simp [h]
theorem uI2 (σ : pv_S) (c k : Nat) (x : Int32) : (pv_uI σ c k x).2 = σ.2 := rfl
theorem uL1 (σ : pv_S) (c k : Nat) (x : Int64) : (pv_uL σ c k x).1 = σ.1 := rfl
theorem uL2 (σ : pv_S) (c k c' k' : Nat) (x : Int64) : (pv_uL σ c k x).2 c' k' = if c' = c ∧ k' = k then x else σ.2 c' k' := by
  unfold pv_uL pv_rL vp_updL
  by_cases h : c' = c
  · subst h
    by_cases h2 : k' = k
    · simp [h2]
    · simp [h2]
  · simp [h]
