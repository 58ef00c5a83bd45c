/-! Bits of ints and longs. -/
def bL (x : Int64) (s : Nat) : Bool := x.toBitVec.getLsbD s
def bI (x : Int32) (s : Nat) : Bool := x.toBitVec.getLsbD s
theorem bL_0 (s : Nat) : bL 0 s = false := by
  unfold bL
  rw [show (0 : Int64).toBitVec = 0#64 from rfl]
  simp
theorem bI_0 (s : Nat) : bI 0 s = false := by
  unfold bI
  rw [show (0 : Int32).toBitVec = 0#32 from rfl]
  simp
theorem bL_or (x y : Int64) (s : Nat) : bL (x ||| y) s = (bL x s || bL y s) := by
  unfold bL
  rw [Int64.toBitVec_or, BitVec.getLsbD_or]
theorem bI_or (x y : Int32) (s : Nat) : bI (x ||| y) s = (bI x s || bI y s) := by
  unfold bI
  rw [Int32.toBitVec_or, BitVec.getLsbD_or]
theorem bL_sh (t : Nat) (ht : t < 64) : ((pI t).toInt64 &&& 63).toBitVec.smod 64 = BitVec.ofNat 64 t := by
  have h : ∀ t : Fin 64, ((pI t.1).toInt64 &&& 63).toBitVec.smod 64 = BitVec.ofNat 64 t.1 := by decide +kernel
  exact h ⟨t, ht⟩
theorem bI_sh (t : Nat) (ht : t < 32) : (pI t &&& 31).toBitVec.smod 32 = BitVec.ofNat 32 t := by
  have h : ∀ t : Fin 32, (pI t.1 &&& 31).toBitVec.smod 32 = BitVec.ofNat 32 t.1 := by decide +kernel
  exact h ⟨t, ht⟩
theorem bL_one (t s : Nat) (ht : t < 64) (hs : s < 64) : bL ((1 : Int64) <<< ((pI t).toInt64 &&& 63)) s = decide (s = t) := by
  have h : ∀ t s : Fin 64, bL ((1 : Int64) <<< ((pI t.1).toInt64 &&& 63)) s.1 = decide (s.1 = t.1) := by decide +kernel
  exact h ⟨t, ht⟩ ⟨s, hs⟩
theorem bI_one (t s : Nat) (ht : t < 32) (hs : s < 32) : bI ((1 : Int32) <<< (pI t &&& 31)) s = decide (s = t) := by
  have h : ∀ t s : Fin 32, bI ((1 : Int32) <<< (pI t.1 &&& 31)) s.1 = decide (s.1 = t.1) := by decide +kernel
  exact h ⟨t, ht⟩ ⟨s, hs⟩
theorem bL_and1 (x : Int64) (s : Nat) (hs : s < 64) : ((x >>> ((pI s).toInt64 &&& 63)) &&& (1 : Int64)) = if bL x s = true then 1 else 0 := by
  apply Int64.toBitVec_inj.mp
  rw [Int64.toBitVec_and, Int64.toBitVec_shiftRight, bL_sh s hs]
  apply BitVec.eq_of_getLsbD_eq
  intro i hi
  rw [BitVec.getLsbD_and, show (1 : Int64).toBitVec = 1#64 from rfl]
  by_cases h0 : i = 0
  · subst h0
    have e : (x.toBitVec.sshiftRight' (BitVec.ofNat 64 s)).getLsbD 0 = bL x s := by
      unfold bL
      rw [BitVec.sshiftRight', BitVec.getLsbD_sshiftRight]
      simp [Nat.mod_eq_of_lt (show s < 18446744073709551616 by omega)]
      omega
    rw [e]
    cases bL x s <;> rfl
  · have e1 : (1#64).getLsbD i = false := by
      rw [BitVec.getLsbD_one]
      simp [h0]
    rw [e1, Bool.and_false]
    cases bL x s
    · rw [if_neg (by decide), show (0 : Int64).toBitVec = 0#64 from rfl]
      simp
    · rw [if_pos rfl, show (1 : Int64).toBitVec = 1#64 from rfl, e1]
theorem bI_and1 (x : Int32) (s : Nat) (hs : s < 32) : ((x >>> (pI s &&& 31)) &&& (1 : Int32)) = if bI x s = true then 1 else 0 := by
  apply Int32.toBitVec_inj.mp
  rw [Int32.toBitVec_and, Int32.toBitVec_shiftRight, bI_sh s hs]
  apply BitVec.eq_of_getLsbD_eq
  intro i hi
  rw [BitVec.getLsbD_and, show (1 : Int32).toBitVec = 1#32 from rfl]
  by_cases h0 : i = 0
  · subst h0
    have e : (x.toBitVec.sshiftRight' (BitVec.ofNat 32 s)).getLsbD 0 = bI x s := by
      unfold bI
      rw [BitVec.sshiftRight', BitVec.getLsbD_sshiftRight]
      simp [Nat.mod_eq_of_lt (show s < 4294967296 by omega)]
      omega
    rw [e]
    cases bI x s <;> rfl
  · have e1 : (1#32).getLsbD i = false := by
      rw [BitVec.getLsbD_one]
      simp [h0]
    rw [e1, Bool.and_false]
    cases bI x s
    · rw [if_neg (by decide), show (0 : Int32).toBitVec = 0#32 from rfl]
      simp
    · rw [if_pos rfl, show (1 : Int32).toBitVec = 1#32 from rfl, e1]
theorem bL_test (x : Int64) (s : Nat) (hs : s < 64) : lg_cmp ((x >>> ((pI s).toInt64 &&& 63)) &&& (1 : Int64)) (0 : Int64) = 0 ↔ bL x s = false := by
  rw [bL_and1 x s hs]
  cases bL x s <;> decide
theorem bI_test1 (x : Int32) (s : Nat) (hs : s < 32) : ((x >>> (pI s &&& 31)) &&& (1 : Int32)) = 1 ↔ bI x s = true := by
  rw [bI_and1 x s hs]
  cases bI x s <;> decide
theorem bI_test0 (x : Int32) (s : Nat) (hs : s < 32) : ((x >>> (pI s &&& 31)) &&& (1 : Int32)) = 0 ↔ bI x s = false := by
  rw [bI_and1 x s hs]
  cases bI x s <;> decide
