/-! a byte of a word, as both sides take it -/
theorem pv_b255 (i : Nat) (hi : i < 32) : (255#32).getLsbD i = decide (i < 8) := by
  have h : ∀ i : Fin 32, (255#32).getLsbD i.1 = decide (i.1 < 8) := by decide +kernel
  exact h ⟨i, hi⟩
theorem pv_bits (v : BitVec 64) (k : Nat) (hk : k ≤ 56) : (v >>> k).truncate 32 &&& 255#32 = ((v.sshiftRight k) &&& 255#64).truncate 32 := by
  apply BitVec.eq_of_getLsbD_eq
  intro i hi
  have h3 : (255#32)[i] = decide (i < 8) := by rw [← BitVec.getLsbD_eq_getElem]; exact pv_b255 i hi
  have h5 : ¬ 64 ≤ i := by omega
  by_cases h8 : i < 8
  · have h4 : k + i < 64 := by omega
    simp [BitVec.getLsbD_sshiftRight, hi, h3, h8, h4, h5]
  · simp [BitVec.getLsbD_sshiftRight, hi, h3, h8]
