/-! out, on any states. -/
theorem pv_inN {x n : Int32} {N : Nat} (h : ¬ x < 0) (h1 : x < n) (h2 : n.toInt ≤ (N : Int)) : pv_in x N = true ∧ x.toNatClampNeg < N := by
  have h3 : ¬ x.toInt < 0 := fun z => h (Int32.lt_iff_toInt_lt.mpr z)
  have h4 := Int32.lt_iff_toInt_lt.mp h1
  have h5 : x.toNatClampNeg = x.toInt.toNat := rfl
  have h6 : (0 : Int32) ≤ x := Int32.le_iff_toInt_le.mpr (by show (0 : Int) ≤ x.toInt; omega)
  have h7 : x.toNatClampNeg < N := by rw [h5]; omega
  refine ⟨?_, h7⟩
  unfold pv_in
  rw [decide_eq_true h6, decide_eq_true h7]
  rfl
theorem any_out (σx σm : pv_S) (x1 : Int32) (hn : σx.1 0 11 = σm.1 0 50) (h64 : (σx.1 0 11).toInt ≤ 64) : (¬ x1 < 0 ∧ x1 < σx.1 0 11 ∧ f_PV_out σx x1 = some (.inl (σx.1 27 x1.toNatClampNeg, σx)) ∧ f_Md_out σm x1 = some (σm.1 35 x1.toNatClampNeg, pv_uI σm 0 0 0)) ∨ (f_PV_out σx x1 = some (.inr (0, σx)) ∧ f_Md_out σm x1 = some (0, pv_uI σm 0 0 1)) := by
  have t0 : ∀ v : Int32, (pv_uI σm 0 0 v).1 0 0 = v := fun v => rfl
  unfold f_PV_out f_PV_out_0 f_Md_out f_Md_out_0 f_Md_out_17 f_Md_out_18
  rw [t0, t0, ← hn]
  have n1 : ¬ (1 : Int32) ≤ 0 := by decide
  have n0 : (0 : Int32) ≤ 0 := by decide
  by_cases h : x1 < 0
  · refine Or.inr ⟨if_pos h, ?_⟩
    rw [if_pos h, if_neg n1]
  · by_cases h1 : x1 < σx.1 0 11
    · have h2 := (pv_inN h h1 h64).1
      refine Or.inl ⟨h, h1, ?_, ?_⟩
      · rw [if_neg h, if_pos h1, if_pos h2]
      · rw [if_neg h, if_neg (Int32.not_le.mpr h1), if_pos n0, if_pos h2]
        rfl
    · refine Or.inr ⟨?_, ?_⟩
      · rw [if_neg h, if_neg h1]
      · rw [if_neg h, if_pos (Int32.not_lt.mp h1), if_neg n1]
