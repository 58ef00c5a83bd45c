/-! Short calls on any states, in closed form. -/
theorem any_erase (σx σm : pv_S) : f_PV_erase σx = some (σx.1 0 1, pv_uI σx 0 1 0) ∧ f_Md_erase σm = some (σm.1 0 2, pv_uI (pv_uI σm 0 0 0) 0 2 0) := ⟨rfl, rfl⟩
theorem any_named (σx σm : pv_S) : f_PV_named σx = some (σx.1 0 5, σx) ∧ f_Md_named σm = some (σm.1 0 15, pv_uI σm 0 0 0) := ⟨rfl, rfl⟩
theorem any_steps (σx σm : pv_S) (h : σx.1 11 1 = if σm.1 0 16 = 0 then 0 else σm.1 0 28) : f_PV_steps σx = some (σx.1 11 1, σx) ∧ f_Md_steps σm = some (σx.1 11 1, pv_uI σm 0 0 0) := by
  refine ⟨rfl, ?_⟩
  have e1 : (pv_uI σm 0 0 0).1 0 16 = σm.1 0 16 := rfl
  have e2 : (pv_uI σm 0 0 0).1 0 28 = σm.1 0 28 := rfl
  unfold f_Md_steps f_Md_steps_0
  rw [e1, e2, h]
  by_cases h0 : σm.1 0 16 = 0
  · rw [if_pos h0, if_pos h0]
  · rw [if_neg h0, if_neg h0]
theorem any_optimise (σx σm : pv_S) (z : Int32) (hz : z = 0 ∨ z = 1) : f_PV_optimise σx z = some (pv_uI σx 0 4 z) ∧ f_Md_optimise σm z = some (pv_uI (pv_uI σm 0 0 0) 0 17 z) := by
  have h : pv_z z = true := by rcases hz with rfl | rfl <;> decide
  unfold f_PV_optimise f_PV_optimise_0 f_Md_optimise f_Md_optimise_0
  exact ⟨if_pos h, if_pos h⟩
