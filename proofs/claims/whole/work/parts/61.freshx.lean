/-! Both sides on fresh objects: calls with arguments. -/
theorem fresh_step (x1 x2 : Int32) : sim_h pv_T2 [0, 1] cod_step (f_PV_step pv_x0 x1 x2) (f_Md_step pv_m0 x1 x2) := by
  have h0 : pv_x0.1 11 1 = 0 := by decide +kernel
  have z0 : pv_m0.1 0 16 = 0 := by decide +kernel
  have h1 : f_PV_step pv_x0 x1 x2 = some (.inr (0, pv_x0)) := by
    unfold f_PV_step f_PV_step_0
    rw [h0]
    by_cases h : x1 < 0
    · rw [if_pos h]
    · rw [if_neg h, if_neg h]
  have h2 : f_Md_step pv_m0 x1 x2 = f_Md_step_20 pv_m0 x1 x2 := by
    unfold f_Md_step f_Md_step_0
    rw [if_pos z0]
  exact ⟨_, _, _, h1, List.mem_cons_self, h2.trans rfl, rfl, rfl, (fun r hr => by cases hr), trivial⟩
theorem pv_4 {x : Int32} (h : ¬ x < 0) : (x < 4 ↔ ¬ (3 : Int32) < x) ∧ (x < 4 → pv_in x 4 = true) := by
  have h1 : ¬ x.toInt < 0 := fun z => h (Int32.lt_iff_toInt_lt.mpr z)
  have e4 : (4 : Int32).toInt = 4 := rfl
  have e3 : (3 : Int32).toInt = 3 := rfl
  refine ⟨?_, fun h2 => ?_⟩
  · rw [Int32.lt_iff_toInt_lt, Int32.lt_iff_toInt_lt, e4, e3]
    omega
  · have h3 := Int32.lt_iff_toInt_lt.mp h2
    rw [e4] at h3
    have h4 : x.toNatClampNeg = x.toInt.toNat := rfl
    have h5 : (0 : Int32) ≤ x := Int32.le_iff_toInt_le.mpr (by show (0 : Int) ≤ x.toInt; omega)
    unfold pv_in
    rw [decide_eq_true h5, decide_eq_true (by rw [h4]; omega)]
    rfl
/-- knob, on any states: the class throws where the reference says so, else the knob is turned on both sides -/
theorem any_knob (σx σm : pv_S) (x1 x2 : Int32) : (∃ k : Nat, k < 4 ∧ f_PV_knob σx x1 x2 = some (.inl (0, pv_uI σx 26 k x2)) ∧ f_Md_knob σm x1 x2 = some (pv_uI (pv_uI σm 0 0 0) 21 k x2)) ∨ (f_PV_knob σx x1 x2 = some (.inr (0, σx)) ∧ f_Md_knob σm x1 x2 = some (pv_uI σm 0 0 1)) := by
  have t0 : ∀ v : Int32, (pv_uI σm 0 0 v).1 0 0 = v := fun v => rfl
  unfold f_PV_knob f_PV_knob_0 f_Md_knob f_Md_knob_0 f_Md_knob_14 f_Md_knob_15
  rw [t0, t0]
  by_cases h : x1 < 0
  · refine Or.inr ⟨if_pos h, ?_⟩
    rw [if_pos h]
    rfl
  · obtain ⟨h1, h2⟩ := pv_4 h
    rw [if_neg h, if_neg h]
    by_cases h3 : x1 < 4
    · have h4 := h2 h3
      have h5 : x1.toNatClampNeg < 4 := by
        unfold pv_in at h4
        simp at h4
        exact h4.2
      refine Or.inl ⟨x1.toNatClampNeg, h5, ?_, ?_⟩
      · rw [if_pos h3, if_pos h4]
      · rw [if_neg (h1.mp h3), if_pos rfl, if_pos h4]
    · refine Or.inr ⟨if_neg h3, ?_⟩
      rw [if_pos (Classical.byContradiction fun z => h3 (h1.mpr z))]
      rfl
