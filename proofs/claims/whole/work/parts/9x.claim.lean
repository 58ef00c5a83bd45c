/-! The claim. -/
theorem i_vc : Claimed_1_1 ∧ Claimed_1_2 := pv_all (Rel := Rel) Rel_0 (fun _ _ _ hj R => Rel_sim hj R)
