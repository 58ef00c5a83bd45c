/-! to be silent, on both sides -/
def ps_x (σ : pv_S) (v : Nat) : pv_S := pv_uI (pv_uI (pv_uI (pv_uI σ (28 + 6 * v) 0 0) (28 + 6 * v) 1 0) (28 + 6 * v) 2 0) (28 + 6 * v) 3 0
def ps_m (σ : pv_S) (v : Nat) : pv_S := pv_uI (pv_uI σ 22 v (vp_nar .boolean 0)) 25 v (vp_nar .boolean 0)
theorem ps_X (σ : pv_S) : f_PV_fallSilent σ = some (pv_uI (ps_x (ps_x (ps_x (ps_x σ 0) 1) 2) 3) 0 11 0) := by
  unfold f_PV_fallSilent f_PV_fallSilent_0 pv_fu
  rfl
theorem ps_M (σ : pv_S) : f_Md_silence σ = some (pv_uI (pv_uI (pv_uI (ps_m (ps_m (ps_m (ps_m σ 0) 1) 2) 3) 0 48 0) 0 47 0) 0 50 0) := by
  unfold f_Md_silence f_Md_silence_0 pv_fu
  rfl
