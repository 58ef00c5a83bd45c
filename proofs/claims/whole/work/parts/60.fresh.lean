/-! Both sides on fresh objects: calls without arguments, by evaluation. -/
def pv_T2 : pv_S → pv_S → Prop := fun _ _ => True
theorem ev_i {fx fm : Option (Int32 × pv_S)} (h : (match fx, fm with | some a, some b => decide (a.1 = b.1) | _, _ => false) = true) : sim_i pv_T2 fx fm := by
  cases fx with
  | none => simp at h
  | some a =>
    cases fm with
    | none => simp at h
    | some b => exact ⟨a, b, rfl, rfl, by simpa using h, trivial⟩
theorem ev_v {fx fm : Option pv_S} (h : (fx.isSome && fm.isSome) = true) : sim_v pv_T2 fx fm := by
  cases fx with
  | none => simp at h
  | some a =>
    cases fm with
    | none => simp at h
    | some b => exact ⟨a, b, rfl, rfl, trivial⟩
theorem fresh_erase : sim_i pv_T2 (f_PV_erase pv_x0) (f_Md_erase pv_m0) := ev_i (by decide +kernel)
theorem fresh_named : sim_i pv_T2 (f_PV_named pv_x0) (f_Md_named pv_m0) := ev_i (by decide +kernel)
theorem fresh_steps : sim_i pv_T2 (f_PV_steps pv_x0) (f_Md_steps pv_m0) := ev_i (by decide +kernel)
theorem fresh_slots : sim_i pv_T2 (f_PV_slots pv_x0) (f_Md_slots pv_m0) := ev_i (by decide +kernel)
theorem fresh_compile : sim_i pv_T2 (f_PV_compile pv_x0) (f_Md_compile pv_m0) := ev_i (by decide +kernel)
theorem fresh_reset : sim_v pv_T2 (f_PV_reset pv_x0) (f_Md_reset pv_m0) := ev_v (by decide +kernel)
theorem fresh_optimise (z : Int32) (hz : z = 0 ∨ z = 1) : sim_v pv_T2 (f_PV_optimise pv_x0 z) (f_Md_optimise pv_m0 z) := by
  rcases hz with rfl | rfl
  · exact ev_v (by decide +kernel)
  · exact ev_v (by decide +kernel)
