/-! Every call keeps the relation; it holds of fresh objects. -/
theorem Rel_0 : Rel 0 pv_x0 pv_m0 := by
  refine ⟨⟨0, by omega, by decide +kernel, by decide +kernel, fun k hk => absurd hk (by omega)⟩, ⟨by decide +kernel, by decide +kernel, by decide +kernel, pk_m0, pk_m0n, by decide +kernel⟩, ⟨0, by omega, by decide +kernel, by decide +kernel, fun k hk => absurd hk (by omega)⟩, 1, 0, 0, 0, none, ⟨by omega, by omega, by decide +kernel, by decide +kernel⟩, ⟨by omega, by decide +kernel, fun v _ hv => ?_⟩, ⟨by omega, by decide +kernel, by decide +kernel⟩, ⟨by decide +kernel, by decide +kernel, by decide +kernel, by decide +kernel⟩, fun v hv => Or.inl ?_⟩
  · have : ∀ v, v < 4 → pv_m0.1 22 v = 0 := by decide +kernel
    exact this v hv
  · have : ∀ v, v < 4 → (pv_x0.1 (28 + 6 * v) 0 = 0 ∧ pv_m0.1 22 v = 0 ∧ pv_x0.1 (28 + 6 * v) 1 = 0 ∧ pv_m0.1 25 v = 0 ∧ pv_x0.1 (28 + 6 * v) 2 = 0 ∧ pv_x0.1 (28 + 6 * v) 3 = 0) := by decide +kernel
    exact this v hv
theorem Rel_sim {j : Nat} (hj : j < 512) {σx σm : pv_S} (R : Rel j σx σm) : pv_Sim (Rel (j + 1)) σx σm := by
  refine ⟨Rel_type R, Rel_erase R, Rel_compile R, Rel_named R, Rel_optimise R, Rel_steps R, Rel_step R, Rel_slots R, Rel_voices R, Rel_note hj R, Rel_off R, Rel_active R, Rel_knob R, Rel_run hj R, Rel_out R, Rel_tap hj R, Rel_reset R, ?_⟩
  obtain ⟨T, f, o, V, ns, nt, b, od, p⟩ := R
  exact ⟨T, f, o, V, ns, nt, b, od, RP_congr (σx := σx) (σm := σm) (Nat.le_succ j) (fun _ _ => rfl) rfl rfl (fun _ _ => rfl) (fun _ _ => rfl) (fun _ _ => rfl) p⟩
