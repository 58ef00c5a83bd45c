/-! What the law's entry knows of the tables: the classes, the array classes. -/
theorem pv_arr {args : Array Value} {s : State} {ty : FieldType} (h : (Cond.arrayClass ty).before args s = true) (hp : ∀ C, ty ≠ .object C) : ∃ cA : ClassId, ArrOfT s cA ty ∧ va_RA s cA ty := by
  obtain ⟨cA, kA, comp, h1, h2, h3⟩ := Cond.arrayClass_spec h
  refine ⟨cA, fun n z => ⟨fun k h => (by cases h), kA, h2, comp, h3⟩, ?_⟩
  cases ty with
  | object C => exact absurd rfl (hp C)
  | _ => exact h1
theorem pv_arq {s : State} {C : String} (h : va_AO C s) : ∃ cA : ClassId, ArrOfT s cA (.object C) ∧ va_RA s cA (.object C) := by
  obtain ⟨comp, cA, kA, h1, h2, h3, h4, h5⟩ := Cond.arrayOver_spec h
  exact ⟨cA, fun n z => ⟨fun k h => (by cases h), kA, h3, comp, h4⟩, kA, comp, h3, h4, h1, h5⟩
theorem pv_known {args : Array Value} {s : State} (hts : ∀ w ∈ pv_TB, w.before args s = true) (hNB : pv_NB s) : ∃ (D : va_G) (q : Nat → ClassId), va_K D pv_cl (pv_ty q) s := by
  obtain ⟨c0, i0, k0⟩ := u_known (C := R_PV) (T := F_PV) (N := 12) hts in_PV (hts _ w_133)
  obtain ⟨c1, i1, k1⟩ := u_known (C := R_Rd) (T := F_Rd) (N := 5) hts in_Rd (hts _ w_141)
  obtain ⟨c2, i2, k2⟩ := u_known (C := R_Pt) (T := F_Pt) (N := 8) hts in_Pt (hts _ w_147)
  obtain ⟨c3, i3, k3⟩ := u_known (C := R_Pg) (T := F_Pg) (N := 9) hts in_Pg (hts _ w_203)
  obtain ⟨c4, i4, k4⟩ := u_known (C := R_Wr) (T := F_Wr) (N := 8) hts in_Wr (hts _ w_209)
  obtain ⟨c5, i5, k5⟩ := u_known (C := R_Vc) (T := F_Vc) (N := 14) hts in_Vc (hts _ w_290)
  obtain ⟨c6, i6, k6⟩ := u_known (C := R_Md) (T := F_Md) (N := 51) hts in_Md (hts _ w_1061)
  obtain ⟨q0, a0, b0⟩ := pv_arr (hts _ w_183) (fun _ h => by cases h)
  obtain ⟨q1, a1, b1⟩ := pv_arr (hts _ w_182) (fun _ h => by cases h)
  obtain ⟨q2, a2, b2⟩ := pv_arr (hts _ w_251) (fun _ h => by cases h)
  obtain ⟨q3, a3, b3⟩ := pv_arr (hts _ w_184) (fun _ h => by cases h)
  obtain ⟨q4, a4, b4⟩ := pv_arq hNB.2
  refine ⟨(fun k => [c0, c1, c2, c3, c4, c5, c6].getD k 0, fun k => [i0, i1, i2, i3, i4, i5, i6].getD k (fun _ => 0)), fun k => [q0, q1, q2, q3, q4].getD k 0, fun k z hk => ?_, fun k z hk => ?_⟩
  · match k, hk with
    | 0, hk => cases hk; exact k0
    | 1, hk => cases hk; exact k1
    | 2, hk => cases hk; exact k2
    | 3, hk => cases hk; exact k3
    | 4, hk => cases hk; exact k4
    | 5, hk => cases hk; exact k5
    | 6, hk => cases hk; exact k6
    | k + 7, hk => simp [pv_cl] at hk
  · match k, hk with
    | 0, hk => cases hk; exact ⟨a0, b0⟩
    | 1, hk => cases hk; exact ⟨a1, b1⟩
    | 2, hk => cases hk; exact ⟨a2, b2⟩
    | 3, hk => cases hk; exact ⟨a3, b3⟩
    | 4, hk => cases hk; exact ⟨a4, b4⟩
    | k + 5, hk => simp at hk
