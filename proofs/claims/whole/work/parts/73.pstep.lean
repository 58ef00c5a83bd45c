/-! One character, in both readers: names and words. -/
theorem pp_fail {sx sm σx σm : pv_S} {p : Nat} {x y : Option (Int32 × pv_S)} (hx : x = some (-1, σx)) (hm : y = some (0, σm)) (fx : pp_FX sx σx) (fm : pp_FM sm σm) : pj x y (pp_out sx sm p) := ⟨_, _, hx, hm, Or.inl ⟨rfl, rfl, fx, fm⟩⟩
theorem pp_go {sx sm σx σm : pv_S} {p : Nat} {s : Int32} {x y : Option (Int32 × pv_S)} (hx : x = some (s, σx)) (hs : s ≠ -1) (hm : y = some (1, σm)) (j : pp_J sx sm (pv_uI σx 2 1 s) σm (p + 1)) : pj x y (pp_out sx sm p) := ⟨_, _, hx, hm, Or.inr ⟨hs, rfl, j⟩⟩
/-- behind a name: the class in or after it, the reference after it -/
theorem st_2 {sx sm σx σm : pv_S} {r p : Nat} (B : pp_B sx sm σx σm r) (hs : σx.1 2 1 = 1 ∨ σx.1 2 1 = 2) (nm : pp_nm σx σm r) (hi : pp_in σx σm r 0 0) (hp : 8 * r + 1 ≤ p) (c : Int32) (hc : (∃ k, k ≤ 9 ∧ c = pI (48 + k)) ∨ pc_o c ∧ (c = 32 ∨ c = 40 ∨ c = 41 ∨ c = 44 ∨ c = 45 ∨ c = 59 ∨ c = 61 ∨ pc_ne c)) : pj (f_Rd_stateAfter σx c) (f_Md_front2 σm c) (pp_out sx sm p) := by
  have fm : ∀ x, pp_FM sm (pv_uI σm 0 11 x) := fun x => pp_FMu B.2.1 (pp_Um1 (r := r) (pp_Um0 r σm) (by unfold pp_okm; omega))
  have J : ∀ s x, pp_B sx sm (pv_uI σx 2 1 s) (pv_uI σm 0 11 x) r := fun s x => pp_Bu B (pp_Ux1 (pp_Ux0 _ _) (by unfold pp_okx; omega)) (pp_Um1 (pp_Um0 _ _) (by unfold pp_okm; omega))
  have i2 : ∀ s x, pp_in (pv_uI σx 2 1 s) (pv_uI σm 0 11 x) r 0 0 := fun s x => hi
  have n2 : ∀ s x, pp_nm (pv_uI σx 2 1 s) (pv_uI σm 0 11 x) r := fun s x => nm
  rcases hc with ⟨k, hk, rfl⟩ | ⟨⟨h1, h2, h3⟩, hc⟩
  · obtain ⟨h1, h2, h3, hn, _⟩ := pc_dig hk
    refine pp_fail (σx := σx) (σm := pv_uI σm 0 11 2) ?_ ?_ B.1 (fm _)
    · rw [h1]
      rcases hs with hs | hs <;> simp [f_Rd_stateAfterDigit, f_Rd_stateAfterDigit_0, hs]
    · obtain ⟨n1, n2, n3, n4, n5, n6, n7⟩ := hn
      simp [f_Md_front2, f_Md_front2_0, f_Md_front2_12, n1, n7]
  · rcases hc with rfl | rfl | rfl | rfl | rfl | rfl | rfl | ⟨n1, n2, n3, n4, n5, n6, n7⟩
    · refine pp_go (σx := σx) (s := 2) (σm := pv_uI σm 0 11 2) ?_ (by decide) ?_ (Or.inr ⟨r, J 2 2, Or.inr (Or.inr (Or.inl ⟨by simp [uI1], by simp [uI1], n2 _ _, i2 _ _, by omega⟩))⟩)
      · rw [h1]
        rcases hs with hs | hs <;> simp [f_Rd_stateAfter_39, f_Rd_stateAfterBlank, f_Rd_stateAfterBlank_0, hs]
      · simp [f_Md_front2, f_Md_front2_0, f_Md_front2_12]
    · refine pp_fail (σx := σx) (σm := pv_uI σm 0 11 2) ?_ ?_ B.1 (fm _)
      · rw [h1]
        rcases hs with hs | hs <;> simp [f_Rd_stateAfter_39, hs]
      · simp [f_Md_front2, f_Md_front2_0, f_Md_front2_12]
    · refine pp_fail (σx := σx) (σm := pv_uI σm 0 11 2) ?_ ?_ B.1 (fm _)
      · rw [h1]
        rcases hs with hs | hs <;> simp [f_Rd_stateAfter_39, f_Rd_hasInputBehind, f_Rd_hasInputBehind_0, hs]
      · simp [f_Md_front2, f_Md_front2_0, f_Md_front2_12]
    · refine pp_fail (σx := σx) (σm := pv_uI σm 0 11 2) ?_ ?_ B.1 (fm _)
      · rw [h1]
        rcases hs with hs | hs <;> simp [f_Rd_stateAfter_39, f_Rd_hasInputBehind, f_Rd_hasInputBehind_0, hs]
      · simp [f_Md_front2, f_Md_front2_0, f_Md_front2_12]
    · refine pp_fail (σx := σx) (σm := pv_uI σm 0 11 2) ?_ ?_ B.1 (fm _)
      · rw [h1]
        rcases hs with hs | hs <;> simp [f_Rd_stateAfter_39, f_Rd_stateAfterMinus, f_Rd_stateAfterMinus_0, hs]
      · simp [f_Md_front2, f_Md_front2_0, f_Md_front2_12]
    · refine pp_fail (σx := σx) (σm := pv_uI σm 0 11 2) ?_ ?_ B.1 (fm _)
      · rw [h1]
        rcases hs with hs | hs <;> simp [f_Rd_stateAfter_39, hs]
      · simp [f_Md_front2, f_Md_front2_0, f_Md_front2_12]
    · refine pp_go (σx := σx) (s := 3) (σm := pv_uI σm 0 11 3) ?_ (by decide) ?_ (Or.inr ⟨r, J 3 3, Or.inr (Or.inr (Or.inr (Or.inl ⟨by simp [uI1], by simp [uI1], n2 _ _, i2 _ _, by omega⟩)))⟩)
      · rw [h1]
        rcases hs with hs | hs <;> simp [f_Rd_stateAfter_39, f_Rd_stateAfterEquals, f_Rd_stateAfterEquals_0, hs]
      · simp [f_Md_front2, f_Md_front2_0, f_Md_front2_12]
    · refine pp_fail (σx := σx) (σm := pv_uI σm 0 11 2) ?_ ?_ B.1 (fm _)
      · rw [h1]
        rcases hs with hs | hs <;> simp [f_Rd_stateAfter_39, n1, n2, n3, n4, n5, n6, n7]
      · simp [f_Md_front2, f_Md_front2_0, f_Md_front2_12, n1, n7]
