/-! One character, in both readers: inputs (made by gen76.py). -/
/-- an input's character, with the new states of both sides -/
theorem pp_in_x {σx τx σm τm : pv_S} {r cx cm : Nat} (h : pp_in σx σm r cx cm) (e8 : τx.1 8 r = σx.1 8 r) (e9 : ∀ j, j < 4 → (j < cm ∨ cx ≤ j) → τx.1 9 (4 * r + j) = σx.1 9 (4 * r + j) ∧ τx.1 6 (4 * r + j) = σx.1 6 (4 * r + j)) (m6 : τm.1 6 r = σm.1 6 r) (m7 : ∀ j, j < cm → τm.1 7 (4 * r + j) = σm.1 7 (4 * r + j) ∧ τm.1 8 (4 * r + j) = σm.1 8 (4 * r + j)) (hc : cm ≤ 4) : pp_in τx τm r cx cm := by
  obtain ⟨h1, h2, h3, h4⟩ := h
  refine ⟨e8.trans h1, m6.trans h2, fun j hj => ?_, fun j hj hj4 => ?_⟩
  · exact pp_inp_u (e9 j (by omega) (Or.inl hj)).1 (e9 j (by omega) (Or.inl hj)).2 (m7 j hj).1 (m7 j hj).2 (h3 j hj)
  · exact pp_zero_u (e9 j hj4 (Or.inr hj)).1 (e9 j hj4 (Or.inr hj)).2 (h4 j hj hj4)
/-- behind an input: the class in or after it, the reference after it -/
theorem st_8 {sx sm σx σm : pv_S} {r p c' : Nat} (B : pp_B sx sm σx σm r) (hs : σx.1 2 1 = 8 ∨ σx.1 2 1 = 10 ∨ σx.1 2 1 = 11) (nm : pp_nm σx σm r) (kd : pp_kd σx σm r) (hc3 : c' ≤ 3) (hi : pp_in σx σm r (c' + 1) (c' + 1)) (hp : 8 * r + 6 ≤ p) (c : Int32) (hc : pc_o c ∧ (c = 32 ∨ c = 40 ∨ c = 41 ∨ c = 44 ∨ c = 45 ∨ c = 59 ∨ c = 61 ∨ pc_ne c)) : pj (f_Rd_stateAfter σx c) (f_Md_back8 σm c) (pp_out sx sm p) := by
  have B1 := B.1
  have um : ∀ x, pp_Um r σm (pv_uI σm 0 11 x) := fun x => pp_Um1 (pp_Um0 r σm) (by unfold pp_okm; omega)
  have fm : ∀ x, pp_FM sm (pv_uI σm 0 11 x) := fun x => pp_FMu B.2.1 (um x)
  have J : ∀ s x, pp_B sx sm (pv_uI σx 2 1 s) (pv_uI σm 0 11 x) r := fun s x => pp_Bu B (pp_Ux1 (pp_Ux0 _ _) (by unfold pp_okx; omega)) (um x)
  have hr := B.2.2.2.2.1
  have h5 := B.2.2.1
  have er := pe_room B.2.2.2.2.2.1 hr hi.1 (by omega)
  have hib : f_Rd_hasInputBehind σx = some (1, σx) := by
    rcases hs with hs | hs | hs <;> simp [f_Rd_hasInputBehind, f_Rd_hasInputBehind_0, hs]
  obtain ⟨⟨h1, h2, h3⟩, hc⟩ := hc
  rcases hc with rfl | rfl | rfl | rfl | rfl | rfl | rfl | ⟨n1, n2, n3, n4, n5, n6, n7⟩
  · refine pp_go (s := 11) (σx := σx) (σm := pv_uI σm 0 11 8) ?_ (by decide) ?_ (Or.inr ⟨r, J 11 8, Or.inr (Or.inr (Or.inr (Or.inr (Or.inr (Or.inr (Or.inr (Or.inr ⟨nm, kd, by omega, Or.inr (Or.inr (Or.inr (Or.inr (Or.inr (Or.inr (Or.inr (Or.inl (⟨c', hc3, by simp [uI1], by simp [uI1], hi⟩))))))))⟩)))))))⟩)
    · rw [h1]
      rcases hs with hs | hs | hs <;> simp [f_Rd_stateAfter_39, f_Rd_stateAfterBlank, f_Rd_stateAfterBlank_0, hs]
    · simp [f_Md_back8, f_Md_back8_0, f_Md_back8_25]
  · refine pp_fail (σx := σx) (σm := pv_uI σm 0 11 8) ?_ ?_ B1 (fm _)
    · rw [h1]; rcases hs with hs | hs | hs <;> simp [f_Rd_stateAfter_39, hs]
    · simp [f_Md_back8, f_Md_back8_0, f_Md_back8_25]
  · refine pp_go (s := 12) (σx := σx) (σm := pv_uI σm 0 11 12) ?_ (by decide) ?_ (Or.inr ⟨r, J 12 12, Or.inr (Or.inr (Or.inr (Or.inr (Or.inr (Or.inr (Or.inr (Or.inr ⟨nm, kd, by omega, Or.inr (Or.inr (Or.inr (Or.inr (Or.inr (Or.inr (Or.inr (Or.inr (⟨c' + 1, by omega, by simp [uI1], by simp [uI1], hi, by omega⟩))))))))⟩)))))))⟩)
    · rw [h1]; simp [f_Rd_stateAfter_39, hib]
    · simp [f_Md_back8, f_Md_back8_0, f_Md_back8_25]
  · have e6 : (pv_uI σm 0 11 11).1 6 r = pI (c' + 1) := hi.2.1
    have e5 : (pv_uI σm 0 11 11).1 0 5 = pI r := h5
    have i40 : pv_in (pI r) 40 = true := (pI_in (by omega)).mpr (by omega)
    have le4 : ((4 : Int32) ≤ pI (c' + 1)) ↔ 4 ≤ c' + 1 := by rw [l_4, pI_le (by omega) (by omega)]
    by_cases h4 : c' + 1 < 4
    · rw [if_pos h4] at er
      have n4 : ¬ 4 ≤ c' + 1 := by omega
      refine pp_go (s := 7) (σx := σx) (σm := pv_uI σm 0 11 11) ?_ (by decide) ?_ (Or.inr ⟨r, J 7 11, Or.inr (Or.inr (Or.inr (Or.inr (Or.inr (Or.inr (Or.inr (Or.inr ⟨nm, kd, by omega, Or.inr (Or.inl (⟨c' + 1, by omega, by simp [uI1], by simp [uI1], hi⟩))⟩)))))))⟩)
      · rw [h1]; simp [f_Rd_stateAfter_39, hib, er]
      · simp only [f_Md_back8, f_Md_back8_0, f_Md_back8_25, e5, pI_nat (show r < 2147483648 by omega), e6, i40, le4, n4]
        simp
    · rw [if_neg h4] at er
      have n4 : 4 ≤ c' + 1 := by omega
      refine pp_fail (σx := σx) (σm := pv_uI σm 0 11 11) ?_ ?_ B1 (fm _)
      · rw [h1]; simp [f_Rd_stateAfter_39, hib, er]
      · simp only [f_Md_back8, f_Md_back8_0, f_Md_back8_25, e5, pI_nat (show r < 2147483648 by omega), e6, i40, le4, n4]
        simp
  · refine pp_fail (σx := σx) (σm := pv_uI σm 0 11 8) ?_ ?_ B1 (fm _)
    · rw [h1]; rcases hs with hs | hs | hs <;> simp [f_Rd_stateAfter_39, f_Rd_stateAfterMinus, f_Rd_stateAfterMinus_0, hs]
    · simp [f_Md_back8, f_Md_back8_0, f_Md_back8_25]
  · refine pp_fail (σx := σx) (σm := pv_uI σm 0 11 8) ?_ ?_ B1 (fm _)
    · rw [h1]; rcases hs with hs | hs | hs <;> simp [f_Rd_stateAfter_39, hs]
    · simp [f_Md_back8, f_Md_back8_0, f_Md_back8_25]
  · refine pp_fail (σx := σx) (σm := pv_uI σm 0 11 8) ?_ ?_ B1 (fm _)
    · rw [h1]; rcases hs with hs | hs | hs <;> simp [f_Rd_stateAfter_39, f_Rd_stateAfterEquals, f_Rd_stateAfterEquals_0, hs]
    · simp [f_Md_back8, f_Md_back8_0, f_Md_back8_25]
  · refine pp_fail (σx := σx) (σm := pv_uI σm 0 11 8) ?_ ?_ B1 (fm _)
    · rw [h1]; simp [f_Rd_stateAfter_39, n1, n2, n3, n4, n5, n6, n7]
    · simp [f_Md_back8, f_Md_back8_0, f_Md_back8_25, n1, n2, n3, n4, n5, n6, n7]
/-- the reference has put down an input that the class holds -/
theorem pp_put {sx sm σx σm : pv_S} {r c' : Nat} (B : pp_B sx sm σx σm r) (nm : pp_nm σx σm r) (kd : pp_kd σx σm r) (hc3 : c' ≤ 3) (hi : pp_in σx σm r (c' + 1) c') {x y : Int32} (hx : x = σx.1 9 (4 * r + c')) (hy : (x = 0 ∧ σx.1 6 (4 * r + c') = y) ∨ (x ≠ 0 ∧ σx.1 6 (4 * r + c') = 0)) : f_Md_input σm x y = some (pv_uI (pv_uI (pv_uI (pv_uI σm 7 (4 * r + c') x) 8 (4 * r + c') y) 6 r (pI (c' + 1))) 0 11 8) ∧ pp_B sx sm σx (pv_uI (pv_uI (pv_uI (pv_uI σm 7 (4 * r + c') x) 8 (4 * r + c') y) 6 r (pI (c' + 1))) 0 11 8) r ∧ pp_nm σx (pv_uI (pv_uI (pv_uI (pv_uI σm 7 (4 * r + c') x) 8 (4 * r + c') y) 6 r (pI (c' + 1))) 0 11 8) r ∧ pp_kd σx (pv_uI (pv_uI (pv_uI (pv_uI σm 7 (4 * r + c') x) 8 (4 * r + c') y) 6 r (pI (c' + 1))) 0 11 8) r ∧ pp_in σx (pv_uI (pv_uI (pv_uI (pv_uI σm 7 (4 * r + c') x) 8 (4 * r + c') y) 6 r (pI (c' + 1))) 0 11 8) r (c' + 1) (c' + 1) := by
  have hr := B.2.2.2.2.1
  refine ⟨pm_input B.2.2.1 hr hi.2.1 hc3 x y, pp_Bu B (pp_Ux0 _ _) (pp_Um1 (pp_Um1 (pp_Um1 (pp_Um1 (pp_Um0 _ _) (by unfold pp_okm; omega)) (by unfold pp_okm; omega)) (by unfold pp_okm; omega)) (by unfold pp_okm; omega)), nm, kd, hi.1, by simp [uI1], fun j hj => ?_, hi.2.2.2⟩
  by_cases h : j = c'
  · subst h
    refine ⟨by simp [uI1, hx], ?_⟩
    rw [← hx]
    rcases hy with ⟨h1, h2⟩ | h
    · exact Or.inl ⟨h1, by simp [uI1, h2]⟩
    · exact Or.inr h
  · have := hi.2.2.1 j (by omega)
    exact pp_inp_u (σx := σx) (σm := σm) rfl rfl (by simp [uI1, h]) (by simp [uI1, h]) this
/-- a name or a number begins -/
theorem st_67 {sx sm σx σm : pv_S} {r p c' : Nat} (B : pp_B sx sm σx σm r) (hs : σx.1 2 1 = 6 ∨ σx.1 2 1 = 7) (nm : pp_nm σx σm r) (kd : pp_kd σx σm r) (hc3 : c' ≤ 3) (hi : pp_in σx σm r c' c') (hp : 8 * r + 6 ≤ p) (c : Int32) (h32 : c ≠ 32) (h41 : c ≠ 41 ∨ σx.1 2 1 = 7) : pj (f_Rd_stateAfter σx c) (f_Md_begins σm c) (pp_out sx sm p) := by
  have B1 := B.1
  have hr := B.2.2.2.2.1
  have h3 := B.2.2.2.2.2.1
  have ea := pe_addInput h3 hr hi.1
  have hz := hi.2.2.2 c' (by omega) (by omega)
  have i8 : ∀ (τ : pv_S), τ.1 8 = (pv_uI σx 8 r (pI (c' + 1))).1 8 → τ.1 8 r = pI (c' + 1) := fun τ h => by rw [h]; simp [uI1]
  rcases pc_cases c with ⟨k, hk1, hk2, rfl⟩ | ⟨k, hk, rfl⟩ | ⟨⟨h1, h2, h4⟩, hc⟩
  · obtain ⟨h1, h2, h4, n1, n2, n3, n4, n5, n6, n7⟩ := pc_let hk1 hk2
    have ec : f_Pt_addToCord (pv_uI (pv_uI σx 8 r (pI (c' + 1))) 2 2 0) (pI k) = some (pv_uI (pv_uI (pv_uI σx 8 r (pI (c' + 1))) 2 2 0) 9 (4 * r + c') (pI k)) := by
      rw [pe_addCord (σ := pv_uI (pv_uI σx 8 r (pI (c' + 1))) 2 2 0) (r := r) (c := c') h3 hr (by simp [uI1]) hc3, show (pv_uI (pv_uI σx 8 r (pI (c' + 1))) 2 2 0).1 9 (4 * r + c') = 0 from hz.1, zero_or]
    have ux : pp_Ux r σx (pv_uI (pv_uI (pv_uI (pv_uI (pv_uI σx 8 r (pI (c' + 1))) 2 2 0) 9 (4 * r + c') (pI k)) 2 2 1) 2 1 8) := pp_Ux1 (pp_Ux1 (pp_Ux1 (pp_Ux1 (pp_Ux1 (pp_Ux0 _ _) (by unfold pp_okx; omega)) (by unfold pp_okx; omega)) (by unfold pp_okx; omega)) (by unfold pp_okx; omega)) (by unfold pp_okx; omega)
    have um : pp_Um r σm (pv_uI (pv_uI (pv_uI (pv_uI σm 0 14 0) 0 11 7) 0 12 1) 0 13 (pI k)) := pp_Um1 (pp_Um1 (pp_Um1 (pp_Um1 (pp_Um0 _ _) (by unfold pp_okm; omega)) (by unfold pp_okm; omega)) (by unfold pp_okm; omega)) (by unfold pp_okm; omega)
    have nz : pI k ≠ 0 := by
      have := or_let 0 hk1 hk2
      simpa using this
    refine pp_go (s := 8) (σx := pv_uI (pv_uI (pv_uI (pv_uI σx 8 r (pI (c' + 1))) 2 2 0) 9 (4 * r + c') (pI k)) 2 2 1) (σm := pv_uI (pv_uI (pv_uI (pv_uI σm 0 14 0) 0 11 7) 0 12 1) 0 13 (pI k)) ?_ (by decide) ?_ (Or.inr ⟨r, pp_Bu B ux um, Or.inr (Or.inr (Or.inr (Or.inr (Or.inr (Or.inr (Or.inr (Or.inr ⟨nm, kd, by omega, Or.inr (Or.inr (Or.inl (⟨c', 1, hc3, by omega, by omega, by simp [uI1], by simp [uI1], by simp [uI1]; rfl, by simp [uI1]; rfl, by simp [uI1], by simp [uI1]; exact nz, hz.2, ?_⟩)))⟩)))))))⟩)
    · rw [h1]
      rcases hs with hs | hs <;> simp [f_Rd_stateAfterLetter, f_Rd_stateAfterLetter_0, hs, ea, f_Rd_stateInCord, f_Rd_stateInCord_0, ec, uI1]
    · simp [f_Md_begins, f_Md_begins_0, f_Md_begins_12, f_Md_begins_58, n5, h2, h4, f_Md_first, f_Md_first_0, pv_z]
    · refine ⟨by simp [uI1], hi.2.1, fun j hj => ?_, fun j hj hj4 => ?_⟩
      · exact pp_inp_u (σx := σx) (σm := σm) (by simp [uI1, show j ≠ c' by omega]) rfl rfl rfl (hi.2.2.1 j hj)
      · exact pp_zero_u (σx := σx) (by simp [uI1, show j ≠ c' by omega]) rfl (hi.2.2.2 j (by omega) hj4)
  · obtain ⟨h1, h2, h4, ⟨n1, n2, n3, n4, n5, n6, n7⟩, e48⟩ := pc_dig hk
    have ec : f_Pt_addToNumber (pv_uI (pv_uI (pv_uI σx 8 r (pI (c' + 1))) 2 2 0) 2 4 1) (pI k) = some (pv_uI (pv_uI (pv_uI (pv_uI σx 8 r (pI (c' + 1))) 2 2 0) 2 4 1) 6 (4 * r + c') (pI k)) := by
      rw [pe_addNum (σ := pv_uI (pv_uI (pv_uI σx 8 r (pI (c' + 1))) 2 2 0) 2 4 1) (r := r) (c := c') h3 hr (by simp [uI1]) hc3, show (pv_uI (pv_uI (pv_uI σx 8 r (pI (c' + 1))) 2 2 0) 2 4 1).1 6 (4 * r + c') = 0 from hz.2]
      simp
    have ux : pp_Ux r σx (pv_uI (pv_uI (pv_uI (pv_uI (pv_uI (pv_uI σx 8 r (pI (c' + 1))) 2 2 0) 2 4 1) 6 (4 * r + c') (pI k)) 2 2 1) 2 1 10) := pp_Ux1 (pp_Ux1 (pp_Ux1 (pp_Ux1 (pp_Ux1 (pp_Ux1 (pp_Ux0 _ _) (by unfold pp_okx; omega)) (by unfold pp_okx; omega)) (by unfold pp_okx; omega)) (by unfold pp_okx; omega)) (by unfold pp_okx; omega)) (by unfold pp_okx; omega)
    have um : pp_Um r σm (pv_uI (pv_uI (pv_uI (pv_uI σm 0 14 0) 0 11 10) 0 12 1) 0 13 (pI k)) := pp_Um1 (pp_Um1 (pp_Um1 (pp_Um1 (pp_Um0 _ _) (by unfold pp_okm; omega)) (by unfold pp_okm; omega)) (by unfold pp_okm; omega)) (by unfold pp_okm; omega)
    refine pp_go (s := 10) (σx := pv_uI (pv_uI (pv_uI (pv_uI (pv_uI σx 8 r (pI (c' + 1))) 2 2 0) 2 4 1) 6 (4 * r + c') (pI k)) 2 2 1) (σm := pv_uI (pv_uI (pv_uI (pv_uI σm 0 14 0) 0 11 10) 0 12 1) 0 13 (pI k)) ?_ (by decide) ?_ (Or.inr ⟨r, pp_Bu B ux um, Or.inr (Or.inr (Or.inr (Or.inr (Or.inr (Or.inr (Or.inr (Or.inr ⟨nm, kd, by omega, Or.inr (Or.inr (Or.inr (Or.inr (Or.inl (⟨c', 1, hc3, by omega, by omega, by simp [uI1], by simp [uI1], by simp [uI1]; rfl, by simp [uI1]; rfl, hz.1, Or.inl ⟨by simp [uI1], by simp [uI1], by simp [uI1]⟩, ?_⟩)))))⟩)))))))⟩)
    · rw [h1]
      rcases hs with hs | hs <;> simp [f_Rd_stateAfterDigit, f_Rd_stateAfterDigit_0, hs, ea, f_Rd_stateInNumber, f_Rd_stateInNumber_0, ec, uI1]
    · simp [f_Md_begins, f_Md_begins_0, f_Md_begins_12, f_Md_begins_58, n5, h2, h4, f_Md_first, f_Md_first_0, pv_z, e48]
    · refine ⟨by simp [uI1], hi.2.1, fun j hj => ?_, fun j hj hj4 => ?_⟩
      · exact pp_inp_u (σx := σx) (σm := σm) rfl (by simp [uI1, show j ≠ c' by omega]) rfl rfl (hi.2.2.1 j hj)
      · exact pp_zero_u (σx := σx) rfl (by simp [uI1, show j ≠ c' by omega]) (hi.2.2.2 j (by omega) hj4)
  · have fm : ∀ a, pp_FM sm (pv_uI (pv_uI σm 0 14 a) 0 11 9) := fun a => pp_FM1 (pp_FM1 B.2.1 (by omega)) (by omega)
    rcases hc with rfl | rfl | rfl | rfl | rfl | rfl | rfl | ⟨n1, n2, n3, n4, n5, n6, n7⟩
    · exact absurd rfl h32
    · refine pp_fail (σx := σx) (σm := pv_uI (pv_uI σm 0 14 0) 0 11 9) ?_ ?_ B1 (fm _)
      · rw [h1]; rcases hs with hs | hs <;> simp [f_Rd_stateAfter_39, hs]
      · simp [f_Md_begins, f_Md_begins_0, f_Md_begins_12, f_Md_begins_58, h2, h4, pv_z, uI1]
    · have hs7 : σx.1 2 1 = 7 := by
        rcases h41 with h | h
        · exact absurd rfl h
        · exact h
      refine pp_fail (σx := σx) (σm := pv_uI (pv_uI σm 0 14 0) 0 11 9) ?_ ?_ B1 (fm _)
      · rw [h1]; simp [f_Rd_stateAfter_39, hs7, f_Rd_hasInputBehind, f_Rd_hasInputBehind_0]
      · simp [f_Md_begins, f_Md_begins_0, f_Md_begins_12, f_Md_begins_58, h2, h4, pv_z, uI1]
    · refine pp_fail (σx := σx) (σm := pv_uI (pv_uI σm 0 14 0) 0 11 9) ?_ ?_ B1 (fm _)
      · rw [h1]; rcases hs with hs | hs <;> simp [f_Rd_stateAfter_39, hs, f_Rd_hasInputBehind, f_Rd_hasInputBehind_0]
      · simp [f_Md_begins, f_Md_begins_0, f_Md_begins_12, f_Md_begins_58, h2, h4, pv_z, uI1]
    · have ux : pp_Ux r σx (pv_uI (pv_uI (pv_uI (pv_uI σx 8 r (pI (c' + 1))) 2 2 0) 2 4 (-1)) 2 1 9) := pp_Ux1 (pp_Ux1 (pp_Ux1 (pp_Ux1 (pp_Ux0 _ _) (by unfold pp_okx; omega)) (by unfold pp_okx; omega)) (by unfold pp_okx; omega)) (by unfold pp_okx; omega)
      have um : pp_Um r σm (pv_uI (pv_uI σm 0 14 1) 0 11 9) := pp_Um1 (pp_Um1 (pp_Um0 _ _) (by unfold pp_okm; omega)) (by unfold pp_okm; omega)
      refine pp_go (s := 9) (σx := pv_uI (pv_uI (pv_uI σx 8 r (pI (c' + 1))) 2 2 0) 2 4 (-1)) (σm := pv_uI (pv_uI σm 0 14 1) 0 11 9) ?_ (by decide) ?_ (Or.inr ⟨r, pp_Bu B ux um, Or.inr (Or.inr (Or.inr (Or.inr (Or.inr (Or.inr (Or.inr (Or.inr ⟨nm, kd, by omega, Or.inr (Or.inr (Or.inr (Or.inl (⟨c', hc3, by simp [uI1], by simp [uI1], by simp [uI1], by simp [uI1], by simp [uI1], hz, ?_⟩))))⟩)))))))⟩)
      · rw [h1]; rcases hs with hs | hs <;> simp [f_Rd_stateAfter_39, hs, f_Rd_stateAfterMinus, f_Rd_stateAfterMinus_0, f_Rd_stateAfterMinus_20, ea]
      · simp [f_Md_begins, f_Md_begins_0, f_Md_begins_12, f_Md_begins_58, h2, h4, pv_z, uI1]
      · exact ⟨by simp [uI1], hi.2.1, hi.2.2.1, fun j hj hj4 => hi.2.2.2 j (by omega) hj4⟩
    · refine pp_fail (σx := σx) (σm := pv_uI (pv_uI σm 0 14 0) 0 11 9) ?_ ?_ B1 (fm _)
      · rw [h1]; rcases hs with hs | hs <;> simp [f_Rd_stateAfter_39, hs]
      · simp [f_Md_begins, f_Md_begins_0, f_Md_begins_12, f_Md_begins_58, h2, h4, pv_z, uI1]
    · refine pp_fail (σx := σx) (σm := pv_uI (pv_uI σm 0 14 0) 0 11 9) ?_ ?_ B1 (fm _)
      · rw [h1]; rcases hs with hs | hs <;> simp [f_Rd_stateAfter_39, hs, f_Rd_stateAfterEquals, f_Rd_stateAfterEquals_0]
      · simp [f_Md_begins, f_Md_begins_0, f_Md_begins_12, f_Md_begins_58, h2, h4, pv_z, uI1]
    · refine pp_fail (σx := σx) (σm := pv_uI (pv_uI σm 0 14 0) 0 11 9) ?_ ?_ B1 (fm _)
      · rw [h1]; rcases hs with hs | hs <;> simp [f_Rd_stateAfter_39, hs, n1, n2, n3, n4, n5, n6, n7]
      · simp [f_Md_begins, f_Md_begins_0, f_Md_begins_12, f_Md_begins_58, h2, h4, pv_z, uI1, n1, n2, n3, n4, n5, n6, n7]
