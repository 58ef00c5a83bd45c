/-! One character, in both readers: inputs to their end (made by gen77.py). -/
theorem pj_b {sx sm : pv_S} {p : Nat} {x y : Option (Int32 × pv_S)} (h : pj x y (pp_out sx sm p)) : pj x (y.bind fun q => if q.1 = 0 then some (0, q.2) else some (1, q.2)) (pp_out sx sm p) := by
  obtain ⟨a, ⟨b, s⟩, h1, h2, h3⟩ := h
  refine ⟨a, ⟨b, s⟩, h1, ?_, h3⟩
  subst h2
  rcases h3 with ⟨_, h, _⟩ | ⟨_, h, _⟩
  · simp only at h
    subst h
    rfl
  · simp only at h
    subst h
    rfl
/-- the class's answer at a letter or digit behind an input -/
theorem st_8x {σx : pv_S} (hs : σx.1 2 1 = 10 ∨ σx.1 2 1 = 11) {k : Nat} (hk1 : 97 ≤ k) (hk2 : k ≤ 122) : f_Rd_stateAfter σx (pI k) = some (-1, σx) := by
  rw [(pc_let hk1 hk2).1]
  rcases hs with hs | hs <;> simp [f_Rd_stateAfterLetter, f_Rd_stateAfterLetter_0, hs]
theorem st_8d {σx : pv_S} (hs : σx.1 2 1 = 8 ∨ σx.1 2 1 = 11) {k : Nat} (hk : k ≤ 9) : f_Rd_stateAfter σx (pI (48 + k)) = some (-1, σx) := by
  rw [(pc_dig hk).1]
  rcases hs with hs | hs <;> simp [f_Rd_stateAfterDigit, f_Rd_stateAfterDigit_0, hs]
theorem st_6 {sx sm σx σm : pv_S} {r p : Nat} (B : pp_B sx sm σx σm r) (hs : σx.1 2 1 = 6) (hph : σm.1 0 11 = 6) (nm : pp_nm σx σm r) (kd : pp_kd σx σm r) (hi : pp_in σx σm r 0 0) (hp : 8 * r + 6 ≤ p) (c : Int32) : pj (f_Rd_stateAfter σx c) (f_Md_back σm c) (pp_out sx sm p) := by
  have um : ∀ x, pp_Um r σm (pv_uI σm 0 11 x) := fun x => pp_Um1 (pp_Um0 r σm) (by unfold pp_okm; omega)
  have J : ∀ s x, pp_B sx sm (pv_uI σx 2 1 s) (pv_uI σm 0 11 x) r := fun s x => pp_Bu B (pp_Ux1 (pp_Ux0 _ _) (by unfold pp_okx; omega)) (um x)
  by_cases h32 : c = 32
  · subst h32
    rcases pc_cases 32 with ⟨k, hk1, hk2, e⟩ | ⟨k, hk, e⟩ | ⟨⟨h1, _⟩, _⟩
    · exact absurd e.symm (pc_let hk1 hk2).2.2.2.1
    · exact absurd e.symm (pc_dig hk).2.2.2.1.1
    refine pp_go (s := 6) (σx := σx) (σm := σm) ?_ (by decide) ?_ (Or.inr ⟨r, pp_Bu B (pp_Ux1 (pp_Ux0 _ _) (by unfold pp_okx; omega)) (pp_Um0 _ _), Or.inr (Or.inr (Or.inr (Or.inr (Or.inr (Or.inr (Or.inr (Or.inr ⟨nm, kd, by omega, Or.inl (⟨by simp [uI1], hph, hi⟩)⟩)))))))⟩)
    · rw [h1]; simp [f_Rd_stateAfter_39, f_Rd_stateAfterBlank, f_Rd_stateAfterBlank_0, hs]
    · simp [f_Md_back, f_Md_back_0, hph, f_Md_back_56]
  by_cases h41 : c = 41
  · subst h41
    rcases pc_cases 41 with ⟨k, hk1, hk2, e⟩ | ⟨k, hk, e⟩ | ⟨⟨h1, _⟩, _⟩
    · exact absurd e.symm (pc_let hk1 hk2).2.2.2.2.2.1
    · exact absurd e.symm (pc_dig hk).2.2.2.1.2.2.1
    refine pp_go (s := 12) (σx := σx) (σm := pv_uI σm 0 11 12) ?_ (by decide) ?_ (Or.inr ⟨r, J 12 12, Or.inr (Or.inr (Or.inr (Or.inr (Or.inr (Or.inr (Or.inr (Or.inr ⟨nm, kd, by omega, Or.inr (Or.inr (Or.inr (Or.inr (Or.inr (Or.inr (Or.inr (Or.inr (⟨0, by omega, by simp [uI1], by simp [uI1], hi, by omega⟩))))))))⟩)))))))⟩)
    · rw [h1]; simp [f_Rd_stateAfter_39, f_Rd_hasInputBehind, f_Rd_hasInputBehind_0, hs]
    · simp [f_Md_back, f_Md_back_0, hph, f_Md_back_56]
  have e : f_Md_back σm c = ((f_Md_begins σm c).bind fun q => if q.1 = 0 then some (0, q.2) else some (1, q.2)) := by
    simp [f_Md_back, f_Md_back_0, hph, f_Md_back_56, h32, h41]
  rw [e]
  exact pj_b (st_67 B (Or.inl hs) nm kd (by omega) hi hp c h32 (Or.inl h41))
theorem st_7 {sx sm σx σm : pv_S} {r p c' : Nat} (B : pp_B sx sm σx σm r) (hc3 : c' ≤ 3) (hs : σx.1 2 1 = 7) (hph : σm.1 0 11 = 11) (nm : pp_nm σx σm r) (kd : pp_kd σx σm r) (hi : pp_in σx σm r c' c') (hp : 8 * r + 6 ≤ p) (c : Int32) : pj (f_Rd_stateAfter σx c) (f_Md_back σm c) (pp_out sx sm p) := by
  by_cases h32 : c = 32
  · subst h32
    rcases pc_cases 32 with ⟨k, hk1, hk2, e⟩ | ⟨k, hk, e⟩ | ⟨⟨h1, _⟩, _⟩
    · exact absurd e.symm (pc_let hk1 hk2).2.2.2.1
    · exact absurd e.symm (pc_dig hk).2.2.2.1.1
    refine pp_go (s := 7) (σx := σx) (σm := σm) ?_ (by decide) ?_ (Or.inr ⟨r, pp_Bu B (pp_Ux1 (pp_Ux0 _ _) (by unfold pp_okx; omega)) (pp_Um0 _ _), Or.inr (Or.inr (Or.inr (Or.inr (Or.inr (Or.inr (Or.inr (Or.inr ⟨nm, kd, by omega, Or.inr (Or.inl (⟨c', hc3, by simp [uI1], hph, hi⟩))⟩)))))))⟩)
    · rw [h1]; simp [f_Rd_stateAfter_39, f_Rd_stateAfterBlank, f_Rd_stateAfterBlank_0, hs]
    · simp [f_Md_back, f_Md_back_0, hph]
  have e : f_Md_back σm c = ((f_Md_begins σm c).bind fun q => if q.1 = 0 then some (0, q.2) else some (1, q.2)) := by
    simp [f_Md_back, f_Md_back_0, hph, h32]
  rw [e]
  exact pj_b (st_67 B (Or.inr hs) nm kd hc3 hi hp c h32 (Or.inr hs))
theorem st_8l {sx sm σx σm : pv_S} {r p c' : Nat} (B : pp_B sx sm σx σm r) (hc3 : c' ≤ 3) (hs : σx.1 2 1 = 8 ∨ σx.1 2 1 = 11) (hph : σm.1 0 11 = 7) (hm : σm.1 0 13 = σx.1 9 (4 * r + c')) (hnz : σx.1 9 (4 * r + c') ≠ 0) (h6 : σx.1 6 (4 * r + c') = 0) (nm : pp_nm σx σm r) (kd : pp_kd σx σm r) (hi : pp_in σx σm r (c' + 1) c') (hp : 8 * r + 6 ≤ p) (c : Int32) (hc : (∃ k, k ≤ 9 ∧ c = pI (48 + k)) ∨ pc_o c ∧ (c = 32 ∨ c = 40 ∨ c = 41 ∨ c = 44 ∨ c = 45 ∨ c = 59 ∨ c = 61 ∨ pc_ne c)) : pj (f_Rd_stateAfter σx c) (f_Md_back σm c) (pp_out sx sm p) := by
  obtain ⟨ei, B', nm', kd', hi'⟩ := pp_put (x := σm.1 0 13) (y := 0) B nm kd hc3 hi hm (Or.inr ⟨by rw [hm]; exact hnz, h6⟩)
  have h2 : ∀ σ, f_Md_isLetter σ c = some (0, σ) := by
    rcases hc with ⟨k, hk, rfl⟩ | ⟨hc, _⟩
    · exact (pc_dig hk).2.1
    · exact hc.2.1
  have e : f_Md_back σm c = ((f_Md_back8 (pv_uI (pv_uI (pv_uI (pv_uI σm 7 (4 * r + c') (σm.1 0 13)) 8 (4 * r + c') 0) 6 r (pI (c' + 1))) 0 11 8) c).bind fun q => if pv_z q.1 = true then some (q.1, q.2) else none) := by
    simp [f_Md_back, f_Md_back_0, hph, h2, ei]
  rw [e]
  refine pj_z ?_
  rcases hc with ⟨k, hk, rfl⟩ | hc
  · obtain ⟨h1, h2, h4, ⟨n1, n2, n3, n4, n5, n6, n7⟩, e48⟩ := pc_dig hk
    refine pp_fail (st_8d hs hk) (σm := pv_uI (pv_uI (pv_uI (pv_uI (pv_uI σm 7 (4 * r + c') (σm.1 0 13)) 8 (4 * r + c') 0) 6 r (pI (c' + 1))) 0 11 8) 0 11 8) ?_ B.1 (pp_FM1 B'.2.1 (by omega))
    simp [f_Md_back8, f_Md_back8_0, f_Md_back8_25, n1, n2, n3, n4, n5, n6, n7]
  · exact st_8 B' (by rcases hs with h | h; exact Or.inl h; exact Or.inr (Or.inr h)) nm' kd' hc3 hi' hp c hc
theorem st_8a {sx sm σx σm : pv_S} {r p c' z : Nat} (B : pp_B sx sm σx σm r) (hc3 : c' ≤ 3) (z1 : 1 ≤ z) (z3 : z ≤ 3) (hs : σx.1 2 1 = 8) (hph : σm.1 0 11 = 7) (hsz : σx.1 2 2 = pI z) (hln : σm.1 0 12 = pI z) (hm : σm.1 0 13 = σx.1 9 (4 * r + c')) (hnz : σx.1 9 (4 * r + c') ≠ 0) (h6 : σx.1 6 (4 * r + c') = 0) (nm : pp_nm σx σm r) (kd : pp_kd σx σm r) (hi : pp_in σx σm r (c' + 1) c') (hp : 8 * r + 6 ≤ p) (c : Int32) : pj (f_Rd_stateAfter σx c) (f_Md_back σm c) (pp_out sx sm p) := by
  have hr := B.2.2.2.2.1
  have h3 := B.2.2.2.2.2.1
  rcases pc_cases c with ⟨k, hk1, hk2, rfl⟩ | hc
  · obtain ⟨h1, h2, h4, n1, n2, n3, n4, n5, n6, n7⟩ := pc_let hk1 hk2
    have el : ¬ (4 : Int32) ≤ pI z := by rw [l_4, pI_le (by omega) (by omega)]; omega
    have el2 : ¬ (4 : Int32) < pI z + 1 := by rw [l_4, l_1, pI_add, pI_lt (by omega) (by omega)]; omega
    have ec := pe_addCord h3 hr hi.1 hc3 (pI k)
    have ux : pp_Ux r σx (pv_uI (pv_uI σx 9 (4 * r + c') ((σx.1 9 (4 * r + c') <<< ((8 : Int32) &&& 31)) ||| pI k)) 2 2 (pI z + 1)) := pp_Ux1 (pp_Ux1 (pp_Ux0 _ _) (by unfold pp_okx; omega)) (by unfold pp_okx; omega)
    have um : pp_Um r σm (pv_uI (pv_uI σm 0 13 ((σm.1 0 13 <<< ((8 : Int32) &&& 31)) ||| pI k)) 0 12 (pI z + 1)) := pp_Um1 (pp_Um1 (pp_Um0 _ _) (by unfold pp_okm; omega)) (by unfold pp_okm; omega)
    have nz := or_let (σx.1 9 (4 * r + c') <<< ((8 : Int32) &&& 31)) hk1 hk2
    have hi' : ∀ s, pp_in (pv_uI (pv_uI (pv_uI σx 9 (4 * r + c') ((σx.1 9 (4 * r + c') <<< ((8 : Int32) &&& 31)) ||| pI k)) 2 2 (pI z + 1)) 2 1 s) (pv_uI (pv_uI σm 0 13 ((σm.1 0 13 <<< ((8 : Int32) &&& 31)) ||| pI k)) 0 12 (pI z + 1)) r (c' + 1) c' := by
      intro s
      refine ⟨hi.1, hi.2.1, fun j hj => ?_, fun j hj hj4 => ?_⟩
      · exact pp_inp_u (σx := σx) (σm := σm) (by simp [uI1, show j ≠ c' by omega]) rfl rfl rfl (hi.2.2.1 j hj)
      · exact pp_zero_u (σx := σx) (by simp [uI1, show j ≠ c' by omega]) rfl (hi.2.2.2 j (by omega) hj4)
    refine pp_go (s := if 4 ≤ z + 1 then 11 else 8) (σx := pv_uI (pv_uI σx 9 (4 * r + c') ((σx.1 9 (4 * r + c') <<< ((8 : Int32) &&& 31)) ||| pI k)) 2 2 (pI z + 1)) (σm := pv_uI (pv_uI σm 0 13 ((σm.1 0 13 <<< ((8 : Int32) &&& 31)) ||| pI k)) 0 12 (pI z + 1)) ?_ (by by_cases hh : 4 ≤ z + 1 <;> simp [hh] <;> decide) ?_ ?_
    · rw [h1]
      have e4 : ((4 : Int32) ≤ pI z + 1) ↔ 4 ≤ z + 1 := by rw [l_4, l_1, pI_add, pI_le (by omega) (by omega)]
      simp only [f_Rd_stateAfterLetter, f_Rd_stateAfterLetter_0, hs, f_Rd_stateInCord, f_Rd_stateInCord_0, ec]
      by_cases hh : 4 ≤ z + 1
      · simp [uI1, hsz, e4, hh]
      · simp [uI1, hsz, e4, hh]
    · simp [f_Md_back, f_Md_back_0, hph, h2, f_Md_more, f_Md_more_0, f_Md_more_25, hln, el, uI1, el2, pv_z]
    · refine Or.inr ⟨r, pp_Bu B (pp_Ux1 ux (by unfold pp_okx; omega)) um, ?_⟩
      by_cases hh : 4 ≤ z + 1
      · have : z = 3 := by omega
        subst this
        exact Or.inr (Or.inr (Or.inr (Or.inr (Or.inr (Or.inr (Or.inr (Or.inr ⟨nm, kd, by omega, Or.inr (Or.inr (Or.inr (Or.inr (Or.inr (Or.inl (⟨c', hc3, by simp [uI1], by simp [uI1, hph], by simp [uI1]; rfl, by simp [uI1, hm], fun h => nz (by simpa [uI1] using h), h6, hi' _⟩))))))⟩)))))))
      · exact Or.inr (Or.inr (Or.inr (Or.inr (Or.inr (Or.inr (Or.inr (Or.inr ⟨nm, kd, by omega, Or.inr (Or.inr (Or.inl (⟨c', z + 1, hc3, by omega, by omega, by simp [uI1, hh], by simp [uI1, hph], by simp [uI1]; exact pI_add z 1, by simp [uI1]; exact pI_add z 1, by simp [uI1, hm], fun h => nz (by simpa [uI1] using h), h6, hi' _⟩)))⟩)))))))
  · exact st_8l B hc3 (Or.inl hs) hph hm hnz h6 nm kd hi hp c hc
theorem st_11a {sx sm σx σm : pv_S} {r p c' : Nat} (B : pp_B sx sm σx σm r) (hc3 : c' ≤ 3) (hs : σx.1 2 1 = 11) (hph : σm.1 0 11 = 7) (hln : σm.1 0 12 = 4) (hm : σm.1 0 13 = σx.1 9 (4 * r + c')) (hnz : σx.1 9 (4 * r + c') ≠ 0) (h6 : σx.1 6 (4 * r + c') = 0) (nm : pp_nm σx σm r) (kd : pp_kd σx σm r) (hi : pp_in σx σm r (c' + 1) c') (hp : 8 * r + 6 ≤ p) (c : Int32) : pj (f_Rd_stateAfter σx c) (f_Md_back σm c) (pp_out sx sm p) := by
  rcases pc_cases c with ⟨k, hk1, hk2, rfl⟩ | hc
  · obtain ⟨h1, h2, h4, n1, n2, n3, n4, n5, n6, n7⟩ := pc_let hk1 hk2
    refine pp_fail (st_8x (Or.inr hs) hk1 hk2) (σm := pv_uI (pv_uI σm 0 13 (σm.1 0 13)) 0 12 5) ?_ B.1 (pp_FM1 (pp_FM1 B.2.1 (by omega)) (by omega))
    simp [f_Md_back, f_Md_back_0, hph, h2, f_Md_more, f_Md_more_0, f_Md_more_25, hln, uI1, pv_z]
  · exact st_8l B hc3 (Or.inr hs) hph hm hnz h6 nm kd hi hp c hc
theorem st_9 {sx sm σx σm : pv_S} {r p c' : Nat} (B : pp_B sx sm σx σm r) (hc3 : c' ≤ 3) (hs : σx.1 2 1 = 9) (hph : σm.1 0 11 = 9) (hmi : σm.1 0 14 = 1) (hsg : σx.1 2 4 = -1) (hsz : σx.1 2 2 = 0) (hz : pp_zero σx (4 * r + c')) (nm : pp_nm σx σm r) (kd : pp_kd σx σm r) (hi : pp_in σx σm r (c' + 1) c') (hp : 8 * r + 6 ≤ p) (c : Int32) : pj (f_Rd_stateAfter σx c) (f_Md_back σm c) (pp_out sx sm p) := by
  have B1 := B.1
  have hr := B.2.2.2.2.1
  have h3 := B.2.2.2.2.2.1
  have um : ∀ x, pp_Um r σm (pv_uI (pv_uI (pv_uI σm 0 11 10) 0 12 1) 0 13 x) := fun x => pp_Um1 (pp_Um1 (pp_Um1 (pp_Um0 _ _) (by unfold pp_okm; omega)) (by unfold pp_okm; omega)) (by unfold pp_okm; omega)
  have fm : ∀ x, pp_FM sm (pv_uI (pv_uI (pv_uI σm 0 11 10) 0 12 1) 0 13 x) := fun x => pp_FMu B.2.1 (um x)
  rcases pc_cases c with ⟨k, hk1, hk2, rfl⟩ | ⟨k, hk, rfl⟩ | ⟨⟨h1, h2, h4⟩, hc⟩
  · obtain ⟨h1, h2, h4, n1, n2, n3, n4, n5, n6, n7⟩ := pc_let hk1 hk2
    refine pp_fail (σx := σx) (σm := pv_uI (pv_uI (pv_uI σm 0 11 10) 0 12 1) 0 13 (pI k - 48)) ?_ ?_ B1 (fm _)
    · rw [h1]; simp [f_Rd_stateAfterLetter, f_Rd_stateAfterLetter_0, hs]
    · simp [f_Md_back, f_Md_back_0, hph, f_Md_first, f_Md_first_0, h4, pv_z]
  · obtain ⟨h1, h2, h4, ⟨n1, n2, n3, n4, n5, n6, n7⟩, e48⟩ := pc_dig hk
    have ec : f_Pt_addToNumber σx (-1 * pI k) = some (pv_uI σx 6 (4 * r + c') (-(pI k))) := by
      rw [pe_addNum h3 hr hi.1 hc3, hz.2, Int32.neg_mul, Int32.one_mul, Int32.mul_zero, Int32.zero_add]
    have ux : pp_Ux r σx (pv_uI (pv_uI (pv_uI σx 6 (4 * r + c') (-(pI k))) 2 2 1) 2 1 10) := pp_Ux1 (pp_Ux1 (pp_Ux1 (pp_Ux0 _ _) (by unfold pp_okx; omega)) (by unfold pp_okx; omega)) (by unfold pp_okx; omega)
    refine pp_go (s := 10) (σx := pv_uI (pv_uI σx 6 (4 * r + c') (-(pI k))) 2 2 1) (σm := pv_uI (pv_uI (pv_uI σm 0 11 10) 0 12 1) 0 13 (pI k)) ?_ (by decide) ?_ (Or.inr ⟨r, pp_Bu B ux (um _), Or.inr (Or.inr (Or.inr (Or.inr (Or.inr (Or.inr (Or.inr (Or.inr ⟨nm, kd, by omega, Or.inr (Or.inr (Or.inr (Or.inr (Or.inl (⟨c', 1, hc3, by omega, by omega, by simp [uI1], by simp [uI1], by simp [uI1]; rfl, by simp [uI1]; rfl, hz.1, Or.inr ⟨by simp [uI1, hmi], by simp [uI1, hsg], by simp [uI1]⟩, ?_⟩)))))⟩)))))))⟩)
    · rw [h1]
      simp only [f_Rd_stateAfterDigit, f_Rd_stateAfterDigit_0, hs, f_Rd_stateInNumber, f_Rd_stateInNumber_0, hsg, ec]
      simp [uI1, hsz]
    · simp [f_Md_back, f_Md_back_0, hph, f_Md_first, f_Md_first_0, h4, pv_z, e48]
    · refine ⟨hi.1, hi.2.1, fun j hj => ?_, fun j hj hj4 => ?_⟩
      · exact pp_inp_u (σx := σx) (σm := σm) rfl (by simp [uI1, show j ≠ c' by omega]) rfl rfl (hi.2.2.1 j hj)
      · exact pp_zero_u (σx := σx) rfl (by simp [uI1, show j ≠ c' by omega]) (hi.2.2.2 j (by omega) hj4)
  · rcases hc with rfl | rfl | rfl | rfl | rfl | rfl | rfl | ⟨n1, n2, n3, n4, n5, n6, n7⟩
    · refine pp_fail (σx := σx) (σm := pv_uI (pv_uI (pv_uI σm 0 11 10) 0 12 1) 0 13 (32 - 48)) ?_ ?_ B1 (fm _)
      · rw [h1]; simp [f_Rd_stateAfter_39, f_Rd_stateAfterBlank, f_Rd_stateAfterBlank_0, f_Rd_stateAfterEquals, f_Rd_stateAfterEquals_0, f_Rd_stateAfterMinus, f_Rd_stateAfterMinus_0, f_Rd_hasInputBehind, f_Rd_hasInputBehind_0, hs]
      · simp [f_Md_back, f_Md_back_0, hph, f_Md_first, f_Md_first_0, h4, pv_z]
    · refine pp_fail (σx := σx) (σm := pv_uI (pv_uI (pv_uI σm 0 11 10) 0 12 1) 0 13 (40 - 48)) ?_ ?_ B1 (fm _)
      · rw [h1]; simp [f_Rd_stateAfter_39, f_Rd_stateAfterBlank, f_Rd_stateAfterBlank_0, f_Rd_stateAfterEquals, f_Rd_stateAfterEquals_0, f_Rd_stateAfterMinus, f_Rd_stateAfterMinus_0, f_Rd_hasInputBehind, f_Rd_hasInputBehind_0, hs]
      · simp [f_Md_back, f_Md_back_0, hph, f_Md_first, f_Md_first_0, h4, pv_z]
    · refine pp_fail (σx := σx) (σm := pv_uI (pv_uI (pv_uI σm 0 11 10) 0 12 1) 0 13 (41 - 48)) ?_ ?_ B1 (fm _)
      · rw [h1]; simp [f_Rd_stateAfter_39, f_Rd_stateAfterBlank, f_Rd_stateAfterBlank_0, f_Rd_stateAfterEquals, f_Rd_stateAfterEquals_0, f_Rd_stateAfterMinus, f_Rd_stateAfterMinus_0, f_Rd_hasInputBehind, f_Rd_hasInputBehind_0, hs]
      · simp [f_Md_back, f_Md_back_0, hph, f_Md_first, f_Md_first_0, h4, pv_z]
    · refine pp_fail (σx := σx) (σm := pv_uI (pv_uI (pv_uI σm 0 11 10) 0 12 1) 0 13 (44 - 48)) ?_ ?_ B1 (fm _)
      · rw [h1]; simp [f_Rd_stateAfter_39, f_Rd_stateAfterBlank, f_Rd_stateAfterBlank_0, f_Rd_stateAfterEquals, f_Rd_stateAfterEquals_0, f_Rd_stateAfterMinus, f_Rd_stateAfterMinus_0, f_Rd_hasInputBehind, f_Rd_hasInputBehind_0, hs]
      · simp [f_Md_back, f_Md_back_0, hph, f_Md_first, f_Md_first_0, h4, pv_z]
    · refine pp_fail (σx := σx) (σm := pv_uI (pv_uI (pv_uI σm 0 11 10) 0 12 1) 0 13 (45 - 48)) ?_ ?_ B1 (fm _)
      · rw [h1]; simp [f_Rd_stateAfter_39, f_Rd_stateAfterBlank, f_Rd_stateAfterBlank_0, f_Rd_stateAfterEquals, f_Rd_stateAfterEquals_0, f_Rd_stateAfterMinus, f_Rd_stateAfterMinus_0, f_Rd_hasInputBehind, f_Rd_hasInputBehind_0, hs]
      · simp [f_Md_back, f_Md_back_0, hph, f_Md_first, f_Md_first_0, h4, pv_z]
    · refine pp_fail (σx := σx) (σm := pv_uI (pv_uI (pv_uI σm 0 11 10) 0 12 1) 0 13 (59 - 48)) ?_ ?_ B1 (fm _)
      · rw [h1]; simp [f_Rd_stateAfter_39, f_Rd_stateAfterBlank, f_Rd_stateAfterBlank_0, f_Rd_stateAfterEquals, f_Rd_stateAfterEquals_0, f_Rd_stateAfterMinus, f_Rd_stateAfterMinus_0, f_Rd_hasInputBehind, f_Rd_hasInputBehind_0, hs]
      · simp [f_Md_back, f_Md_back_0, hph, f_Md_first, f_Md_first_0, h4, pv_z]
    · refine pp_fail (σx := σx) (σm := pv_uI (pv_uI (pv_uI σm 0 11 10) 0 12 1) 0 13 (61 - 48)) ?_ ?_ B1 (fm _)
      · rw [h1]; simp [f_Rd_stateAfter_39, f_Rd_stateAfterBlank, f_Rd_stateAfterBlank_0, f_Rd_stateAfterEquals, f_Rd_stateAfterEquals_0, f_Rd_stateAfterMinus, f_Rd_stateAfterMinus_0, f_Rd_hasInputBehind, f_Rd_hasInputBehind_0, hs]
      · simp [f_Md_back, f_Md_back_0, hph, f_Md_first, f_Md_first_0, h4, pv_z]
    · refine pp_fail (σx := σx) (σm := pv_uI (pv_uI (pv_uI σm 0 11 10) 0 12 1) 0 13 (c - 48)) ?_ ?_ B1 (fm _)
      · rw [h1]; simp [f_Rd_stateAfter_39, f_Rd_stateAfterBlank, f_Rd_stateAfterBlank_0, f_Rd_stateAfterEquals, f_Rd_stateAfterEquals_0, f_Rd_stateAfterMinus, f_Rd_stateAfterMinus_0, f_Rd_hasInputBehind, f_Rd_hasInputBehind_0, hs, n1, n2, n3, n4, n5, n6, n7]
      · simp [f_Md_back, f_Md_back_0, hph, f_Md_first, f_Md_first_0, h4, pv_z, n1, n2, n3, n4, n5, n6, n7]
theorem st_10n {sx sm σx σm : pv_S} {r p c' : Nat} (B : pp_B sx sm σx σm r) (hc3 : c' ≤ 3) (hs : σx.1 2 1 = 10 ∨ σx.1 2 1 = 11) (hph : σm.1 0 11 = 10) (h9 : σx.1 9 (4 * r + c') = 0) (hn : (σm.1 0 14 = 0 ∧ σx.1 6 (4 * r + c') = σm.1 0 13) ∨ (σm.1 0 14 = 1 ∧ σx.1 6 (4 * r + c') = -(σm.1 0 13))) (nm : pp_nm σx σm r) (kd : pp_kd σx σm r) (hi : pp_in σx σm r (c' + 1) c') (hp : 8 * r + 6 ≤ p) (c : Int32) (hc : (∃ k, 97 ≤ k ∧ k ≤ 122 ∧ c = pI k) ∨ pc_o c ∧ (c = 32 ∨ c = 40 ∨ c = 41 ∨ c = 44 ∨ c = 45 ∨ c = 59 ∨ c = 61 ∨ pc_ne c)) : pj (f_Rd_stateAfter σx c) (f_Md_back σm c) (pp_out sx sm p) := by
  obtain ⟨ei, B', nm', kd', hi'⟩ := pp_put (x := 0) (y := σx.1 6 (4 * r + c')) B nm kd hc3 hi h9.symm (Or.inl ⟨rfl, rfl⟩)
  have h2 : ∀ σ, f_Md_isDigit σ c = some (0, σ) := by
    rcases hc with ⟨k, hk, hk2, rfl⟩ | ⟨hc, _⟩
    · exact (pc_let hk hk2).2.2.1
    · exact hc.2.2
  have e : f_Md_back σm c = ((f_Md_back8 (pv_uI (pv_uI (pv_uI (pv_uI σm 7 (4 * r + c') 0) 8 (4 * r + c') (σx.1 6 (4 * r + c'))) 6 r (pI (c' + 1))) 0 11 8) c).bind fun q => if pv_z q.1 = true then some (q.1, q.2) else none) := by
    rcases hn with ⟨n1, n2⟩ | ⟨n1, n2⟩
    · rw [n2] at ei
      simp [f_Md_back, f_Md_back_0, hph, h2, f_Md_back_217, n1, n2, ei]
    · rw [n2] at ei
      simp [f_Md_back, f_Md_back_0, hph, h2, f_Md_back_217, n1, n2, ei]
  rw [e]
  refine pj_z ?_
  rcases hc with ⟨k, hk, hk2, rfl⟩ | hc
  · obtain ⟨h1, h2, h4, n1, n2, n3, n4, n5, n6, n7⟩ := pc_let hk hk2
    refine pp_fail (st_8x hs hk hk2) (σm := pv_uI (pv_uI (pv_uI (pv_uI (pv_uI σm 7 (4 * r + c') 0) 8 (4 * r + c') (σx.1 6 (4 * r + c'))) 6 r (pI (c' + 1))) 0 11 8) 0 11 8) ?_ B.1 (pp_FM1 B'.2.1 (by omega))
    simp [f_Md_back8, f_Md_back8_0, f_Md_back8_25, n1, n2, n3, n4, n5, n6, n7]
  · exact st_8 B' (Or.inr hs) nm' kd' hc3 hi' hp c hc
theorem st_10 {sx sm σx σm : pv_S} {r p c' z : Nat} (B : pp_B sx sm σx σm r) (hc3 : c' ≤ 3) (z1 : 1 ≤ z) (z8 : z ≤ 8) (hs : σx.1 2 1 = 10) (hph : σm.1 0 11 = 10) (hsz : σx.1 2 2 = pI z) (hln : σm.1 0 12 = pI z) (h9 : σx.1 9 (4 * r + c') = 0) (hn : (σm.1 0 14 = 0 ∧ σx.1 2 4 = 1 ∧ σx.1 6 (4 * r + c') = σm.1 0 13) ∨ (σm.1 0 14 = 1 ∧ σx.1 2 4 = -1 ∧ σx.1 6 (4 * r + c') = -(σm.1 0 13))) (nm : pp_nm σx σm r) (kd : pp_kd σx σm r) (hi : pp_in σx σm r (c' + 1) c') (hp : 8 * r + 6 ≤ p) (c : Int32) : pj (f_Rd_stateAfter σx c) (f_Md_back σm c) (pp_out sx sm p) := by
  have hr := B.2.2.2.2.1
  have h3 := B.2.2.2.2.2.1
  have hn' : (σm.1 0 14 = 0 ∧ σx.1 6 (4 * r + c') = σm.1 0 13) ∨ (σm.1 0 14 = 1 ∧ σx.1 6 (4 * r + c') = -(σm.1 0 13)) := by
    rcases hn with ⟨a, b, d⟩ | ⟨a, b, d⟩
    · exact Or.inl ⟨a, d⟩
    · exact Or.inr ⟨a, d⟩
  rcases pc_cases c with hc | ⟨k, hk, rfl⟩ | hc
  · exact st_10n B hc3 (Or.inl hs) hph h9 hn' nm kd hi hp c (Or.inl hc)
  · obtain ⟨h1, h2, h4, ⟨n1, n2, n3, n4, n5, n6, n7⟩, e48⟩ := pc_dig hk
    have ec := pe_addNum h3 hr hi.1 hc3 (σx.1 2 4 * pI k)
    generalize hN : (10 : Int32) * σx.1 6 (4 * r + c') + σx.1 2 4 * pI k = N at ec
    have em : ((10 : Int32) * σm.1 0 13 + pI (48 + k)) - 48 = (10 : Int32) * σm.1 0 13 + pI k := by
      rw [Int32.sub_eq_add_neg, Int32.add_assoc, ← Int32.sub_eq_add_neg, e48]
    have el : ¬ (9 : Int32) ≤ pI z := by rw [show (9 : Int32) = pI 9 from rfl, pI_le (by omega) (by omega)]; omega
    have el2 : ¬ (9 : Int32) < pI z + 1 := by rw [show (9 : Int32) = pI 9 from rfl, l_1, pI_add, pI_lt (by omega) (by omega)]; omega
    have ux : pp_Ux r σx (pv_uI (pv_uI σx 6 (4 * r + c') N) 2 2 (pI z + 1)) := pp_Ux1 (pp_Ux1 (pp_Ux0 _ _) (by unfold pp_okx; omega)) (by unfold pp_okx; omega)
    have um : pp_Um r σm (pv_uI (pv_uI σm 0 13 ((10 : Int32) * σm.1 0 13 + pI k)) 0 12 (pI z + 1)) := pp_Um1 (pp_Um1 (pp_Um0 _ _) (by unfold pp_okm; omega)) (by unfold pp_okm; omega)
    have hi' : ∀ s, pp_in (pv_uI (pv_uI (pv_uI σx 6 (4 * r + c') N) 2 2 (pI z + 1)) 2 1 s) (pv_uI (pv_uI σm 0 13 ((10 : Int32) * σm.1 0 13 + pI k)) 0 12 (pI z + 1)) r (c' + 1) c' := by
      intro s
      refine ⟨hi.1, hi.2.1, fun j hj => ?_, fun j hj hj4 => ?_⟩
      · exact pp_inp_u (σx := σx) (σm := σm) rfl (by simp [uI1, show j ≠ c' by omega]) rfl rfl (hi.2.2.1 j hj)
      · exact pp_zero_u (σx := σx) rfl (by simp [uI1, show j ≠ c' by omega]) (hi.2.2.2 j (by omega) hj4)
    have eN : (σm.1 0 14 = 0 ∧ σx.1 2 4 = 1 ∧ N = (10 : Int32) * σm.1 0 13 + pI k) ∨ (σm.1 0 14 = 1 ∧ σx.1 2 4 = -1 ∧ N = -((10 : Int32) * σm.1 0 13 + pI k)) := by
      rcases hn with ⟨a, b, d⟩ | ⟨a, b, d⟩
      · refine Or.inl ⟨a, b, ?_⟩
        rw [← hN, b, d]
        simp
      · refine Or.inr ⟨a, b, ?_⟩
        rw [← hN, b, d, Int32.neg_add, Int32.mul_neg, Int32.neg_mul, Int32.one_mul, Int32.sub_eq_add_neg]
    refine pp_go (s := if 9 ≤ z + 1 then 11 else 10) (σx := pv_uI (pv_uI σx 6 (4 * r + c') N) 2 2 (pI z + 1)) (σm := pv_uI (pv_uI σm 0 13 ((10 : Int32) * σm.1 0 13 + pI k)) 0 12 (pI z + 1)) ?_ (by by_cases hh : 9 ≤ z + 1 <;> simp [hh] <;> decide) ?_ ?_
    · rw [h1]
      have e4 : ((9 : Int32) ≤ pI z + 1) ↔ 9 ≤ z + 1 := by rw [show (9 : Int32) = pI 9 from rfl, l_1, pI_add, pI_le (by omega) (by omega)]
      simp only [f_Rd_stateAfterDigit, f_Rd_stateAfterDigit_0, hs, f_Rd_stateInNumber, f_Rd_stateInNumber_0, ec]
      by_cases hh : 9 ≤ z + 1
      · simp [uI1, hsz, e4, hh]
      · simp [uI1, hsz, e4, hh]
    · simp only [f_Md_back, f_Md_back_0, hph, h4, f_Md_back_168, hln, em]
      simp [uI1, hln, el, el2, em, h4]
    · refine Or.inr ⟨r, pp_Bu B (pp_Ux1 ux (by unfold pp_okx; omega)) um, ?_⟩
      by_cases hh : 9 ≤ z + 1
      · have : z = 8 := by omega
        subst this
        refine Or.inr (Or.inr (Or.inr (Or.inr (Or.inr (Or.inr (Or.inr (Or.inr ⟨nm, kd, by omega, Or.inr (Or.inr (Or.inr (Or.inr (Or.inr (Or.inr (Or.inl (⟨c', hc3, by simp [uI1], by simp [uI1, hph], by simp [uI1]; rfl, h9, ?_, hi' _⟩)))))))⟩)))))))
        rcases eN with ⟨a, b, d⟩ | ⟨a, b, d⟩
        · exact Or.inl ⟨by simp [uI1, a], by simp [uI1, d]⟩
        · exact Or.inr ⟨by simp [uI1, a], by simp [uI1, d]⟩
      · refine Or.inr (Or.inr (Or.inr (Or.inr (Or.inr (Or.inr (Or.inr (Or.inr ⟨nm, kd, by omega, Or.inr (Or.inr (Or.inr (Or.inr (Or.inl (⟨c', z + 1, hc3, by omega, by omega, by simp [uI1, hh], by simp [uI1, hph], by simp [uI1]; exact pI_add z 1, by simp [uI1]; exact pI_add z 1, h9, ?_, hi' _⟩)))))⟩)))))))
        rcases eN with ⟨a, b, d⟩ | ⟨a, b, d⟩
        · exact Or.inl ⟨by simp [uI1, a], by simp [uI1, b], by simp [uI1, d]⟩
        · exact Or.inr ⟨by simp [uI1, a], by simp [uI1, b], by simp [uI1, d]⟩
  · exact st_10n B hc3 (Or.inl hs) hph h9 hn' nm kd hi hp c (Or.inr hc)
theorem st_11b {sx sm σx σm : pv_S} {r p c' : Nat} (B : pp_B sx sm σx σm r) (hc3 : c' ≤ 3) (hs : σx.1 2 1 = 11) (hph : σm.1 0 11 = 10) (hln : σm.1 0 12 = 9) (h9 : σx.1 9 (4 * r + c') = 0) (hn : (σm.1 0 14 = 0 ∧ σx.1 6 (4 * r + c') = σm.1 0 13) ∨ (σm.1 0 14 = 1 ∧ σx.1 6 (4 * r + c') = -(σm.1 0 13))) (nm : pp_nm σx σm r) (kd : pp_kd σx σm r) (hi : pp_in σx σm r (c' + 1) c') (hp : 8 * r + 6 ≤ p) (c : Int32) : pj (f_Rd_stateAfter σx c) (f_Md_back σm c) (pp_out sx sm p) := by
  rcases pc_cases c with hc | ⟨k, hk, rfl⟩ | hc
  · exact st_10n B hc3 (Or.inr hs) hph h9 hn nm kd hi hp c (Or.inl hc)
  · obtain ⟨h1, h2, h4, ⟨n1, n2, n3, n4, n5, n6, n7⟩, e48⟩ := pc_dig hk
    refine pp_fail (st_8d (Or.inr hs) hk) (σm := pv_uI (pv_uI σm 0 13 (σm.1 0 13)) 0 12 10) ?_ B.1 (pp_FM1 (pp_FM1 B.2.1 (by omega)) (by omega))
    simp [f_Md_back, f_Md_back_0, hph, h4, f_Md_back_168, hln, uI1]
  · exact st_10n B hc3 (Or.inr hs) hph h9 hn nm kd hi hp c (Or.inr hc)
theorem st_11c {sx sm σx σm : pv_S} {r p c' : Nat} (B : pp_B sx sm σx σm r) (hc3 : c' ≤ 3) (hs : σx.1 2 1 = 11) (hph : σm.1 0 11 = 8) (nm : pp_nm σx σm r) (kd : pp_kd σx σm r) (hi : pp_in σx σm r (c' + 1) (c' + 1)) (hp : 8 * r + 6 ≤ p) (c : Int32) : pj (f_Rd_stateAfter σx c) (f_Md_back σm c) (pp_out sx sm p) := by
  have e : f_Md_back σm c = ((f_Md_back8 σm c).bind fun q => if pv_z q.1 = true then some (q.1, q.2) else none) := by
    simp [f_Md_back, f_Md_back_0, hph]
  rw [e]
  refine pj_z ?_
  rcases pc_cases c with ⟨k, hk, hk2, rfl⟩ | ⟨k, hk, rfl⟩ | hc
  · obtain ⟨h1, h2, h4, n1, n2, n3, n4, n5, n6, n7⟩ := pc_let hk hk2
    refine pp_fail (st_8x (Or.inr hs) hk hk2) (σm := pv_uI σm 0 11 8) ?_ B.1 (pp_FM1 B.2.1 (by omega))
    simp [f_Md_back8, f_Md_back8_0, f_Md_back8_25, n1, n2, n3, n4, n5, n6, n7]
  · obtain ⟨h1, h2, h4, ⟨n1, n2, n3, n4, n5, n6, n7⟩, e48⟩ := pc_dig hk
    refine pp_fail (st_8d (Or.inr hs) hk) (σm := pv_uI σm 0 11 8) ?_ B.1 (pp_FM1 B.2.1 (by omega))
    simp [f_Md_back8, f_Md_back8_0, f_Md_back8_25, n1, n2, n3, n4, n5, n6, n7]
  · exact st_8 B (Or.inr (Or.inr hs)) nm kd hc3 hi hp c hc
theorem st_12 {sx sm σx σm : pv_S} {r p c' : Nat} (B : pp_B sx sm σx σm r) (hc4 : c' ≤ 4) (hs : σx.1 2 1 = 12) (hph : σm.1 0 11 = 12) (nm : pp_nm σx σm r) (kd : pp_kd σx σm r) (hi : pp_in σx σm r c' c') (hp : 8 * r + 7 ≤ p) (c : Int32) : pj (f_Rd_stateAfter σx c) (f_Md_back σm c) (pp_out sx sm p) := by
  have B1 := B.1
  have e : f_Md_back σm c = ((f_Md_back12 σm c).bind fun q => if pv_z q.1 = true then some (q.1, q.2) else none) := by
    simp [f_Md_back, f_Md_back_0, hph]
  rw [e]
  refine pj_z ?_
  rcases pc_cases c with ⟨k, hk, hk2, rfl⟩ | ⟨k, hk, rfl⟩ | ⟨⟨h1, h2, h4⟩, hc⟩
  · obtain ⟨h1, h2, h4, n1, n2, n3, n4, n5, n6, n7⟩ := pc_let hk hk2
    refine pp_fail (σx := σx) (σm := σm) ?_ ?_ B.1 B.2.1
    · rw [h1]; simp [f_Rd_stateAfterLetter, f_Rd_stateAfterLetter_0, hs]
    · simp [f_Md_back12, f_Md_back12_0, f_Md_back12_21, n1, n6]
  · obtain ⟨h1, h2, h4, ⟨n1, n2, n3, n4, n5, n6, n7⟩, e48⟩ := pc_dig hk
    refine pp_fail (σx := σx) (σm := σm) ?_ ?_ B.1 B.2.1
    · rw [h1]; simp [f_Rd_stateAfterDigit, f_Rd_stateAfterDigit_0, hs]
    · simp [f_Md_back12, f_Md_back12_0, f_Md_back12_21, n1, n6]
  · rcases hc with rfl | rfl | rfl | rfl | rfl | rfl | rfl | ⟨n1, n2, n3, n4, n5, n6, n7⟩
    · refine pp_go (s := 12) (σx := σx) (σm := σm) ?_ (by decide) ?_ (Or.inr ⟨r, pp_Bu B (pp_Ux1 (pp_Ux0 _ _) (by unfold pp_okx; omega)) (pp_Um0 _ _), Or.inr (Or.inr (Or.inr (Or.inr (Or.inr (Or.inr (Or.inr (Or.inr ⟨nm, kd, by omega, Or.inr (Or.inr (Or.inr (Or.inr (Or.inr (Or.inr (Or.inr (Or.inr (⟨c', hc4, by simp [uI1], hph, hi, by omega⟩))))))))⟩)))))))⟩)
      · rw [h1]; simp [f_Rd_stateAfter_39, f_Rd_stateAfterBlank, f_Rd_stateAfterBlank_0, hs]
      · simp [f_Md_back12, f_Md_back12_0, f_Md_back12_21]
    · refine pp_fail (σx := σx) (σm := σm) ?_ ?_ B1 (B.2.1)
      · rw [h1]; simp [f_Rd_stateAfter_39, f_Rd_stateAfterBlank, f_Rd_stateAfterBlank_0, f_Rd_stateAfterEquals, f_Rd_stateAfterEquals_0, f_Rd_stateAfterMinus, f_Rd_stateAfterMinus_0, f_Rd_hasInputBehind, f_Rd_hasInputBehind_0, hs]
      · simp [f_Md_back12, f_Md_back12_0, f_Md_back12_21]
    · refine pp_fail (σx := σx) (σm := σm) ?_ ?_ B1 (B.2.1)
      · rw [h1]; simp [f_Rd_stateAfter_39, f_Rd_stateAfterBlank, f_Rd_stateAfterBlank_0, f_Rd_stateAfterEquals, f_Rd_stateAfterEquals_0, f_Rd_stateAfterMinus, f_Rd_stateAfterMinus_0, f_Rd_hasInputBehind, f_Rd_hasInputBehind_0, hs]
      · simp [f_Md_back12, f_Md_back12_0, f_Md_back12_21]
    · refine pp_fail (σx := σx) (σm := σm) ?_ ?_ B1 (B.2.1)
      · rw [h1]; simp [f_Rd_stateAfter_39, f_Rd_stateAfterBlank, f_Rd_stateAfterBlank_0, f_Rd_stateAfterEquals, f_Rd_stateAfterEquals_0, f_Rd_stateAfterMinus, f_Rd_stateAfterMinus_0, f_Rd_hasInputBehind, f_Rd_hasInputBehind_0, hs]
      · simp [f_Md_back12, f_Md_back12_0, f_Md_back12_21]
    · refine pp_fail (σx := σx) (σm := σm) ?_ ?_ B1 (B.2.1)
      · rw [h1]; simp [f_Rd_stateAfter_39, f_Rd_stateAfterBlank, f_Rd_stateAfterBlank_0, f_Rd_stateAfterEquals, f_Rd_stateAfterEquals_0, f_Rd_stateAfterMinus, f_Rd_stateAfterMinus_0, f_Rd_hasInputBehind, f_Rd_hasInputBehind_0, hs]
      · simp [f_Md_back12, f_Md_back12_0, f_Md_back12_21]
    · refine pp_go (s := 0) (σx := σx) (σm := pv_uI (pv_uI σm 0 11 0) 0 5 (pI (r + 1))) ?_ (by decide) ?_ (Or.inl ⟨r + 1, pp_FX1 B.1 (by omega), pp_FM1 (pp_FM1 B.2.1 (by omega)) (by omega), by simp [uI1], fun m hm => ?_, by omega, B.2.2.2.2.2.1, fun m hm1 hm2 => B.2.2.2.2.2.2.1 m hm1 hm2, B.2.2.2.2.2.2.2, by simp [uI1], by simp [uI1]⟩)
      · rw [h1]; simp [f_Rd_stateAfter_39, hs]
      · have e5 : (pv_uI σm 0 11 0).1 0 5 + 1 = pI (r + 1) := by
          show σm.1 0 5 + 1 = _
          rw [B.2.2.1, l_1, pI_add]
        simp [f_Md_back12, f_Md_back12_0, f_Md_back12_21, e5]
      · by_cases h : m < r
        · exact B.2.2.2.1 m h
        · have : m = r := by omega
          subst this
          exact ⟨nm, kd, c', hc4, hi⟩
    · refine pp_fail (σx := σx) (σm := σm) ?_ ?_ B1 (B.2.1)
      · rw [h1]; simp [f_Rd_stateAfter_39, f_Rd_stateAfterBlank, f_Rd_stateAfterBlank_0, f_Rd_stateAfterEquals, f_Rd_stateAfterEquals_0, f_Rd_stateAfterMinus, f_Rd_stateAfterMinus_0, f_Rd_hasInputBehind, f_Rd_hasInputBehind_0, hs]
      · simp [f_Md_back12, f_Md_back12_0, f_Md_back12_21]
    · refine pp_fail (σx := σx) (σm := σm) ?_ ?_ B1 (B.2.1)
      · rw [h1]; simp [f_Rd_stateAfter_39, f_Rd_stateAfterBlank, f_Rd_stateAfterBlank_0, f_Rd_stateAfterEquals, f_Rd_stateAfterEquals_0, f_Rd_stateAfterMinus, f_Rd_stateAfterMinus_0, f_Rd_hasInputBehind, f_Rd_hasInputBehind_0, hs, n1, n2, n3, n4, n5, n6, n7]
      · simp [f_Md_back12, f_Md_back12_0, f_Md_back12_21, n1, n2, n3, n4, n5, n6, n7]
