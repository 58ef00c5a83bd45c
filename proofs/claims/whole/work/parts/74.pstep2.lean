/-! One character, in both readers: names and words (made by gen73.py). -/
theorem pp_FX1 {sx τ : pv_S} {c k : Nat} {x : Int32} (h : pp_FX sx τ) (o : c = 2 ∨ c = 3 ∨ c = 4 ∨ c = 6 ∨ c = 7 ∨ c = 8 ∨ c = 9) : pp_FX sx (pv_uI τ c k x) := ⟨fun c' k' n => by
  rw [uI1, if_neg (fun e => n (by rw [e.1]; exact o))]
  exact h.1 c' k' n, h.2⟩
theorem pp_FM1 {sm τ : pv_S} {c k : Nat} {x : Int32} (h : pp_FM sm τ) (o : (c = 0 ∧ (k = 5 ∨ (11 ≤ k ∧ k ≤ 14))) ∨ (4 ≤ c ∧ c ≤ 8)) : pp_FM sm (pv_uI τ c k x) := ⟨fun c' k' n => by
  rw [uI1, if_neg (fun e => n (by rw [e.1, e.2]; exact o))]
  exact h.1 c' k' n, h.2⟩
theorem or_let {k : Nat} (x : Int32) (h1 : 97 ≤ k) (h2 : k ≤ 122) : x ||| pI k ≠ 0 := by
  intro e
  have h3 := congrArg Int32.toBitVec e
  rw [Int32.toBitVec_or] at h3
  have h0 : (0 : Int32).toBitVec = 0#32 := rfl
  rw [h0] at h3
  have h4 : (pI k).toBitVec = 0#32 := by
    apply BitVec.eq_of_getLsbD_eq
    intro i hi
    have := congrArg (fun b => b.getLsbD i) h3
    simp only [BitVec.getLsbD_or] at this
    simp at this
    simp [this]
  have h5 : pI k = 0 := Int32.toBitVec_inj.mp (h4.trans h0.symm)
  rw [l_0, pI_eq (by omega) (by omega)] at h5
  omega
theorem zero_or (x : Int32) : ((0 : Int32) <<< ((8 : Int32) &&& 31)) ||| x = x := by
  have : (0 : Int32) <<< ((8 : Int32) &&& 31) = 0 := by decide
  rw [this]
  simp
theorem st_0 {sx sm σx σm : pv_S} {r p : Nat} (B1 : pp_FX sx σx) (B2 : pp_FM sm σm) (h5 : σm.1 0 5 = pI r) (hmod : ∀ m, m < r → pp_mod σx σm m) (hp : 8 * r ≤ p) (hp2 : p < 300) (h3 : σx.1 3 0 = pI r) (hfr : ∀ m, r ≤ m → m < 38 → pp_fr σx m) (hw : ∀ k, k < 20 → σm.1 2 k = pk_WD k) (hs : σx.1 2 1 = 0) (hph : σm.1 0 11 = 0) (c : Int32) : pj (f_Rd_stateAfter σx c) (f_Md_front σm c) (pp_out sx sm p) := by
  have fm : ∀ a b d, pp_FM sm (pv_uI (pv_uI (pv_uI σm 0 11 a) 0 12 b) 0 13 d) := fun a b d => pp_FM1 (pp_FM1 (pp_FM1 B2 (by omega)) (by omega)) (by omega)
  rcases pc_cases c with ⟨k, hk1, hk2, rfl⟩ | ⟨k, hk, rfl⟩ | ⟨⟨h1, h2, h4⟩, hc⟩
  · obtain ⟨h1, h2, h4, n1, n2, n3, n4, n5, n6, n7⟩ := pc_let hk1 hk2
    have e3 : (pv_uI (pv_uI σx 3 0 (σx.1 3 0 + 1)) 2 2 0).1 3 0 = pI (r + 1) := by
      show σx.1 3 0 + 1 = _
      rw [h3, l_1, pI_add]
    have z := hfr r (by omega) (by omega)
    have e7 : (pv_uI (pv_uI σx 3 0 (σx.1 3 0 + 1)) 2 2 0).1 7 r = 0 := z.1
    refine pp_go (s := 1) (σx := pv_uI (pv_uI (pv_uI (pv_uI σx 3 0 (σx.1 3 0 + 1)) 2 2 0) 7 r (pI k)) 2 2 1) (σm := pv_uI (pv_uI (pv_uI σm 0 11 1) 0 12 1) 0 13 (pI k)) ?_ (by decide) ?_ ?_
    · rw [h1]
      have ee : f_Pt_addToName (pv_uI (pv_uI σx 3 0 (σx.1 3 0 + 1)) 2 2 0) (pI k) = some (pv_uI (pv_uI (pv_uI σx 3 0 (σx.1 3 0 + 1)) 2 2 0) 7 r (pI k)) := by
        rw [pe_name e3 (by omega), e7, zero_or]
      simp [f_Rd_stateAfterLetter, f_Rd_stateAfterLetter_0, hs, f_Pt_addModule, f_Pt_addModule_0, f_Rd_stateInName, f_Rd_stateInName_0, ee, uI1]
    · simp [f_Md_front, f_Md_front_0, hph, n1, f_Md_front_52, f_Md_first, f_Md_first_0, h2]
    · have ux : pp_Ux r (pv_uI σx 3 0 (σx.1 3 0 + 1)) (pv_uI (pv_uI (pv_uI (pv_uI (pv_uI σx 3 0 (σx.1 3 0 + 1)) 2 2 0) 7 r (pI k)) 2 2 1) 2 1 1) := pp_Ux1 (pp_Ux1 (pp_Ux1 (pp_Ux1 (pp_Ux0 _ _) (by unfold pp_okx; omega)) (by unfold pp_okx; omega)) (by unfold pp_okx; omega)) (by unfold pp_okx; omega)
      have um : pp_Um r σm (pv_uI (pv_uI (pv_uI σm 0 11 1) 0 12 1) 0 13 (pI k)) := pp_Um1 (pp_Um1 (pp_Um1 (pp_Um0 _ _) (by unfold pp_okm; omega)) (by unfold pp_okm; omega)) (by unfold pp_okm; omega)
      have B0 : pp_B sx sm (pv_uI σx 3 0 (σx.1 3 0 + 1)) σm r := ⟨pp_FX1 B1 (by omega), B2, h5, fun m hm => hmod m hm, by omega, by show σx.1 3 0 + 1 = _; rw [h3, l_1, pI_add], fun m hm hm2 => hfr m (by omega) hm2, hw⟩
      refine Or.inr ⟨r, pp_Bu B0 ux um, Or.inl ⟨1, by omega, by omega, by simp [uI1], by simp [uI1], by simp [uI1]; rfl, by simp [uI1]; rfl, by simp [uI1], ?_, fun j hj => z.2.2 j hj, by omega⟩⟩
      exact z.2.1
  · obtain ⟨h1, h2, h4, ⟨n1, n2, n3, n4, n5, n6, n7⟩, _⟩ := pc_dig hk
    refine pp_fail (σx := σx) (σm := pv_uI (pv_uI (pv_uI σm 0 11 1) 0 12 1) 0 13 (pI (48 + k))) ?_ ?_ B1 (fm _ _ _)
    · rw [h1]; simp [f_Rd_stateAfterDigit, f_Rd_stateAfterDigit_0, hs]
    · simp [f_Md_front, f_Md_front_0, hph, n1, f_Md_front_52, f_Md_first, f_Md_first_0, h2]
  · rcases hc with rfl | rfl | rfl | rfl | rfl | rfl | rfl | ⟨n1, n2, n3, n4, n5, n6, n7⟩
    · refine pp_go (s := 0) (σx := σx) (σm := pv_uI (pv_uI (pv_uI σm 0 11 0) 0 12 1) 0 13 32) ?_ (by decide) ?_ (Or.inl ⟨r, pp_FX1 B1 (by omega), fm _ _ _, h5, fun m hm => hmod m hm, by omega, h3, fun m h1 h2 => hfr m h1 h2, hw, by simp [uI1], by simp [uI1]⟩)
      · rw [h1]; simp [f_Rd_stateAfter_39, f_Rd_stateAfterBlank, f_Rd_stateAfterBlank_0, hs]
      · simp [f_Md_front, f_Md_front_0, hph, f_Md_front_52, f_Md_first, f_Md_first_0]
    · refine pp_fail (σx := σx) (σm := pv_uI (pv_uI (pv_uI σm 0 11 1) 0 12 1) 0 13 40) ?_ ?_ B1 (fm _ _ _)
      · rw [h1]; simp [f_Rd_stateAfter_39, f_Rd_stateAfterBlank, f_Rd_stateAfterBlank_0, f_Rd_stateAfterEquals, f_Rd_stateAfterEquals_0, f_Rd_stateAfterMinus, f_Rd_stateAfterMinus_0, f_Rd_hasInputBehind, f_Rd_hasInputBehind_0, hs]
      · simp [f_Md_front, f_Md_front_0, hph, f_Md_front_52, f_Md_first, f_Md_first_0, h2]
    · refine pp_fail (σx := σx) (σm := pv_uI (pv_uI (pv_uI σm 0 11 1) 0 12 1) 0 13 41) ?_ ?_ B1 (fm _ _ _)
      · rw [h1]; simp [f_Rd_stateAfter_39, f_Rd_stateAfterBlank, f_Rd_stateAfterBlank_0, f_Rd_stateAfterEquals, f_Rd_stateAfterEquals_0, f_Rd_stateAfterMinus, f_Rd_stateAfterMinus_0, f_Rd_hasInputBehind, f_Rd_hasInputBehind_0, hs]
      · simp [f_Md_front, f_Md_front_0, hph, f_Md_front_52, f_Md_first, f_Md_first_0, h2]
    · refine pp_fail (σx := σx) (σm := pv_uI (pv_uI (pv_uI σm 0 11 1) 0 12 1) 0 13 44) ?_ ?_ B1 (fm _ _ _)
      · rw [h1]; simp [f_Rd_stateAfter_39, f_Rd_stateAfterBlank, f_Rd_stateAfterBlank_0, f_Rd_stateAfterEquals, f_Rd_stateAfterEquals_0, f_Rd_stateAfterMinus, f_Rd_stateAfterMinus_0, f_Rd_hasInputBehind, f_Rd_hasInputBehind_0, hs]
      · simp [f_Md_front, f_Md_front_0, hph, f_Md_front_52, f_Md_first, f_Md_first_0, h2]
    · refine pp_fail (σx := σx) (σm := pv_uI (pv_uI (pv_uI σm 0 11 1) 0 12 1) 0 13 45) ?_ ?_ B1 (fm _ _ _)
      · rw [h1]; simp [f_Rd_stateAfter_39, f_Rd_stateAfterBlank, f_Rd_stateAfterBlank_0, f_Rd_stateAfterEquals, f_Rd_stateAfterEquals_0, f_Rd_stateAfterMinus, f_Rd_stateAfterMinus_0, f_Rd_hasInputBehind, f_Rd_hasInputBehind_0, hs]
      · simp [f_Md_front, f_Md_front_0, hph, f_Md_front_52, f_Md_first, f_Md_first_0, h2]
    · refine pp_fail (σx := σx) (σm := pv_uI (pv_uI (pv_uI σm 0 11 1) 0 12 1) 0 13 59) ?_ ?_ B1 (fm _ _ _)
      · rw [h1]; simp [f_Rd_stateAfter_39, f_Rd_stateAfterBlank, f_Rd_stateAfterBlank_0, f_Rd_stateAfterEquals, f_Rd_stateAfterEquals_0, f_Rd_stateAfterMinus, f_Rd_stateAfterMinus_0, f_Rd_hasInputBehind, f_Rd_hasInputBehind_0, hs]
      · simp [f_Md_front, f_Md_front_0, hph, f_Md_front_52, f_Md_first, f_Md_first_0, h2]
    · refine pp_fail (σx := σx) (σm := pv_uI (pv_uI (pv_uI σm 0 11 1) 0 12 1) 0 13 61) ?_ ?_ B1 (fm _ _ _)
      · rw [h1]; simp [f_Rd_stateAfter_39, f_Rd_stateAfterBlank, f_Rd_stateAfterBlank_0, f_Rd_stateAfterEquals, f_Rd_stateAfterEquals_0, f_Rd_stateAfterMinus, f_Rd_stateAfterMinus_0, f_Rd_hasInputBehind, f_Rd_hasInputBehind_0, hs]
      · simp [f_Md_front, f_Md_front_0, hph, f_Md_front_52, f_Md_first, f_Md_first_0, h2]
    · refine pp_fail (σx := σx) (σm := pv_uI (pv_uI (pv_uI σm 0 11 1) 0 12 1) 0 13 c) ?_ ?_ B1 (fm _ _ _)
      · rw [h1]; simp [f_Rd_stateAfter_39, f_Rd_stateAfterBlank, f_Rd_stateAfterBlank_0, f_Rd_stateAfterEquals, f_Rd_stateAfterEquals_0, f_Rd_stateAfterMinus, f_Rd_stateAfterMinus_0, f_Rd_hasInputBehind, f_Rd_hasInputBehind_0, hs, n1, n2, n3, n4, n5, n6, n7]
      · simp [f_Md_front, f_Md_front_0, hph, f_Md_front_52, f_Md_first, f_Md_first_0, h2, n1, n2, n3, n4, n5, n6, n7]
theorem pj_z {sx sm : pv_S} {p : Nat} {x y : Option (Int32 × pv_S)} (h : pj x y (pp_out sx sm p)) : pj x (y.bind fun q => if pv_z q.1 = true then some (q.1, q.2) else none) (pp_out sx sm p) := by
  obtain ⟨a, b, h1, h2, h3⟩ := h
  refine ⟨a, b, h1, ?_, h3⟩
  subst h2
  rcases h3 with ⟨_, h, _⟩ | ⟨_, h, _⟩
  · show (if pv_z b.1 = true then some (b.1, b.2) else none) = _
    rw [if_pos (by rw [h]; rfl)]
  · show (if pv_z b.1 = true then some (b.1, b.2) else none) = _
    rw [if_pos (by rw [h]; rfl)]
theorem pp_ended {sx sm σx σm : pv_S} {r : Nat} (B : pp_B sx sm σx σm r) (hm : σm.1 0 13 = σx.1 7 r) (h8 : σx.1 8 r = 0) (hz : ∀ j, j < 4 → pp_zero σx (4 * r + j)) : pp_B sx sm σx (pv_uI (pv_uI (pv_uI σm 4 r (σm.1 0 13)) 6 r 0) 0 11 2) r ∧ pp_nm σx (pv_uI (pv_uI (pv_uI σm 4 r (σm.1 0 13)) 6 r 0) 0 11 2) r ∧ pp_in σx (pv_uI (pv_uI (pv_uI σm 4 r (σm.1 0 13)) 6 r 0) 0 11 2) r 0 0 := by
  refine ⟨pp_Bu B (pp_Ux0 _ _) (pp_Um1 (pp_Um1 (pp_Um1 (pp_Um0 _ _) (by unfold pp_okm; omega)) (by unfold pp_okm; omega)) (by unfold pp_okm; omega)), ?_, h8, by simp [uI1]; rfl, fun j hj => absurd hj (by omega), fun j _ hj => hz j hj⟩
  unfold pp_nm
  simp [uI1, hm]
theorem st_1 {sx sm σx σm : pv_S} {r p z : Nat} (B : pp_B sx sm σx σm r) (z1 : 1 ≤ z) (z3 : z ≤ 3) (hs : σx.1 2 1 = 1) (hph : σm.1 0 11 = 1) (hsz : σx.1 2 2 = pI z) (hln : σm.1 0 12 = pI z) (hm : σm.1 0 13 = σx.1 7 r) (h8 : σx.1 8 r = 0) (hz : ∀ j, j < 4 → pp_zero σx (4 * r + j)) (hp : 8 * r + 1 ≤ p) (c : Int32) : pj (f_Rd_stateAfter σx c) (f_Md_front σm c) (pp_out sx sm p) := by
  have B1 := B.1
  have h3 := B.2.2.2.2.2.1
  have hr := B.2.2.2.2.1
  have E := pp_ended B hm h8 hz
  rcases pc_cases c with ⟨k, hk1, hk2, rfl⟩ | hc
  · obtain ⟨h1, h2, h4, n1, n2, n3, n4, n5, n6, n7⟩ := pc_let hk1 hk2
    have el : ¬ (4 : Int32) ≤ pI z := by rw [l_4, pI_le (by omega) (by omega)]; omega
    have el2 : ¬ (4 : Int32) < pI z + 1 := by rw [l_4, l_1, pI_add, pI_lt (by omega) (by omega)]; omega
    have ux : pp_Ux r σx (pv_uI (pv_uI σx 7 r ((σx.1 7 r <<< ((8 : Int32) &&& 31)) ||| pI k)) 2 2 (pI z + 1)) := pp_Ux1 (pp_Ux1 (pp_Ux0 _ _) (by unfold pp_okx; omega)) (by unfold pp_okx; omega)
    have um : pp_Um r σm (pv_uI (pv_uI σm 0 13 ((σm.1 0 13 <<< ((8 : Int32) &&& 31)) ||| pI k)) 0 12 (pI z + 1)) := pp_Um1 (pp_Um1 (pp_Um0 _ _) (by unfold pp_okm; omega)) (by unfold pp_okm; omega)
    refine pp_go (s := if 4 ≤ z + 1 then 2 else 1) (σx := pv_uI (pv_uI σx 7 r ((σx.1 7 r <<< ((8 : Int32) &&& 31)) ||| pI k)) 2 2 (pI z + 1)) (σm := pv_uI (pv_uI σm 0 13 ((σm.1 0 13 <<< ((8 : Int32) &&& 31)) ||| pI k)) 0 12 (pI z + 1)) ?_ (by by_cases hh : 4 ≤ z + 1 <;> simp [hh] <;> decide) ?_ ?_
    · rw [h1]
      have e4 : ((4 : Int32) ≤ pI z + 1) ↔ 4 ≤ z + 1 := by rw [l_4, l_1, pI_add, pI_le (by omega) (by omega)]
      simp only [f_Rd_stateAfterLetter, f_Rd_stateAfterLetter_0, hs, f_Rd_stateInName, f_Rd_stateInName_0, pe_name h3 hr]
      by_cases hh : 4 ≤ z + 1
      · simp [uI1, hsz, e4, hh]
      · simp [uI1, hsz, e4, hh]
    · simp [f_Md_front, f_Md_front_0, hph, h2, f_Md_more, f_Md_more_0, f_Md_more_25, hln, el, uI1, el2, pv_z]
    · refine Or.inr ⟨r, pp_Bu B (pp_Ux1 ux (by unfold pp_okx; omega)) um, ?_⟩
      by_cases hh : 4 ≤ z + 1
      · have : z = 3 := by omega
        subst this
        exact Or.inr (Or.inl ⟨by simp [uI1], by simp [uI1, hph], by simp [uI1]; rfl, by simp [uI1, hm], h8, fun j hj => hz j hj, by omega⟩)
      · exact Or.inl ⟨z + 1, by omega, by omega, by simp [uI1, hh], by simp [uI1, hph], by simp [uI1]; exact pI_add z 1, by simp [uI1]; exact pI_add z 1, by simp [uI1, hm], h8, fun j hj => hz j hj, by omega⟩
  · have h2 : ∀ σ, f_Md_isLetter σ c = some (0, σ) := by
      rcases hc with ⟨k, hk, rfl⟩ | ⟨hc, _⟩
      · exact (pc_dig hk).2.1
      · exact hc.2.1
    have e : f_Md_front σm c = ((f_Md_front2 (pv_uI (pv_uI (pv_uI σm 4 r (σm.1 0 13)) 6 r 0) 0 11 2) c).bind fun q => if pv_z q.1 = true then some (q.1, q.2) else none) := by
      simp [f_Md_front, f_Md_front_0, hph, h2, pm_endName B.2.2.1 hr]
    rw [e]
    exact pj_z (st_2 E.1 (Or.inl hs) E.2.1 E.2.2 hp c hc)
theorem st_2a {sx sm σx σm : pv_S} {r p : Nat} (B : pp_B sx sm σx σm r) (hs : σx.1 2 1 = 2) (hph : σm.1 0 11 = 1) (hln : σm.1 0 12 = 4) (hm : σm.1 0 13 = σx.1 7 r) (h8 : σx.1 8 r = 0) (hz : ∀ j, j < 4 → pp_zero σx (4 * r + j)) (hp : 8 * r + 1 ≤ p) (c : Int32) : pj (f_Rd_stateAfter σx c) (f_Md_front σm c) (pp_out sx sm p) := by
  have hr := B.2.2.2.2.1
  have E := pp_ended B hm h8 hz
  rcases pc_cases c with ⟨k, hk1, hk2, rfl⟩ | hc
  · obtain ⟨h1, h2, h4, _⟩ := pc_let hk1 hk2
    refine pp_fail (σx := σx) (σm := pv_uI (pv_uI σm 0 13 (σm.1 0 13)) 0 12 5) ?_ ?_ B.1 (pp_FM1 (pp_FM1 B.2.1 (by omega)) (by omega))
    · rw [h1]; simp [f_Rd_stateAfterLetter, f_Rd_stateAfterLetter_0, hs]
    · simp [f_Md_front, f_Md_front_0, hph, h2, f_Md_more, f_Md_more_0, f_Md_more_25, hln, uI1, pv_z]
  · have h2 : ∀ σ, f_Md_isLetter σ c = some (0, σ) := by
      rcases hc with ⟨k, hk, rfl⟩ | ⟨hc, _⟩
      · exact (pc_dig hk).2.1
      · exact hc.2.1
    have e : f_Md_front σm c = ((f_Md_front2 (pv_uI (pv_uI (pv_uI σm 4 r (σm.1 0 13)) 6 r 0) 0 11 2) c).bind fun q => if pv_z q.1 = true then some (q.1, q.2) else none) := by
      simp [f_Md_front, f_Md_front_0, hph, h2, pm_endName B.2.2.1 hr]
    rw [e]
    exact pj_z (st_2 E.1 (Or.inr hs) E.2.1 E.2.2 hp c hc)
theorem st_2b {sx sm σx σm : pv_S} {r p : Nat} (B : pp_B sx sm σx σm r) (hs : σx.1 2 1 = 2) (hph : σm.1 0 11 = 2) (nm : pp_nm σx σm r) (hi : pp_in σx σm r 0 0) (hp : 8 * r + 1 ≤ p) (c : Int32) : pj (f_Rd_stateAfter σx c) (f_Md_front σm c) (pp_out sx sm p) := by
  have e : f_Md_front σm c = ((f_Md_front2 σm c).bind fun q => if pv_z q.1 = true then some (q.1, q.2) else none) := by
    simp [f_Md_front, f_Md_front_0, hph]
  rw [e]
  refine pj_z ?_
  rcases pc_cases c with ⟨k, hk1, hk2, rfl⟩ | hc
  · obtain ⟨h1, h2, h4, n1, n2, n3, n4, n5, n6, n7⟩ := pc_let hk1 hk2
    refine pp_fail (σx := σx) (σm := pv_uI σm 0 11 2) ?_ ?_ B.1 (pp_FM1 B.2.1 (by omega))
    · rw [h1]; simp [f_Rd_stateAfterLetter, f_Rd_stateAfterLetter_0, hs]
    · simp [f_Md_front2, f_Md_front2_0, f_Md_front2_12, n1, n7]
  · exact st_2 B (Or.inr hs) nm hi hp c hc
theorem pp_uIuI (σ : pv_S) (c k : Nat) (x y : Int32) : pv_uI (pv_uI σ c k x) c k y = pv_uI σ c k y := by
  refine Prod.ext ?_ rfl
  funext c' k'
  show (pv_uI (pv_uI σ c k x) c k y).1 c' k' = (pv_uI σ c k y).1 c' k'
  rw [uI1, uI1, uI1]
  by_cases h : c' = c ∧ k' = k
  · rw [if_pos h, if_pos h]
  · rw [if_neg h, if_neg h, if_neg h]
theorem st_3 {sx sm σx σm : pv_S} {r p : Nat} (B : pp_B sx sm σx σm r) (hs : σx.1 2 1 = 3) (hph : σm.1 0 11 = 3) (nm : pp_nm σx σm r) (hi : pp_in σx σm r 0 0) (hp : 8 * r + 2 ≤ p) (c : Int32) : pj (f_Rd_stateAfter σx c) (f_Md_front σm c) (pp_out sx sm p) := by
  have B1 := B.1
  have hw := B.2.2.2.2.2.2.2
  have um : ∀ a b d, pp_Um r σm (pv_uI (pv_uI (pv_uI σm 0 11 a) 0 12 b) 0 13 d) := fun a b d => pp_Um1 (pp_Um1 (pp_Um1 (pp_Um0 _ _) (by unfold pp_okm; omega)) (by unfold pp_okm; omega)) (by unfold pp_okm; omega)
  have fm : ∀ a b d, pp_FM sm (pv_uI (pv_uI (pv_uI σm 0 11 a) 0 12 b) 0 13 d) := fun a b d => pp_FMu B.2.1 (um a b d)
  rcases pc_cases c with ⟨k, hk1, hk2, rfl⟩ | ⟨k, hk, rfl⟩ | ⟨⟨h1, h2, h4⟩, hc⟩
  · obtain ⟨h1, h2, h4, n1, n2, n3, n4, n5, n6, n7⟩ := pc_let hk1 hk2
    have ex : f_Rd_stateAfter σx (pI k) = if (1048575 : Int32) &&& pk_kw 0 (pI k) = 0 then some (-1, pv_uI (pv_uI (pv_uI (pv_uI σx 2 2 0) 2 3 1048575) 2 3 ((1048575 : Int32) &&& pk_kw 0 (pI k))) 2 2 1) else some (4, pv_uI (pv_uI (pv_uI (pv_uI σx 2 2 0) 2 3 1048575) 2 3 ((1048575 : Int32) &&& pk_kw 0 (pI k))) 2 2 1) := by
      rw [h1]
      have ew := fun σ => pk_with σ 0 (by decide) (pI k)
      rw [show pI 0 = 0 from rfl] at ew
      simp [f_Rd_stateAfterLetter, f_Rd_stateAfterLetter_0, hs, f_Rd_stateInWord, f_Rd_stateInWord_0, uI1, ew, pc_be]
    have em : f_Md_front σm (pI k) = if pk_is 1 (pI k) = true then some (1, pv_uI (pv_uI (pv_uI σm 0 11 4) 0 12 1) 0 13 (pI k)) else some (0, pv_uI (pv_uI (pv_uI σm 0 11 4) 0 12 1) 0 13 (pI k)) := by
      have ei := pk_isWord (pv_uI (pv_uI (pv_uI σm 0 11 4) 0 12 1) 0 13 (pI k)) hw 1 (by decide) (by decide) (by simp [uI1]; rfl) 0 (Or.inl rfl)
      rw [show (pv_uI (pv_uI (pv_uI σm 0 11 4) 0 12 1) 0 13 (pI k)).1 0 13 = pI k by simp [uI1]] at ei
      simp only [f_Md_front, f_Md_front_0, hph, n1, f_Md_front_117, f_Md_first, f_Md_first_0, h2]
      by_cases hb : pk_is 1 (pI k) = true
      · rw [if_pos hb]
        rw [if_pos hb] at ei
        simp [ei, h2, n1]
      · rw [if_neg hb]
        rw [if_neg hb] at ei
        simp [ei, h2, n1]
    rw [ex, em]
    have F := pk_F1 k hk1 hk2
    have ux : pp_Ux r σx (pv_uI (pv_uI (pv_uI (pv_uI σx 2 2 0) 2 3 1048575) 2 3 ((1048575 : Int32) &&& pk_kw 0 (pI k))) 2 2 1) := pp_Ux1 (pp_Ux1 (pp_Ux1 (pp_Ux1 (pp_Ux0 _ _) (by unfold pp_okx; omega)) (by unfold pp_okx; omega)) (by unfold pp_okx; omega)) (by unfold pp_okx; omega)
    by_cases hb : pk_is 1 (pI k) = true
    · rw [if_pos hb, if_neg (F.mp hb)]
      refine pp_go rfl (by decide) rfl (Or.inr ⟨r, pp_Bu B (pp_Ux1 ux (by unfold pp_okx; omega)) (um _ _ _), Or.inr (Or.inr (Or.inr (Or.inr (Or.inl ⟨k, hk1, hk2, by simp [uI1], by simp [uI1], by simp [uI1], by simp [uI1], by simp [uI1], by simp [uI1], nm, hi, by omega⟩))))⟩)
    · rw [if_neg hb, if_pos (Classical.byContradiction fun z => hb (F.mpr z))]
      exact pp_fail rfl rfl (pp_FXu B.1 ux) (fm _ _ _)
  · obtain ⟨h1, h2, h4, ⟨n1, n2, n3, n4, n5, n6, n7⟩, _⟩ := pc_dig hk
    refine pp_fail (σx := σx) (σm := pv_uI (pv_uI (pv_uI σm 0 11 4) 0 12 1) 0 13 (pI (48 + k))) ?_ ?_ B1 (fm _ _ _)
    · rw [h1]; simp [f_Rd_stateAfterDigit, f_Rd_stateAfterDigit_0, hs]
    · simp [f_Md_front, f_Md_front_0, hph, n1, f_Md_front_117, f_Md_first, f_Md_first_0, h2]
  · rcases hc with rfl | rfl | rfl | rfl | rfl | rfl | rfl | ⟨n1, n2, n3, n4, n5, n6, n7⟩
    · refine pp_go (s := 3) (σx := σx) (σm := pv_uI (pv_uI (pv_uI σm 0 11 3) 0 12 1) 0 13 32) ?_ (by decide) ?_ (Or.inr ⟨r, pp_Bu B (pp_Ux1 (pp_Ux0 _ _) (by unfold pp_okx; omega)) (um _ _ _), Or.inr (Or.inr (Or.inr (Or.inl ⟨by simp [uI1], by simp [uI1], nm, hi, by omega⟩)))⟩)
      · rw [h1]; simp [f_Rd_stateAfter_39, f_Rd_stateAfterBlank, f_Rd_stateAfterBlank_0, hs]
      · simp [f_Md_front, f_Md_front_0, hph, f_Md_front_117, f_Md_first, f_Md_first_0]
    · refine pp_fail (σx := σx) (σm := pv_uI (pv_uI (pv_uI σm 0 11 4) 0 12 1) 0 13 40) ?_ ?_ B1 (fm _ _ _)
      · rw [h1]; simp [f_Rd_stateAfter_39, f_Rd_stateAfterBlank, f_Rd_stateAfterBlank_0, f_Rd_stateAfterEquals, f_Rd_stateAfterEquals_0, f_Rd_stateAfterMinus, f_Rd_stateAfterMinus_0, f_Rd_hasInputBehind, f_Rd_hasInputBehind_0, hs]
      · simp [f_Md_front, f_Md_front_0, hph, f_Md_front_117, f_Md_first, f_Md_first_0, h2]
    · refine pp_fail (σx := σx) (σm := pv_uI (pv_uI (pv_uI σm 0 11 4) 0 12 1) 0 13 41) ?_ ?_ B1 (fm _ _ _)
      · rw [h1]; simp [f_Rd_stateAfter_39, f_Rd_stateAfterBlank, f_Rd_stateAfterBlank_0, f_Rd_stateAfterEquals, f_Rd_stateAfterEquals_0, f_Rd_stateAfterMinus, f_Rd_stateAfterMinus_0, f_Rd_hasInputBehind, f_Rd_hasInputBehind_0, hs]
      · simp [f_Md_front, f_Md_front_0, hph, f_Md_front_117, f_Md_first, f_Md_first_0, h2]
    · refine pp_fail (σx := σx) (σm := pv_uI (pv_uI (pv_uI σm 0 11 4) 0 12 1) 0 13 44) ?_ ?_ B1 (fm _ _ _)
      · rw [h1]; simp [f_Rd_stateAfter_39, f_Rd_stateAfterBlank, f_Rd_stateAfterBlank_0, f_Rd_stateAfterEquals, f_Rd_stateAfterEquals_0, f_Rd_stateAfterMinus, f_Rd_stateAfterMinus_0, f_Rd_hasInputBehind, f_Rd_hasInputBehind_0, hs]
      · simp [f_Md_front, f_Md_front_0, hph, f_Md_front_117, f_Md_first, f_Md_first_0, h2]
    · refine pp_fail (σx := σx) (σm := pv_uI (pv_uI (pv_uI σm 0 11 4) 0 12 1) 0 13 45) ?_ ?_ B1 (fm _ _ _)
      · rw [h1]; simp [f_Rd_stateAfter_39, f_Rd_stateAfterBlank, f_Rd_stateAfterBlank_0, f_Rd_stateAfterEquals, f_Rd_stateAfterEquals_0, f_Rd_stateAfterMinus, f_Rd_stateAfterMinus_0, f_Rd_hasInputBehind, f_Rd_hasInputBehind_0, hs]
      · simp [f_Md_front, f_Md_front_0, hph, f_Md_front_117, f_Md_first, f_Md_first_0, h2]
    · refine pp_fail (σx := σx) (σm := pv_uI (pv_uI (pv_uI σm 0 11 4) 0 12 1) 0 13 59) ?_ ?_ B1 (fm _ _ _)
      · rw [h1]; simp [f_Rd_stateAfter_39, f_Rd_stateAfterBlank, f_Rd_stateAfterBlank_0, f_Rd_stateAfterEquals, f_Rd_stateAfterEquals_0, f_Rd_stateAfterMinus, f_Rd_stateAfterMinus_0, f_Rd_hasInputBehind, f_Rd_hasInputBehind_0, hs]
      · simp [f_Md_front, f_Md_front_0, hph, f_Md_front_117, f_Md_first, f_Md_first_0, h2]
    · refine pp_fail (σx := σx) (σm := pv_uI (pv_uI (pv_uI σm 0 11 4) 0 12 1) 0 13 61) ?_ ?_ B1 (fm _ _ _)
      · rw [h1]; simp [f_Rd_stateAfter_39, f_Rd_stateAfterBlank, f_Rd_stateAfterBlank_0, f_Rd_stateAfterEquals, f_Rd_stateAfterEquals_0, f_Rd_stateAfterMinus, f_Rd_stateAfterMinus_0, f_Rd_hasInputBehind, f_Rd_hasInputBehind_0, hs]
      · simp [f_Md_front, f_Md_front_0, hph, f_Md_front_117, f_Md_first, f_Md_first_0, h2]
    · refine pp_fail (σx := σx) (σm := pv_uI (pv_uI (pv_uI σm 0 11 4) 0 12 1) 0 13 c) ?_ ?_ B1 (fm _ _ _)
      · rw [h1]; simp [f_Rd_stateAfter_39, f_Rd_stateAfterBlank, f_Rd_stateAfterBlank_0, f_Rd_stateAfterEquals, f_Rd_stateAfterEquals_0, f_Rd_stateAfterMinus, f_Rd_stateAfterMinus_0, f_Rd_hasInputBehind, f_Rd_hasInputBehind_0, hs, n1, n2, n3, n4, n5, n6, n7]
      · simp [f_Md_front, f_Md_front_0, hph, f_Md_front_117, f_Md_first, f_Md_first_0, h2, n1, n2, n3, n4, n5, n6, n7]
