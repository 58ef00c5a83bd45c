/-! One character, in both readers: words to their end (made by gen75.py). -/
theorem st_4n {sx sm σx σm : pv_S} {p l : Nat} (B1 : pp_FX sx σx) (B2 : pp_FM sm σm) (hw : ∀ k, k < 20 → σm.1 2 k = pk_WD k) (hs : σx.1 2 1 = 4) (hph : σm.1 0 11 = 4) (hl : l < 3) (hln : σm.1 0 12 = pI l) (c : Int32) (hc : (∃ k, k ≤ 9 ∧ c = pI (48 + k)) ∨ pc_o c ∧ (c = 32 ∨ c = 40 ∨ c = 41 ∨ c = 44 ∨ c = 45 ∨ c = 59 ∨ c = 61 ∨ pc_ne c)) : pj (f_Rd_stateAfter σx c) (f_Md_front σm c) (pp_out sx sm p) := by
  have ei := pk_isWord0 σm hw l hl hln
  rcases hc with ⟨k, hk, rfl⟩ | ⟨⟨h1, h2, h3⟩, hc⟩
  · obtain ⟨h1, h2, h3, hn, _⟩ := pc_dig hk
    refine pp_fail (σx := σx) (σm := σm) ?_ ?_ B1 B2
    · rw [h1]; simp [f_Rd_stateAfterDigit, f_Rd_stateAfterDigit_0, hs]
    · simp [f_Md_front, f_Md_front_0, hph, h2, ei]
  · rcases hc with rfl | rfl | rfl | rfl | rfl | rfl | rfl | ⟨n1, n2, n3, n4, n5, n6, n7⟩
    · refine pp_fail (σx := σx) (σm := σm) ?_ ?_ B1 (B2)
      · rw [h1]; simp [f_Rd_stateAfter_39, f_Rd_stateAfterBlank, f_Rd_stateAfterBlank_0, f_Rd_stateAfterEquals, f_Rd_stateAfterEquals_0, f_Rd_stateAfterMinus, f_Rd_stateAfterMinus_0, f_Rd_hasInputBehind, f_Rd_hasInputBehind_0, hs]
      · simp [f_Md_front, f_Md_front_0, hph, h2, ei]
    · refine pp_fail (σx := σx) (σm := σm) ?_ ?_ B1 (B2)
      · rw [h1]; simp [f_Rd_stateAfter_39, f_Rd_stateAfterBlank, f_Rd_stateAfterBlank_0, f_Rd_stateAfterEquals, f_Rd_stateAfterEquals_0, f_Rd_stateAfterMinus, f_Rd_stateAfterMinus_0, f_Rd_hasInputBehind, f_Rd_hasInputBehind_0, hs]
      · simp [f_Md_front, f_Md_front_0, hph, h2, ei]
    · refine pp_fail (σx := σx) (σm := σm) ?_ ?_ B1 (B2)
      · rw [h1]; simp [f_Rd_stateAfter_39, f_Rd_stateAfterBlank, f_Rd_stateAfterBlank_0, f_Rd_stateAfterEquals, f_Rd_stateAfterEquals_0, f_Rd_stateAfterMinus, f_Rd_stateAfterMinus_0, f_Rd_hasInputBehind, f_Rd_hasInputBehind_0, hs]
      · simp [f_Md_front, f_Md_front_0, hph, h2, ei]
    · refine pp_fail (σx := σx) (σm := σm) ?_ ?_ B1 (B2)
      · rw [h1]; simp [f_Rd_stateAfter_39, f_Rd_stateAfterBlank, f_Rd_stateAfterBlank_0, f_Rd_stateAfterEquals, f_Rd_stateAfterEquals_0, f_Rd_stateAfterMinus, f_Rd_stateAfterMinus_0, f_Rd_hasInputBehind, f_Rd_hasInputBehind_0, hs]
      · simp [f_Md_front, f_Md_front_0, hph, h2, ei]
    · refine pp_fail (σx := σx) (σm := σm) ?_ ?_ B1 (B2)
      · rw [h1]; simp [f_Rd_stateAfter_39, f_Rd_stateAfterBlank, f_Rd_stateAfterBlank_0, f_Rd_stateAfterEquals, f_Rd_stateAfterEquals_0, f_Rd_stateAfterMinus, f_Rd_stateAfterMinus_0, f_Rd_hasInputBehind, f_Rd_hasInputBehind_0, hs]
      · simp [f_Md_front, f_Md_front_0, hph, h2, ei]
    · refine pp_fail (σx := σx) (σm := σm) ?_ ?_ B1 (B2)
      · rw [h1]; simp [f_Rd_stateAfter_39, f_Rd_stateAfterBlank, f_Rd_stateAfterBlank_0, f_Rd_stateAfterEquals, f_Rd_stateAfterEquals_0, f_Rd_stateAfterMinus, f_Rd_stateAfterMinus_0, f_Rd_hasInputBehind, f_Rd_hasInputBehind_0, hs]
      · simp [f_Md_front, f_Md_front_0, hph, h2, ei]
    · refine pp_fail (σx := σx) (σm := σm) ?_ ?_ B1 (B2)
      · rw [h1]; simp [f_Rd_stateAfter_39, f_Rd_stateAfterBlank, f_Rd_stateAfterBlank_0, f_Rd_stateAfterEquals, f_Rd_stateAfterEquals_0, f_Rd_stateAfterMinus, f_Rd_stateAfterMinus_0, f_Rd_hasInputBehind, f_Rd_hasInputBehind_0, hs]
      · simp [f_Md_front, f_Md_front_0, hph, h2, ei]
    · refine pp_fail (σx := σx) (σm := σm) ?_ ?_ B1 (B2)
      · rw [h1]; simp [f_Rd_stateAfter_39, f_Rd_stateAfterBlank, f_Rd_stateAfterBlank_0, f_Rd_stateAfterEquals, f_Rd_stateAfterEquals_0, f_Rd_stateAfterMinus, f_Rd_stateAfterMinus_0, f_Rd_hasInputBehind, f_Rd_hasInputBehind_0, hs, n1, n2, n3, n4, n5, n6, n7]
      · simp [f_Md_front, f_Md_front_0, hph, h2, ei, n1, n2, n3, n4, n5, n6, n7]
theorem st_4a {sx sm σx σm : pv_S} {r p c1 : Nat} (B : pp_B sx sm σx σm r) (g1 : 97 ≤ c1) (g2 : c1 ≤ 122) (hs : σx.1 2 1 = 4) (hph : σm.1 0 11 = 4) (hsz : σx.1 2 2 = 1) (hln : σm.1 0 12 = 1) (hm : σm.1 0 13 = pI c1) (hk : σx.1 2 3 = (1048575 : Int32) &&& pk_kw 0 (pI c1)) (nm : pp_nm σx σm r) (hi : pp_in σx σm r 0 0) (hp : 8 * r + 3 ≤ p) (c : Int32) : pj (f_Rd_stateAfter σx c) (f_Md_front σm c) (pp_out sx sm p) := by
  have hw := B.2.2.2.2.2.2.2
  rcases pc_cases c with ⟨k, hk1, hk2, rfl⟩ | hc
  · obtain ⟨h1, h2, h4, n1, n2, n3, n4, n5, n6, n7⟩ := pc_let hk1 hk2
    have ex : f_Rd_stateAfter σx (pI k) = if ((1048575 : Int32) &&& pk_kw 0 (pI c1)) &&& pk_kw 1 (pI k) = 0 then some (-1, pv_uI (pv_uI σx 2 3 (((1048575 : Int32) &&& pk_kw 0 (pI c1)) &&& pk_kw 1 (pI k))) 2 2 2) else some (4, pv_uI (pv_uI σx 2 3 (((1048575 : Int32) &&& pk_kw 0 (pI c1)) &&& pk_kw 1 (pI k))) 2 2 2) := by
      rw [h1]
      have ew := fun σ => pk_with σ 1 (by decide) (pI k)
      rw [show pI 1 = 1 from rfl] at ew
      simp [f_Rd_stateAfterLetter, f_Rd_stateAfterLetter_0, hs, f_Rd_stateInWord, f_Rd_stateInWord_0, uI1, hsz, hk, ew, pc_be]
    have em : f_Md_front σm (pI k) = if pk_is 2 ((pI c1 <<< ((8 : Int32) &&& 31)) ||| pI k) = true then some (1, pv_uI (pv_uI σm 0 13 ((pI c1 <<< ((8 : Int32) &&& 31)) ||| pI k)) 0 12 2) else some (0, pv_uI (pv_uI σm 0 13 ((pI c1 <<< ((8 : Int32) &&& 31)) ||| pI k)) 0 12 2) := by
      have ei := pk_isWord (pv_uI (pv_uI σm 0 13 ((pI c1 <<< ((8 : Int32) &&& 31)) ||| pI k)) 0 12 2) hw 2 (by decide) (by decide) (by simp [uI1]; rfl) 0 (Or.inl rfl)
      rw [show (pv_uI (pv_uI σm 0 13 ((pI c1 <<< ((8 : Int32) &&& 31)) ||| pI k)) 0 12 2).1 0 13 = (pI c1 <<< ((8 : Int32) &&& 31)) ||| pI k by simp [uI1]] at ei
      have eo : f_Md_more σm (pI k) 3 = some (1, pv_uI (pv_uI σm 0 13 ((pI c1 <<< ((8 : Int32) &&& 31)) ||| pI k)) 0 12 2) := by
        simp [f_Md_more, f_Md_more_0, f_Md_more_25, hln, uI1, hm]
      simp only [f_Md_front, f_Md_front_0, hph, h2, eo]
      by_cases hb : pk_is 2 ((pI c1 <<< ((8 : Int32) &&& 31)) ||| pI k) = true
      · rw [if_pos hb]
        rw [if_pos hb] at ei
        simp [ei, h2, eo]
      · rw [if_neg hb]
        rw [if_neg hb] at ei
        simp [ei, h2, eo]
    rw [ex, em]
    have F := pk_F2 c1 k g1 g2 hk1 hk2
    have ux : pp_Ux r σx (pv_uI (pv_uI σx 2 3 (((1048575 : Int32) &&& pk_kw 0 (pI c1)) &&& pk_kw 1 (pI k))) 2 2 2) := pp_Ux1 (pp_Ux1 (pp_Ux0 _ _) (by unfold pp_okx; omega)) (by unfold pp_okx; omega)
    have um : pp_Um r σm (pv_uI (pv_uI σm 0 13 ((pI c1 <<< ((8 : Int32) &&& 31)) ||| pI k)) 0 12 2) := pp_Um1 (pp_Um1 (pp_Um0 _ _) (by unfold pp_okm; omega)) (by unfold pp_okm; omega)
    by_cases hb : pk_is 2 ((pI c1 <<< ((8 : Int32) &&& 31)) ||| pI k) = true
    · rw [if_pos hb, if_neg (F.1.mp hb)]
      obtain ⟨w, hw1, hw2, hw3⟩ := F.2 hb
      refine pp_go rfl (by decide) rfl (Or.inr ⟨r, pp_Bu B (pp_Ux1 ux (by unfold pp_okx; omega)) um, Or.inr (Or.inr (Or.inr (Or.inr (Or.inr (Or.inl ⟨w, hw1, by simp [uI1], by simp [uI1, hph], by simp [uI1], by simp [uI1], by simp [uI1, hw2, hw3], by simp [uI1, hw2, hw3], nm, hi, by omega⟩)))))⟩)
    · rw [if_neg hb, if_pos (Classical.byContradiction fun z => hb (F.1.mpr z))]
      exact pp_fail rfl rfl (pp_FXu B.1 ux) (pp_FMu B.2.1 um)
  · exact st_4n B.1 B.2.1 hw hs hph (l := 1) (by decide) hln c hc
theorem st_4b {sx sm σx σm : pv_S} {r p w : Nat} (B : pp_B sx sm σx σm r) (hw1 : w < 20) (hs : σx.1 2 1 = 4) (hph : σm.1 0 11 = 4) (hsz : σx.1 2 2 = 2) (hln : σm.1 0 12 = 2) (hm : σm.1 0 13 = (pk_l w 0 <<< ((8 : Int32) &&& 31)) ||| pk_l w 1) (hk : σx.1 2 3 = ((1048575 : Int32) &&& pk_kw 0 (pk_l w 0)) &&& pk_kw 1 (pk_l w 1)) (nm : pp_nm σx σm r) (hi : pp_in σx σm r 0 0) (hp : 8 * r + 4 ≤ p) (c : Int32) : pj (f_Rd_stateAfter σx c) (f_Md_front σm c) (pp_out sx sm p) := by
  have hw := B.2.2.2.2.2.2.2
  rcases pc_cases c with ⟨k, hk1, hk2, rfl⟩ | hc
  · obtain ⟨h1, h2, h4, n1, n2, n3, n4, n5, n6, n7⟩ := pc_let hk1 hk2
    have F := pk_F3 w k hw1 hk1 hk2
    have em : f_Md_front σm (pI k) = if pk_is 3 ((((pk_l w 0 <<< ((8 : Int32) &&& 31)) ||| pk_l w 1) <<< ((8 : Int32) &&& 31)) ||| pI k) = true then some (1, pv_uI (pv_uI σm 0 13 ((((pk_l w 0 <<< ((8 : Int32) &&& 31)) ||| pk_l w 1) <<< ((8 : Int32) &&& 31)) ||| pI k)) 0 12 3) else some (0, pv_uI (pv_uI σm 0 13 ((((pk_l w 0 <<< ((8 : Int32) &&& 31)) ||| pk_l w 1) <<< ((8 : Int32) &&& 31)) ||| pI k)) 0 12 3) := by
      have ei := pk_isWord (pv_uI (pv_uI σm 0 13 ((((pk_l w 0 <<< ((8 : Int32) &&& 31)) ||| pk_l w 1) <<< ((8 : Int32) &&& 31)) ||| pI k)) 0 12 3) hw 3 (by decide) (by decide) (by simp [uI1]; rfl) 0 (Or.inl rfl)
      rw [show (pv_uI (pv_uI σm 0 13 ((((pk_l w 0 <<< ((8 : Int32) &&& 31)) ||| pk_l w 1) <<< ((8 : Int32) &&& 31)) ||| pI k)) 0 12 3).1 0 13 = (((pk_l w 0 <<< ((8 : Int32) &&& 31)) ||| pk_l w 1) <<< ((8 : Int32) &&& 31)) ||| pI k by simp [uI1]] at ei
      have eo : f_Md_more σm (pI k) 3 = some (1, pv_uI (pv_uI σm 0 13 ((((pk_l w 0 <<< ((8 : Int32) &&& 31)) ||| pk_l w 1) <<< ((8 : Int32) &&& 31)) ||| pI k)) 0 12 3) := by
        simp [f_Md_more, f_Md_more_0, f_Md_more_25, hln, uI1, hm]
      simp only [f_Md_front, f_Md_front_0, hph, h2, eo]
      by_cases hb : pk_is 3 ((((pk_l w 0 <<< ((8 : Int32) &&& 31)) ||| pk_l w 1) <<< ((8 : Int32) &&& 31)) ||| pI k) = true
      · rw [if_pos hb]
        rw [if_pos hb] at ei
        simp [ei, h2, eo]
      · rw [if_neg hb]
        rw [if_neg hb] at ei
        simp [ei, h2, eo]
    have um : pp_Um r σm (pv_uI (pv_uI σm 0 13 ((((pk_l w 0 <<< ((8 : Int32) &&& 31)) ||| pk_l w 1) <<< ((8 : Int32) &&& 31)) ||| pI k)) 0 12 3) := pp_Um1 (pp_Um1 (pp_Um0 _ _) (by unfold pp_okm; omega)) (by unfold pp_okm; omega)
    have ew := fun σ => pk_with σ 2 (by decide) (pI k)
    rw [show pI 2 = 2 from rfl] at ew
    by_cases hb : pk_is 3 ((((pk_l w 0 <<< ((8 : Int32) &&& 31)) ||| pk_l w 1) <<< ((8 : Int32) &&& 31)) ||| pI k) = true
    · obtain ⟨f1, f2⟩ := F.2 hb
      have fn := F.1.mp hb
      have ux : pp_Ux r σx (pv_uI (pv_uI (pv_uI σx 2 3 (((((1048575 : Int32) &&& pk_kw 0 (pk_l w 0)) &&& pk_kw 1 (pk_l w 1)) &&& pk_kw 2 (pI k)))) 2 2 3) 4 r (pI w)) := pp_Ux1 (pp_Ux1 (pp_Ux1 (pp_Ux0 _ _) (by unfold pp_okx; omega)) (by unfold pp_okx; omega)) (by unfold pp_okx; omega)
      rw [em, if_pos hb]
      refine pp_go (s := 5) (σx := pv_uI (pv_uI (pv_uI σx 2 3 (((((1048575 : Int32) &&& pk_kw 0 (pk_l w 0)) &&& pk_kw 1 (pk_l w 1)) &&& pk_kw 2 (pI k)))) 2 2 3) 4 r (pI w)) ?_ (by decide) rfl (Or.inr ⟨r, pp_Bu B (pp_Ux1 ux (by unfold pp_okx; omega)) um, Or.inr (Or.inr (Or.inr (Or.inr (Or.inr (Or.inr (Or.inl ⟨w, hw1, by simp [uI1], by simp [uI1, hph], by simp [uI1], by simp [uI1, f1], by simp [uI1], nm, hi, by omega⟩))))))⟩)
      rw [h1]
      have ez := fun σ => pk_zeros σ w hw1
      have es : f_Pt_setKind (pv_uI (pv_uI σx 2 3 (((((1048575 : Int32) &&& pk_kw 0 (pk_l w 0)) &&& pk_kw 1 (pk_l w 1)) &&& pk_kw 2 (pI k)))) 2 2 3) (pI w) = some (pv_uI (pv_uI (pv_uI σx 2 3 (((((1048575 : Int32) &&& pk_kw 0 (pk_l w 0)) &&& pk_kw 1 (pk_l w 1)) &&& pk_kw 2 (pI k)))) 2 2 3) 4 r (pI w)) := pe_setKind (σ := pv_uI (pv_uI σx 2 3 (((((1048575 : Int32) &&& pk_kw 0 (pk_l w 0)) &&& pk_kw 1 (pk_l w 1)) &&& pk_kw 2 (pI k)))) 2 2 3) B.2.2.2.2.2.1 B.2.2.2.2.1 _
      rw [f2] at es fn
      simp [f_Rd_stateAfterLetter, f_Rd_stateAfterLetter_0, hs, f_Rd_stateInWord, f_Rd_stateInWord_0, uI1, hsz, hk, ew, pc_be, f2, ez, es, fn]
    · have fz : ((((1048575 : Int32) &&& pk_kw 0 (pk_l w 0)) &&& pk_kw 1 (pk_l w 1)) &&& pk_kw 2 (pI k)) = 0 := Classical.byContradiction fun z => hb (F.1.mpr z)
      have ux : pp_Ux r σx (pv_uI (pv_uI σx 2 3 0) 2 2 3) := pp_Ux1 (pp_Ux1 (pp_Ux0 _ _) (by unfold pp_okx; omega)) (by unfold pp_okx; omega)
      rw [em, if_neg hb]
      refine pp_fail (σx := pv_uI (pv_uI σx 2 3 0) 2 2 3) ?_ rfl (pp_FXu B.1 ux) (pp_FMu B.2.1 um)
      rw [h1]
      simp [f_Rd_stateAfterLetter, f_Rd_stateAfterLetter_0, hs, f_Rd_stateInWord, f_Rd_stateInWord_0, uI1, hsz, hk, ew, pc_be, fz]
  · exact st_4n B.1 B.2.1 hw hs hph (l := 2) (by decide) hln c hc
theorem st_5 {sx sm σx σm : pv_S} {r p : Nat} (B : pp_B sx sm σx σm r) (hs : σx.1 2 1 = 5) (kd : pp_kd σx σm r) (nm : pp_nm σx σm r) (hi : pp_in σx σm r 0 0) (hp : 8 * r + 5 ≤ p) (c : Int32) (hc : (∃ k, k ≤ 9 ∧ c = pI (48 + k)) ∨ pc_o c ∧ (c = 32 ∨ c = 40 ∨ c = 41 ∨ c = 44 ∨ c = 45 ∨ c = 59 ∨ c = 61 ∨ pc_ne c)) : pj (f_Rd_stateAfter σx c) (f_Md_front5 σm c) (pp_out sx sm p) := by
  have B1 := B.1
  have um : ∀ x, pp_Um r σm (pv_uI σm 0 11 x) := fun x => pp_Um1 (pp_Um0 r σm) (by unfold pp_okm; omega)
  have fm : ∀ x, pp_FM sm (pv_uI σm 0 11 x) := fun x => pp_FMu B.2.1 (um x)
  have J : ∀ s x, pp_B sx sm (pv_uI σx 2 1 s) (pv_uI σm 0 11 x) r := fun s x => pp_Bu B (pp_Ux1 (pp_Ux0 _ _) (by unfold pp_okx; omega)) (um x)
  rcases hc with ⟨k, hk, rfl⟩ | ⟨⟨h1, h2, h3⟩, hc⟩
  · obtain ⟨h1, h2, h3, ⟨n1, n2, n3, n4, n5, n6, n7⟩, _⟩ := pc_dig hk
    refine pp_fail (σx := σx) (σm := pv_uI σm 0 11 5) ?_ ?_ B1 (fm _)
    · rw [h1]; simp [f_Rd_stateAfterDigit, f_Rd_stateAfterDigit_0, hs]
    · simp [f_Md_front5, f_Md_front5_0, f_Md_front5_13, n1, n2]
  · rcases hc with rfl | rfl | rfl | rfl | rfl | rfl | rfl | ⟨n1, n2, n3, n4, n5, n6, n7⟩
    · refine pp_go (s := 5) (σx := σx) (σm := pv_uI σm 0 11 5) ?_ (by decide) ?_ (Or.inr ⟨r, J 5 5, Or.inr (Or.inr (Or.inr (Or.inr (Or.inr (Or.inr (Or.inr (Or.inl ⟨by simp [uI1], by simp [uI1], kd, nm, hi, by omega⟩)))))))⟩)
      · rw [h1]; simp [f_Rd_stateAfter_39, f_Rd_stateAfterBlank, f_Rd_stateAfterBlank_0, hs]
      · simp [f_Md_front5, f_Md_front5_0, f_Md_front5_13]
    · refine pp_go (s := 6) (σx := σx) (σm := pv_uI σm 0 11 6) ?_ (by decide) ?_ (Or.inr ⟨r, J 6 6, Or.inr (Or.inr (Or.inr (Or.inr (Or.inr (Or.inr (Or.inr (Or.inr ⟨nm, kd, by omega, Or.inl ⟨by simp [uI1], by simp [uI1], hi⟩⟩)))))))⟩)
      · rw [h1]; simp [f_Rd_stateAfter_39, hs]
      · simp [f_Md_front5, f_Md_front5_0, f_Md_front5_13]
    · refine pp_fail (σx := σx) (σm := pv_uI σm 0 11 5) ?_ ?_ B1 (fm _)
      · rw [h1]; simp [f_Rd_stateAfter_39, f_Rd_stateAfterBlank, f_Rd_stateAfterBlank_0, f_Rd_stateAfterEquals, f_Rd_stateAfterEquals_0, f_Rd_stateAfterMinus, f_Rd_stateAfterMinus_0, f_Rd_hasInputBehind, f_Rd_hasInputBehind_0, hs]
      · simp [f_Md_front5, f_Md_front5_0, f_Md_front5_13]
    · refine pp_fail (σx := σx) (σm := pv_uI σm 0 11 5) ?_ ?_ B1 (fm _)
      · rw [h1]; simp [f_Rd_stateAfter_39, f_Rd_stateAfterBlank, f_Rd_stateAfterBlank_0, f_Rd_stateAfterEquals, f_Rd_stateAfterEquals_0, f_Rd_stateAfterMinus, f_Rd_stateAfterMinus_0, f_Rd_hasInputBehind, f_Rd_hasInputBehind_0, hs]
      · simp [f_Md_front5, f_Md_front5_0, f_Md_front5_13]
    · refine pp_fail (σx := σx) (σm := pv_uI σm 0 11 5) ?_ ?_ B1 (fm _)
      · rw [h1]; simp [f_Rd_stateAfter_39, f_Rd_stateAfterBlank, f_Rd_stateAfterBlank_0, f_Rd_stateAfterEquals, f_Rd_stateAfterEquals_0, f_Rd_stateAfterMinus, f_Rd_stateAfterMinus_0, f_Rd_hasInputBehind, f_Rd_hasInputBehind_0, hs]
      · simp [f_Md_front5, f_Md_front5_0, f_Md_front5_13]
    · refine pp_fail (σx := σx) (σm := pv_uI σm 0 11 5) ?_ ?_ B1 (fm _)
      · rw [h1]; simp [f_Rd_stateAfter_39, f_Rd_stateAfterBlank, f_Rd_stateAfterBlank_0, f_Rd_stateAfterEquals, f_Rd_stateAfterEquals_0, f_Rd_stateAfterMinus, f_Rd_stateAfterMinus_0, f_Rd_hasInputBehind, f_Rd_hasInputBehind_0, hs]
      · simp [f_Md_front5, f_Md_front5_0, f_Md_front5_13]
    · refine pp_fail (σx := σx) (σm := pv_uI σm 0 11 5) ?_ ?_ B1 (fm _)
      · rw [h1]; simp [f_Rd_stateAfter_39, f_Rd_stateAfterBlank, f_Rd_stateAfterBlank_0, f_Rd_stateAfterEquals, f_Rd_stateAfterEquals_0, f_Rd_stateAfterMinus, f_Rd_stateAfterMinus_0, f_Rd_hasInputBehind, f_Rd_hasInputBehind_0, hs]
      · simp [f_Md_front5, f_Md_front5_0, f_Md_front5_13]
    · refine pp_fail (σx := σx) (σm := pv_uI σm 0 11 5) ?_ ?_ B1 (fm _)
      · rw [h1]; simp [f_Rd_stateAfter_39, f_Rd_stateAfterBlank, f_Rd_stateAfterBlank_0, f_Rd_stateAfterEquals, f_Rd_stateAfterEquals_0, f_Rd_stateAfterMinus, f_Rd_stateAfterMinus_0, f_Rd_hasInputBehind, f_Rd_hasInputBehind_0, hs, n1, n2, n3, n4, n5, n6, n7]
      · simp [f_Md_front5, f_Md_front5_0, f_Md_front5_13, n1, n2, n3, n4, n5, n6, n7]
theorem st_5a {sx sm σx σm : pv_S} {r p w : Nat} (B : pp_B sx sm σx σm r) (hw1 : w < 20) (hs : σx.1 2 1 = 5) (hph : σm.1 0 11 = 4) (hln : σm.1 0 12 = 3) (hm : σm.1 0 13 = pk_WD w) (hk : σx.1 4 r = pI w) (nm : pp_nm σx σm r) (hi : pp_in σx σm r 0 0) (hp : 8 * r + 5 ≤ p) (c : Int32) : pj (f_Rd_stateAfter σx c) (f_Md_front σm c) (pp_out sx sm p) := by
  have hw := B.2.2.2.2.2.2.2
  have hr := B.2.2.2.2.1
  rcases pc_cases c with ⟨k, hk1, hk2, rfl⟩ | hc
  · obtain ⟨h1, h2, h4, n1, n2, n3, n4, n5, n6, n7⟩ := pc_let hk1 hk2
    refine pp_fail (σx := σx) (σm := pv_uI (pv_uI σm 0 13 (σm.1 0 13)) 0 12 4) ?_ ?_ B.1 (pp_FM1 (pp_FM1 B.2.1 (by omega)) (by omega))
    · rw [h1]; simp [f_Rd_stateAfterLetter, f_Rd_stateAfterLetter_0, hs]
    · simp [f_Md_front, f_Md_front_0, hph, h2, f_Md_more, f_Md_more_0, f_Md_more_25, hln, uI1]
  · have h2 : ∀ σ, f_Md_isLetter σ c = some (0, σ) := by
      rcases hc with ⟨k, hk, rfl⟩ | ⟨hc, _⟩
      · exact (pc_dig hk).2.1
      · exact hc.2.1
    have ei := pk_isWord σm hw 3 (by decide) (by decide) hln 1 (Or.inr rfl)
    rw [hm, if_pos (pk_W3 w hw1)] at ei
    have ee := pk_endWord σm hw w r hw1 (by omega) B.2.2.1 hm
    have e : f_Md_front σm c = ((f_Md_front5 (pv_uI (pv_uI σm 5 r (pI w)) 0 11 5) c).bind fun q => if pv_z q.1 = true then some (q.1, q.2) else none) := by
      simp [f_Md_front, f_Md_front_0, hph, h2, ei, ee]
    rw [e]
    have B' : pp_B sx sm σx (pv_uI (pv_uI σm 5 r (pI w)) 0 11 5) r := pp_Bu B (pp_Ux0 _ _) (pp_Um1 (pp_Um1 (pp_Um0 _ _) (by unfold pp_okm; omega)) (by unfold pp_okm; omega))
    exact pj_z (st_5 B' hs ⟨w, hw1, hk, by simp [uI1]⟩ nm hi hp c hc)
theorem st_5b {sx sm σx σm : pv_S} {r p : Nat} (B : pp_B sx sm σx σm r) (hs : σx.1 2 1 = 5) (hph : σm.1 0 11 = 5) (kd : pp_kd σx σm r) (nm : pp_nm σx σm r) (hi : pp_in σx σm r 0 0) (hp : 8 * r + 5 ≤ p) (c : Int32) : pj (f_Rd_stateAfter σx c) (f_Md_front σm c) (pp_out sx sm p) := by
  have e : f_Md_front σm c = ((f_Md_front5 σm c).bind fun q => if pv_z q.1 = true then some (q.1, q.2) else none) := by
    simp [f_Md_front, f_Md_front_0, hph]
  rw [e]
  refine pj_z ?_
  rcases pc_cases c with ⟨k, hk1, hk2, rfl⟩ | hc
  · obtain ⟨h1, h2, h4, n1, n2, n3, n4, n5, n6, n7⟩ := pc_let hk1 hk2
    refine pp_fail (σx := σx) (σm := pv_uI σm 0 11 5) ?_ ?_ B.1 (pp_FM1 B.2.1 (by omega))
    · rw [h1]; simp [f_Rd_stateAfterLetter, f_Rd_stateAfterLetter_0, hs]
    · simp [f_Md_front5, f_Md_front5_0, f_Md_front5_13, n1, n2]
  · exact st_5 B hs kd nm hi hp c hc
