/-! What a module makes, in the class. -/
theorem uI_comm {σ : pv_S} {c k c' k' : Nat} {x y : Int32} (h : c ≠ c') : pv_uI (pv_uI σ c k x) c' k' y = pv_uI (pv_uI σ c' k' y) c k x := by
  refine Prod.ext ?_ rfl
  funext d j
  show (pv_uI (pv_uI σ c k x) c' k' y).1 d j = (pv_uI (pv_uI σ c' k' y) c k x).1 d j
  simp only [uI1]
  by_cases h1 : d = c ∧ j = k
  · rw [if_pos h1, if_neg (by omega), if_pos h1]
  · rw [if_neg h1, if_neg h1]
theorem in4_0 : pv_in (0 : Int32) 4 = true := by decide
theorem in4_1 : pv_in (1 : Int32) 4 = true := by decide
theorem in4_2 : pv_in (2 : Int32) 4 = true := by decide
theorem in4_3 : pv_in (3 : Int32) 4 = true := by decide
theorem nc0 : ((0 : Int32)).toNatClampNeg = 0 := rfl
theorem nc1 : ((1 : Int32)).toNatClampNeg = 1 := rfl
theorem nc2 : ((2 : Int32)).toNatClampNeg = 2 := rfl
theorem nc3 : ((3 : Int32)).toNatClampNeg = 3 := rfl
theorem px_noise (v : Nat) (σ : pv_S) {m : Nat} (hm : m < 24) : f_Vc_nextNoise v σ (pI m) = some (pE_z (σ.1 (28 + 6 * v + 3) m) >>> ((16 : Int32) &&& 31), pv_uI (pv_uI σ (28 + 6 * v + 3) m (pE_z (σ.1 (28 + 6 * v + 3) m))) (28 + 6 * v + 4) m (σ.1 (28 + 6 * v + 4) m)) := by
  have i24 : pv_in (pI m) 24 = true := (pI_in (by omega)).mpr hm
  have e : ∀ x, pv_uI (pv_uI σ (28 + 6 * v + 3) m x) (28 + 6 * v + 4) m (σ.1 (28 + 6 * v + 4) m) = pv_uI σ (28 + 6 * v + 3) m x := fun x => uIself _ _ _ (by rw [uI1n (by omega)])
  unfold f_Vc_nextNoise f_Vc_nextNoise_0 f_Vc_nextNoise_16 f_Vc_nextNoise_40 pE_z
  simp only [pI_nat (show m < 2147483648 by omega), if_pos i24, e, uI1c, if_true]
  by_cases h : σ.1 (28 + 6 * v + 3) m &&& 1 = 0
  · rw [if_pos h, if_pos h, Int32.xor_zero]
  · rw [if_neg h, if_neg h, if_neg (by decide)]
theorem px_turn (v : Nat) (σ : pv_S) {m : Nat} (hm : m < 24) (g : Int32) : f_Vc_turnStage v σ (pI m) (if g ≤ 0 then 0 else 1) = some (pv_uI σ (28 + 6 * v + 4) m (pE_s g (σ.1 (28 + 6 * v + 4) m))) := by
  have i24 : pv_in (pI m) 24 = true := (pI_in (by omega)).mpr hm
  unfold f_Vc_turnStage f_Vc_turnStage_0 f_Vc_turnStage_30 pE_s
  simp only [pI_nat (show m < 2147483648 by omega), if_pos i24]
  have es := uIself σ (28 + 6 * v + 4) m rfl
  by_cases hg : g ≤ 0
  · simp only [if_pos hg, if_true]
    by_cases h1 : σ.1 (28 + 6 * v + 4) m < 1
    · rw [if_pos h1, if_pos h1, es]
    · rw [if_neg h1, if_neg h1]
      by_cases h3 : 3 < σ.1 (28 + 6 * v + 4) m
      · rw [if_pos h3, if_pos h3, es]
      · rw [if_neg h3, if_neg h3]
  · simp only [if_neg hg, if_neg (show ¬ (1 : Int32) = 0 by decide)]
    by_cases h0 : σ.1 (28 + 6 * v + 4) m = 0
    · rw [if_pos h0, if_pos h0]
    · rw [if_neg h0, if_neg h0]
      by_cases h4 : σ.1 (28 + 6 * v + 4) m = 4
      · rw [if_pos h4, if_pos h4]
      · rw [if_neg h4, if_neg h4, es]
theorem px_levelAt (v : Nat) (σ : pv_S) {m : Nat} (hm : m < 24) (x : Int64) (aim : Int32) : f_Vc_levelAt v σ (pI m) x aim = some (x.toInt32, pv_uI (pv_uI σ (28 + 6 * v + 3) m x.toInt32) (28 + 6 * v + 4) m (if x.toInt32 = aim then (if σ.1 (28 + 6 * v + 4) m = 4 then 0 else σ.1 (28 + 6 * v + 4) m + 1) else σ.1 (28 + 6 * v + 4) m)) := by
  have i24 : pv_in (pI m) 24 = true := (pI_in (by omega)).mpr hm
  have e3 : ∀ y, (pv_uI σ (28 + 6 * v + 3) m y).1 (28 + 6 * v + 4) m = σ.1 (28 + 6 * v + 4) m := fun y => by rw [uI1n (by omega)]
  have e4 : ∀ y w, (pv_uI (pv_uI σ (28 + 6 * v + 3) m y) (28 + 6 * v + 4) m w).1 (28 + 6 * v + 3) m = y := fun y w => by rw [uI1n (by omega), uI1c, if_pos rfl]
  have e5 : ∀ y, (pv_uI σ (28 + 6 * v + 3) m y).1 (28 + 6 * v + 3) m = y := fun y => by rw [uI1c, if_pos rfl]
  unfold f_Vc_levelAt f_Vc_levelAt_0
  simp only [pI_nat (show m < 2147483648 by omega), if_pos i24, e3, e4, e5]
  by_cases h : x.toInt32 = aim
  · rw [if_pos h, if_pos h]
    by_cases h4 : σ.1 (28 + 6 * v + 4) m = 4
    · rw [if_pos h4, if_pos h4]
    · rw [if_neg h4, if_neg h4]
  · rw [if_neg h, if_neg h, uIself _ _ _ (e3 _)]
theorem px_level (v : Nat) (σ : pv_S) {m : Nat} (hm : m < 24) {a b c d μ ν : Int32} (ha : σ.1 (28 + 6 * v + 2) 0 = a) (hb : σ.1 (28 + 6 * v + 2) 1 = b) (hc : σ.1 (28 + 6 * v + 2) 2 = c) (hd : σ.1 (28 + 6 * v + 2) 3 = d) (hμ : σ.1 (28 + 6 * v + 3) m = μ) (hν : σ.1 (28 + 6 * v + 4) m = ν) : f_Vc_nextLevel v σ (pI m) = some ((pE_l (pE_s a ν) b c d μ).1, pv_uI (pv_uI σ (28 + 6 * v + 3) m (pE_l (pE_s a ν) b c d μ).1) (28 + 6 * v + 4) m (pE_l (pE_s a ν) b c d μ).2) := by
  have i24 : pv_in (pI m) 24 = true := (pI_in (by omega)).mpr hm
  have q3 : ∀ y, (pv_uI σ (28 + 6 * v + 4) m y).1 (28 + 6 * v + 3) m = μ := fun y => by rw [uI1n (by omega)]; exact hμ
  have q4 : ∀ y, (pv_uI σ (28 + 6 * v + 4) m y).1 (28 + 6 * v + 4) m = y := fun y => by rw [uI1c, if_pos rfl]
  have qi : ∀ y j, (pv_uI σ (28 + 6 * v + 4) m y).1 (28 + 6 * v + 2) j = σ.1 (28 + 6 * v + 2) j := fun y j => by rw [uI1n (by omega)]
  have over : ∀ y x w, pv_uI (pv_uI (pv_uI σ (28 + 6 * v + 4) m y) (28 + 6 * v + 3) m x) (28 + 6 * v + 4) m w = pv_uI (pv_uI σ (28 + 6 * v + 3) m x) (28 + 6 * v + 4) m w := fun y x w => by
    rw [uI_comm (c := 28 + 6 * v + 4) (c' := 28 + 6 * v + 3) (by omega), pp_uIuI]
  have top : f_Vc_nextLevel v σ (pI m) = f_Vc_nextLevel_16 v σ (pI m) (if a ≤ 0 then 0 else 1) (pI m) := by
    unfold f_Vc_nextLevel f_Vc_nextLevel_0
    rw [if_pos in4_0, nc0, ha]
    by_cases h : a ≤ 0
    · rw [if_pos h, if_pos h]
    · rw [if_neg h, if_neg h]
  rw [top]
  unfold f_Vc_nextLevel_16
  rw [px_turn v σ hm a, hν, Option.bind_some]
  generalize pE_s a ν = s
  simp only [pI_nat (show m < 2147483648 by omega), if_pos i24, q4, q3, if_pos in4_1, if_pos in4_2, if_pos in4_3, nc1, nc2, nc3, qi, hb, hc, hd, px_levelAt v _ hm, Option.bind_some, over]
  have bμ := t64b μ
  have tμ := t64 μ
  unfold pE_l
  by_cases s1 : s = 1
  · rw [if_pos s1, if_pos s1]
    have bb := pE_m0 b
    have eX : (μ.toInt64 + pE_m b).toInt = μ.toInt + (pE_m b).toInt := by rw [add64 (by omega) (by omega), tμ]
    have e65 : (65536 : Int64).toInt = 65536 := rfl
    show some ((if μ.toInt64 + pE_m b < 65536 then μ.toInt64 + pE_m b else 65536).toInt32, pv_uI (pv_uI σ (28 + 6 * v + 3) m (if μ.toInt64 + pE_m b < 65536 then μ.toInt64 + pE_m b else 65536).toInt32) (28 + 6 * v + 4) m (if (if μ.toInt64 + pE_m b < 65536 then μ.toInt64 + pE_m b else 65536).toInt32 = 65536 then (if s = 4 then 0 else s + 1) else s)) = _
    by_cases h : μ.toInt64 + pE_m b < 65536
    · simp only [if_pos h]
      have h' := Int64.lt_iff_toInt_lt.mp h
      have n : ¬ (μ.toInt64 + pE_m b).toInt32 = 65536 := fun z => by
        have := congrArg Int32.toInt z
        rw [to32 (by omega) (by omega)] at this
        have e : (65536 : Int32).toInt = 65536 := rfl
        omega
      rw [if_neg n, s1]
    · simp only [if_neg h]
      have e : (65536 : Int64).toInt32 = 65536 := rfl
      rw [e, if_pos rfl, if_neg (by rw [s1]; decide), s1]
      rfl
  · rw [if_neg s1, if_neg s1]
    by_cases s2 : s = 2
    · rw [if_pos s2, if_pos s2]
      have bb := pE_m0 c
      have eX : (μ.toInt64 - pE_m c).toInt = μ.toInt - (pE_m c).toInt := by rw [sub64 (by omega) (by omega), tμ]
      have e65 : (32768 : Int64).toInt = 32768 := rfl
      show some ((if μ.toInt64 - pE_m c < 32768 then 32768 else μ.toInt64 - pE_m c).toInt32, pv_uI (pv_uI σ (28 + 6 * v + 3) m (if μ.toInt64 - pE_m c < 32768 then 32768 else μ.toInt64 - pE_m c).toInt32) (28 + 6 * v + 4) m (if (if μ.toInt64 - pE_m c < 32768 then 32768 else μ.toInt64 - pE_m c).toInt32 = 32768 then (if s = 4 then 0 else s + 1) else s)) = _
      by_cases h : 32768 < μ.toInt64 - pE_m c
      · have h' := Int64.lt_iff_toInt_lt.mp h
        have n2 : ¬ μ.toInt64 - pE_m c < 32768 := fun z => by have := Int64.lt_iff_toInt_lt.mp z; omega
        simp only [if_pos h, if_neg n2]
        have n : ¬ (μ.toInt64 - pE_m c).toInt32 = 32768 := fun z => by
          have := congrArg Int32.toInt z
          rw [to32 (by omega) (by omega)] at this
          have e : (32768 : Int32).toInt = 32768 := rfl
          omega
        rw [if_neg n, s2]
      · simp only [if_neg h]
        have e : (if μ.toInt64 - pE_m c < 32768 then (32768 : Int64) else μ.toInt64 - pE_m c).toInt32 = 32768 := by
          by_cases h2 : μ.toInt64 - pE_m c < 32768
          · rw [if_pos h2]; rfl
          · rw [if_neg h2]
            have : μ.toInt64 - pE_m c = 32768 := Int64.le_antisymm (Int64.not_lt.mp h) (Int64.not_lt.mp h2)
            rw [this]
            rfl
        rw [e, if_pos rfl, if_neg (by rw [s2]; decide), s2]
        rfl
    · rw [if_neg s2, if_neg s2]
      by_cases s3 : s = 3
      · rw [if_pos s3, if_neg (by rw [s3]; decide)]
        show some (μ, pv_uI σ (28 + 6 * v + 4) m s) = some (μ, pv_uI (pv_uI σ (28 + 6 * v + 3) m μ) (28 + 6 * v + 4) m s)
        rw [uIself σ (28 + 6 * v + 3) m hμ]
      · rw [if_neg s3]
        by_cases s4 : s = 4
        · simp only [if_pos s4]
          have bb := pE_m0 d
          have eX : (μ.toInt64 - pE_m d).toInt = μ.toInt - (pE_m d).toInt := by rw [sub64 (by omega) (by omega), tμ]
          have e65 : (0 : Int64).toInt = 0 := rfl
          show some ((if μ.toInt64 - pE_m d < 0 then 0 else μ.toInt64 - pE_m d).toInt32, pv_uI (pv_uI σ (28 + 6 * v + 3) m (if μ.toInt64 - pE_m d < 0 then 0 else μ.toInt64 - pE_m d).toInt32) (28 + 6 * v + 4) m (if (if μ.toInt64 - pE_m d < 0 then 0 else μ.toInt64 - pE_m d).toInt32 = 0 then 0 else s)) = _
          by_cases h : 0 < μ.toInt64 - pE_m d
          · have h' := Int64.lt_iff_toInt_lt.mp h
            have n2 : ¬ μ.toInt64 - pE_m d < 0 := fun z => by have := Int64.lt_iff_toInt_lt.mp z; omega
            simp only [if_pos h, if_neg n2]
            have n : ¬ (μ.toInt64 - pE_m d).toInt32 = 0 := fun z => by
              have := congrArg Int32.toInt z
              rw [to32 (by omega) (by omega)] at this
              have e : (0 : Int32).toInt = 0 := rfl
              omega
            rw [if_neg n, s4]
          · simp only [if_neg h]
            have e : (if μ.toInt64 - pE_m d < 0 then (0 : Int64) else μ.toInt64 - pE_m d).toInt32 = 0 := by
              by_cases h2 : μ.toInt64 - pE_m d < 0
              · rw [if_pos h2]; rfl
              · rw [if_neg h2]
                have : μ.toInt64 - pE_m d = 0 := Int64.le_antisymm (Int64.not_lt.mp h) (Int64.not_lt.mp h2)
                rw [this]
                rfl
            rw [e, if_pos rfl]
        · rw [if_neg s4, if_neg s4]
          show some (μ, pv_uI σ (28 + 6 * v + 4) m s) = some (μ, pv_uI (pv_uI σ (28 + 6 * v + 3) m μ) (28 + 6 * v + 4) m s)
          rw [uIself σ (28 + 6 * v + 3) m hμ]
theorem px_low (v : Nat) (σ : pv_S) {m : Nat} (hm : m < 24) {a b c μ ν : Int32} (ha : σ.1 (28 + 6 * v + 2) 0 = a) (hb : σ.1 (28 + 6 * v + 2) 1 = b) (hc : σ.1 (28 + 6 * v + 2) 2 = c) (hμ : σ.1 (28 + 6 * v + 3) m = μ) (hν : σ.1 (28 + 6 * v + 4) m = ν) : f_Vc_nextLow v σ (pI m) = some (pE_c a b c μ ν, pv_uI (pv_uI σ (28 + 6 * v + 3) m (pE_c a b c μ ν)) (28 + 6 * v + 4) m (pE_b a b c μ ν)) := by
  have i24 : pv_in (pI m) 24 = true := (pI_in (by omega)).mpr hm
  unfold f_Vc_nextLow f_Vc_nextLow_0 f_Kd_scaled f_Kd_scaled_0
  simp only [pI_nat (show m < 2147483648 by omega), if_pos i24, if_pos in4_0, if_pos in4_1, if_pos in4_2, nc0, nc1, nc2, ha, hb, hc, hμ, hν, Option.bind_some, pn_stX]
  rfl
theorem px_held (v : Nat) (σ : pv_S) {m : Nat} (hm : m < 24) {a b μ ν : Int32} (ha : σ.1 (28 + 6 * v + 2) 0 = a) (hb : σ.1 (28 + 6 * v + 2) 1 = b) (hμ : σ.1 (28 + 6 * v + 3) m = μ) (hν : σ.1 (28 + 6 * v + 4) m = ν) : f_Vc_nextHeld v σ (pI m) = some (if 0 < b ∧ ν = 0 then a else μ, pv_uI (pv_uI σ (28 + 6 * v + 3) m (if 0 < b ∧ ν = 0 then a else μ)) (28 + 6 * v + 4) m (if b ≤ 0 then 0 else 1)) := by
  have i24 : pv_in (pI m) 24 = true := (pI_in (by omega)).mpr hm
  have es := uIself σ (28 + 6 * v + 3) m hμ
  have r1 : ∀ x, (pv_uI σ (28 + 6 * v + 4) m x).1 (28 + 6 * v + 3) m = μ := fun x => by rw [uI1n (by omega)]; exact hμ
  have r2 : ∀ x y, (pv_uI (pv_uI σ (28 + 6 * v + 3) m y) (28 + 6 * v + 4) m x).1 (28 + 6 * v + 3) m = y := fun x y => by rw [uI1n (by omega), uI1c, if_pos rfl]
  unfold f_Vc_nextHeld f_Vc_nextHeld_0 f_Vc_nextHeld_14 f_Vc_nextHeld_40
  simp only [pI_nat (show m < 2147483648 by omega), if_pos i24, if_pos in4_0, if_pos in4_1, nc0, nc1, ha, hb, hν, r1, r2]
  by_cases h : b ≤ 0
  · have h2 : ¬ (0 < b ∧ ν = 0) := fun z => absurd z.1 (Int32.not_lt.mpr h)
    simp only [if_pos h, if_true, if_neg h2, es]
  · have h3 : 0 < b := Int32.not_le.mp h
    simp only [if_neg h, if_neg (show ¬ (1 : Int32) = 0 by decide)]
    by_cases h0 : ν = 0
    · simp only [if_pos h0, if_pos (show 0 < b ∧ ν = 0 from ⟨h3, h0⟩)]
    · simp only [if_neg h0, if_neg (show ¬ (0 < b ∧ ν = 0) from fun z => h0 z.2), es]
theorem px_value (v : Nat) (σ : pv_S) {m k : Nat} (hm : m < 24) (hk : k < 20) (h18 : k ≠ 18) {a b c d μ ν : Int32} (ha : σ.1 (28 + 6 * v + 2) 0 = a) (hb : σ.1 (28 + 6 * v + 2) 1 = b) (hc : σ.1 (28 + 6 * v + 2) 2 = c) (hd : σ.1 (28 + 6 * v + 2) 3 = d) (hμ : σ.1 (28 + 6 * v + 3) m = μ) (hν : σ.1 (28 + 6 * v + 4) m = ν) (h7 : k = 7 → pv_in a 4 = true) : f_Vc_nextValue v σ (pI k) (pI m) = some ((pE k a b c d μ ν (σ.1 (28 + 6 * v) 7) (σ.1 (28 + 6 * v) 1) (σ.1 (28 + 6 * v) 8) (σ.1 26)).1, pv_uI (pv_uI σ (28 + 6 * v + 3) m (pE k a b c d μ ν (σ.1 (28 + 6 * v) 7) (σ.1 (28 + 6 * v) 1) (σ.1 (28 + 6 * v) 8) (σ.1 26)).2.1) (28 + 6 * v + 4) m (pE k a b c d μ ν (σ.1 (28 + 6 * v) 7) (σ.1 (28 + 6 * v) 1) (σ.1 (28 + 6 * v) 8) (σ.1 26)).2.2) := by
  have i24 : pv_in (pI m) 24 = true := (pI_in (by omega)).mpr hm
  have es : pv_uI (pv_uI σ (28 + 6 * v + 3) m μ) (28 + 6 * v + 4) m ν = σ := by
    rw [uIself σ (28 + 6 * v + 3) m hμ, uIself σ (28 + 6 * v + 4) m hν]
  have ew : ∀ x, pv_uI (pv_uI σ (28 + 6 * v + 3) m x) (28 + 6 * v + 4) m ν = pv_uI σ (28 + 6 * v + 3) m x := fun x => uIself _ _ _ (by rw [uI1n (by omega)]; exact hν)
  unfold f_Vc_nextValue f_Vc_nextValue_0
  simp only [neq_7 (show k < 2147483648 by omega), neq_8 (show k < 2147483648 by omega), neq_9 (show k < 2147483648 by omega), neq_10 (show k < 2147483648 by omega), neq_11 (show k < 2147483648 by omega), neq_12 (show k < 2147483648 by omega), neq_13 (show k < 2147483648 by omega), neq_14 (show k < 2147483648 by omega), neq_15 (show k < 2147483648 by omega), neq_16 (show k < 2147483648 by omega), neq_17 (show k < 2147483648 by omega), neq_18 (show k < 2147483648 by omega), neq_19 (show k < 2147483648 by omega), pI_nat (show m < 2147483648 by omega), if_pos i24, if_pos in4_0, if_pos in4_1, if_pos in4_2, nc0, nc1, nc2, ha, hb, hc, hμ, px_level v σ hm ha hb hc hd hμ hν, px_low v σ hm ha hb hc hμ hν, px_held v σ hm ha hb hμ hν, px_noise v σ hm, hν, uI1c, if_true, Option.bind_some, pn_X]
  unfold pE
  by_cases k7 : k = 7
  · simp only [if_pos k7, if_pos (h7 k7), es]
  simp only [if_neg k7]
  by_cases k8 : k = 8
  · simp only [if_pos k8, es]
  simp only [if_neg k8]
  by_cases k9 : k = 9
  · simp only [if_pos k9, es, ite_some]
  simp only [if_neg k9]
  by_cases k10 : k = 10
  · simp only [if_pos k10, es]
  simp only [if_neg k10]
  by_cases k11 : k = 11 ∨ k = 12 ∨ k = 13 ∨ k = 14
  · simp only [if_pos k11, pE_wX _ k11, Option.bind_some, ew]
    rcases k11 with h | h | h | h <;> simp [h]
  · simp only [if_neg k11, if_neg (show ¬ k = 11 by omega), if_neg (show ¬ k = 12 by omega), if_neg (show ¬ k = 13 by omega), if_neg (show ¬ k = 14 by omega)]
    by_cases k15 : k = 15
    · simp only [if_pos k15]
    simp only [if_neg k15]
    by_cases k16 : k = 16
    · simp only [if_pos k16]
    simp only [if_neg k16]
    by_cases k17 : k = 17
    · simp only [if_pos k17]
    simp only [if_neg k17, if_neg h18]
    by_cases k19 : k = 19
    · simp only [if_pos k19]
    simp only [if_neg k19, es]
