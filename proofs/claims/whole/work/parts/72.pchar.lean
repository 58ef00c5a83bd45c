/-! Characters, and the short words of both readers, evaluated. -/
theorem pc_be (o : Option (Int32 × pv_S)) : (o.bind fun q => some (q.1, q.2)) = o := by cases o <;> rfl
theorem pc_bz {o : Option (Int32 × pv_S)} {b : Int32} {σ : pv_S} (h : o = some (b, σ)) (hb : b = 0 ∨ b = 1) : (o.bind fun q => if pv_z q.1 = true then some (q.1, q.2) else none) = o := by
  subst h
  rcases hb with rfl | rfl <;> rfl
def pc_ne (c : Int32) : Prop := c ≠ 32 ∧ c ≠ 40 ∧ c ≠ 41 ∧ c ≠ 44 ∧ c ≠ 45 ∧ c ≠ 59 ∧ c ≠ 61
theorem pc_ne1 {k : Nat} (h : k < 2147483648) (h1 : k ≠ 32 ∧ k ≠ 40 ∧ k ≠ 41 ∧ k ≠ 44 ∧ k ≠ 45 ∧ k ≠ 59 ∧ k ≠ 61) : pc_ne (pI k) := by
  have e : ∀ n : Nat, n < 2147483648 → k ≠ n → pI k ≠ pI n := fun n hn hk z => hk ((pI_eq h hn).mp z)
  exact ⟨e 32 (by decide) h1.1, e 40 (by decide) h1.2.1, e 41 (by decide) h1.2.2.1, e 44 (by decide) h1.2.2.2.1, e 45 (by decide) h1.2.2.2.2.1, e 59 (by decide) h1.2.2.2.2.2.1, e 61 (by decide) h1.2.2.2.2.2.2⟩
theorem pc_let {k : Nat} (h1 : 97 ≤ k) (h2 : k ≤ 122) : (∀ σ, f_Rd_stateAfter σ (pI k) = f_Rd_stateAfterLetter σ (pI k)) ∧ (∀ σ, f_Md_isLetter σ (pI k) = some (1, σ)) ∧ (∀ σ, f_Md_isDigit σ (pI k) = some (0, σ)) ∧ pc_ne (pI k) := by
  have a : ¬ pI k < 97 := by rw [show (97 : Int32) = pI 97 from rfl, pI_lt (by omega) (by omega)]; omega
  have b : ¬ 122 < pI k := by rw [show (122 : Int32) = pI 122 from rfl, pI_lt (by omega) (by omega)]; omega
  have c : ¬ pI k < 48 := by rw [show (48 : Int32) = pI 48 from rfl, pI_lt (by omega) (by omega)]; omega
  have d : 57 < pI k := by rw [show (57 : Int32) = pI 57 from rfl, pI_lt (by omega) (by omega)]; omega
  refine ⟨fun σ => ?_, fun σ => ?_, fun σ => ?_, pc_ne1 (by omega) (by omega)⟩
  · unfold f_Rd_stateAfter f_Rd_stateAfter_0
    rw [if_neg a, if_neg b, pc_be]
  · unfold f_Md_isLetter f_Md_isLetter_0
    rw [if_neg a, if_neg b]
  · unfold f_Md_isDigit f_Md_isDigit_0
    rw [if_neg c, if_pos d]
theorem pc_dig {k : Nat} (h : k ≤ 9) : (∀ σ, f_Rd_stateAfter σ (pI (48 + k)) = f_Rd_stateAfterDigit σ (pI k)) ∧ (∀ σ, f_Md_isLetter σ (pI (48 + k)) = some (0, σ)) ∧ (∀ σ, f_Md_isDigit σ (pI (48 + k)) = some (1, σ)) ∧ pc_ne (pI (48 + k)) ∧ pI (48 + k) - 48 = pI k := by
  have a : pI (48 + k) < 97 := by rw [show (97 : Int32) = pI 97 from rfl, pI_lt (by omega) (by omega)]; omega
  have c : ¬ pI (48 + k) < 48 := by rw [show (48 : Int32) = pI 48 from rfl, pI_lt (by omega) (by omega)]; omega
  have d : ¬ 57 < pI (48 + k) := by rw [show (57 : Int32) = pI 57 from rfl, pI_lt (by omega) (by omega)]; omega
  have e : pI (48 + k) - 48 = pI k := by rw [show (48 : Int32) = pI 48 from rfl, pI_sub (by omega)]; congr 1; omega
  by_cases h11 : 48 + k = 59 ∨ 48 + k = 61
  · omega
  refine ⟨fun σ => ?_, fun σ => ?_, fun σ => ?_, pc_ne1 (by omega) (by omega), e⟩
  · unfold f_Rd_stateAfter f_Rd_stateAfter_0 f_Rd_stateAfter_18
    rw [if_pos a, if_neg c, if_neg d, e, pc_be]
  · unfold f_Md_isLetter f_Md_isLetter_0
    rw [if_pos a]
  · unfold f_Md_isDigit f_Md_isDigit_0
    rw [if_neg c, if_neg d]
theorem pc_8 (c : Int32) : c = 32 ∨ c = 40 ∨ c = 41 ∨ c = 44 ∨ c = 45 ∨ c = 59 ∨ c = 61 ∨ pc_ne c := by
  by_cases h1 : c = 32
  · exact Or.inl h1
  by_cases h2 : c = 40
  · exact Or.inr (Or.inl h2)
  by_cases h3 : c = 41
  · exact Or.inr (Or.inr (Or.inl h3))
  by_cases h4 : c = 44
  · exact Or.inr (Or.inr (Or.inr (Or.inl h4)))
  by_cases h5 : c = 45
  · exact Or.inr (Or.inr (Or.inr (Or.inr (Or.inl h5))))
  by_cases h6 : c = 59
  · exact Or.inr (Or.inr (Or.inr (Or.inr (Or.inr (Or.inl h6)))))
  by_cases h7 : c = 61
  · exact Or.inr (Or.inr (Or.inr (Or.inr (Or.inr (Or.inr (Or.inl h7))))))
  exact Or.inr (Or.inr (Or.inr (Or.inr (Or.inr (Or.inr (Or.inr ⟨h1, h2, h3, h4, h5, h6, h7⟩))))))
def pc_o (c : Int32) : Prop := (∀ σ, f_Rd_stateAfter σ c = f_Rd_stateAfter_39 σ c) ∧ (∀ σ, f_Md_isLetter σ c = some (0, σ)) ∧ (∀ σ, f_Md_isDigit σ c = some (0, σ))
theorem pc_cases (c : Int32) : (∃ k, 97 ≤ k ∧ k ≤ 122 ∧ c = pI k) ∨ (∃ k, k ≤ 9 ∧ c = pI (48 + k)) ∨ (pc_o c ∧ (c = 32 ∨ c = 40 ∨ c = 41 ∨ c = 44 ∨ c = 45 ∨ c = 59 ∨ c = 61 ∨ pc_ne c)) := by
  have big : ∀ {n : Nat}, n < 2147483648 → ¬ c < pI n → ∃ k, c = pI k ∧ n ≤ k ∧ k < 2147483648 := by
    intro n hn h
    have h0 : ¬ c < 0 := fun z => h (by
      rw [Int32.lt_iff_toInt_lt] at *
      rw [pI_toInt hn]
      have e0 : (0 : Int32).toInt = 0 := rfl
      omega)
    obtain ⟨e, l⟩ := pI_of h0
    refine ⟨_, e, ?_, l⟩
    rw [e, pI_lt l hn] at h
    omega
  by_cases a : c < 97
  · by_cases b : c < 48
    · refine Or.inr (Or.inr ⟨⟨fun σ => ?_, fun σ => ?_, fun σ => ?_⟩, ?_⟩)
      · unfold f_Rd_stateAfter f_Rd_stateAfter_0 f_Rd_stateAfter_18
        rw [if_pos a, if_pos b]
      · unfold f_Md_isLetter f_Md_isLetter_0
        rw [if_pos a]
      · unfold f_Md_isDigit f_Md_isDigit_0
        rw [if_pos b]
      · exact pc_8 _
    · by_cases d : 57 < c
      · refine Or.inr (Or.inr ⟨⟨fun σ => ?_, fun σ => ?_, fun σ => ?_⟩, ?_⟩)
        · unfold f_Rd_stateAfter f_Rd_stateAfter_0 f_Rd_stateAfter_18
          rw [if_pos a, if_neg b, if_pos d]
        · unfold f_Md_isLetter f_Md_isLetter_0
          rw [if_pos a]
        · unfold f_Md_isDigit f_Md_isDigit_0
          rw [if_neg b, if_pos d]
        · exact pc_8 _
      · obtain ⟨k, rfl, k1, k2⟩ := big (n := 48) (by decide) b
        rw [show (57 : Int32) = pI 57 from rfl, pI_lt (by omega) (by omega)] at d
        exact Or.inr (Or.inl ⟨k - 48, by omega, by congr 1; omega⟩)
  · by_cases d : 122 < c
    · obtain ⟨k, rfl, k1, k2⟩ := big (n := 97) (by decide) a
      have b : ¬ pI k < 48 := by rw [show (48 : Int32) = pI 48 from rfl, pI_lt (by omega) (by omega)]; omega
      have d2 : 57 < pI k := by rw [show (57 : Int32) = pI 57 from rfl, pI_lt (by omega) (by omega)]; omega
      refine Or.inr (Or.inr ⟨⟨fun σ => ?_, fun σ => ?_, fun σ => ?_⟩, ?_⟩)
      · unfold f_Rd_stateAfter f_Rd_stateAfter_0 f_Rd_stateAfter_18
        rw [if_neg a, if_pos d, if_neg b, if_pos d2]
      · unfold f_Md_isLetter f_Md_isLetter_0
        rw [if_neg a, if_pos d]
      · unfold f_Md_isDigit f_Md_isDigit_0
        rw [if_neg b, if_pos d2]
      · exact pc_8 _
    · obtain ⟨k, rfl, k1, k2⟩ := big (n := 97) (by decide) a
      rw [show (122 : Int32) = pI 122 from rfl, pI_lt (by omega) (by omega)] at d
      exact Or.inl ⟨k, k1, by omega, rfl⟩
/-! the class's patch -/
theorem pe_at {σ : pv_S} {r : Nat} (h : σ.1 3 0 = pI (r + 1)) : σ.1 3 0 - (1 : Int32) = pI r := by
  rw [h, l_1, pI_sub (by omega)]; rfl
theorem pe_name {σ : pv_S} {r : Nat} (h : σ.1 3 0 = pI (r + 1)) (hr : r ≤ 37) (x : Int32) : f_Pt_addToName σ x = some (pv_uI σ 7 r ((σ.1 7 r <<< ((8 : Int32) &&& 31)) ||| x)) := by
  unfold f_Pt_addToName f_Pt_addToName_0
  rw [pe_at h, if_pos ((pI_in (by omega)).mpr (by omega)), pI_nat (by omega)]
  show (if pv_in (pI r) 38 = true then _ else none) = _
  rw [if_pos ((pI_in (by omega)).mpr (by omega))]
theorem pe_setKind {σ : pv_S} {r : Nat} (h : σ.1 3 0 = pI (r + 1)) (hr : r ≤ 37) (x : Int32) : f_Pt_setKind σ x = some (pv_uI σ 4 r x) := by
  unfold f_Pt_setKind f_Pt_setKind_0
  rw [pe_at h, if_pos ((pI_in (by omega)).mpr (by omega)), pI_nat (by omega)]
theorem pe_room {σ : pv_S} {r c : Nat} (h : σ.1 3 0 = pI (r + 1)) (hr : r ≤ 37) (h8 : σ.1 8 r = pI c) (hc : c ≤ 4) : f_Pt_hasRoomForInput σ = some (if c < 4 then 1 else 0, σ) := by
  unfold f_Pt_hasRoomForInput f_Pt_hasRoomForInput_0
  rw [pe_at h, if_pos ((pI_in (by omega)).mpr (by omega)), pI_nat (by omega), h8, l_4]
  by_cases h4 : c < 4
  · rw [if_neg (by rw [pI_le (by omega) (by omega)]; omega), if_pos h4]
  · rw [if_pos (by rw [pI_le (by omega) (by omega)]; omega), if_neg h4]
theorem pe_addInput {σ : pv_S} {r c : Nat} (h : σ.1 3 0 = pI (r + 1)) (hr : r ≤ 37) (h8 : σ.1 8 r = pI c) : f_Pt_addInput σ = some (pv_uI σ 8 r (pI (c + 1))) := by
  unfold f_Pt_addInput f_Pt_addInput_0
  rw [pe_at h, if_pos ((pI_in (by omega)).mpr (by omega)), if_pos ((pI_in (by omega)).mpr (by omega)), pI_nat (by omega), h8, l_1, pI_add]
theorem pe_latest {σ : pv_S} {r c : Nat} (h : σ.1 3 0 = pI (r + 1)) (hr : r ≤ 37) (h8 : σ.1 8 r = pI (c + 1)) : f_Pt_latestInput σ = some (pI (4 * r + c), σ) := by
  unfold f_Pt_latestInput f_Pt_latestInput_0
  rw [pe_at h, if_pos ((pI_in (by omega)).mpr (by omega)), pI_nat (by omega), h8, l_4, l_1, pI_mul, pI_add, pI_sub (by omega)]
  rfl
theorem pe_addCord {σ : pv_S} {r c : Nat} (h : σ.1 3 0 = pI (r + 1)) (hr : r ≤ 37) (h8 : σ.1 8 r = pI (c + 1)) (hc : c ≤ 3) (x : Int32) : f_Pt_addToCord σ x = some (pv_uI σ 9 (4 * r + c) ((σ.1 9 (4 * r + c) <<< ((8 : Int32) &&& 31)) ||| x)) := by
  unfold f_Pt_addToCord f_Pt_addToCord_0
  rw [pe_latest h hr h8]
  show (if pv_in (pI (4 * r + c)) 152 = true then _ else none) = _
  rw [if_pos ((pI_in (by omega)).mpr (by omega)), pI_nat (by omega)]
  show (if pv_in (pI (4 * r + c)) 152 = true then _ else none) = _
  rw [if_pos ((pI_in (by omega)).mpr (by omega))]
theorem pe_addNum {σ : pv_S} {r c : Nat} (h : σ.1 3 0 = pI (r + 1)) (hr : r ≤ 37) (h8 : σ.1 8 r = pI (c + 1)) (hc : c ≤ 3) (x : Int32) : f_Pt_addToNumber σ x = some (pv_uI σ 6 (4 * r + c) (((10 : Int32) * σ.1 6 (4 * r + c)) + x)) := by
  unfold f_Pt_addToNumber f_Pt_addToNumber_0
  rw [pe_latest h hr h8]
  show (if pv_in (pI (4 * r + c)) 152 = true then _ else none) = _
  rw [if_pos ((pI_in (by omega)).mpr (by omega)), if_pos ((pI_in (by omega)).mpr (by omega)), pI_nat (by omega)]
/-! the reference's -/
theorem pm_endName {σ : pv_S} {r : Nat} (h : σ.1 0 5 = pI r) (hr : r ≤ 37) : f_Md_endName σ = some (pv_uI (pv_uI (pv_uI σ 4 r (σ.1 0 13)) 6 r 0) 0 11 2) := by
  unfold f_Md_endName f_Md_endName_0
  have e : ∀ x y, (pv_uI σ 4 x y).1 0 5 = pI r := fun _ _ => h
  rw [e, h, if_pos ((pI_in (by omega)).mpr (by omega)), if_pos ((pI_in (by omega)).mpr (by omega)), pI_nat (by omega)]
theorem pm_input {σ : pv_S} {r c : Nat} (h : σ.1 0 5 = pI r) (hr : r ≤ 37) (h6 : σ.1 6 r = pI c) (hc : c ≤ 3) (x y : Int32) : f_Md_input σ x y = some (pv_uI (pv_uI (pv_uI (pv_uI σ 7 (4 * r + c) x) 8 (4 * r + c) y) 6 r (pI (c + 1))) 0 11 8) := by
  unfold f_Md_input f_Md_input_0
  have e : ∀ a b a' b', (pv_uI (pv_uI σ 7 a b) 8 a' b').1 0 5 = pI r := fun _ _ _ _ => h
  have e6 : ∀ a b a' b', (pv_uI (pv_uI σ 7 a b) 8 a' b').1 6 r = pI c := fun _ _ _ _ => h6
  have ei : (4 : Int32) * pI r + pI c = pI (4 * r + c) := by rw [l_4, pI_mul, pI_add]
  simp only [e, h, pI_nat (show r < 2147483648 by omega), h6, e6, ei, pI_nat (show 4 * r + c < 2147483648 by omega)]
  rw [if_pos ((pI_in (by omega)).mpr (by omega)), if_pos ((pI_in (by omega)).mpr (by omega)), if_pos ((pI_in (by omega)).mpr (by omega)), if_pos ((pI_in (by omega)).mpr (by omega)), if_pos ((pI_in (by omega)).mpr (by omega)), l_1, pI_add]
