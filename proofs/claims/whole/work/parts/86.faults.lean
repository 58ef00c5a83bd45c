/-! Faults, on both sides. -/
def pt_inp (k : Nat) : Nat := (pv_INPUTS k).toNatClampNeg
theorem pt_INP : ∀ k, k < 20 → pv_INPUTS k = pI (pt_inp k) ∧ pt_inp k ≤ 4 := by
  have h : ∀ k : Fin 20, pv_INPUTS k.1 = pI (pt_inp k.1) ∧ pt_inp k.1 ≤ 4 := by decide +kernel
  exact fun k hk => h ⟨k, hk⟩
def pt_F3 (nm : Nat → Int32) (r m : Nat) : Bool := decide (¬ pI m ≤ oI (pt_mo nm r (nm m)))
def pt_F2 (nm : Nat → Int32) (r : Nat) (cn : Nat → Nat) (cd : Nat → Int32) (m : Nat) : Bool := pany (fun j => decide (cd (4 * m + j) ≠ 0) && (pt_mo nm r (cd (4 * m + j))).isNone) (cn m)
def pt_nin (cd nu : Nat → Int32) (i : Nat) (a b : Int32) : Bool := decide (cd i = 0) && (decide (¬ nu i < a) && decide (¬ b < nu i))
def pt_F4 (kd cn : Nat → Nat) (cd nu : Nat → Int32) (m : Nat) : Bool := decide (cn m ≠ pt_inp (kd m)) || ((decide (kd m = 18) && !pt_nin cd nu (4 * m + 1) 1 64) || (decide (kd m = 7) && !pt_nin cd nu (4 * m) 0 3))
def pt_dl (kd : Nat → Nat) (nu : Nat → Int32) : Nat → Int32
  | 0 => 0
  | k + 1 => pt_dl kd nu k + (if kd k = 18 then nu (4 * k + 1) else 0)
def pt_F5x (kd : Nat → Nat) (nu : Nat → Int32) (m : Nat) : Bool := decide (24 ≤ m) || decide (¬ pt_dl kd nu (m + 1) ≤ 128)
def pt_F5m (kd : Nat → Nat) (nu : Nat → Int32) (m : Nat) : Bool := decide (m = 24) || decide (¬ pt_dl kd nu (m + 1) ≤ 128)
theorem ite_b2i {c : Prop} [Decidable c] {σ : pv_S} : (if c then some ((0 : Int32), σ) else some ((1 : Int32), σ)) = some (b2i (decide (¬ c)), σ) := by
  by_cases h : c
  · rw [if_pos h, decide_eq_false (fun z => z h)]; rfl
  · rw [if_neg h, decide_eq_true h]; rfl
theorem ite_b2i' {c : Prop} [Decidable c] {σ : pv_S} : (if c then some ((1 : Int32), σ) else some ((0 : Int32), σ)) = some (b2i (decide c), σ) := by
  by_cases h : c
  · rw [if_pos h, decide_eq_true h]; rfl
  · rw [if_neg h, decide_eq_false h]; rfl
/-! the class -/
def pt_T (σ : pv_S) (r : Nat) (nm : Nat → Int32) (kd cn : Nat → Nat) (cd nu : Nat → Int32) : Prop := pt_X σ r nm kd cn cd nu ∧ (∀ i, i < 4 * r → σ.1 5 i = oI (pt_fr nm r cd i)) ∧ ∀ m s, m < r → s < r → bL (σ.2 10 m) s = pg_W (pt_E kd cn (pt_fr nm r cd)) r s m
theorem px_loose {σ : pv_S} {r : Nat} {nm : Nat → Int32} {kd cn : Nat → Nat} {cd nu : Nat → Int32} (h : pt_T σ r nm kd cn cd nu) (wf : pt_WF r kd cn cd nu) {m : Nat} (hm : m < r) : f_Pt_hasLooseCord σ (pI m) = some (b2i (pt_F2 nm r cn cd m), σ) := by
  obtain ⟨⟨h3, hx, hi⟩, hf, _⟩ := h
  obtain ⟨w1, w2, wf⟩ := wf
  obtain ⟨k20, c4, _, _⟩ := wf m hm
  obtain ⟨e7, e4, e8⟩ := hx m hm
  have key := up_0 (N := cn m) (P := fun fu j => pany (fun j => decide (cd (4 * m + j) ≠ 0) && (pt_mo nm r (cd (4 * m + j))).isNone) j = false → f_Pt_hasLooseCord_2 fu σ (pI m) (pI j) = some (b2i (pt_F2 nm r cn cd m), σ)) ?_ ?_ (i := 0) (by omega) (by omega)
  · exact key rfl
  · intro fu hp
    show f_Pt_hasLooseCord_2b _ _ _ _ = _
    unfold f_Pt_hasLooseCord_2b
    rw [pI_nat (by omega), e8, if_pos ((pI_in (by omega)).mpr (by omega)), if_pos ((pI_le (by omega) (by omega)).mpr (by omega))]
    unfold pt_F2
    rw [hp]
    rfl
  · intro fu j hj ih hp
    show f_Pt_hasLooseCord_2b _ _ _ _ = _
    unfold f_Pt_hasLooseCord_2b f_Pt_hasLooseCord_39
    have e9 := (hi (4 * m + j) (by omega)).1
    have e5 := hf (4 * m + j) (by omega)
    rw [pI_nat (by omega), nmul_4, pI_add, pI_nat (by omega), e8, e9, e5, nadd_1, if_pos ((pI_in (by omega)).mpr (by omega)), if_neg (fun z => by have := (pI_le (by omega) (by omega)).mp z; omega), if_pos ((pI_in (by omega)).mpr (by omega)), if_pos ((pI_in (by omega)).mpr (by omega))]
    have st : ∀ b, (decide (cd (4 * m + j) ≠ 0) && (pt_mo nm r (cd (4 * m + j))).isNone) = b → pany (fun j => decide (cd (4 * m + j) ≠ 0) && (pt_mo nm r (cd (4 * m + j))).isNone) (j + 1) = b := by
      intro b hb
      show (pany (fun j => decide (cd (4 * m + j) ≠ 0) && (pt_mo nm r (cd (4 * m + j))).isNone) j || (decide (cd (4 * m + j) ≠ 0) && (pt_mo nm r (cd (4 * m + j))).isNone)) = b
      rw [hp, hb]
      rfl
    by_cases h0 : cd (4 * m + j) = 0
    · rw [if_pos h0]
      exact ih (st false (by simp [h0]))
    · rw [if_neg h0]
      have ef : pt_fr nm r cd (4 * m + j) = pt_mo nm r (cd (4 * m + j)) := by unfold pt_fr; rw [if_neg h0]
      rw [ef]
      cases e : pt_mo nm r (cd (4 * m + j)) with
      | none =>
        rw [if_pos (show oI none = -1 from rfl)]
        have : pt_F2 nm r cn cd m = true := pany_true.mpr ⟨j, hj, by simp [h0, e]⟩
        rw [this]
        rfl
      | some k =>
        have := pt_mo_lt e
        rw [if_neg (show ¬ oI (some k) = -1 from fun z => (pI_neg (by omega)).mp z)]
        exact ih (st false (by simp [e]))
theorem px_within {σ : pv_S} {cd nu : Nat → Int32} {i : Nat} (hi : i < 152) (e9 : σ.1 9 i = cd i) (e6 : σ.1 6 i = nu i) (a b : Int32) : f_Pt_isNumberWithin σ (pI i) a b = some (b2i (pt_nin cd nu i a b), σ) := by
  unfold f_Pt_isNumberWithin f_Pt_isNumberWithin_0
  rw [pI_nat (by omega), e9, e6, if_pos ((pI_in (by omega)).mpr (by omega)), if_pos ((pI_in (by omega)).mpr (by omega)), if_pos ((pI_in (by omega)).mpr (by omega))]
  unfold pt_nin
  by_cases h0 : cd i = 0
  · rw [if_pos h0]
    by_cases h1 : nu i < a
    · rw [if_pos h1]; simp [h1, b2i]
    · rw [if_neg h1]
      by_cases h2 : b < nu i
      · rw [if_pos h2]; simp [h2, b2i]
      · rw [if_neg h2]; simp [h0, h1, h2, b2i]
  · rw [if_neg h0]; simp [h0, b2i]
theorem px_inputsOf (σ : pv_S) {k : Nat} (hk : k < 20) : f_Kd_inputsOf σ (pI k) = some (pI (pt_inp k), σ) := by
  unfold f_Kd_inputsOf f_Kd_inputsOf_0
  rw [if_pos ((pI_in (by omega)).mpr hk), pI_nat (by omega), (pt_INP k hk).1]
theorem px_wrong {σ : pv_S} {r : Nat} {nm : Nat → Int32} {kd cn : Nat → Nat} {cd nu : Nat → Int32} (h : pt_T σ r nm kd cn cd nu) (wf : pt_WF r kd cn cd nu) {m : Nat} (hm : m < r) : f_Pt_hasWrongInputs σ (pI m) = some (b2i (pt_F4 kd cn cd nu m), σ) := by
  obtain ⟨⟨h3, hx, hi⟩, hf, _⟩ := h
  obtain ⟨w1, w2, wf⟩ := wf
  obtain ⟨k20, c4, _, _⟩ := wf m hm
  obtain ⟨e7, e4, e8⟩ := hx m hm
  obtain ⟨p1, p2⟩ := pt_INP (kd m) k20
  unfold f_Pt_hasWrongInputs f_Pt_hasWrongInputs_0
  rw [pI_nat (by omega), e4, e8, if_pos ((pI_in (by omega)).mpr (by omega)), if_pos ((pI_in (by omega)).mpr (by omega)), px_inputsOf σ k20, Option.bind_some]
  simp only []
  rw [e4, nmul_4, nadd_1, if_pos ((pI_in (by omega)).mpr (by omega))]
  have i0 := hi (4 * m) (by omega)
  have i1 := hi (4 * m + 1) (by omega)
  rw [px_within (cd := cd) (nu := nu) (by omega) i0.1 i0.2, px_within (cd := cd) (nu := nu) (by omega) i1.1 i1.2]
  simp only [Option.bind_some, b2i_0]
  unfold pt_F4
  by_cases hc : cn m = pt_inp (kd m)
  · rw [if_pos (by rw [hc])]
    by_cases h7 : kd m = 7
    · rw [h7, if_pos (show pI 7 = (7 : Int32) from rfl)]
      rw [h7] at hc
      cases hn : pt_nin cd nu (4 * m) 0 3 <;> simp [hc, h7, b2i]
    · rw [if_neg (show ¬ pI (kd m) = 7 from fun z => h7 ((neq_7 (by omega)).mp z))]
      by_cases h18 : kd m = 18
      · rw [h18, if_pos (show pI 18 = (18 : Int32) from rfl)]
        rw [h18] at hc
        cases hn : pt_nin cd nu (4 * m + 1) 1 64 <;> simp [hc, h18, b2i]
      · rw [if_neg (show ¬ pI (kd m) = 18 from fun z => h18 ((neq_18 (by omega)).mp z))]
        simp [hc, h7, h18, b2i]
  · rw [if_neg (fun z => hc ((pI_eq (by omega) (by omega)).mp z))]
    simp [hc, b2i]
theorem px_delays {σ : pv_S} {r : Nat} {nm : Nat → Int32} {kd cn : Nat → Nat} {cd nu : Nat → Int32} (h : pt_T σ r nm kd cn cd nu) (wf : pt_WF r kd cn cd nu) {m : Nat} (hm : m < r) : f_Pt_delaysUpTo σ (pI m) = some (pt_dl kd nu (m + 1), σ) := by
  obtain ⟨⟨h3, hx, hi⟩, hf, _⟩ := h
  obtain ⟨w1, w2, wf⟩ := wf
  have key := up_0 (N := m + 1) (P := fun fu k => f_Pt_delaysUpTo_4 fu σ (pI m) (pt_dl kd nu k) (pI k) = some (pt_dl kd nu (m + 1), σ)) ?_ ?_ (i := 0) (by omega) (by omega)
  · exact key
  · intro fu
    show f_Pt_delaysUpTo_4b _ _ _ _ _ = _
    unfold f_Pt_delaysUpTo_4b
    rw [if_pos ((pI_lt (by omega) (by omega)).mpr (by omega))]
  · intro fu k hk ih
    obtain ⟨k20, c4, _, _⟩ := wf k (by omega)
    show f_Pt_delaysUpTo_4b _ _ _ _ _ = _
    unfold f_Pt_delaysUpTo_4b f_Pt_delaysUpTo_35
    rw [if_neg (fun z => by have := (pI_lt (by omega) (by omega)).mp z; omega), pI_nat (by omega), (hx k (by omega)).2.1, nmul_4, nadd_1, pI_nat (by omega), (hi (4 * k + 1) (by omega)).2, nadd_1, if_pos ((pI_in (by omega)).mpr (by omega)), if_pos ((pI_in (by omega)).mpr (by omega))]
    have : pt_dl kd nu (k + 1) = pt_dl kd nu k + (if kd k = 18 then nu (4 * k + 1) else 0) := rfl
    rw [this] at ih
    by_cases h18 : kd k = 18
    · rw [h18, if_pos (show pI 18 = (18 : Int32) from rfl)]
      rw [if_pos h18] at ih
      exact ih
    · rw [if_neg (show ¬ pI (kd k) = 18 from fun z => h18 ((neq_18 (by omega)).mp z))]
      rw [if_neg h18] at ih
      exact ih
theorem px_has {σ : pv_S} {r : Nat} {nm : Nat → Int32} {kd cn : Nat → Nat} {cd nu : Nat → Int32} (h : pt_T σ r nm kd cn cd nu) (wf : pt_WF r kd cn cd nu) {m : Nat} (hm : m < r) : f_Pt_has σ 3 (pI m) = some (b2i (pt_F3 nm r m), σ) ∧ f_Pt_has σ 2 (pI m) = some (b2i (pt_F2 nm r cn cd m), σ) ∧ f_Pt_has σ 4 (pI m) = some (b2i (pt_F4 kd cn cd nu m), σ) ∧ f_Pt_has σ 5 (pI m) = some (b2i (pt_F5x kd nu m), σ) ∧ f_Pt_has σ 1 (pI m) = some (b2i (pg_W (pt_E kd cn (pt_fr nm r cd)) r m m), σ) := by
  have w2 := wf.2.1
  refine ⟨?_, ?_, ?_, ?_, ?_⟩
  · unfold f_Pt_has f_Pt_has_0
    rw [if_neg (by decide), if_neg (by decide), if_pos rfl, pI_nat (by omega), (h.1.2.1 m hm).1, if_pos ((pI_in (by omega)).mpr (by omega)), pt_named h.1.1 (by omega) (fun m hm2 => (h.1.2.1 m hm2).1), Option.bind_some]
    exact ite_b2i
  · unfold f_Pt_has f_Pt_has_0
    rw [if_neg (by decide), if_pos rfl, px_loose h wf hm, Option.bind_some, if_pos (b2i_z _)]
  · unfold f_Pt_has f_Pt_has_0
    rw [if_neg (by decide), if_neg (by decide), if_neg (by decide), if_pos rfl, px_wrong h wf hm, Option.bind_some, if_pos (b2i_z _)]
  · unfold f_Pt_has f_Pt_has_0
    rw [if_neg (by decide), if_neg (by decide), if_neg (by decide), if_neg (by decide), if_pos rfl, px_delays h wf hm, Option.bind_some]
    unfold pt_F5x
    by_cases h24 : 24 ≤ m
    · rw [if_pos ((nle_24 (by omega)).mpr h24)]
      simp [h24, b2i]
    · rw [if_neg (fun z => h24 ((nle_24 (by omega)).mp z)), ite_b2i]
      simp [h24]
  · unfold f_Pt_has f_Pt_has_0
    rw [if_pos rfl, pt_behind (by omega) (by omega), h.2.2 m m hm hm, Option.bind_some, if_pos (b2i_z _)]
theorem px_least {σ : pv_S} {r : Nat} (h3 : σ.1 3 0 = pI r) (hr : r ≤ 37) {x : Int32} {F : Nat → Bool} (hF : ∀ m, m < r → f_Pt_has σ x (pI m) = some (b2i (F m), σ)) : f_Pt_leastWith σ x = some (oI (pfst F r), σ) := by
  have key := up_0 (N := r) (P := fun fu m => (∀ k, k < m → F k = false) → f_Pt_leastWith_2 fu σ x (pI m) = some (oI (pfst F r), σ)) ?_ ?_ (i := 0) (by omega) (by omega)
  · exact key (fun k hk => absurd hk (by omega))
  · intro fu hk
    show f_Pt_leastWith_2b _ _ _ _ = _
    unfold f_Pt_leastWith_2b
    rw [h3, if_pos ((pI_le (by omega) (by omega)).mpr (by omega)), pfst_none.mpr hk]
    rfl
  · intro fu m hm ih hk
    show f_Pt_leastWith_2b _ _ _ _ = _
    unfold f_Pt_leastWith_2b
    rw [h3, if_neg (fun z => by have := (pI_le (by omega) (by omega)).mp z; omega), hF m hm, Option.bind_some, nadd_1]
    simp only [b2i_0]
    cases e : F m with
    | false =>
      rw [if_pos rfl]
      exact ih (fun k hk2 => by
        by_cases hkm : k = m
        · subst hkm; exact e
        · exact hk k (by omega))
    | true =>
      rw [if_neg (by decide), pfst_some.mpr ⟨hm, e, hk⟩]
      rfl
/-! the reference -/
theorem pm_lacks {σ : pv_S} {r : Nat} {nm : Nat → Int32} {kd cn : Nat → Nat} {cd nu : Nat → Int32} (h : pt_M σ r nm kd cn cd nu) (wf : pt_WF r kd cn cd nu) {m : Nat} (hm : m < r) : f_Md_lacksName σ (pI m) = some (b2i (pt_F2 nm r cn cd m), σ) := by
  obtain ⟨h5, hx, hi⟩ := h
  obtain ⟨w1, w2, wf⟩ := wf
  obtain ⟨k20, c4, _, _⟩ := wf m hm
  obtain ⟨e4, e5, e6⟩ := hx m hm
  have key := up_0 (N := cn m) (P := fun fu j => f_Md_lacksName_6 fu σ (pI m) (b2i (pany (fun j => decide (cd (4 * m + j) ≠ 0) && (pt_mo nm r (cd (4 * m + j))).isNone) j)) (pI (4 * m + j)) = some (b2i (pt_F2 nm r cn cd m), σ)) ?_ ?_ (i := 0) (by omega) (by omega)
  · unfold f_Md_lacksName f_Md_lacksName_0
    rw [nmul_4]
    exact key
  · intro fu
    show f_Md_lacksName_6b _ _ _ _ _ = _
    unfold f_Md_lacksName_6b
    rw [pI_nat (by omega), e6, nmul_4, pI_add, if_pos ((pI_in (by omega)).mpr (by omega)), if_pos ((pI_le (by omega) (by omega)).mpr (by omega)), if_pos (b2i_z _)]
    rfl
  · intro fu j hj ih
    show f_Md_lacksName_6b _ _ _ _ _ = _
    unfold f_Md_lacksName_6b f_Md_lacksName_50 f_Md_lacksName_46 f_Md_lacksName_51
    rw [pI_nat (by omega), pI_nat (by omega), e6, nmul_4, pI_add, (hi m j hm hj).1, nadd_1, pt_moduleOf h5 w1 (by omega) (fun m hm2 => (hx m hm2).1), if_pos ((pI_in (by omega)).mpr (by omega)), if_neg (fun z => by have := (pI_le (by omega) (by omega)).mp z; omega), if_pos ((pI_in (by omega)).mpr (by omega)), if_pos ((pI_in (by omega)).mpr (by omega)), Option.bind_some]
    simp only [b2i_0]
    have e1 : pany (fun j => decide (cd (4 * m + j) ≠ 0) && (pt_mo nm r (cd (4 * m + j))).isNone) (j + 1) = (pany (fun j => decide (cd (4 * m + j) ≠ 0) && (pt_mo nm r (cd (4 * m + j))).isNone) j || (decide (cd (4 * m + j) ≠ 0) && (pt_mo nm r (cd (4 * m + j))).isNone)) := rfl
    rw [e1] at ih
    cases ep : pany (fun j => decide (cd (4 * m + j) ≠ 0) && (pt_mo nm r (cd (4 * m + j))).isNone) j with
    | true =>
      rw [if_neg (by decide)]
      rw [ep] at ih
      exact ih
    | false =>
      rw [if_pos rfl]
      rw [ep, Bool.false_or] at ih
      by_cases h0 : cd (4 * m + j) = 0
      · rw [if_pos h0]
        have : (decide (cd (4 * m + j) ≠ 0) && (pt_mo nm r (cd (4 * m + j))).isNone) = false := by simp [h0]
        rw [this] at ih
        exact ih
      · rw [if_neg h0]
        have lt : ∀ k, pt_mo nm r (cd (4 * m + j)) = some k → k < 2147483648 := fun k hk => by have := pt_mo_lt hk; omega
        by_cases e : pt_mo nm r (cd (4 * m + j)) = none
        · rw [if_neg (fun z => (oI_0le lt).mp z e)]
          have : (decide (cd (4 * m + j) ≠ 0) && (pt_mo nm r (cd (4 * m + j))).isNone) = true := by simp [h0, e]
          rw [this] at ih
          exact ih
        · rw [if_pos ((oI_0le lt).mpr e)]
          have : (decide (cd (4 * m + j) ≠ 0) && (pt_mo nm r (cd (4 * m + j))).isNone) = false := by
            cases e2 : pt_mo nm r (cd (4 * m + j)) with
            | none => exact absurd e2 e
            | some k => simp
          rw [this] at ih
          exact ih
