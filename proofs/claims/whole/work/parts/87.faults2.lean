/-! Faults, on both sides: the reference, and both. -/
theorem pt_inp18 : pt_inp 18 = 2 := by decide +kernel
theorem pt_inp7 : pt_inp 7 = 1 := by decide +kernel
theorem pm_misfit {σ : pv_S} {r : Nat} {nm : Nat → Int32} {kd cn : Nat → Nat} {cd nu : Nat → Int32} (h : pt_M σ r nm kd cn cd nu) (wf : pt_WF r kd cn cd nu) (hN : ∀ k, k < 20 → σ.1 3 k = pv_INPUTS k) {m : Nat} (hm : m < r) : f_Md_isMisfit σ (pI m) = some (b2i (pt_F4 kd cn cd nu m), σ) := by
  obtain ⟨h5, hx, hi⟩ := h
  obtain ⟨w1, w2, wf⟩ := wf
  obtain ⟨k20, c4, _, _⟩ := wf m hm
  obtain ⟨e4, e5, e6⟩ := hx m hm
  obtain ⟨p1, p2⟩ := pt_INP (kd m) k20
  unfold f_Md_isMisfit f_Md_isMisfit_0 f_Md_isMisfit_73 f_Md_isMisfit_77 f_Md_isMisfit_78
  have t1 : ¬ (1 : Int32) = 0 := by decide
  rw [pI_nat (by omega), e5, e6, pI_nat (by omega), hN (kd m) k20, p1, nmul_4, nadd_1, pI_nat (by omega), pI_nat (by omega)]
  simp only [if_pos ((pI_in (show m < 2147483648 by omega)).mpr (show m < 40 by omega)), if_pos ((pI_in (show kd m < 2147483648 by omega)).mpr k20), if_pos ((pI_in (show 4 * m < 2147483648 by omega)).mpr (show 4 * m < 160 by omega)), if_pos ((pI_in (show 4 * m + 1 < 2147483648 by omega)).mpr (show 4 * m + 1 < 160 by omega)), if_neg t1]
  unfold pt_F4
  by_cases hc : cn m = pt_inp (kd m)
  · rw [if_pos (by rw [hc])]
    by_cases h18 : kd m = 18
    · have h7 : ¬ kd m = 7 := by omega
      have c2 : cn m = 2 := by rw [hc, h18, pt_inp18]
      obtain ⟨j1, j2⟩ := hi m 1 hm (by omega)
      rw [if_pos (show pI (kd m) = 18 by rw [h18]; rfl), if_neg (show ¬ pI (kd m) = 7 from fun z => h7 ((neq_7 (by omega)).mp z)), j1]
      unfold pt_nin
      by_cases h0 : cd (4 * m + 1) = 0
      · rw [if_pos h0, j2 h0]
        by_cases h1 : nu (4 * m + 1) < 1
        · rw [if_pos h1]; simp [h1, hc, h18, b2i]
        · rw [if_neg h1]
          by_cases h2 : nu (4 * m + 1) ≤ 64
          · rw [if_pos h2]
            have h3 : ¬ 64 < nu (4 * m + 1) := Int32.not_lt.mpr h2
            rw [h18] at hc
            simp [h0, h1, h2, h3, hc, h18, b2i]
          · rw [if_neg h2]
            have h3 : 64 < nu (4 * m + 1) := Int32.not_le.mp h2
            simp [h0, h1, h2, h3, hc, h18, b2i]
      · rw [if_neg h0]; simp [h0, hc, h18, b2i]
    · rw [if_neg (show ¬ pI (kd m) = 18 from fun z => h18 ((neq_18 (by omega)).mp z))]
      by_cases h7 : kd m = 7
      · have c1 : cn m = 1 := by rw [hc, h7, pt_inp7]
        obtain ⟨j1, j2⟩ := hi m 0 hm (by omega)
        rw [Nat.add_zero] at j1 j2
        rw [if_pos trivial, if_pos (show pI (kd m) = 7 by rw [h7]; rfl), j1]
        unfold pt_nin
        by_cases h0 : cd (4 * m) = 0
        · rw [if_pos h0, j2 h0]
          by_cases h1 : nu (4 * m) < 0
          · rw [if_pos h1]; simp [h1, hc, h7, b2i]
          · rw [if_neg h1]
            by_cases h2 : nu (4 * m) ≤ 3
            · rw [if_pos h2]
              have h3 : ¬ 3 < nu (4 * m) := Int32.not_lt.mpr h2
              rw [h7] at hc
              simp [h0, h1, h2, h3, hc, h7, b2i]
            · rw [if_neg h2]
              have h3 : 3 < nu (4 * m) := Int32.not_le.mp h2
              simp [h0, h1, h2, h3, hc, h7, b2i]
        · rw [if_neg h0]; simp [h0, hc, h7, b2i]
      · rw [if_pos trivial, if_neg (show ¬ pI (kd m) = 7 from fun z => h7 ((neq_7 (by omega)).mp z))]
        simp [hc, h7, h18, b2i]
  · rw [if_neg (fun z => hc ((pI_eq (by omega) (by omega)).mp z))]
    simp [hc, b2i]
theorem pt_F4f {kd cn : Nat → Nat} {cd nu : Nat → Int32} {m : Nat} (h : pt_F4 kd cn cd nu m = false) : cn m = pt_inp (kd m) ∧ (kd m = 18 → cd (4 * m + 1) = 0 ∧ ¬ nu (4 * m + 1) < 1 ∧ ¬ 64 < nu (4 * m + 1)) ∧ (kd m = 7 → cd (4 * m) = 0 ∧ ¬ nu (4 * m) < 0 ∧ ¬ 3 < nu (4 * m)) := by
  unfold pt_F4 pt_nin at h
  simp only [Bool.or_eq_false_iff, Bool.and_eq_false_iff, decide_eq_false_iff_not, Classical.not_not, Bool.not_eq_false', Bool.and_eq_true, decide_eq_true_eq] at h
  obtain ⟨h1, h2, h3⟩ := h
  refine ⟨h1, fun e => ?_, fun e => ?_⟩
  · rcases h2 with h | h
    · exact absurd e h
    · exact h
  · rcases h3 with h | h
    · exact absurd e h
    · exact h
theorem pm_much {σ : pv_S} {r : Nat} {nm : Nat → Int32} {kd cn : Nat → Nat} {cd nu : Nat → Int32} (h : pt_M σ r nm kd cn cd nu) (wf : pt_WF r kd cn cd nu) (n4 : ∀ m, m < r → pt_F4 kd cn cd nu m = false) {m : Nat} (hm : m < r) : f_Md_isTooMuch σ (pI m) = some (b2i (pt_F5m kd nu m), σ) := by
  obtain ⟨h5, hx, hi⟩ := h
  obtain ⟨w1, w2, wf⟩ := wf
  have key := up_0 (N := m + 1) (P := fun fu k => f_Md_isTooMuch_4 fu σ (pI m) (pt_dl kd nu k) (pI k) = some (b2i (pt_F5m kd nu m), σ)) ?_ ?_ (i := 0) (by omega) (by omega)
  · exact key
  · intro fu
    show f_Md_isTooMuch_4b _ _ _ _ _ = _
    unfold f_Md_isTooMuch_4b pt_F5m
    rw [if_pos ((pI_lt (by omega) (by omega)).mpr (by omega))]
    by_cases h24 : m = 24
    · rw [if_pos ((neq_24 (by omega)).mpr h24)]
      simp [h24, b2i]
    · rw [if_neg (fun z => h24 ((neq_24 (by omega)).mp z)), ite_b2i]
      simp [h24]
  · intro fu k hk ih
    obtain ⟨k20, c4, _, _⟩ := wf k (by omega)
    show f_Md_isTooMuch_4b _ _ _ _ _ = _
    unfold f_Md_isTooMuch_4b f_Md_isTooMuch_36
    rw [if_neg (fun z => by have := (pI_lt (by omega) (by omega)).mp z; omega), pI_nat (by omega), (hx k (by omega)).2.1, nmul_4, nadd_1, pI_nat (by omega), nadd_1, if_pos ((pI_in (by omega)).mpr (by omega)), if_pos ((pI_in (by omega)).mpr (by omega))]
    have : pt_dl kd nu (k + 1) = pt_dl kd nu k + (if kd k = 18 then nu (4 * k + 1) else 0) := rfl
    rw [this] at ih
    by_cases h18 : kd k = 18
    · obtain ⟨f1, f2, _⟩ := pt_F4f (n4 k (by omega))
      have c2 : cn k = 2 := by rw [f1, h18, pt_inp18]
      rw [h18, if_pos (show pI 18 = (18 : Int32) from rfl), (hi k 1 (by omega) (by omega)).2 (f2 h18).1]
      rw [if_pos h18] at ih
      exact ih
    · rw [if_neg (show ¬ pI (kd k) = 18 from fun z => h18 ((neq_18 (by omega)).mp z))]
      rw [if_neg h18, Int32.add_zero] at ih
      exact ih
theorem pm_inner {σ : pv_S} {r : Nat} (h5 : σ.1 0 5 = pI r) (hr : r ≤ 37) {x y : Int32} {F : Nat → Bool} (hF : ∀ m, m < r → f_Md_has σ x (pI m) = some (b2i (F m), σ)) (k2 : pv_S → Int32 → Option (Int32 × pv_S)) : f_Md_faultOf_46 k2 pv_fu σ y x 0 = match pfst F r with | none => k2 σ (y + 1) | some m => some (x, pv_uI σ 0 15 (pI m)) := by
  have key := up_0 (N := r) (P := fun fu m => (∀ k, k < m → F k = false) → f_Md_faultOf_46 k2 fu σ y x (pI m) = match pfst F r with | none => k2 σ (y + 1) | some m => some (x, pv_uI σ 0 15 (pI m))) ?_ ?_ (i := 0) (by omega) (by omega)
  · exact key (fun k hk => absurd hk (by omega))
  · intro fu hk
    show f_Md_faultOf_46b _ _ _ _ _ _ = _
    unfold f_Md_faultOf_46b
    rw [h5, if_pos ((pI_le (by omega) (by omega)).mpr (by omega)), pfst_none.mpr hk]
  · intro fu m hm ih hk
    show f_Md_faultOf_46b _ _ _ _ _ _ = _
    unfold f_Md_faultOf_46b
    rw [h5, if_neg (fun z => by have := (pI_le (by omega) (by omega)).mp z; omega), hF m hm, Option.bind_some, nadd_1]
    simp only [b2i_0]
    cases e : F m with
    | false =>
      rw [if_pos rfl]
      exact ih (fun k hk2 => by
        by_cases hkm : k = m
        · subst hkm; exact e
        · exact hk k (by omega))
    | true => rw [if_neg (by decide), pfst_some.mpr ⟨hm, e, hk⟩]
theorem pt_5 {kd : Nat → Nat} {nu : Nat → Int32} {r : Nat} : pfst (pt_F5x kd nu) r = pfst (pt_F5m kd nu) r ∧ (pfst (pt_F5m kd nu) r = none → r ≤ 24) := by
  have t24 : pt_F5m kd nu 24 = true := by unfold pt_F5m; simp
  have same : ∀ i, i < 24 → pt_F5x kd nu i = pt_F5m kd nu i := by
    intro i hi
    unfold pt_F5x pt_F5m
    simp [show ¬ 24 ≤ i by omega, show ¬ i = 24 by omega]
  have up24 : ∀ i, 24 ≤ i → pt_F5x kd nu i = true := by
    intro i hi
    unfold pt_F5x
    simp [hi]
  have nn : pfst (pt_F5m kd nu) r = none → r ≤ 24 := by
    intro h
    refine Classical.byContradiction fun z => ?_
    have := pfst_none.mp h 24 (by omega)
    rw [t24] at this
    cases this
  refine ⟨?_, nn⟩
  cases e : pfst (pt_F5m kd nu) r with
  | none =>
    have := nn e
    exact pfst_none.mpr (fun i hi => by rw [same i (by omega)]; exact pfst_none.mp e i hi)
  | some k =>
    obtain ⟨k1, k2, k3⟩ := pfst_some.mp e
    have k24 : k ≤ 24 := by
      refine Classical.byContradiction fun z => ?_
      have := k3 24 (by omega)
      rw [t24] at this
      cases this
    refine pfst_some.mpr ⟨k1, ?_, fun i hi => by rw [same i (by omega)]; exact k3 i hi⟩
    by_cases h : k = 24
    · rw [h]; exact up24 24 (Nat.le_refl _)
    · rw [same k (by omega)]; exact k2
/-- no fault at all -/
def pt_ok (r : Nat) (nm : Nat → Int32) (kd cn : Nat → Nat) (cd nu : Nat → Int32) : Prop := r ≤ 24 ∧ (∀ m, m < r → pt_F2 nm r cn cd m = false) ∧ (∀ m, m < r → pt_F4 kd cn cd nu m = false) ∧ (∀ m, m < r → pt_F5m kd nu m = false) ∧ ∀ m, m < r → pg_W (pt_E kd cn (pt_fr nm r cd)) r m m = false
theorem pt_noloose {r : Nat} {nm : Nat → Int32} {cn : Nat → Nat} {cd : Nat → Int32} (h : ∀ m, m < r → pt_F2 nm r cn cd m = false) : ∀ m j, m < r → j < cn m → cd (4 * m + j) ≠ 0 → pt_mo nm r (cd (4 * m + j)) ≠ none := by
  intro m j hm hj h0 e
  have := pany_false.mp (h m hm) j hj
  simp [h0, e] at this
theorem pt_faults {σx σm : pv_S} {r : Nat} {nm : Nat → Int32} {kd cn : Nat → Nat} {cd nu : Nat → Int32} (hx : pt_T σx r nm kd cn cd nu) (hm : pt_M σm r nm kd cn cd nu) (wf : pt_WF r kd cn cd nu) (hN : ∀ k, k < 20 → σm.1 3 k = pv_INPUTS k) : (∃ f m, m < r ∧ ¬ f = 0 ∧ 0 < f ∧ f_Pt_firstFault σx = some (f, σx) ∧ f_Pt_leastWith σx f = some (pI m, σx) ∧ f_Md_faultOf σm = some (f, pv_uI σm 0 15 (pI m))) ∨ (f_Pt_firstFault σx = some (0, σx) ∧ f_Md_faultOf σm = some (0, σm) ∧ pt_ok r nm kd cn cd nu) := by
  have w1 := wf.1
  have w2 := wf.2.1
  have h3 := hx.1.1
  have h5 := hm.1
  have L3 := px_least h3 w2 (fun m h => (px_has hx wf h).1)
  have L2 := px_least h3 w2 (fun m h => (px_has hx wf h).2.1)
  have L4 := px_least h3 w2 (fun m h => (px_has hx wf h).2.2.1)
  have L5 := px_least h3 w2 (fun m h => (px_has hx wf h).2.2.2.1)
  have L1 := px_least h3 w2 (fun m h => (px_has hx wf h).2.2.2.2)
  rw [pt_5.1] at L5
  have M3 : ∀ m, m < r → f_Md_has σm 3 (pI m) = some (b2i (pt_F3 nm r m), σm) := by
    intro m h
    unfold f_Md_has f_Md_has_0
    rw [if_neg (by decide), if_pos rfl, pI_nat (by omega), (hm.2.1 m h).1, if_pos ((pI_in (by omega)).mpr (by omega)), pt_moduleOf h5 w1 (by omega) (fun m hm2 => (hm.2.1 m hm2).1), Option.bind_some]
    exact ite_b2i
  have M2 : ∀ m, m < r → f_Md_has σm 2 (pI m) = some (b2i (pt_F2 nm r cn cd m), σm) := by
    intro m h
    unfold f_Md_has f_Md_has_0
    rw [if_pos rfl, pm_lacks hm wf h, Option.bind_some, if_pos (b2i_z _)]
  have M4 : ∀ m, m < r → f_Md_has σm 4 (pI m) = some (b2i (pt_F4 kd cn cd nu m), σm) := by
    intro m h
    unfold f_Md_has f_Md_has_0
    rw [if_neg (by decide), if_neg (by decide), if_pos rfl, pm_misfit hm wf hN h, Option.bind_some, if_pos (b2i_z _)]
  have FX : ∀ (i : Nat) (fu : Nat), i < 5 → f_Pt_firstFault_2 (fu + 1) σx (pI i) = ((f_Pt_leastWith σx (pv_FAULTS_IN_TURN i)).bind fun q1 => (if q1.1 = (-1 : Int32) then f_Pt_firstFault_2 fu q1.2 (pI (i + 1)) else some (pv_FAULTS_IN_TURN i, q1.2))) := by
    intro i fu hi
    show f_Pt_firstFault_2b _ _ _ = _
    unfold f_Pt_firstFault_2b
    rw [if_neg (fun z => by rw [nle_5 (by omega)] at z; omega), if_pos ((pI_in (by omega)).mpr (by omega)), pI_nat (by omega), nadd_1]
    simp only [if_pos ((pI_in (show i < 2147483648 by omega)).mpr (show i < 5 by omega))]
  have FM : ∀ (fu : Nat), f_Md_faultOf_2 (fu + 1) σm (pI 0) = f_Md_faultOf_46 (f_Md_faultOf_2 fu) pv_fu σm (pI 0) 3 0 ∧ f_Md_faultOf_2 (fu + 1) σm (pI 1) = f_Md_faultOf_46 (f_Md_faultOf_2 fu) pv_fu σm (pI 1) 2 0 ∧ f_Md_faultOf_2 (fu + 1) σm (pI 2) = f_Md_faultOf_46 (f_Md_faultOf_2 fu) pv_fu σm (pI 2) 4 0 ∧ f_Md_faultOf_2 (fu + 1) σm (pI 3) = f_Md_faultOf_46 (f_Md_faultOf_2 fu) pv_fu σm (pI 3) 5 0 ∧ f_Md_faultOf_2 (fu + 1) σm (pI 4) = f_Md_faultOf_46 (f_Md_faultOf_2 fu) pv_fu σm (pI 4) 1 0 ∧ f_Md_faultOf_2 (fu + 1) σm (pI 5) = some (0, σm) := by
    intro fu
    refine ⟨?_, ?_, ?_, ?_, ?_, ?_⟩ <;> (show f_Md_faultOf_2b _ _ _ = _) <;> unfold f_Md_faultOf_2b f_Md_faultOf_43
    · rw [if_neg (by decide), if_pos (by decide)]
    · rw [if_neg (by decide), if_neg (by decide), if_pos (by decide)]
    · rw [if_neg (by decide), if_neg (by decide), if_neg (by decide), if_pos (by decide)]
    · rw [if_neg (by decide), if_neg (by decide), if_neg (by decide), if_neg (by decide), if_pos (by decide)]
    · rw [if_neg (by decide), if_neg (by decide), if_neg (by decide), if_neg (by decide), if_neg (by decide)]
    · rw [if_pos (by decide)]
  have lt : ∀ {F : Nat → Bool} {k : Nat}, pfst F r = some k → k < r := fun h => (pfst_some.mp h).1
  have fx0 : f_Pt_firstFault σx = f_Pt_firstFault_2 (995 + 1 + 1 + 1 + 1 + 1) σx (pI 0) := rfl
  have fm0 : f_Md_faultOf σm = f_Md_faultOf_2 (994 + 1 + 1 + 1 + 1 + 1 + 1) σm (pI 0) := rfl
  have nn : ∀ {k : Nat}, k < r → ¬ pI k = -1 := fun h z => (pI_neg (by omega)).mp z
  rw [fx0, fm0, FX 0 _ (by decide), show pv_FAULTS_IN_TURN 0 = 3 from rfl, L3, Option.bind_some, (FM _).1, pm_inner h5 w2 M3]
  cases e3 : pfst (fun m => pt_F3 nm r m) r with
  | some k =>
    rw [e3] at L3
    exact Or.inl ⟨3, k, lt e3, by decide, by decide, if_neg (nn (lt e3)), L3, rfl⟩
  | none =>
    simp only []
    rw [if_pos (show oI none = -1 from rfl), FX 1 _ (by decide), show pv_FAULTS_IN_TURN 1 = 2 from rfl, L2, Option.bind_some, nadd_1, (FM _).2.1, pm_inner h5 w2 M2]
    cases e2 : pfst (fun m => pt_F2 nm r cn cd m) r with
    | some k =>
      rw [e2] at L2
      exact Or.inl ⟨2, k, lt e2, by decide, by decide, if_neg (nn (lt e2)), L2, rfl⟩
    | none =>
      simp only []
      rw [if_pos (show oI none = -1 from rfl), FX 2 _ (by decide), show pv_FAULTS_IN_TURN 2 = 4 from rfl, L4, Option.bind_some, nadd_1, (FM _).2.2.1, pm_inner h5 w2 M4]
      cases e4 : pfst (fun m => pt_F4 kd cn cd nu m) r with
      | some k =>
        rw [e4] at L4
        exact Or.inl ⟨4, k, lt e4, by decide, by decide, if_neg (nn (lt e4)), L4, rfl⟩
      | none =>
        have n4 := pfst_none.mp e4
        have n2 := pfst_none.mp e2
        have M5 : ∀ m, m < r → f_Md_has σm 5 (pI m) = some (b2i (pt_F5m kd nu m), σm) := by
          intro m h
          unfold f_Md_has f_Md_has_0
          rw [if_neg (by decide), if_neg (by decide), if_neg (by decide), if_pos rfl, pm_much hm wf n4 h, Option.bind_some, if_pos (b2i_z _)]
        simp only []
        rw [if_pos (show oI none = -1 from rfl), FX 3 _ (by decide), show pv_FAULTS_IN_TURN 3 = 5 from rfl, L5, Option.bind_some, nadd_1, (FM _).2.2.2.1, pm_inner h5 w2 M5]
        cases e5 : pfst (fun m => pt_F5m kd nu m) r with
        | some k =>
          have e5' : pfst (pt_F5m kd nu) r = some k := e5
          rw [e5'] at L5
          exact Or.inl ⟨5, k, lt e5, by decide, by decide, if_neg (nn (lt e5)), L5, rfl⟩
        | none =>
          have e5' : pfst (pt_F5m kd nu) r = none := e5
          have r24 := (pt_5 (kd := kd) (nu := nu) (r := r)).2 e5'
          have M1 : ∀ m, m < r → f_Md_has σm 1 (pI m) = some (b2i (pg_W (pt_E kd cn (pt_fr nm r cd)) r m m), σm) := by
            intro m h
            unfold f_Md_has f_Md_has_0
            rw [if_neg (by decide), if_neg (by decide), if_neg (by decide), if_neg (by decide), pt_looped hm wf r24 (pt_noloose n2) h, Option.bind_some, if_pos (b2i_z _)]
          simp only []
          rw [if_pos (show oI none = -1 from rfl), FX 4 _ (by decide), show pv_FAULTS_IN_TURN 4 = 1 from rfl, L1, Option.bind_some, nadd_1, (FM _).2.2.2.2.1, pm_inner h5 w2 M1]
          cases e1 : pfst (fun m => pg_W (pt_E kd cn (pt_fr nm r cd)) r m m) r with
          | some k =>
            rw [e1] at L1
            exact Or.inl ⟨1, k, lt e1, by decide, by decide, if_neg (nn (lt e1)), L1, rfl⟩
          | none =>
            simp only []
            rw [if_pos (show oI none = -1 from rfl), nadd_1, (FM _).2.2.2.2.2]
            refine Or.inr ⟨?_, rfl, r24, n2, n4, pfst_none.mp e5, pfst_none.mp e1⟩
            show f_Pt_firstFault_2b _ _ _ = _
            unfold f_Pt_firstFault_2b
            rw [if_pos (by decide)]
