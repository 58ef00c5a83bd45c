/-! The patch taken over, in the reference. -/
theorem pq_take {σ : pv_S} {r : Nat} {nm : Nat → Int32} {kd cn : Nat → Nat} {cd nu : Nat → Int32} (h : pt_M σ r nm kd cn cd nu) (wf : pt_WF r kd cn cd nu) (hr : r ≤ 24) : ∃ τ, f_Md_take σ = some τ ∧ pq_FM σ τ ∧ pq_M τ r kd cn (pt_fr nm r cd) nu ∧ (∀ m, m < r → τ.1 14 m = pt_dl kd nu m) ∧ τ.1 0 28 = σ.1 0 28 := by
  obtain ⟨w1, w2, wf⟩ := wf
  have key := up_0 (N := r) (P := fun fu m => ∀ τ : pv_S, pq_FM σ τ → pt_M τ r nm kd cn cd nu → τ.1 0 18 = pI r → τ.1 0 28 = σ.1 0 28 → (∀ k, k < m → τ.1 9 k = pI (kd k) ∧ τ.1 10 k = pI (cn k) ∧ τ.1 14 k = pt_dl kd nu k) → (∀ i, i < 4 * m → τ.1 11 i = oI (pt_fr nm r cd i) ∧ τ.1 12 i = nu i) → ∃ τ', f_Md_take_12 fu τ (pt_dl kd nu m) (pI m) = some τ' ∧ pq_FM σ τ' ∧ pq_M τ' r kd cn (pt_fr nm r cd) nu ∧ (∀ m, m < r → τ'.1 14 m = pt_dl kd nu m) ∧ τ'.1 0 28 = σ.1 0 28) ?_ ?_ (i := 0) (by omega) (by omega)
  · unfold f_Md_take f_Md_take_0
    refine key _ ⟨fun c n => ?_, fun k n => ?_, rfl⟩ h ?_ ?_ (fun k hk => absurd hk (by omega)) (fun i hi => absurd hi (by omega))
    · funext j
      rw [uI1, if_neg (fun e => n (by rw [e.1]; exact Or.inl rfl))]
    · rw [uI1, if_neg (by omega)]
    · rw [uI1, if_pos ⟨rfl, rfl⟩]; exact h.1
    · rw [uI1, if_neg (by omega)]
  · intro fu τ f1 f2 f3 f4 f5 f6
    refine ⟨τ, ?_, f1, ⟨f3, fun m hm => ⟨(f5 m hm).1, (f5 m hm).2.1⟩, f6⟩, fun m hm => (f5 m hm).2.2, f4⟩
    show f_Md_take_12b _ _ _ _ = _
    unfold f_Md_take_12b
    rw [f3, if_pos ((pI_le (by omega) (by omega)).mpr (by omega))]
  · intro fu m hm ih τ f1 f2 f3 f4 f5 f6
    obtain ⟨k20, c4, wz, wc⟩ := wf m hm
    obtain ⟨e4, e5, e6⟩ := f2.2.1 m hm
    show ∃ τ', f_Md_take_12b _ _ _ _ = _ ∧ _
    unfold f_Md_take_12b
    have e6' : (pv_uI τ 9 m (pI (kd m))).1 6 m = pI (cn m) := e6
    rw [f3, if_neg (fun z => by have := (pI_le (by omega) (by omega)).mp z; omega), pI_nat (by omega), e5, e6', nmul_4, if_pos ((pI_in (by omega)).mpr (by omega)), if_pos ((pI_in (by omega)).mpr (by omega)), if_pos ((pI_in (by omega)).mpr (by omega)), if_pos ((pI_in (by omega)).mpr (by omega))]
    have key2 := up_0 (N := 4) (P := fun fu' j => ∀ τ : pv_S, pq_FM σ τ → pt_M τ r nm kd cn cd nu → τ.1 0 18 = pI r → τ.1 0 28 = σ.1 0 28 → (∀ k, k < m → τ.1 9 k = pI (kd k) ∧ τ.1 10 k = pI (cn k) ∧ τ.1 14 k = pt_dl kd nu k) → τ.1 9 m = pI (kd m) → τ.1 10 m = pI (cn m) → (∀ i, i < 4 * m + j → τ.1 11 i = oI (pt_fr nm r cd i) ∧ τ.1 12 i = nu i) → ∃ τ', f_Md_take_48 (f_Md_take_12 fu) fu' τ (pt_dl kd nu m) (pI m) (pI (4 * m + j)) = some τ' ∧ pq_FM σ τ' ∧ pq_M τ' r kd cn (pt_fr nm r cd) nu ∧ (∀ m, m < r → τ'.1 14 m = pt_dl kd nu m) ∧ τ'.1 0 28 = σ.1 0 28) ?_ ?_ (i := 0) (by omega) (by omega)
    · refine key2 _ (pq_FMu (pq_FMu f1 (by omega)) (by omega)) f2 f3 f4 (fun k hk => ?_) (by simp [uI1]) (by simp [uI1]) f6
      obtain ⟨g1, g2, g3⟩ := f5 k hk
      exact ⟨by simp [uI1, show k ≠ m by omega, g1], by simp [uI1, show k ≠ m by omega, g2], g3⟩
    · intro fu' τ f1 f2 f3 f4 f5 f7 f8 f6
      show ∃ τ', f_Md_take_48b _ _ _ _ _ _ = _ ∧ _
      unfold f_Md_take_48b f_Md_take_182
      have g9 : (pv_uI τ 14 m (pt_dl kd nu m)).1 9 m = pI (kd m) := f7
      have g12 : (pv_uI τ 14 m (pt_dl kd nu m)).1 12 (4 * m + 1) = nu (4 * m + 1) := (f6 (4 * m + 1) (by omega)).2
      rw [nmul_4, nadd_4, if_pos ((pI_le (by omega) (by omega)).mpr (by omega)), pI_nat (by omega), if_pos ((pI_in (by omega)).mpr (by omega)), if_pos ((pI_in (by omega)).mpr (by omega)), g9, nadd_1, nadd_1, if_pos ((pI_in (by omega)).mpr (by omega)), pI_nat (by omega), g12]
      have nx := ih (pv_uI τ 14 m (pt_dl kd nu m)) (pq_FMu f1 (by omega)) f2 f3 f4 (fun k hk => by
        by_cases e : k = m
        · subst e
          exact ⟨f7, f8, by simp [uI1]⟩
        · obtain ⟨g1, g2, g3⟩ := f5 k (by omega)
          exact ⟨g1, g2, by simp [uI1, e, g3]⟩) (fun i hi => f6 i (by omega))
      have : pt_dl kd nu (m + 1) = pt_dl kd nu m + (if kd m = 18 then nu (4 * m + 1) else 0) := rfl
      rw [this] at nx
      by_cases h18 : kd m = 18
      · rw [h18, if_pos (show pI 18 = (18 : Int32) from rfl)]
        rw [if_pos h18] at nx
        exact nx
      · rw [if_neg (show ¬ pI (kd m) = 18 from fun z => h18 ((neq_18 (by omega)).mp z))]
        rw [if_neg h18, Int32.add_zero] at nx
        exact nx
    · intro fu' j hj ih2 τ f1 f2 f3 f4 f5 f7 f8 f6
      obtain ⟨e4, e5, e6⟩ := f2.2.1 m hm
      show ∃ τ', f_Md_take_48b _ _ _ _ _ _ = _ ∧ _
      unfold f_Md_take_48b f_Md_take_76 f_Md_take_110 f_Md_take_111 f_Md_take_140 f_Md_take_141
      have step : ∀ (a b : Int32), a = oI (pt_fr nm r cd (4 * m + j)) → b = nu (4 * m + j) → ∃ τ', f_Md_take_48 (f_Md_take_12 fu) fu' (pv_uI (pv_uI τ 11 (4 * m + j) a) 12 (4 * m + j) b) (pt_dl kd nu m) (pI m) (pI (4 * m + j + 1)) = some τ' ∧ pq_FM σ τ' ∧ pq_M τ' r kd cn (pt_fr nm r cd) nu ∧ (∀ m, m < r → τ'.1 14 m = pt_dl kd nu m) ∧ τ'.1 0 28 = σ.1 0 28 := by
        intro a b ha hb
        refine ih2 _ (pq_FMu (pq_FMu f1 (by omega)) (by omega)) f2 f3 f4 f5 f7 f8 (fun i hi => ?_)
        by_cases e : i = 4 * m + j
        · subst e
          exact ⟨by simp [uI1, ha], by simp [uI1, hb]⟩
        · obtain ⟨g1, g2⟩ := f6 i (by omega)
          exact ⟨by simp [uI1, e, g1], by simp [uI1, e, g2]⟩
      rw [nmul_4, nadd_4, if_neg (fun z => by have := (pI_le (by omega) (by omega)).mp z; omega), if_pos ((pI_in (by omega)).mpr (by omega)), pI_nat (by omega), e6, pI_add, pI_nat (by omega), nadd_1]
      simp only [if_pos ((pI_in (show 4 * m + j < 2147483648 by omega)).mpr (show 4 * m + j < 96 by omega)), if_pos ((pI_in (show 4 * m + j < 2147483648 by omega)).mpr (show 4 * m + j < 160 by omega))]
      by_cases hc : j < cn m
      · obtain ⟨g7, g8⟩ := f2.2.2 m j hm hc
        have g7' : ∀ a, (pv_uI τ 11 (4 * m + j) a).1 7 (4 * m + j) = cd (4 * m + j) := fun a => g7
        have g8' : ∀ a, (pv_uI τ 11 (4 * m + j) a).1 8 (4 * m + j) = τ.1 8 (4 * m + j) := fun a => rfl
        rw [if_neg (fun z => by have := (pI_le (by omega) (by omega)).mp z; omega), if_neg (by decide), g7]
        simp only [g7', g8', if_neg (show ¬ (1 : Int32) = 0 by decide)]
        by_cases h0 : cd (4 * m + j) = 0
        · simp only [if_pos h0]
          exact step _ _ (by unfold pt_fr; rw [if_pos h0]; rfl) (g8 h0)
        · simp only [if_neg h0]
          rw [pt_moduleOf f2.1 w1 (by omega) (fun m hm2 => (f2.2.1 m hm2).1), Option.bind_some]
          simp only [g7', if_neg h0]
          exact step _ _ (by unfold pt_fr; rw [if_neg h0]) (wc j hc h0).symm
      · obtain ⟨z1, z2⟩ := wz j (by omega) hj
        rw [if_pos ((pI_le (by omega) (by omega)).mpr (by omega)), if_pos trivial, if_pos trivial]
        exact step _ _ (by unfold pt_fr; rw [if_pos z1]; rfl) z2.symm
