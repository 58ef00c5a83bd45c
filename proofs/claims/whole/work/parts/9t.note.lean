/-! A note is taken, on both sides. -/
theorem fill4 {v : Nat} (σ0 : pv_S) : pw (f_Fill_v4 v σ0 0) (fun a => (∀ c, c ≠ 28 + 6 * v + 4 → a.1 c = σ0.1 c) ∧ a.2 = σ0.2 ∧ ∀ k, k < 24 → a.1 (28 + 6 * v + 4) k = 0) := by
  unfold f_Fill_v4 f_Fill_v4_0
  have key := up_0 (N := 24) (P := fun fu i => ∀ σ : pv_S, (∀ c, c ≠ 28 + 6 * v + 4 → σ.1 c = σ0.1 c) → σ.2 = σ0.2 → (∀ k, k < i → σ.1 (28 + 6 * v + 4) k = 0) → pw (f_Fill_v4_5 v fu σ 0 (pI i) 24) (fun a => (∀ c, c ≠ 28 + 6 * v + 4 → a.1 c = σ0.1 c) ∧ a.2 = σ0.2 ∧ ∀ k, k < 24 → a.1 (28 + 6 * v + 4) k = 0)) (i := 0) ?_ ?_ (by omega) (by omega)
  · exact key σ0 (fun _ _ => rfl) rfl (fun k hk => absurd hk (by omega))
  · intro fu σ a1 a2 a3
    show pw (f_Fill_v4_5b _ _ _ _ _ _) _
    unfold f_Fill_v4_5b
    rw [l_24, if_pos ((pI_le (by omega) (by omega)).mpr (by omega))]
    exact pw_some.mpr ⟨a1, a2, a3⟩
  · intro fu i hi ih σ a1 a2 a3
    show pw (f_Fill_v4_5b _ _ _ _ _ _) _
    unfold f_Fill_v4_5b
    rw [if_neg (by rw [l_24, pI_le (by omega) (by omega)]; omega), if_pos ((pI_in (by omega)).mpr hi), pI_nat (by omega), nadd_1]
    refine ih _ (fun c hc => by rw [← a1 c hc]; funext j; rw [uI1n hc]) a2 (fun k hk => ?_)
    rw [uI1c]
    by_cases h : k = i
    · rw [if_pos h]
    · rw [if_neg h]; exact a3 k (by omega)
theorem fill5 {v : Nat} (σ0 : pv_S) : pw (f_Fill_v5 v σ0 0) (fun a => (∀ c, c ≠ 28 + 6 * v + 5 → a.1 c = σ0.1 c) ∧ a.2 = σ0.2 ∧ ∀ k, k < 128 → a.1 (28 + 6 * v + 5) k = 0) := by
  unfold f_Fill_v5 f_Fill_v5_0
  have key := up_0 (N := 128) (P := fun fu i => ∀ σ : pv_S, (∀ c, c ≠ 28 + 6 * v + 5 → σ.1 c = σ0.1 c) → σ.2 = σ0.2 → (∀ k, k < i → σ.1 (28 + 6 * v + 5) k = 0) → pw (f_Fill_v5_5 v fu σ 0 (pI i) 128) (fun a => (∀ c, c ≠ 28 + 6 * v + 5 → a.1 c = σ0.1 c) ∧ a.2 = σ0.2 ∧ ∀ k, k < 128 → a.1 (28 + 6 * v + 5) k = 0)) (i := 0) ?_ ?_ (by omega) (by omega)
  · exact key σ0 (fun _ _ => rfl) rfl (fun k hk => absurd hk (by omega))
  · intro fu σ a1 a2 a3
    show pw (f_Fill_v5_5b _ _ _ _ _ _) _
    unfold f_Fill_v5_5b
    rw [l_128, if_pos ((pI_le (by omega) (by omega)).mpr (by omega))]
    exact pw_some.mpr ⟨a1, a2, a3⟩
  · intro fu i hi ih σ a1 a2 a3
    show pw (f_Fill_v5_5b _ _ _ _ _ _) _
    unfold f_Fill_v5_5b
    rw [if_neg (by rw [l_128, pI_le (by omega) (by omega)]; omega), if_pos ((pI_in (by omega)).mpr hi), pI_nat (by omega), nadd_1]
    refine ih _ (fun c hc => by rw [← a1 c hc]; funext j; rw [uI1n hc]) a2 (fun k hk => ?_)
    rw [uI1c]
    by_cases h : k = i
    · rw [if_pos h]
    · rw [if_neg h]; exact a3 k (by omega)
theorem forgetX {v n : Nat} (σ0 : pv_S) (hn : n ≤ 24) (x12 : σ0.1 12 0 = pI n) : pw (f_Vc_forget v σ0) (fun a => (∀ c, ¬ (c = 28 + 6 * v + 3 ∨ c = 28 + 6 * v + 4 ∨ c = 28 + 6 * v + 5) → a.1 c = σ0.1 c) ∧ a.2 = σ0.2 ∧ (∀ m, m < n → a.1 (28 + 6 * v + 3) m = if σ0.1 13 m = 15 then 1 else 0) ∧ (∀ k, k < 24 → a.1 (28 + 6 * v + 4) k = 0) ∧ ∀ k, k < 128 → a.1 (28 + 6 * v + 5) k = 0) := by
  unfold f_Vc_forget f_Vc_forget_0
  have key := up_0 (N := n) (P := fun fu i => ∀ σ : pv_S, (∀ c, c ≠ 28 + 6 * v + 3 → σ.1 c = σ0.1 c) → σ.2 = σ0.2 → (∀ m, m < i → σ.1 (28 + 6 * v + 3) m = if σ0.1 13 m = 15 then 1 else 0) → pw (f_Vc_forget_2 v fu σ (pI i)) (fun a => (∀ c, ¬ (c = 28 + 6 * v + 3 ∨ c = 28 + 6 * v + 4 ∨ c = 28 + 6 * v + 5) → a.1 c = σ0.1 c) ∧ a.2 = σ0.2 ∧ (∀ m, m < n → a.1 (28 + 6 * v + 3) m = if σ0.1 13 m = 15 then 1 else 0) ∧ (∀ k, k < 24 → a.1 (28 + 6 * v + 4) k = 0) ∧ ∀ k, k < 128 → a.1 (28 + 6 * v + 5) k = 0)) (i := 0) ?_ ?_ (by omega) (by omega)
  · exact key σ0 (fun _ _ => rfl) rfl (fun k hk => absurd hk (by omega))
  · intro fu σ a1 a2 a3
    show pw (f_Vc_forget_2b _ _ _ _) _
    unfold f_Vc_forget_2b
    rw [a1 12 (by omega), x12, if_pos ((pI_le (by omega) (by omega)).mpr (by omega))]
    obtain ⟨q, e1, b1, b2, b3⟩ := fill4 (v := v) σ
    rw [e1, Option.bind_some]
    obtain ⟨r, e2, c1, c2, c3⟩ := fill5 (v := v) q
    rw [e2, Option.bind_some]
    refine pw_some.mpr ⟨fun c hc => ?_, by rw [c2, b2, a2], fun m hm => ?_, fun k hk => ?_, c3⟩
    · rw [c1 c (by omega), b1 c (by omega), a1 c (by omega)]
    · rw [c1 _ (by omega), b1 _ (by omega)]; exact a3 m hm
    · rw [c1 _ (by omega)]; exact b3 k hk
  · intro fu i hi ih σ a1 a2 a3
    have i24 : pv_in (pI i) 24 = true := (pI_in (by omega)).mpr (by omega)
    show pw (f_Vc_forget_2b _ _ _ _) _
    unfold f_Vc_forget_2b f_Vc_forget_31
    rw [a1 12 (by omega), x12, if_neg (by rw [pI_le (by omega) (by omega)]; omega), a1 13 (by omega), pI_nat (by omega), nadd_1]
    simp only [if_pos i24]
    have go : ∀ z : Int32, z = (if σ0.1 13 i = 15 then 1 else 0) → pw (f_Vc_forget_2 v fu (pv_uI σ (28 + 6 * v + 3) i z) (pI (i + 1))) (fun a => (∀ c, ¬ (c = 28 + 6 * v + 3 ∨ c = 28 + 6 * v + 4 ∨ c = 28 + 6 * v + 5) → a.1 c = σ0.1 c) ∧ a.2 = σ0.2 ∧ (∀ m, m < n → a.1 (28 + 6 * v + 3) m = if σ0.1 13 m = 15 then 1 else 0) ∧ (∀ k, k < 24 → a.1 (28 + 6 * v + 4) k = 0) ∧ ∀ k, k < 128 → a.1 (28 + 6 * v + 5) k = 0) := by
      intro z hz
      refine ih _ (fun c hc => by rw [← a1 c hc]; funext j; rw [uI1n hc]) a2 (fun k hk => ?_)
      rw [uI1c]
      by_cases h : k = i
      · rw [if_pos h, h]; exact hz
      · rw [if_neg h]; exact a3 k (by omega)
    by_cases h : σ0.1 13 i = 15
    · rw [if_pos h]; exact go 1 (by rw [if_pos h])
    · rw [if_neg h]; exact go 0 (by rw [if_neg h])
/-- what the reference forgets -/
theorem forgetM {w n : Nat} (hw : w < 4) (σ0 : pv_S) (hn : n ≤ 24) (m18 : σ0.1 0 16 ≠ 0 → σ0.1 0 18 = pI n) : pw (f_Md_note_106 pv_fu σ0 (pI w) 0) (fun a => a.1 = pI w ∧ (∀ c, ¬ (c = 31 ∨ c = 32 ∨ c = 34) → a.2.1 c = σ0.1 c) ∧ a.2.2 = σ0.2 ∧ (∀ c j, c = 31 ∨ c = 32 → ¬ (24 * w ≤ j ∧ j < 24 * w + 24) → a.2.1 c j = σ0.1 c j) ∧ (∀ j, ¬ (128 * w ≤ j ∧ j < 128 * w + 128) → a.2.1 34 j = σ0.1 34 j) ∧ (σ0.1 0 16 ≠ 0 → ∀ m, m < n → a.2.1 31 (24 * w + m) = if σ0.1 9 m = 15 then 1 else 0) ∧ (∀ m, m < 24 → a.2.1 32 (24 * w + m) = 0) ∧ ∀ i, i < 128 → a.2.1 34 (128 * w + i) = 0) := by
  -- the lines
  have lines : ∀ σ1 : pv_S, pw (f_Md_note_180 pv_fu σ1 (pI w) 0) (fun a => a.1 = pI w ∧ (∀ c, c ≠ 34 → a.2.1 c = σ1.1 c) ∧ a.2.2 = σ1.2 ∧ (∀ j, ¬ (128 * w ≤ j ∧ j < 128 * w + 128) → a.2.1 34 j = σ1.1 34 j) ∧ ∀ i, i < 128 → a.2.1 34 (128 * w + i) = 0) := by
    intro σ1
    have key := up_0 (N := 128) (P := fun fu i => ∀ σ : pv_S, (∀ c, c ≠ 34 → σ.1 c = σ1.1 c) → σ.2 = σ1.2 → (∀ j, ¬ (128 * w ≤ j ∧ j < 128 * w + 128) → σ.1 34 j = σ1.1 34 j) → (∀ k, k < i → σ.1 34 (128 * w + k) = 0) → pw (f_Md_note_180 fu σ (pI w) (pI i)) (fun a => a.1 = pI w ∧ (∀ c, c ≠ 34 → a.2.1 c = σ1.1 c) ∧ a.2.2 = σ1.2 ∧ (∀ j, ¬ (128 * w ≤ j ∧ j < 128 * w + 128) → a.2.1 34 j = σ1.1 34 j) ∧ ∀ i, i < 128 → a.2.1 34 (128 * w + i) = 0)) (i := 0) ?_ ?_ (by omega) (by omega)
    · exact key σ1 (fun _ _ => rfl) rfl (fun _ _ => rfl) (fun k hk => absurd hk (by omega))
    · intro fu σ a1 a2 a3 a4
      show pw (f_Md_note_180b _ _ _ _) _
      unfold f_Md_note_180b
      rw [l_128, if_pos ((pI_le (by omega) (by omega)).mpr (by omega))]
      exact pw_some.mpr ⟨rfl, a1, a2, a3, a4⟩
    · intro fu i hi ih σ a1 a2 a3 a4
      show pw (f_Md_note_180b _ _ _ _) _
      unfold f_Md_note_180b
      have e : (128 : Int32) * pI w + pI i = pI (128 * w + i) := by rw [l_128, pI_mul, pI_add]
      rw [e, if_neg (by rw [l_128, pI_le (by omega) (by omega)]; omega), if_pos ((pI_in (by omega)).mpr (by omega)), pI_nat (by omega), nadd_1]
      refine ih _ (fun c hc => by rw [← a1 c hc]; funext j; rw [uI1n hc]) a2 (fun j hj => ?_) (fun k hk => ?_)
      · rw [uI1c, if_neg (by omega)]; exact a3 j hj
      · rw [uI1c]
        by_cases h : k = i
        · rw [if_pos (by omega)]
        · rw [if_neg (by omega)]; exact a4 k (by omega)
  have key := up_0 (N := 24) (P := fun fu i => ∀ σ : pv_S, (∀ c, c ≠ 31 → c ≠ 32 → σ.1 c = σ0.1 c) → σ.2 = σ0.2 → (∀ c j, c = 31 ∨ c = 32 → ¬ (24 * w ≤ j ∧ j < 24 * w + 24) → σ.1 c j = σ0.1 c j) → (σ0.1 0 16 ≠ 0 → ∀ m, m < n → m < i → σ.1 31 (24 * w + m) = if σ0.1 9 m = 15 then 1 else 0) → (∀ m, m < i → σ.1 32 (24 * w + m) = 0) → pw (f_Md_note_106 fu σ (pI w) (pI i)) (fun a => a.1 = pI w ∧ (∀ c, ¬ (c = 31 ∨ c = 32 ∨ c = 34) → a.2.1 c = σ0.1 c) ∧ a.2.2 = σ0.2 ∧ (∀ c j, c = 31 ∨ c = 32 → ¬ (24 * w ≤ j ∧ j < 24 * w + 24) → a.2.1 c j = σ0.1 c j) ∧ (∀ j, ¬ (128 * w ≤ j ∧ j < 128 * w + 128) → a.2.1 34 j = σ0.1 34 j) ∧ (σ0.1 0 16 ≠ 0 → ∀ m, m < n → a.2.1 31 (24 * w + m) = if σ0.1 9 m = 15 then 1 else 0) ∧ (∀ m, m < 24 → a.2.1 32 (24 * w + m) = 0) ∧ ∀ i, i < 128 → a.2.1 34 (128 * w + i) = 0)) (i := 0) ?_ ?_ (by omega) (by omega)
  · exact key σ0 (fun _ _ _ => rfl) rfl (fun _ _ _ _ => rfl) (fun _ m _ h => absurd h (by omega)) (fun m h => absurd h (by omega))
  · intro fu σ a1 a2 a3 a4 a5
    show pw (f_Md_note_106b _ _ _ _) _
    unfold f_Md_note_106b
    rw [if_pos (by rw [l_24]; exact (pI_le (by omega) (by omega)).mpr (by omega))]
    refine pw_mono (lines σ) ?_
    intro a ⟨b1, b2, b3, b4, b5⟩
    refine ⟨b1, fun c hc => ?_, by rw [b3, a2], fun c j hc hj => ?_, fun j hj => ?_, fun h m hm => ?_, fun m hm => ?_, b5⟩
    · rw [b2 c (by omega), a1 c (by omega) (by omega)]
    · rw [b2 c (by omega)]; exact a3 c j hc hj
    · rw [b4 j hj, a1 34 (by decide) (by decide)]
    · rw [b2 31 (by decide)]; exact a4 h m hm (by omega)
    · rw [b2 32 (by decide)]; exact a5 m hm
  · intro fu i hi ih σ a1 a2 a3 a4 a5
    have e24 : (24 : Int32) * pI w + pI i = pI (24 * w + i) := by rw [nmul_24, pI_add]
    have i96 : pv_in (pI (24 * w + i)) 96 = true := (pI_in (by omega)).mpr (by omega)
    have i24 : pv_in (pI i) 24 = true := (pI_in (by omega)).mpr hi
    have go : ∀ z : Int32, (σ0.1 0 16 ≠ 0 → i < n → z = (if σ0.1 9 i = 15 then 1 else 0)) → pw (f_Md_note_106 fu (pv_uI (pv_uI σ 31 (24 * w + i) z) 32 (24 * w + i) 0) (pI w) (pI (i + 1))) (fun a => a.1 = pI w ∧ (∀ c, ¬ (c = 31 ∨ c = 32 ∨ c = 34) → a.2.1 c = σ0.1 c) ∧ a.2.2 = σ0.2 ∧ (∀ c j, c = 31 ∨ c = 32 → ¬ (24 * w ≤ j ∧ j < 24 * w + 24) → a.2.1 c j = σ0.1 c j) ∧ (∀ j, ¬ (128 * w ≤ j ∧ j < 128 * w + 128) → a.2.1 34 j = σ0.1 34 j) ∧ (σ0.1 0 16 ≠ 0 → ∀ m, m < n → a.2.1 31 (24 * w + m) = if σ0.1 9 m = 15 then 1 else 0) ∧ (∀ m, m < 24 → a.2.1 32 (24 * w + m) = 0) ∧ ∀ i, i < 128 → a.2.1 34 (128 * w + i) = 0) := by
      intro z hz
      refine ih _ (fun c h1 h2 => by rw [← a1 c h1 h2]; funext j; rw [uI1n h2, uI1n h1]) a2 (fun c j hc hj => ?_) (fun h m hm hi' => ?_) (fun m hm => ?_)
      · rw [uI1, if_neg (by omega), uI1, if_neg (by omega)]; exact a3 c j hc hj
      · rw [uI1n (by decide), uI1c]
        by_cases e : m = i
        · rw [if_pos (by omega), hz h (by omega), e]
        · rw [if_neg (by omega)]; exact a4 h m hm (by omega)
      · rw [uI1c]
        by_cases e : m = i
        · rw [if_pos (by omega)]
        · rw [if_neg (by omega), uI1n (by decide)]; exact a5 m (by omega)
    have e157 : ∀ z, f_Md_note_157 (f_Md_note_106 fu) σ (pI w) (pI i) z (pI (24 * w + i)) = f_Md_note_106 fu (pv_uI (pv_uI σ 31 (24 * w + i) z) 32 (24 * w + i) 0) (pI w) (pI (i + 1)) := by
      intro z
      unfold f_Md_note_157
      rw [e24, if_pos i96, if_pos i96, pI_nat (by omega), nadd_1]
    show pw (f_Md_note_106b _ _ _ _) _
    unfold f_Md_note_106b f_Md_note_156
    rw [e24, e157, e157, if_neg (by rw [l_24, pI_le (by omega) (by omega)]; omega), a1 0 (by decide) (by decide), a1 9 (by decide) (by decide)]
    by_cases h16 : σ0.1 0 16 = 0
    · rw [if_pos h16]; exact go 0 (fun h => absurd h16 h)
    · rw [if_neg h16, m18 h16]
      by_cases hni : n ≤ i
      · rw [if_pos ((pI_le (by omega) (by omega)).mpr hni)]; exact go 0 (fun _ h => absurd h (by omega))
      · rw [if_neg (by rw [pI_le (by omega) (by omega)]; exact hni), if_pos i24, pI_nat (by omega)]
        by_cases h15 : σ0.1 9 i = 15
        · rw [if_pos h15]; exact go 1 (fun _ _ => by rw [if_pos h15])
        · rw [if_neg h15]; exact go 0 (fun _ _ => by rw [if_neg h15])
