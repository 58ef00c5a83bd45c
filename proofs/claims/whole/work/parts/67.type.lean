/-! type, on any two states with the same text. -/
def pj {α β : Type} (x : Option α) (y : Option β) (R : α → β → Prop) : Prop := ∃ a b, x = some a ∧ y = some b ∧ R a b
theorem pj_mono {α β : Type} {x : Option α} {y : Option β} {R S : α → β → Prop} (h : pj x y R) (k : ∀ a b, R a b → S a b) : pj x y S := by
  obtain ⟨a, b, h1, h2, h3⟩ := h
  exact ⟨a, b, h1, h2, k a b h3⟩
theorem pj_some {α β : Type} {a : α} {b : β} {R : α → β → Prop} (h : R a b) : pj (some a) (some b) R := ⟨a, b, rfl, rfl, h⟩
theorem pj_bind {α β γ δ : Type} {x : Option α} {y : Option β} {R : α → β → Prop} {f : α → Option γ} {g : β → Option δ} {S : γ → δ → Prop} (h : pj x y R) (k : ∀ a b, R a b → pj (f a) (g b) S) : pj (x.bind f) (y.bind g) S := by
  obtain ⟨a, b, rfl, rfl, h3⟩ := h
  exact k a b h3
/-- both texts are the same -/
def R_text (σx σm : pv_S) : Prop := ∃ L, L ≤ 300 ∧ σx.1 0 1 = pI L ∧ σm.1 0 2 = pI L ∧ ∀ k, k < L → σx.1 1 k = σm.1 1 k
def py_B (w : Int64) (k : Nat) : Int32 := ((w >>> ((((8 : Int32) * pI k)).toInt64 &&& 63)) &&& (255 : Int64)).toInt32
theorem py_byteOf (σ : pv_S) (w : Int64) (k : Nat) (h : k < 8) : f_PV_byteOf σ w (pI k) = some (py_B w k, σ) := by
  unfold f_PV_byteOf f_PV_byteOf_0
  rw [pv_byte w (pI k) (by rw [pI_lt0 (by omega)]; exact id) (by rw [show (8 : Int32) = pI 8 from rfl, pI_lt (by omega) (by omega)]; exact h)]
  rfl
theorem py_nar {x : Int32} (h : ¬ x < 32) (h1 : x ≤ 126) : vp_nar .char ((x.toUInt32 % 65536).toInt32) = x := by
  have h0 : ¬ x < 0 := by
    rw [Int32.lt_iff_toInt_lt] at *
    have e1 : (32 : Int32).toInt = 32 := rfl
    have e0 : (0 : Int32).toInt = 0 := rfl
    omega
  obtain ⟨e, l⟩ := pI_of h0
  have h2 : x.toNatClampNeg < 127 := by
    rw [e, show (126 : Int32) = pI 126 from rfl, pI_le l (by omega)] at h1
    omega
  have key : ∀ c : Fin 127, vp_nar .char (((pI c.1).toUInt32 % 65536).toInt32) = pI c.1 := by decide +kernel
  rw [e]
  exact key ⟨_, h2⟩
def py_ok (w : Int64) (k : Nat) : Prop := ¬ py_B w k < 32 ∧ py_B w k ≤ 126
/-- what type leaves on both sides -/
def py_R (σx σm : pv_S) (a b : Int32 × pv_S) : Prop := a.1 = b.1 ∧ R_text a.2 b.2 ∧ (∀ c, c ≠ 0 → c ≠ 1 → a.2.1 c = σx.1 c) ∧ (∀ k, k ≠ 1 → a.2.1 0 k = σx.1 0 k) ∧ a.2.2 = σx.2 ∧ (∀ c, c ≠ 0 → c ≠ 1 → b.2.1 c = σm.1 c) ∧ (∀ k, k ≠ 2 → b.2.1 0 k = σm.1 0 k) ∧ b.2.2 = σm.2
theorem py_put {w : Int64} {sx sm : pv_S} (ok : ∀ k, k < 8 → py_ok w k ∨ ¬ py_ok w k) : ∀ (d : Nat) (L fx fm : Nat) (σx σm : pv_S), d < fx → d < fm → d ≤ 8 → L + d ≤ 300 → (∀ k, k < d → py_ok w k) → σx.1 0 1 = pI L → σm.1 0 2 = pI L → (∀ k, k < L → σx.1 1 k = σm.1 1 k) → (∀ c, c ≠ 0 → c ≠ 1 → σx.1 c = sx.1 c) → (∀ k, k ≠ 1 → σx.1 0 k = sx.1 0 k) → σx.2 = sx.2 → (∀ c, c ≠ 0 → c ≠ 1 → σm.1 c = sm.1 c) → (∀ k, k ≠ 2 → σm.1 0 k = sm.1 0 k) → σm.2 = sm.2 → pj (f_PV_type_69 fx σx w (pI d - 1)) (f_Md_type_80 fm σm w (pI d - 1)) (py_R sx sm) := by
  intro d
  induction d with
  | zero =>
    intro L fx fm σx σm hx hm _ hL _ e1 e2 e3 g1 g2 g3 g4 g5 g6
    obtain ⟨fx, rfl⟩ : ∃ k, fx = k + 1 := ⟨fx - 1, by omega⟩
    obtain ⟨fm, rfl⟩ : ∃ k, fm = k + 1 := ⟨fm - 1, by omega⟩
    have n : pI 0 - 1 < 0 := by decide
    refine ⟨(σx.1 0 1, σx), (σm.1 0 2, σm), ?_, ?_, ?_⟩
    · show f_PV_type_69b _ _ _ _ = _
      unfold f_PV_type_69b
      rw [if_pos n]
    · show f_Md_type_80b _ _ _ _ = _
      unfold f_Md_type_80b
      rw [if_pos n]
    · exact ⟨by rw [e1, e2], ⟨L, by omega, e1, e2, e3⟩, g1, g2, g3, g4, g5, g6⟩
  | succ d ih =>
    intro L fx fm σx σm hx hm h8 hL hok e1 e2 e3 g1 g2 g3 g4 g5 g6
    obtain ⟨fx, rfl⟩ : ∃ k, fx = k + 1 := ⟨fx - 1, by omega⟩
    obtain ⟨fm, rfl⟩ : ∃ k, fm = k + 1 := ⟨fm - 1, by omega⟩
    have n : ¬ pI d < 0 := by rw [pI_lt0 (by omega)]; exact id
    have ed : pI (d + 1) - 1 = pI d := by rw [l_1, pI_sub (by omega)]; rfl
    have ed2 : pI d + -1 = pI d - 1 := by rw [Int32.sub_eq_add_neg]
    have o := hok d (by omega)
    rw [ed]
    show pj (f_PV_type_69b _ _ _ _) (f_Md_type_80b _ _ _ _) _
    unfold f_PV_type_69b f_Md_type_80b
    rw [if_neg n, if_neg n, py_byteOf _ _ _ (by omega), e1, e2]
    show pj (if _ then f_PV_type_69 fx _ w _ else none) _ _
    rw [if_pos ((pI_in (by omega)).mpr (by omega)), if_pos ((pI_in (by omega)).mpr (by omega)), ed2, pI_nat (by omega)]
    refine ih (L + 1) fx fm _ _ (by omega) (by omega) (by omega) (by omega) (fun k hk => hok k (by omega)) ?_ ?_ ?_ ?_ ?_ ?_ ?_ ?_ ?_
    · rw [uI1c, if_pos rfl, uI1n (by decide), e1, l_1, pI_add]
    · rw [uI1c, if_pos rfl, uI1n (by decide), e2, l_1, pI_add]
    · intro k hk
      simp only [uI1]
      by_cases hkL : k = L
      · simp only [hkL, py_nar o.1 o.2]
        rfl
      · simp only [hkL, and_false, if_false]
        have := e3 k (by omega)
        simp [this]
    · intro c h0 h1
      funext k
      rw [uI1n h0, uI1n h1, g1 c h0 h1]
    · intro k hk
      rw [uI1c, if_neg hk, uI1n (by decide), g2 k hk]
    · exact g3
    · intro c h0 h1
      funext k
      rw [uI1n h0, uI1n h1, g4 c h0 h1]
    · intro k hk
      rw [uI1c, if_neg hk, uI1n (by decide), g5 k hk]
    · exact g6
theorem py_look {w : Int64} {σx σm : pv_S} {n : Nat} (hn : n ≤ 8) {R : Int32 × pv_S → Int32 × pv_S → Prop} (bad : R (-1, σx) (-1, σm)) (good : (∀ k, k < n → py_ok w k) → pj (f_PV_type_69 pv_fu σx w (pI n - 1)) (f_Md_type_80 pv_fu σm w (pI n - 1)) R) : ∀ (d i fx fm : Nat), i + d = n → d < fx → d < fm → (∀ k, k < i → py_ok w k) → pj (f_PV_type_28 fx σx w (pI n) (pI i)) (f_Md_type_33 fm σm w (pI n) (pI i)) R := by
  intro d
  induction d with
  | zero =>
    intro i fx fm e hx hm hok
    obtain ⟨fx, rfl⟩ : ∃ k, fx = k + 1 := ⟨fx - 1, by omega⟩
    obtain ⟨fm, rfl⟩ : ∃ k, fm = k + 1 := ⟨fm - 1, by omega⟩
    have le : pI n ≤ pI i := (pI_le (by omega) (by omega)).mpr (by omega)
    show pj (f_PV_type_28b _ _ _ _ _) (f_Md_type_33b _ _ _ _ _) _
    unfold f_PV_type_28b f_Md_type_33b
    rw [if_pos le, if_pos le]
    exact good (fun k hk => hok k (by omega))
  | succ d ih =>
    intro i fx fm e hx hm hok
    obtain ⟨fx, rfl⟩ : ∃ k, fx = k + 1 := ⟨fx - 1, by omega⟩
    obtain ⟨fm, rfl⟩ : ∃ k, fm = k + 1 := ⟨fm - 1, by omega⟩
    have le : ¬ pI n ≤ pI i := fun z => by have := (pI_le (by omega) (by omega)).mp z; omega
    show pj (f_PV_type_28b _ _ _ _ _) (f_Md_type_33b _ _ _ _ _) _
    unfold f_PV_type_28b f_Md_type_33b
    rw [if_neg le, if_neg le, py_byteOf _ _ _ (by omega)]
    show pj (if py_B w i < 32 then some (-1, σx) else if py_B w i ≤ 126 then f_PV_type_28 fx σx w (pI n) (pI i + 1) else some (-1, σx)) (if py_B w i < 32 then some (-1, σm) else if py_B w i ≤ 126 then f_Md_type_33 fm σm w (pI n) (pI i + 1) else some (-1, σm)) R
    by_cases h1 : py_B w i < 32
    · rw [if_pos h1, if_pos h1]
      exact pj_some bad
    · rw [if_neg h1, if_neg h1]
      by_cases h2 : py_B w i ≤ 126
      · rw [if_pos h2, if_pos h2, l_1, pI_add]
        exact ih (i + 1) fx fm (by omega) (by omega) (by omega) (fun k hk => by
          by_cases hki : k = i
          · rw [hki]; exact ⟨h1, h2⟩
          · exact hok k (by omega))
      · rw [if_neg h2, if_neg h2]
        exact pj_some bad
theorem any_type (σx σm : pv_S) (h : R_text σx σm) (w : Int64) (n : Int32) : pj (f_PV_type σx w n) (f_Md_type σm w n) (py_R σx (pv_uI σm 0 0 0)) := by
  obtain ⟨L, hL, e1, e2, e3⟩ := h
  have bad : py_R σx (pv_uI σm 0 0 0) (-1, σx) (-1, pv_uI σm 0 0 0) := ⟨rfl, ⟨L, hL, e1, e2, e3⟩, fun _ _ _ => rfl, fun _ _ => rfl, rfl, fun _ _ _ => rfl, fun _ _ => rfl, rfl⟩
  unfold f_PV_type f_PV_type_0 f_Md_type f_Md_type_0
  have t : (pv_uI σm 0 0 0).1 0 2 = pI L := e2
  rw [t, e1]
  by_cases h1 : n < 1
  · rw [if_pos h1, if_pos h1]; exact pj_some bad
  rw [if_neg h1, if_neg h1]
  by_cases h2 : 8 < n
  · rw [if_pos h2, if_pos h2]; exact pj_some bad
  rw [if_neg h2, if_neg h2]
  obtain ⟨en, ln⟩ := pI_of (pI_of1 h1)
  generalize n.toNatClampNeg = N at en ln
  subst en
  have h8 : N ≤ 8 := by rw [l_8, pI_lt (by omega) (by omega)] at h2; omega
  rw [pI_add, l_300]
  by_cases h3 : pI (L + N) ≤ pI 300
  · rw [if_pos h3, if_pos h3]
    rw [pI_le (by omega) (by omega)] at h3
    refine py_look h8 bad (fun ok => ?_) N 0 pv_fu pv_fu (by omega) (by unfold pv_fu; omega) (by unfold pv_fu; omega) (fun k hk => absurd hk (by omega))
    exact py_put (fun k _ => Classical.em _) N L pv_fu pv_fu σx (pv_uI σm 0 0 0) (by unfold pv_fu; omega) (by unfold pv_fu; omega) h8 (by omega) ok e1 e2 e3 (fun _ _ _ => rfl) (fun _ _ => rfl) rfl (fun _ _ _ => rfl) (fun _ _ => rfl) rfl
  · rw [if_neg h3, if_neg h3]; exact pj_some bad
