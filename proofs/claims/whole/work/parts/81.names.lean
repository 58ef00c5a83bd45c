/-! The patch as both sides hold it; names. -/
def pt_WF (r : Nat) (kd cn : Nat → Nat) (cd nu : Nat → Int32) : Prop := 1 ≤ r ∧ r ≤ 37 ∧ ∀ m, m < r → kd m < 20 ∧ cn m ≤ 4 ∧ (∀ j, cn m ≤ j → j < 4 → cd (4 * m + j) = 0 ∧ nu (4 * m + j) = 0) ∧ ∀ j, j < cn m → cd (4 * m + j) ≠ 0 → nu (4 * m + j) = 0
def pt_X (σ : pv_S) (r : Nat) (nm : Nat → Int32) (kd cn : Nat → Nat) (cd nu : Nat → Int32) : Prop := σ.1 3 0 = pI r ∧ (∀ m, m < r → σ.1 7 m = nm m ∧ σ.1 4 m = pI (kd m) ∧ σ.1 8 m = pI (cn m)) ∧ ∀ i, i < 4 * r → σ.1 9 i = cd i ∧ σ.1 6 i = nu i
def pt_M (σ : pv_S) (r : Nat) (nm : Nat → Int32) (kd cn : Nat → Nat) (cd nu : Nat → Int32) : Prop := σ.1 0 5 = pI r ∧ (∀ m, m < r → σ.1 4 m = nm m ∧ σ.1 5 m = pI (kd m) ∧ σ.1 6 m = pI (cn m)) ∧ ∀ m j, m < r → j < cn m → σ.1 7 (4 * m + j) = cd (4 * m + j) ∧ (cd (4 * m + j) = 0 → σ.1 8 (4 * m + j) = nu (4 * m + j))
theorem pt_of {σx σm : pv_S} {r : Nat} (h : R_patch σx σm r) : ∃ nm kd cn cd nu, pt_WF r kd cn cd nu ∧ pt_X σx r nm kd cn cd nu ∧ pt_M σm r nm kd cn cd nu := by
  obtain ⟨h1, h2, h3, h4, h5⟩ := h
  refine ⟨σx.1 7, fun m => (σx.1 4 m).toNatClampNeg, fun m => (σx.1 8 m).toNatClampNeg, σx.1 9, σx.1 6, ⟨h1, h2, ?_⟩, ⟨h3, ?_, fun i _ => ⟨rfl, rfl⟩⟩, ⟨h4, ?_, ?_⟩⟩
  · intro m hm
    obtain ⟨a1, ⟨k, k1, k2, k3⟩, c, c1, c2, c3, c4, c5⟩ := h5 m hm
    simp only [k2, c2, pI_nat (show k < 2147483648 by omega), pI_nat (show c < 2147483648 by omega)]
    refine ⟨k1, c1, fun j hj hj4 => c5 j hj hj4, fun j hj hn => ?_⟩
    rcases (c4 j hj).2 with h | h
    · exact absurd h.1 hn
    · exact h.2
  · intro m hm
    obtain ⟨a1, ⟨k, k1, k2, k3⟩, c, c1, c2, c3, c4, c5⟩ := h5 m hm
    simp only [k2, c2, pI_nat (show k < 2147483648 by omega), pI_nat (show c < 2147483648 by omega)]
    exact ⟨trivial, trivial, trivial⟩
  · intro m hm
    obtain ⟨a1, ⟨k, k1, k2, k3⟩, c, c1, c2, c3, c4, c5⟩ := h5 m hm
    simp only [k2, c2, pI_nat (show k < 2147483648 by omega), pI_nat (show c < 2147483648 by omega)]
    exact ⟨a1.symm, k3, c3⟩
  · intro m j hm hj
    obtain ⟨a1, ⟨k, k1, k2, k3⟩, c, c1, c2, c3, c4, c5⟩ := h5 m hm
    simp only [c2, pI_nat (show c < 2147483648 by omega)] at hj
    obtain ⟨e1, e2⟩ := c4 j hj
    refine ⟨e1.symm, fun h0 => ?_⟩
    rcases e2 with h | h
    · exact h.2.symm
    · exact absurd h0 h.1
/-- the module of a name -/
def pt_mo (nm : Nat → Int32) (r : Nat) (x : Int32) : Option Nat := pfst (fun k => decide (nm k = x)) r
theorem pt_mo_lt {nm : Nat → Int32} {r : Nat} {x : Int32} {k : Nat} (h : pt_mo nm r x = some k) : k < r := (pfst_some.mp h).1
theorem pt_named {σ : pv_S} {r : Nat} {nm : Nat → Int32} (h3 : σ.1 3 0 = pI r) (hr : r ≤ 38) (hn : ∀ m, m < r → σ.1 7 m = nm m) (x : Int32) : f_Pt_moduleNamed σ x = some (oI (pt_mo nm r x), σ) := by
  have key : ∀ (d i fu : Nat), i + d = r → d < fu → (∀ k, k < i → nm k ≠ x) → f_Pt_moduleNamed_2 fu σ x (pI i) = some (oI (pt_mo nm r x), σ) := by
    refine up_ind (P := fun fu i => (∀ k, k < i → nm k ≠ x) → f_Pt_moduleNamed_2 fu σ x (pI i) = some (oI (pt_mo nm r x), σ)) ?_ ?_
    · intro fu hk
      show f_Pt_moduleNamed_2b _ _ _ _ = _
      unfold f_Pt_moduleNamed_2b
      simp (disch := omega) only [nle_0, nle'_0, nlt_0, nlt'_0, neq_0, nle_1, nle'_1, nlt_1, nlt'_1, neq_1, nadd_1, nle_2, nle'_2, nlt_2, nlt'_2, neq_2, nadd_2, nmul_2, nle_3, nle'_3, nlt_3, nlt'_3, neq_3, nadd_3, nmul_3, nle_4, nle'_4, nlt_4, nlt'_4, neq_4, nadd_4, nmul_4, nle_5, nle'_5, nlt_5, nlt'_5, neq_5, nadd_5, nmul_5, nle_7, nle'_7, nlt_7, nlt'_7, neq_7, nadd_7, nmul_7, nle_8, nle'_8, nlt_8, nlt'_8, neq_8, nadd_8, nmul_8, nle_10, nle'_10, nlt_10, nlt'_10, neq_10, nadd_10, nmul_10, nle_11, nle'_11, nlt_11, nlt'_11, neq_11, nadd_11, nmul_11, nle_13, nle'_13, nlt_13, nlt'_13, neq_13, nadd_13, nmul_13, nle_15, nle'_15, nlt_15, nlt'_15, neq_15, nadd_15, nmul_15, nle_16, nle'_16, nlt_16, nlt'_16, neq_16, nadd_16, nmul_16, nle_18, nle'_18, nlt_18, nlt'_18, neq_18, nadd_18, nmul_18, nle_20, nle'_20, nlt_20, nlt'_20, neq_20, nadd_20, nmul_20, nle_24, nle'_24, nlt_24, nlt'_24, neq_24, nadd_24, nmul_24, nle_38, nle'_38, nlt_38, nlt'_38, neq_38, nadd_38, nmul_38, nle_48, nle'_48, nlt_48, nlt'_48, neq_48, nadd_48, nmul_48, nle_64, nle'_64, nlt_64, nlt'_64, neq_64, nadd_64, nmul_64, nle_96, nle'_96, nlt_96, nlt'_96, neq_96, nadd_96, nmul_96, nle_127, nle'_127, nlt_127, nlt'_127, neq_127, nadd_127, nmul_127, nle_128, nle'_128, nlt_128, nlt'_128, neq_128, nadd_128, nmul_128, nle_152, nle'_152, nlt_152, nlt'_152, neq_152, nadd_152, nmul_152, pI_in, pI_nat, pI_le, pI_lt, pI_eq, pI_add, pI_mul, pI_neg, pI_neg', pI_lt0, pI_pred, h3]
      rw [if_pos (by omega), show pt_mo nm r x = none from pfst_none.mpr (fun i hi => decide_eq_false (hk i hi))]
      rfl
    · intro fu i hi ih hk
      show f_Pt_moduleNamed_2b _ _ _ _ = _
      unfold f_Pt_moduleNamed_2b
      simp (disch := omega) only [nle_0, nle'_0, nlt_0, nlt'_0, neq_0, nle_1, nle'_1, nlt_1, nlt'_1, neq_1, nadd_1, nle_2, nle'_2, nlt_2, nlt'_2, neq_2, nadd_2, nmul_2, nle_3, nle'_3, nlt_3, nlt'_3, neq_3, nadd_3, nmul_3, nle_4, nle'_4, nlt_4, nlt'_4, neq_4, nadd_4, nmul_4, nle_5, nle'_5, nlt_5, nlt'_5, neq_5, nadd_5, nmul_5, nle_7, nle'_7, nlt_7, nlt'_7, neq_7, nadd_7, nmul_7, nle_8, nle'_8, nlt_8, nlt'_8, neq_8, nadd_8, nmul_8, nle_10, nle'_10, nlt_10, nlt'_10, neq_10, nadd_10, nmul_10, nle_11, nle'_11, nlt_11, nlt'_11, neq_11, nadd_11, nmul_11, nle_13, nle'_13, nlt_13, nlt'_13, neq_13, nadd_13, nmul_13, nle_15, nle'_15, nlt_15, nlt'_15, neq_15, nadd_15, nmul_15, nle_16, nle'_16, nlt_16, nlt'_16, neq_16, nadd_16, nmul_16, nle_18, nle'_18, nlt_18, nlt'_18, neq_18, nadd_18, nmul_18, nle_20, nle'_20, nlt_20, nlt'_20, neq_20, nadd_20, nmul_20, nle_24, nle'_24, nlt_24, nlt'_24, neq_24, nadd_24, nmul_24, nle_38, nle'_38, nlt_38, nlt'_38, neq_38, nadd_38, nmul_38, nle_48, nle'_48, nlt_48, nlt'_48, neq_48, nadd_48, nmul_48, nle_64, nle'_64, nlt_64, nlt'_64, neq_64, nadd_64, nmul_64, nle_96, nle'_96, nlt_96, nlt'_96, neq_96, nadd_96, nmul_96, nle_127, nle'_127, nlt_127, nlt'_127, neq_127, nadd_127, nmul_127, nle_128, nle'_128, nlt_128, nlt'_128, neq_128, nadd_128, nmul_128, nle_152, nle'_152, nlt_152, nlt'_152, neq_152, nadd_152, nmul_152, pI_in, pI_nat, pI_le, pI_lt, pI_eq, pI_add, pI_mul, pI_neg, pI_neg', pI_lt0, pI_pred, h3, hn i hi]
      rw [if_neg (by omega), if_pos (by omega)]
      by_cases h : nm i = x
      · rw [if_pos h, show pt_mo nm r x = some i from pfst_some.mpr ⟨hi, decide_eq_true h, fun k hk2 => decide_eq_false (hk k hk2)⟩]
        rfl
      · rw [if_neg h]
        exact ih (fun k hk2 => by
          by_cases e : k = i
          · subst e; exact h
          · exact hk k (by omega))
  exact key r 0 pv_fu (by omega) (by unfold pv_fu; omega) (fun k hk => absurd hk (by omega))
theorem pt_moduleOf {σ : pv_S} {r : Nat} {nm : Nat → Int32} (h5 : σ.1 0 5 = pI r) (h1 : 1 ≤ r) (hr : r ≤ 38) (hn : ∀ m, m < r → σ.1 4 m = nm m) (x : Int32) : f_Md_moduleOf σ x = some (oI (pt_mo nm r x), σ) := by
  have key : ∀ (i fu : Nat) (y : Int32), i ≤ r → i < fu → f_Md_moduleOf_9 fu σ x y (pI i - 1) = some (match pfst (fun k => decide (nm k = x)) i with | some k => pI k | none => y, σ) := by
    intro i
    induction i with
    | zero =>
      intro fu y _ hf
      obtain ⟨fu, rfl⟩ : ∃ k, fu = k + 1 := ⟨fu - 1, by omega⟩
      show f_Md_moduleOf_9b _ _ _ _ _ = _
      unfold f_Md_moduleOf_9b
      rw [if_pos (show pI 0 - 1 < 0 by decide)]
      rfl
    | succ i ih =>
      intro fu y hi hf
      obtain ⟨fu, rfl⟩ : ∃ k, fu = k + 1 := ⟨fu - 1, by omega⟩
      show f_Md_moduleOf_9b _ _ _ _ _ = _
      unfold f_Md_moduleOf_9b f_Md_moduleOf_28
      rw [nm1]
      simp (disch := omega) only [nle_0, nle'_0, nlt_0, nlt'_0, neq_0, nle_1, nle'_1, nlt_1, nlt'_1, neq_1, nadd_1, nle_2, nle'_2, nlt_2, nlt'_2, neq_2, nadd_2, nmul_2, nle_3, nle'_3, nlt_3, nlt'_3, neq_3, nadd_3, nmul_3, nle_4, nle'_4, nlt_4, nlt'_4, neq_4, nadd_4, nmul_4, nle_5, nle'_5, nlt_5, nlt'_5, neq_5, nadd_5, nmul_5, nle_7, nle'_7, nlt_7, nlt'_7, neq_7, nadd_7, nmul_7, nle_8, nle'_8, nlt_8, nlt'_8, neq_8, nadd_8, nmul_8, nle_10, nle'_10, nlt_10, nlt'_10, neq_10, nadd_10, nmul_10, nle_11, nle'_11, nlt_11, nlt'_11, neq_11, nadd_11, nmul_11, nle_13, nle'_13, nlt_13, nlt'_13, neq_13, nadd_13, nmul_13, nle_15, nle'_15, nlt_15, nlt'_15, neq_15, nadd_15, nmul_15, nle_16, nle'_16, nlt_16, nlt'_16, neq_16, nadd_16, nmul_16, nle_18, nle'_18, nlt_18, nlt'_18, neq_18, nadd_18, nmul_18, nle_20, nle'_20, nlt_20, nlt'_20, neq_20, nadd_20, nmul_20, nle_24, nle'_24, nlt_24, nlt'_24, neq_24, nadd_24, nmul_24, nle_38, nle'_38, nlt_38, nlt'_38, neq_38, nadd_38, nmul_38, nle_48, nle'_48, nlt_48, nlt'_48, neq_48, nadd_48, nmul_48, nle_64, nle'_64, nlt_64, nlt'_64, neq_64, nadd_64, nmul_64, nle_96, nle'_96, nlt_96, nlt'_96, neq_96, nadd_96, nmul_96, nle_127, nle'_127, nlt_127, nlt'_127, neq_127, nadd_127, nmul_127, nle_128, nle'_128, nlt_128, nlt'_128, neq_128, nadd_128, nmul_128, nle_152, nle'_152, nlt_152, nlt'_152, neq_152, nadd_152, nmul_152, pI_in, pI_nat, pI_le, pI_lt, pI_eq, pI_add, pI_mul, pI_neg, pI_neg', pI_lt0, pI_pred, hn i (by omega)]
      rw [if_neg (by omega), if_pos (by omega), ← Int32.sub_eq_add_neg]
      show _ = some (match (match pfst (fun k => decide (nm k = x)) i with | some k => some k | none => if decide (nm i = x) = true then some i else none) with | some k => pI k | none => y, σ)
      by_cases h : nm i = x
      · rw [if_pos h, ih fu (pI i) (by omega) (by omega)]
        cases pfst (fun k => decide (nm k = x)) i with
        | some k => rfl
        | none => simp [h]
      · rw [if_neg h, ih fu y (by omega) (by omega)]
        cases pfst (fun k => decide (nm k = x)) i with
        | some k => rfl
        | none => simp [h]
  unfold f_Md_moduleOf f_Md_moduleOf_0
  rw [h5, key r pv_fu (-1) (by omega) (by unfold pv_fu; omega)]
  unfold pt_mo
  cases pfst (fun k => decide (nm k = x)) r <;> rfl
def pt_fr (nm : Nat → Int32) (r : Nat) (cd : Nat → Int32) (i : Nat) : Option Nat := if cd i = 0 then none else pt_mo nm r (cd i)
theorem pt_fr_lt {nm : Nat → Int32} {r : Nat} {cd : Nat → Int32} {i k : Nat} (h : pt_fr nm r cd i = some k) : k < r := by
  unfold pt_fr at h
  by_cases h0 : cd i = 0
  · rw [if_pos h0] at h; cases h
  · rw [if_neg h0] at h; exact pt_mo_lt h
/-- cords tied, before they are followed -/
theorem pt_tie {σ : pv_S} {r : Nat} {nm : Nat → Int32} {kd cn : Nat → Nat} {cd nu : Nat → Int32} (h : pt_X σ r nm kd cn cd nu) (hr : r ≤ 37) : f_Pt_tieCords σ = f_Pt_followCords (pv_rI σ 5 (fun i => if i < 4 * r then oI (pt_fr nm r cd i) else σ.1 5 i)) := by
  obtain ⟨h3, hm, hi⟩ := h
  have key : ∀ (d i fu : Nat), i + d = 4 * r → d < fu → f_Pt_tieCords_2 fu (pv_rI σ 5 (fun k => if k < i then oI (pt_fr nm r cd k) else σ.1 5 k)) (pI i) = f_Pt_followCords (pv_rI σ 5 (fun i => if i < 4 * r then oI (pt_fr nm r cd i) else σ.1 5 i)) := by
    refine up_ind (P := fun fu i => f_Pt_tieCords_2 fu (pv_rI σ 5 (fun k => if k < i then oI (pt_fr nm r cd k) else σ.1 5 k)) (pI i) = f_Pt_followCords (pv_rI σ 5 (fun i => if i < 4 * r then oI (pt_fr nm r cd i) else σ.1 5 i))) ?_ ?_
    · intro fu
      show f_Pt_tieCords_2b _ _ _ = _
      unfold f_Pt_tieCords_2b
      have e3 : ∀ f, (pv_rI σ 5 f).1 3 0 = pI r := fun f => h3
      rw [e3]
      simp (disch := omega) only [nle_0, nle'_0, nlt_0, nlt'_0, neq_0, nle_1, nle'_1, nlt_1, nlt'_1, neq_1, nadd_1, nle_2, nle'_2, nlt_2, nlt'_2, neq_2, nadd_2, nmul_2, nle_3, nle'_3, nlt_3, nlt'_3, neq_3, nadd_3, nmul_3, nle_4, nle'_4, nlt_4, nlt'_4, neq_4, nadd_4, nmul_4, nle_5, nle'_5, nlt_5, nlt'_5, neq_5, nadd_5, nmul_5, nle_7, nle'_7, nlt_7, nlt'_7, neq_7, nadd_7, nmul_7, nle_8, nle'_8, nlt_8, nlt'_8, neq_8, nadd_8, nmul_8, nle_10, nle'_10, nlt_10, nlt'_10, neq_10, nadd_10, nmul_10, nle_11, nle'_11, nlt_11, nlt'_11, neq_11, nadd_11, nmul_11, nle_13, nle'_13, nlt_13, nlt'_13, neq_13, nadd_13, nmul_13, nle_15, nle'_15, nlt_15, nlt'_15, neq_15, nadd_15, nmul_15, nle_16, nle'_16, nlt_16, nlt'_16, neq_16, nadd_16, nmul_16, nle_18, nle'_18, nlt_18, nlt'_18, neq_18, nadd_18, nmul_18, nle_20, nle'_20, nlt_20, nlt'_20, neq_20, nadd_20, nmul_20, nle_24, nle'_24, nlt_24, nlt'_24, neq_24, nadd_24, nmul_24, nle_38, nle'_38, nlt_38, nlt'_38, neq_38, nadd_38, nmul_38, nle_48, nle'_48, nlt_48, nlt'_48, neq_48, nadd_48, nmul_48, nle_64, nle'_64, nlt_64, nlt'_64, neq_64, nadd_64, nmul_64, nle_96, nle'_96, nlt_96, nlt'_96, neq_96, nadd_96, nmul_96, nle_127, nle'_127, nlt_127, nlt'_127, neq_127, nadd_127, nmul_127, nle_128, nle'_128, nlt_128, nlt'_128, neq_128, nadd_128, nmul_128, nle_152, nle'_152, nlt_152, nlt'_152, neq_152, nadd_152, nmul_152, pI_in, pI_nat, pI_le, pI_lt, pI_eq, pI_add, pI_mul, pI_neg, pI_neg', pI_lt0, pI_pred]
      rw [if_pos (by omega)]
      cases f_Pt_followCords (pv_rI σ 5 (fun i => if i < 4 * r then oI (pt_fr nm r cd i) else σ.1 5 i)) <;> rfl
    · intro fu i hir ih
      show f_Pt_tieCords_2b _ _ _ = _
      unfold f_Pt_tieCords_2b f_Pt_tieCords_40
      have e3 : ∀ f, (pv_rI σ 5 f).1 3 0 = pI r := fun f => h3
      have e9 : ∀ f, (pv_rI σ 5 f).1 9 i = cd i := fun f => (hi i hir).1
      have en : ∀ f x, f_Pt_moduleNamed (pv_rI σ 5 f) x = some (oI (pt_mo nm r x), pv_rI σ 5 f) := fun f x => pt_named (e3 f) (by omega) (fun m hm2 => (hm m hm2).1) x
      rw [e3]
      simp (disch := omega) only [nle_0, nle'_0, nlt_0, nlt'_0, neq_0, nle_1, nle'_1, nlt_1, nlt'_1, neq_1, nadd_1, nle_2, nle'_2, nlt_2, nlt'_2, neq_2, nadd_2, nmul_2, nle_3, nle'_3, nlt_3, nlt'_3, neq_3, nadd_3, nmul_3, nle_4, nle'_4, nlt_4, nlt'_4, neq_4, nadd_4, nmul_4, nle_5, nle'_5, nlt_5, nlt'_5, neq_5, nadd_5, nmul_5, nle_7, nle'_7, nlt_7, nlt'_7, neq_7, nadd_7, nmul_7, nle_8, nle'_8, nlt_8, nlt'_8, neq_8, nadd_8, nmul_8, nle_10, nle'_10, nlt_10, nlt'_10, neq_10, nadd_10, nmul_10, nle_11, nle'_11, nlt_11, nlt'_11, neq_11, nadd_11, nmul_11, nle_13, nle'_13, nlt_13, nlt'_13, neq_13, nadd_13, nmul_13, nle_15, nle'_15, nlt_15, nlt'_15, neq_15, nadd_15, nmul_15, nle_16, nle'_16, nlt_16, nlt'_16, neq_16, nadd_16, nmul_16, nle_18, nle'_18, nlt_18, nlt'_18, neq_18, nadd_18, nmul_18, nle_20, nle'_20, nlt_20, nlt'_20, neq_20, nadd_20, nmul_20, nle_24, nle'_24, nlt_24, nlt'_24, neq_24, nadd_24, nmul_24, nle_38, nle'_38, nlt_38, nlt'_38, neq_38, nadd_38, nmul_38, nle_48, nle'_48, nlt_48, nlt'_48, neq_48, nadd_48, nmul_48, nle_64, nle'_64, nlt_64, nlt'_64, neq_64, nadd_64, nmul_64, nle_96, nle'_96, nlt_96, nlt'_96, neq_96, nadd_96, nmul_96, nle_127, nle'_127, nlt_127, nlt'_127, neq_127, nadd_127, nmul_127, nle_128, nle'_128, nlt_128, nlt'_128, neq_128, nadd_128, nmul_128, nle_152, nle'_152, nlt_152, nlt'_152, neq_152, nadd_152, nmul_152, pI_in, pI_nat, pI_le, pI_lt, pI_eq, pI_add, pI_mul, pI_neg, pI_neg', pI_lt0, pI_pred, e9, en]
      rw [if_neg (by omega), if_pos (by omega)]
      have eu : ∀ x, x = oI (pt_fr nm r cd i) → pv_uI (pv_rI σ 5 (fun k => if k < i then oI (pt_fr nm r cd k) else σ.1 5 k)) 5 i x = pv_rI σ 5 (fun k => if k < i + 1 then oI (pt_fr nm r cd k) else σ.1 5 k) := by
        intro x hx
        refine Prod.ext ?_ rfl
        funext c' k'
        show (pv_uI (pv_rI σ 5 _) 5 i x).1 c' k' = (pv_rI σ 5 _).1 c' k'
        rw [uI1, rI1, rI1]
        by_cases hc : c' = 5
        · simp only [hc, true_and, if_true]
          by_cases hk : k' = i
          · rw [if_pos hk, if_pos (by omega), hx, hk]
          · rw [if_neg hk]
            by_cases hk2 : k' < i
            · rw [if_pos hk2, if_pos (by omega)]
            · rw [if_neg hk2, if_neg (by omega)]
        · simp [hc]
      by_cases h0 : cd i = 0
      · rw [if_pos h0, if_pos (by omega), eu _ (by unfold pt_fr; rw [if_pos h0]; rfl)]
        exact ih
      · rw [if_neg h0, if_pos (by omega)]
        simp only [Option.bind_some]
        rw [if_pos (by omega)]
        show f_Pt_tieCords_2 fu (pv_uI _ 5 i (oI (pt_mo nm r (cd i)))) (pI (i + 1)) = _
        rw [eu _ (by unfold pt_fr; rw [if_neg h0])]
        exact ih
  have e0 : pv_rI σ 5 (fun k => if k < 0 then oI (pt_fr nm r cd k) else σ.1 5 k) = σ := by
    refine Prod.ext ?_ rfl
    funext c' k'
    show (pv_rI σ 5 _).1 c' k' = σ.1 c' k'
    rw [rI1]
    by_cases hc : c' = 5
    · simp [hc]
    · simp [hc]
  have := key (4 * r) 0 pv_fu (by omega) (by unfold pv_fu; omega)
  rw [e0] at this
  exact this
