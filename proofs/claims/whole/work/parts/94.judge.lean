/-! What stands for a module: the reference. -/
/-- a row's inputs, as the reference reads them -/
def pj_row (σ : pv_S) (S : Nat → Option Nat) (A : Nat → Int32) (m : Nat) : Prop := ∀ j, j < 4 → f_Md_source σ (pI (4 * m + j)) = some (oI (S (4 * m + j)), σ) ∧ f_Md_amount σ (pI (4 * m + j)) = some (A (4 * m + j), σ) ∧ ∀ t, S (4 * m + j) = some t → t < 24
theorem pj_alike {σ : pv_S} {S : Nat → Option Nat} {A : Nat → Int32} {e m j k : Nat} (re : pj_row σ S A e) (rm : pj_row σ S A m) (hj : j < 4) (hk : k < 4) : f_Md_alike σ (pI (4 * e + j)) (pI (4 * m + k)) = some (b2i (pz_al S A (4 * e + j) (4 * m + k)), σ) := by
  obtain ⟨a1, a2, a3⟩ := re j hj
  obtain ⟨b1, b2, b3⟩ := rm k hk
  unfold f_Md_alike f_Md_alike_0
  have l1 : ∀ t, S (4 * e + j) = some t → t < 2147483648 := fun t h => by have := a3 t h; omega
  have l2 : ∀ t, S (4 * m + k) = some t → t < 2147483648 := fun t h => by have := b3 t h; omega
  simp only [a1, b1, a2, b2, Option.bind_some]
  unfold pz_al
  by_cases h : S (4 * e + j) = S (4 * m + k)
  · rw [if_pos (by rw [h])]
    by_cases ha : A (4 * e + j) = A (4 * m + k)
    · rw [if_pos ha]; simp [h, ha, b2i]
    · rw [if_neg ha]; simp [ha, b2i]
  · rw [if_neg (fun z => h ((oI_inj l1 l2).mp z))]
    simp [h, b2i]
theorem pj_122 (σ : pv_S) (a b : Bool) : f_Md_isSame_122 σ (b2i a) (b2i b) = some (b2i (a || b), σ) := by
  cases a <;> cases b <;> rfl
theorem pj_same {σ : pv_S} {n : Nat} {kd cn : Nat → Nat} {fr : Nat → Option Nat} {nu : Nat → Int32} (wf : pq_WF n kd cn fr nu) (hx : ∀ m, m < n → σ.1 9 m = pI (kd m) ∧ σ.1 10 m = pI (cn m)) {S : Nat → Option Nat} {A : Nat → Int32} {e m : Nat} (he : e < n) (hm : m < n) (r : kd e = kd m → pj_row σ S A e ∧ pj_row σ S A m) : f_Md_isSame σ (pI e) (pI m) = some (b2i (ps_sm kd cn (pz_al S A) e m), σ) := by
  obtain ⟨n1, n2, w1, _⟩ := id wf
  obtain ⟨k20, ec⟩ := w1 e he
  obtain ⟨m20, mc⟩ := w1 m hm
  have c4 := pq_inp wf he
  unfold f_Md_isSame f_Md_isSame_0
  rw [pI_nat (by omega), pI_nat (by omega), (hx e he).1, (hx m hm).1, if_pos ((pI_in (by omega)).mpr (by omega)), if_pos ((pI_in (by omega)).mpr (by omega))]
  unfold ps_sm
  by_cases hk : kd e = kd m
  · obtain ⟨re, rm⟩ := r hk
    rw [if_pos (by rw [hk])]
    have key := up_0 (N := cn e) (P := fun fu j => f_Md_isSame_22 fu σ (pI e) (pI m) (b2i (!pany (fun j => !pz_al S A (4 * e + j) (4 * m + j)) j)) (pI j) = some (b2i ((!pany (fun j => !pz_al S A (4 * e + j) (4 * m + j)) (cn e)) || (decide (kd e = 0 ∨ kd e = 2) && (pz_al S A (4 * e) (4 * m + 1) && pz_al S A (4 * e + 1) (4 * m)))), σ)) ?_ ?_ (i := 0) (by omega) (by omega)
    · rw [decide_eq_true hk, Bool.true_and]
      exact key
    · intro fu
      have sw : f_Md_isSame_87 σ (pI e) (pI m) (b2i (!pany (fun j => !pz_al S A (4 * e + j) (4 * m + j)) (cn e))) = some (b2i ((!pany (fun j => !pz_al S A (4 * e + j) (4 * m + j)) (cn e)) || (pz_al S A (4 * e) (4 * m + 1) && pz_al S A (4 * e + 1) (4 * m))), σ) := by
        have s1 := pj_alike re rm (show 0 < 4 by decide) (show 1 < 4 by decide)
        have s2 := pj_alike re rm (show 1 < 4 by decide) (show 0 < 4 by decide)
        simp only [Nat.add_zero] at s1 s2
        unfold f_Md_isSame_87 f_Md_isSame_121
        rw [nmul_4, nmul_4, nadd_1, nadd_1, s1, Option.bind_some]
        simp only [b2i_0]
        cases pz_al S A (4 * e) (4 * m + 1) with
        | false =>
          rw [if_pos rfl]
          exact pj_122 σ _ false
        | true =>
          rw [if_neg (by decide), s2, Option.bind_some]
          simp only [b2i_0]
          cases pz_al S A (4 * e + 1) (4 * m) with
          | false =>
            rw [if_pos rfl]
            exact pj_122 σ _ false
          | true =>
            rw [if_neg (by decide)]
            exact pj_122 σ _ true
      show f_Md_isSame_22b _ _ _ _ _ _ = _
      unfold f_Md_isSame_22b
      rw [pI_nat (by omega), (hx e he).1, (hx e he).2, if_pos ((pI_in (by omega)).mpr (by omega)), if_pos ((pI_le (by omega) (by omega)).mpr (by omega)), if_pos ((pI_in (by omega)).mpr (by omega)), if_pos ((pI_in (by omega)).mpr (by omega)), sw]
      by_cases h0 : kd e = 0
      · rw [if_pos (show pI (kd e) = 0 by rw [h0]; rfl)]
        simp [h0]
      · rw [if_neg (show ¬ pI (kd e) = 0 from fun z => h0 ((neq_0 (by omega)).mp z))]
        by_cases h2 : kd e = 2
        · rw [if_pos (show pI (kd e) = 2 by rw [h2]; rfl)]
          simp [h2]
        · rw [if_neg (show ¬ pI (kd e) = 2 from fun z => h2 ((neq_2 (by omega)).mp z))]
          unfold f_Md_isSame_121
          have := pj_122 σ (!pany (fun j => !pz_al S A (4 * e + j) (4 * m + j)) (cn e)) false
          rw [show b2i false = 0 from rfl] at this
          rw [this]
          simp [h0, h2]
    · intro fu j hj ih
      show f_Md_isSame_22b _ _ _ _ _ _ = _
      unfold f_Md_isSame_22b f_Md_isSame_60 f_Md_isSame_61
      rw [pI_nat (by omega), (hx e he).2, if_pos ((pI_in (by omega)).mpr (by omega)), if_neg (fun z => by have := (pI_le (by omega) (by omega)).mp z; omega), nmul_4, nmul_4, pI_add, pI_add, nadd_1, pj_alike re rm (by omega) (by omega), Option.bind_some]
      simp only [b2i_0]
      have e1 : pany (fun j => !pz_al S A (4 * e + j) (4 * m + j)) (j + 1) = (pany (fun j => !pz_al S A (4 * e + j) (4 * m + j)) j || !pz_al S A (4 * e + j) (4 * m + j)) := rfl
      rw [e1, Bool.not_or] at ih
      cases eb : (!pany (fun j => !pz_al S A (4 * e + j) (4 * m + j)) j) with
      | false =>
        rw [if_pos rfl]
        rw [eb] at ih
        exact ih
      | true =>
        rw [if_neg (by decide)]
        rw [eb, Bool.true_and, Bool.not_not] at ih
        cases ea : pz_al S A (4 * e + j) (4 * m + j) with
        | false =>
          rw [if_pos rfl]
          rw [ea] at ih
          exact ih
        | true =>
          rw [if_neg (by decide)]
          rw [ea] at ih
          exact ih
  · rw [if_neg (fun z => hk ((pI_eq (by omega) (by omega)).mp z)), decide_eq_false hk]
    rfl
theorem uIself (σ : pv_S) (c k : Nat) {x : Int32} (h : σ.1 c k = x) : pv_uI σ c k x = σ := by
  refine Prod.ext ?_ rfl
  funext c' k'
  show (pv_uI σ c k x).1 c' k' = σ.1 c' k'
  rw [uI1]
  by_cases h2 : c' = c ∧ k' = k
  · rw [if_pos h2, h2.1, h2.2, h]
  · rw [if_neg h2]
/-- judge in closed form -/
theorem pj_judge {σ : pv_S} {n : Nat} {kd cn : Nat → Nat} {fr : Nat → Option Nat} {nu : Nat → Int32} (wf : pq_WF n kd cn fr nu) (hx : ∀ m, m < n → σ.1 9 m = pI (kd m) ∧ σ.1 10 m = pI (cn m)) {S : Nat → Option Nat} {A : Nat → Int32} {od : Nat → Nat} {sd : Nat → Option Nat} {i : Nat} (hi : i < n) (ho : ∀ k, k < n → σ.1 13 k = pI (od k) ∧ od k < n) (inj : ∀ k, k < i → od k ≠ od i) (hs : ∀ m, m < n → σ.1 15 m = oI (sd m) ∧ ∀ t, sd m = some t → t < n) (self : sd (od i) = some (od i)) (rows : ∀ k v, k ≤ i → kd (od k) ≠ 18 → pj_row (pv_uI σ 15 (od i) v) S A (od k)) (rowi : kd (od i) = 18 → ∀ j, j < 4 → ∃ x, f_Md_source σ (pI (4 * od i + j)) = some (x, σ)) : f_Md_judge σ (pI i) = some (if (decide (kd (od i) < 7) && !pany (fun j => (S (4 * od i + j)).isSome) (cn (od i))) = true then pv_uI (pv_uI σ 15 (od i) (-1)) 16 (od i) (pn_v (pI (kd (od i))) (A (4 * od i)) (A (4 * od i + 1)) (A (4 * od i + 2))) else if kd (od i) < 11 then pv_uI σ 15 (od i) (pI (ps_e sd (ps_sm kd cn (pz_al S A)) od i (od i))) else σ) := by
  obtain ⟨n1, n2, w1, _⟩ := id wf
  obtain ⟨o3, o4⟩ := ho i hi
  obtain ⟨k20, ec⟩ := w1 _ o4
  have c4 := pq_inp wf o4
  have e0 : pv_uI σ 15 (od i) (pI (od i)) = σ := uIself σ 15 (od i) (by rw [(hs _ o4).1, self]; rfl)
  -- the search for an earlier one
  have search : f_Md_judge_124 pv_fu σ (pI (od i)) (pI i - 1) = some (if kd (od i) < 11 then pv_uI σ 15 (od i) (pI (ps_e sd (ps_sm kd cn (pz_al S A)) od i (od i))) else σ) := by
    by_cases h11 : kd (od i) < 11
    · have k18 : kd (od i) ≠ 18 := by omega
      rw [if_pos h11]
      have key : ∀ (k fu : Nat) (v : Nat), k ≤ i → k < fu → v < n → f_Md_judge_124 fu (pv_uI σ 15 (od i) (pI v)) (pI (od i)) (pI k - 1) = some (pv_uI σ 15 (od i) (pI (match pfst (fun k => decide (sd (od k) = some (od k)) && ps_sm kd cn (pz_al S A) (od k) (od i)) k with | some k => od k | none => v))) := by
        intro k
        induction k with
        | zero =>
          intro fu v _ hf hv
          obtain ⟨fu, rfl⟩ : ∃ k, fu = k + 1 := ⟨fu - 1, by omega⟩
          show f_Md_judge_124b _ _ _ _ = _
          unfold f_Md_judge_124b
          rw [if_pos (show pI 0 - 1 < 0 by decide)]
          rfl
        | succ k ih =>
          intro fu v hk hf hv
          obtain ⟨fu, rfl⟩ : ∃ k, fu = k + 1 := ⟨fu - 1, by omega⟩
          obtain ⟨o1, o2⟩ := ho k (by omega)
          have ne := inj k (by omega)
          show f_Md_judge_124b _ _ _ _ = _
          unfold f_Md_judge_124b f_Md_judge_192 f_Md_judge_198
          have q9 : (pv_uI σ 15 (od i) (pI v)).1 9 (od i) = pI (kd (od i)) := (hx _ o4).1
          have q13 : (pv_uI σ 15 (od i) (pI v)).1 13 k = pI (od k) := o1
          have q15 : (pv_uI σ 15 (od i) (pI v)).1 15 (od k) = oI (sd (od k)) := by rw [uI1c, if_neg ne]; exact (hs _ o2).1
          have q15i : (pv_uI σ 15 (od i) (pI v)).1 15 (od i) = pI v := by rw [uI1c, if_pos rfl]
          have l1 : ∀ t, sd (od k) = some t → t < 2147483648 := fun t h => by have := (hs _ o2).2 t h; omega
          rw [nm1, if_neg (show ¬ pI k < 0 from fun z => (pI_lt0 (by omega)).mp z), pI_nat (by omega), pI_nat (by omega), q9, q13, pI_nat (by omega), q15, q15i, if_pos ((pI_in (by omega)).mpr (by omega)), if_neg (show ¬ (11 : Int32) ≤ pI (kd (od i)) from fun z => by rw [nle_11 (by omega)] at z; omega)]
          simp only [if_pos ((pI_in (show k < 2147483648 by omega)).mpr (show k < 24 by omega)), if_pos ((pI_in (show od k < 2147483648 by omega)).mpr (show od k < 24 by omega)), if_pos ((pI_in (show od i < 2147483648 by omega)).mpr (show od i < 24 by omega))]
          rw [pp_uIuI, show pI k + -1 = pI k - 1 from (Int32.sub_eq_add_neg _ _).symm]
          have st : pfst (fun k => decide (sd (od k) = some (od k)) && ps_sm kd cn (pz_al S A) (od k) (od i)) (k + 1) = match pfst (fun k => decide (sd (od k) = some (od k)) && ps_sm kd cn (pz_al S A) (od k) (od i)) k with | some k => some k | none => if (decide (sd (od k) = some (od k)) && ps_sm kd cn (pz_al S A) (od k) (od i)) = true then some k else none := rfl
          rw [st]
          have no : (decide (sd (od k) = some (od k)) && ps_sm kd cn (pz_al S A) (od k) (od i)) = false → f_Md_judge_124 fu (pv_uI σ 15 (od i) (pI v)) (pI (od i)) (pI k - 1) = some (pv_uI σ 15 (od i) (pI (match (match pfst (fun k => decide (sd (od k) = some (od k)) && ps_sm kd cn (pz_al S A) (od k) (od i)) k with | some k => some k | none => if (decide (sd (od k) = some (od k)) && ps_sm kd cn (pz_al S A) (od k) (od i)) = true then some k else none) with | some k => od k | none => v))) := by
            intro hz
            rw [ih fu v (by omega) (by omega) hv, hz]
            cases pfst (fun k => decide (sd (od k) = some (od k)) && ps_sm kd cn (pz_al S A) (od k) (od i)) k <;> rfl
          by_cases h1 : sd (od k) = some (od k)
          · rw [if_pos (show oI (sd (od k)) = pI (od k) by rw [h1]; rfl), pj_same (σ := pv_uI σ 15 (od i) (pI v)) wf hx o2 o4 (fun hkk => ⟨rows k _ (by omega) (by rw [hkk]; exact k18), rows i _ (by omega) k18⟩), Option.bind_some]
            simp only [b2i_0, q13, q15i]
            cases e : ps_sm kd cn (pz_al S A) (od k) (od i) with
            | false =>
              rw [if_pos rfl, pp_uIuI]
              rw [e, Bool.and_false] at no
              rw [Bool.and_false]
              exact no rfl
            | true =>
              rw [if_neg (by decide), pp_uIuI, ih fu (od k) (by omega) (by omega) o2, decide_eq_true h1]
              cases pfst (fun k => decide (sd (od k) = some (od k)) && ps_sm kd cn (pz_al S A) (od k) (od i)) k <;> rfl
          · rw [if_neg (show ¬ oI (sd (od k)) = pI (od k) from fun z => h1 ((oI_inj l1 (b := some (od k)) (fun t h => by cases h; omega)).mp z))]
            exact no (by rw [decide_eq_false h1]; rfl)
      have := key i pv_fu (od i) (by omega) (by unfold pv_fu; omega) o4
      rw [e0] at this
      exact this
    · rw [if_neg h11]
      cases i with
      | zero =>
        show f_Md_judge_124b _ _ _ _ = _
        unfold f_Md_judge_124b
        rw [if_pos (show pI 0 - 1 < 0 by decide)]
      | succ i =>
        show f_Md_judge_124b _ _ _ _ = _
        unfold f_Md_judge_124b
        rw [nm1, if_neg (show ¬ pI i < 0 from fun z => (pI_lt0 (by omega)).mp z), pI_nat (by omega), (hx _ o4).1, if_pos ((pI_in (by omega)).mpr (by omega)), if_pos ((nle_11 (by omega)).mpr (by omega))]
  have low : ∀ b : Bool, (b = true → kd (od i) ≠ 18) → (b = true → kd (od i) < 7) → f_Md_judge_27 pv_fu σ (pI i) (pI (od i)) (b2i b) 0 = some (if (b && !pany (fun j => (S (4 * od i + j)).isSome) (cn (od i))) = true then pv_uI (pv_uI σ 15 (od i) (-1)) 16 (od i) (pn_v (pI (kd (od i))) (A (4 * od i)) (A (4 * od i + 1)) (A (4 * od i + 2))) else if kd (od i) < 11 then pv_uI σ 15 (od i) (pI (ps_e sd (ps_sm kd cn (pz_al S A)) od i (od i))) else σ) := by
    intro b hb hb7
    have key := up_0 (N := cn (od i)) (P := fun fu j => f_Md_judge_27 fu σ (pI i) (pI (od i)) (b2i (b && !pany (fun j => (S (4 * od i + j)).isSome) j)) (pI j) = some (if (b && !pany (fun j => (S (4 * od i + j)).isSome) (cn (od i))) = true then pv_uI (pv_uI σ 15 (od i) (-1)) 16 (od i) (pn_v (pI (kd (od i))) (A (4 * od i)) (A (4 * od i + 1)) (A (4 * od i + 2))) else if kd (od i) < 11 then pv_uI σ 15 (od i) (pI (ps_e sd (ps_sm kd cn (pz_al S A)) od i (od i))) else σ)) ?_ ?_ (i := 0) (by omega) (by omega)
    · have e1 : (b && !pany (fun j => (S (4 * od i + j)).isSome) 0) = b := by cases b <;> rfl
      rw [e1] at key
      exact key
    · intro fu
      show f_Md_judge_27b _ _ _ _ _ _ = _
      unfold f_Md_judge_27b
      rw [pI_nat (by omega), (hx _ o4).2, if_pos ((pI_in (by omega)).mpr (by omega)), if_pos ((pI_le (by omega) (by omega)).mpr (by omega))]
      simp only [b2i_0]
      cases eb : (b && !pany (fun j => (S (4 * od i + j)).isSome) (cn (od i))) with
      | false =>
        rw [if_pos rfl, search, if_neg (show ¬ (false = true) by decide)]
      | true =>
        have hbt : b = true := by cases b with | true => rfl | false => cases eb
        have R := rows i (-1) (by omega) (hb hbt)
        have q9 : (pv_uI σ 15 (od i) (-1)).1 9 (od i) = pI (kd (od i)) := (hx _ o4).1
        have r0 := (R 0 (by decide)).2.1
        have r1 := (R 1 (by decide)).2.1
        have r2 := (R 2 (by decide)).2.1
        rw [Nat.add_zero] at r0
        rw [if_neg (by decide), if_pos rfl, if_pos ((pI_in (by omega)).mpr (by omega)), if_pos ((pI_in (by omega)).mpr (by omega)), nmul_4, nadd_1, nadd_2, r0]
        simp only [Option.bind_some]
        rw [r1]
        simp only [Option.bind_some]
        rw [r2]
        simp only [Option.bind_some]
        rw [q9, pn_M]
        simp only [Option.bind_some]
        rw [if_pos ((pI_in (by omega)).mpr (by omega))]
    · intro fu j hj ih
      show f_Md_judge_27b _ _ _ _ _ _ = _
      unfold f_Md_judge_27b f_Md_judge_59 f_Md_judge_60
      rw [pI_nat (by omega), (hx _ o4).2, if_pos ((pI_in (by omega)).mpr (by omega)), if_neg (fun z => by have := (pI_le (by omega) (by omega)).mp z; omega), nmul_4, pI_add, nadd_1]
      simp only [b2i_0]
      have e1 : pany (fun j => (S (4 * od i + j)).isSome) (j + 1) = (pany (fun j => (S (4 * od i + j)).isSome) j || (S (4 * od i + j)).isSome) := rfl
      rw [e1, Bool.not_or, ← Bool.and_assoc] at ih
      cases eb : (b && !pany (fun j => (S (4 * od i + j)).isSome) j) with
      | false =>
        rw [if_pos rfl]
        rw [eb, Bool.false_and] at ih
        exact ih
      | true =>
        have hbt : b = true := by cases b with | true => rfl | false => cases eb
        have R := rows i (pI (od i)) (by omega) (hb hbt)
        rw [e0] at R
        obtain ⟨a1, a2, a3⟩ := R j (by omega)
        rw [if_neg (by decide), a1, Option.bind_some]
        rw [eb, Bool.true_and] at ih
        simp only []
        cases e : S (4 * od i + j) with
        | none =>
          rw [if_neg (show ¬ (0 : Int32) ≤ oI none by decide)]
          rw [e] at ih
          exact ih
        | some t =>
          have := a3 t e
          rw [if_pos (show (0 : Int32) ≤ oI (some t) from (nle_0 (by omega)).mpr (by omega))]
          rw [e] at ih
          exact ih
  unfold f_Md_judge f_Md_judge_0 f_Md_judge_23
  rw [pI_nat (by omega), o3, pI_nat (by omega), (hx _ o4).1, if_pos ((pI_in (by omega)).mpr (by omega)), if_pos ((pI_in (by omega)).mpr (by omega))]
  by_cases h7 : kd (od i) < 7
  · rw [if_neg (show ¬ (7 : Int32) ≤ pI (kd (od i)) from fun z => by rw [nle_7 (by omega)] at z; omega), decide_eq_true h7]
    exact low true (fun _ => by omega) (fun _ => h7)
  · rw [if_pos ((nle_7 (by omega)).mpr (by omega)), decide_eq_false h7]
    exact low false (fun z => by cases z) (fun z => by cases z)
