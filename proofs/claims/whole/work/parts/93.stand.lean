/-! What stands for a module: the class. -/
theorem pk_swap (σ : pv_S) {k : Nat} (hk : k < 20) : f_Kd_inputsMaySwap σ (pI k) = some (b2i (decide (k = 0 ∨ k = 2)), σ) := by
  have h : k = 0 ∨ k = 1 ∨ k = 2 ∨ k = 3 ∨ k = 4 ∨ k = 5 ∨ k = 6 ∨ k = 7 ∨ k = 8 ∨ k = 9 ∨ k = 10 ∨ k = 11 ∨ k = 12 ∨ k = 13 ∨ k = 14 ∨ k = 15 ∨ k = 16 ∨ k = 17 ∨ k = 18 ∨ k = 19 := by omega
  rcases h with rfl | rfl | rfl | rfl | rfl | rfl | rfl | rfl | rfl | rfl | rfl | rfl | rfl | rfl | rfl | rfl | rfl | rfl | rfl | rfl <;> rfl
def pz_al (S : Nat → Option Nat) (A : Nat → Int32) (i j : Nat) : Bool := decide (S i = S j) && decide (A i = A j)
/-- a row of the class's wiring, read -/
def pz_row (σ : pv_S) (S : Nat → Option Nat) (A : Nat → Int32) (m : Nat) : Prop := ∀ j, j < 4 → σ.1 14 (4 * m + j) = oI (S (4 * m + j)) ∧ σ.1 15 (4 * m + j) = A (4 * m + j) ∧ (∀ t, S (4 * m + j) = some t → t < 24 ∧ A (4 * m + j) = 0)
theorem pz_same {σ : pv_S} {S : Nat → Option Nat} {A : Nat → Int32} {e m : Nat} (he : e < 24) (hm : m < 24) (re : pz_row σ S A e) (rm : pz_row σ S A m) {j k : Nat} (hj : j < 4) (hk : k < 4) : f_Wr_isSameInput σ (pI e) (pI j) (pI m) (pI k) = some (b2i (pz_al S A (4 * e + j) (4 * m + k)), σ) := by
  obtain ⟨a1, a2, a3⟩ := re j hj
  obtain ⟨b1, b2, b3⟩ := rm k hk
  unfold f_Wr_isSameInput f_Wr_isSameInput_0
  rw [nmul_4, nmul_4, pI_add, pI_add, pI_nat (by omega), pI_nat (by omega), a1, a2, b1, b2, if_pos ((pI_in (by omega)).mpr (by omega)), if_pos ((pI_in (by omega)).mpr (by omega)), if_pos ((pI_in (by omega)).mpr (by omega)), if_pos ((pI_in (by omega)).mpr (by omega)), if_pos ((pI_in (by omega)).mpr (by omega))]
  have l1 : ∀ t, S (4 * e + j) = some t → t < 2147483648 := fun t h => by have := (a3 t h).1; omega
  have l2 : ∀ t, S (4 * m + k) = some t → t < 2147483648 := fun t h => by have := (b3 t h).1; omega
  unfold pz_al
  by_cases h : S (4 * e + j) = S (4 * m + k)
  · rw [if_pos (by rw [h])]
    by_cases h0 : S (4 * e + j) = none
    · rw [if_pos ((oI_neg l1).mpr h0)]
      by_cases ha : A (4 * e + j) = A (4 * m + k)
      · rw [if_pos ha]; simp [h, ha, b2i]
      · rw [if_neg ha]; simp [ha, b2i]
    · rw [if_neg (fun z => h0 ((oI_neg l1).mp z))]
      cases e1 : S (4 * e + j) with
      | none => exact absurd e1 h0
      | some t =>
        rw [(a3 t e1).2, (b3 t (by rw [← h]; exact e1)).2, ← h, e1]
        simp [b2i]
  · rw [if_neg (fun z => h ((oI_inj l1 l2).mp z))]
    simp [h, b2i]
theorem pz_alike {σ : pv_S} {n : Nat} {kd cn : Nat → Nat} {fr : Nat → Option Nat} {nu : Nat → Int32} (wf : pq_WF n kd cn fr nu) (hx : pq_X σ n kd) {S : Nat → Option Nat} {A : Nat → Int32} {e m : Nat} (he : e < n) (hm : m < n) (re : pz_row σ S A e) (rm : kd e = kd m → pz_row σ S A m) : f_Wr_areAlike σ (pI e) (pI m) = some (b2i (ps_sm kd cn (pz_al S A) e m), σ) := by
  obtain ⟨n1, n2, w1, _⟩ := id wf
  obtain ⟨k20, ec⟩ := w1 e he
  obtain ⟨m20, mc⟩ := w1 m hm
  have c4 := pq_inp wf he
  unfold f_Wr_areAlike f_Wr_areAlike_0
  rw [pI_nat (by omega), pI_nat (by omega), hx.2 e he, hx.2 m hm, if_pos ((pI_in (by omega)).mpr (by omega)), if_pos ((pI_in (by omega)).mpr (by omega))]
  unfold ps_sm
  by_cases hk : kd e = kd m
  · have rm := rm hk
    rw [if_pos (by rw [hk])]
    have key := up_0 (N := cn e) (P := fun fu j => f_Wr_areAlike_22 fu σ (pI e) (pI m) (b2i (!pany (fun j => !pz_al S A (4 * e + j) (4 * m + j)) j)) (pI j) = some (b2i ((!pany (fun j => !pz_al S A (4 * e + j) (4 * m + j)) (cn e)) || (decide (kd e = 0 ∨ kd e = 2) && (pz_al S A (4 * e) (4 * m + 1) && pz_al S A (4 * e + 1) (4 * m)))), σ)) ?_ ?_ (i := 0) (by omega) (by omega)
    · rw [decide_eq_true hk, Bool.true_and]
      exact key
    · intro fu
      show f_Wr_areAlike_22b _ _ _ _ _ _ = _
      unfold f_Wr_areAlike_22b
      rw [pI_nat (by omega), hx.2 e he, if_pos ((pI_in (by omega)).mpr (by omega)), px_inputsOf σ k20, Option.bind_some]
      simp only [b2i_0]
      rw [← ec, if_pos ((pI_le (by omega) (by omega)).mpr (by omega)), hx.2 e he, if_pos ((pI_in (by omega)).mpr (by omega)), pk_swap σ k20, Option.bind_some]
      cases eb : (!pany (fun j => !pz_al S A (4 * e + j) (4 * m + j)) (cn e)) with
      | true =>
        rw [if_neg (by decide)]
        rfl
      | false =>
        rw [if_pos rfl, Bool.false_or]
        simp only [b2i_0]
        cases es : decide (kd e = 0 ∨ kd e = 2) with
        | false =>
          rw [if_pos rfl]
          rfl
        | true =>
          have s1 := pz_same (by omega) (by omega) re rm (show 0 < 4 by decide) (show 1 < 4 by decide)
          have s2 := pz_same (by omega) (by omega) re rm (show 1 < 4 by decide) (show 0 < 4 by decide)
          rw [show pI 0 = 0 from rfl, show pI 1 = 1 from rfl, Nat.add_zero] at s1 s2
          rw [if_neg (by decide), s1, Option.bind_some]
          simp only [b2i_0]
          cases pz_al S A (4 * e) (4 * m + 1) with
          | false => rw [if_pos rfl]; rfl
          | true =>
            rw [if_neg (by decide), s2, Option.bind_some]
            simp only [b2i_0]
            cases pz_al S A (4 * e + 1) (4 * m) with
            | false => rw [if_pos rfl]; rfl
            | true => rw [if_neg (by decide)]; rfl
    · intro fu j hj ih
      show f_Wr_areAlike_22b _ _ _ _ _ _ = _
      unfold f_Wr_areAlike_22b f_Wr_areAlike_57 f_Wr_areAlike_58
      rw [pI_nat (by omega), hx.2 e he, if_pos ((pI_in (by omega)).mpr (by omega)), px_inputsOf σ k20, Option.bind_some]
      simp only [b2i_0]
      rw [← ec, if_neg (fun z => by have := (pI_le (by omega) (by omega)).mp z; omega), nadd_1, pz_same (by omega) (by omega) re rm (by omega) (by omega), Option.bind_some]
      simp only [b2i_0]
      have e1 : pany (fun j => !pz_al S A (4 * e + j) (4 * m + j)) (j + 1) = (pany (fun j => !pz_al S A (4 * e + j) (4 * m + j)) j || !pz_al S A (4 * e + j) (4 * m + j)) := rfl
      rw [e1, Bool.not_or] at ih
      cases eb : (!pany (fun j => !pz_al S A (4 * e + j) (4 * m + j)) j) with
      | false =>
        rw [if_pos rfl]
        rw [eb] at ih
        exact ih
      | true =>
        rw [if_neg (by decide)]
        rw [eb, Bool.true_and, Bool.not_not] at ih
        cases ea : pz_al S A (4 * e + j) (4 * m + j) with
        | false =>
          rw [if_pos rfl]
          rw [ea] at ih
          exact ih
        | true =>
          rw [if_neg (by decide)]
          rw [ea] at ih
          exact ih
  · rw [if_neg (fun z => hk ((pI_eq (by omega) (by omega)).mp z)), decide_eq_false hk]
    rfl
/-- the earliest one that is the same -/
def ps_e (sd : Nat → Option Nat) (sm : Nat → Nat → Bool) (od : Nat → Nat) (i m : Nat) : Nat := match pfst (fun k => decide (sd (od k) = some (od k)) && sm (od k) m) i with
  | some k => od k
  | none => m
theorem pz_earliest {σ : pv_S} {n : Nat} {kd cn : Nat → Nat} {fr : Nat → Option Nat} {nu : Nat → Int32} (wf : pq_WF n kd cn fr nu) (hx : pq_X σ n kd) {S : Nat → Option Nat} {A : Nat → Int32} {od : Nat → Nat} {sd : Nat → Option Nat} {i : Nat} (hi : i < n) (ho : ∀ k, k < n → σ.1 16 k = pI (od k) ∧ od k < n) (hs : ∀ m, m < n → σ.1 18 m = oI (sd m) ∧ ∀ t, sd m = some t → t < n) (k18 : kd (od i) ≠ 18) (rows : ∀ k, k ≤ i → kd (od k) ≠ 18 → pz_row σ S A (od k)) : f_Wr_earliestAlike σ (pI i) = some (pI (ps_e sd (ps_sm kd cn (pz_al S A)) od i (od i)), σ) := by
  obtain ⟨n1, n2, w1, _⟩ := id wf
  unfold f_Wr_earliestAlike f_Wr_earliestAlike_0
  rw [pI_nat (by omega), (ho i hi).1, if_pos ((pI_in (by omega)).mpr (by omega))]
  have key := up_0 (N := i) (P := fun fu k => (∀ k', k' < k → (decide (sd (od k') = some (od k')) && ps_sm kd cn (pz_al S A) (od k') (od i)) = false) → f_Wr_earliestAlike_9 fu σ (pI i) (pI (od i)) (pI k) = some (pI (ps_e sd (ps_sm kd cn (pz_al S A)) od i (od i)), σ)) ?_ ?_ (i := 0) (by omega) (by omega)
  · exact key (fun k hk => absurd hk (by omega))
  · intro fu hk
    show f_Wr_earliestAlike_9b _ _ _ _ _ = _
    unfold f_Wr_earliestAlike_9b ps_e
    rw [if_pos ((pI_le (by omega) (by omega)).mpr (by omega)), pfst_none.mpr hk]
  · intro fu k hk ih hp
    obtain ⟨o1, o2⟩ := ho k (by omega)
    obtain ⟨o3, o4⟩ := ho i hi
    obtain ⟨s1, s2⟩ := hs (od k) o2
    show f_Wr_earliestAlike_9b _ _ _ _ _ = _
    unfold f_Wr_earliestAlike_9b f_Wr_earliestAlike_47
    rw [if_neg (fun z => by have := (pI_le (by omega) (by omega)).mp z; omega), pI_nat (by omega), o1, pI_nat (by omega), s1, if_pos ((pI_in (by omega)).mpr (by omega)), if_pos ((pI_in (by omega)).mpr (by omega)), nadd_1]
    have go : (decide (sd (od k) = some (od k)) && ps_sm kd cn (pz_al S A) (od k) (od i)) = false → f_Wr_earliestAlike_9 fu σ (pI i) (pI (od i)) (pI (k + 1)) = some (pI (ps_e sd (ps_sm kd cn (pz_al S A)) od i (od i)), σ) := fun z => ih (fun k' hk' => by
      by_cases e : k' = k
      · subst e; exact z
      · exact hp k' (by omega))
    have l1 : ∀ t, sd (od k) = some t → t < 2147483648 := fun t h => by have := s2 t h; omega
    by_cases h1 : sd (od k) = some (od k)
    · rw [if_pos (show oI (sd (od k)) = pI (od k) by rw [h1]; rfl)]
      by_cases h18 : kd (od k) = 18
      · have hne : kd (od k) ≠ kd (od i) := by rw [h18]; exact fun z => k18 z.symm
        have hz : ps_sm kd cn (pz_al S A) (od k) (od i) = false := by
          unfold ps_sm
          simp [hne]
        unfold f_Wr_areAlike f_Wr_areAlike_0
        rw [pI_nat (by omega), pI_nat (by omega), hx.2 _ o2, hx.2 _ o4, if_pos ((pI_in (by omega)).mpr (by omega)), if_pos ((pI_in (by omega)).mpr (by omega)), if_neg (fun z => hne ((pI_eq (by have := (w1 _ o2).1; omega) (by have := (w1 _ o4).1; omega)).mp z)), Option.bind_some]
        simp only []
        rw [if_pos trivial]
        exact go (by rw [hz, Bool.and_false])
      · rw [pz_alike wf hx o2 o4 (rows k (by omega) h18) (fun _ => rows i (by omega) k18), Option.bind_some]
        simp only [b2i_0]
        cases e : ps_sm kd cn (pz_al S A) (od k) (od i) with
        | false =>
          rw [if_pos rfl]
          exact go (by rw [e, Bool.and_false])
        | true =>
          rw [if_neg (by decide)]
          unfold ps_e
          rw [pfst_some.mpr ⟨hk, by rw [decide_eq_true h1, e]; rfl, hp⟩]
    · rw [if_neg (show ¬ oI (sd (od k)) = pI (od k) from fun z => h1 ((oI_inj l1 (b := some (od k)) (fun t h => by cases h; omega)).mp z))]
      exact go (by rw [decide_eq_false h1]; rfl)
theorem pz_numbers {σ : pv_S} {n : Nat} {kd cn : Nat → Nat} {fr : Nat → Option Nat} {nu : Nat → Int32} (wf : pq_WF n kd cn fr nu) (hx : pq_X σ n kd) {S : Nat → Option Nat} {A : Nat → Int32} {m : Nat} (hm : m < n) (rm : pz_row σ S A m) : f_Wr_hasNumbersAlone σ (pI m) = some (b2i (!pany (fun j => (S (4 * m + j)).isSome) (cn m)), σ) := by
  obtain ⟨n1, n2, w1, _⟩ := id wf
  obtain ⟨k20, ec⟩ := w1 m hm
  have c4 := pq_inp wf hm
  have key := up_0 (N := cn m) (P := fun fu j => pany (fun j => (S (4 * m + j)).isSome) j = false → f_Wr_hasNumbersAlone_2 fu σ (pI m) (pI j) = some (b2i (!pany (fun j => (S (4 * m + j)).isSome) (cn m)), σ)) ?_ ?_ (i := 0) (by omega) (by omega)
  · exact key rfl
  · intro fu hp
    show f_Wr_hasNumbersAlone_2b _ _ _ _ = _
    unfold f_Wr_hasNumbersAlone_2b
    rw [pI_nat (by omega), hx.2 m hm, if_pos ((pI_in (by omega)).mpr (by omega)), px_inputsOf σ k20, Option.bind_some]
    simp only []
    rw [← ec, if_pos ((pI_le (by omega) (by omega)).mpr (by omega)), hp]
    rfl
  · intro fu j hj ih hp
    obtain ⟨a1, a2, a3⟩ := rm j (by omega)
    show f_Wr_hasNumbersAlone_2b _ _ _ _ = _
    unfold f_Wr_hasNumbersAlone_2b
    rw [pI_nat (by omega), hx.2 m hm, if_pos ((pI_in (by omega)).mpr (by omega)), px_inputsOf σ k20, Option.bind_some]
    simp only []
    rw [← ec, if_neg (fun z => by have := (pI_le (by omega) (by omega)).mp z; omega), nmul_4, pI_add, if_pos ((pI_in (by omega)).mpr (by omega)), pI_nat (by omega), a1, nadd_1]
    cases e : S (4 * m + j) with
    | none =>
      rw [if_pos (show oI none = -1 from rfl)]
      refine ih ?_
      show (pany (fun j => (S (4 * m + j)).isSome) j || (S (4 * m + j)).isSome) = false
      rw [hp, e]
      rfl
    | some t =>
      have := (a3 t e).1
      rw [if_neg (show ¬ oI (some t) = -1 from fun z => (pI_neg (by omega)).mp z), pany_true.mpr ⟨j, hj, by rw [e]; rfl⟩]
      rfl
/-- findStand in closed form -/
theorem pz_find {σ : pv_S} {n : Nat} {kd cn : Nat → Nat} {fr : Nat → Option Nat} {nu : Nat → Int32} (wf : pq_WF n kd cn fr nu) (hx : pq_X σ n kd) {S : Nat → Option Nat} {A : Nat → Int32} {od : Nat → Nat} {sd : Nat → Option Nat} {i : Nat} (hi : i < n) (ho : ∀ k, k < n → σ.1 16 k = pI (od k) ∧ od k < n) (hs : ∀ m, m < n → σ.1 18 m = oI (sd m) ∧ ∀ t, sd m = some t → t < n) (k18 : kd (od i) ≠ 18) (rows : ∀ k, k ≤ i → kd (od k) ≠ 18 → pz_row σ S A (od k)) : f_Wr_findStand σ (pI i) = some (if (decide (kd (od i) < 7) && !pany (fun j => (S (4 * od i + j)).isSome) (cn (od i))) = true then pv_uI (pv_uI σ 18 (od i) (-1)) 19 (od i) (pn_v (pI (kd (od i))) (A (4 * od i)) (A (4 * od i + 1)) (A (4 * od i + 2))) else if kd (od i) < 11 then pv_uI σ 18 (od i) (pI (ps_e sd (ps_sm kd cn (pz_al S A)) od i (od i))) else σ) := by
  obtain ⟨n1, n2, w1, _⟩ := id wf
  obtain ⟨o3, o4⟩ := ho i hi
  obtain ⟨k20, ec⟩ := w1 _ o4
  have R := rows i (by omega) k18
  unfold f_Wr_findStand f_Wr_findStand_0 f_Wr_findStand_78 f_Kd_isPlain f_Kd_isPlain_0 f_Kd_hasMemory f_Kd_hasMemory_0
  rw [pI_nat (by omega), o3, pI_nat (by omega), hx.2 _ o4, if_pos ((pI_in (by omega)).mpr (by omega)), if_pos ((pI_in (by omega)).mpr (by omega))]
  have tail : (if pv_in (pI (od i)) 24 = true then ((if pI (kd (od i)) < 11 then some ((0 : Int32), σ) else some ((1 : Int32), σ)).bind fun q4 => (if q4.1 = 0 then ((f_Wr_earliestAlike q4.2 (pI i)).bind fun q5 => (if pv_in (pI (od i)) 24 = true then some (pv_uI q5.2 18 (od i) q5.1) else none)) else some q4.2)) else none) = some (if kd (od i) < 11 then pv_uI σ 18 (od i) (pI (ps_e sd (ps_sm kd cn (pz_al S A)) od i (od i))) else σ) := by
    rw [if_pos ((pI_in (by omega)).mpr (by omega))]
    by_cases h11 : kd (od i) < 11
    · rw [if_pos ((nlt'_11 (by omega)).mpr h11), Option.bind_some, if_pos h11]
      simp only []
      rw [if_pos trivial, pz_earliest wf hx hi ho hs k18 rows, Option.bind_some, if_pos ((pI_in (by omega)).mpr (by omega))]
    · rw [if_neg (fun z => h11 ((nlt'_11 (by omega)).mp z)), Option.bind_some, if_neg h11]
      simp only []
      rw [if_neg (by decide)]
  by_cases h7 : kd (od i) < 7
  · rw [if_neg (fun z => by rw [nle_7 (by omega)] at z; omega), Option.bind_some]
    simp only []
    rw [if_neg (by decide), pz_numbers wf hx o4 R, Option.bind_some, decide_eq_true h7, Bool.true_and]
    simp only [b2i_0]
    cases eb : (!pany (fun j => (S (4 * od i + j)).isSome) (cn (od i))) with
    | false =>
      rw [if_pos rfl, if_neg (show ¬ (false = true) by decide)]
      rw [hx.2 _ o4]; exact tail
    | true =>
      have r0 := (R 0 (by decide)).2.1
      have r1 := (R 1 (by decide)).2.1
      have r2 := (R 2 (by decide)).2.1
      rw [Nat.add_zero] at r0
      rw [if_neg (by decide), if_pos rfl, nmul_4, nadd_1, nadd_2, pI_nat (by omega), pI_nat (by omega), pI_nat (by omega)]
      simp only [if_pos ((pI_in (show od i < 2147483648 by omega)).mpr (show od i < 24 by omega)), if_pos ((pI_in (show 4 * od i < 2147483648 by omega)).mpr (show 4 * od i < 96 by omega)), if_pos ((pI_in (show 4 * od i + 1 < 2147483648 by omega)).mpr (show 4 * od i + 1 < 96 by omega)), if_pos ((pI_in (show 4 * od i + 2 < 2147483648 by omega)).mpr (show 4 * od i + 2 < 96 by omega))]
      have q1 : (pv_uI σ 18 (od i) (-1)).1 13 (od i) = pI (kd (od i)) := hx.2 _ o4
      have q2 : (pv_uI σ 18 (od i) (-1)).1 15 (4 * od i) = A (4 * od i) := r0
      have q3 : (pv_uI σ 18 (od i) (-1)).1 15 (4 * od i + 1) = A (4 * od i + 1) := r1
      have q4 : (pv_uI σ 18 (od i) (-1)).1 15 (4 * od i + 2) = A (4 * od i + 2) := r2
      rw [q1, q2, q3, q4, pn_X, Option.bind_some]
  · rw [if_pos ((nle_7 (by omega)).mpr (by omega)), Option.bind_some]
    simp only []
    rw [if_pos trivial, decide_eq_false h7, Bool.false_and, if_neg (show ¬ (false = true) by decide)]
    rw [hx.2 _ o4]; exact tail
