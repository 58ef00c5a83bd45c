/-! The order of modules, on both sides. -/
def po_rdy (kd cn : Nat → Nat) (fr : Nat → Option Nat) (x : Int32) (m : Nat) : Bool := decide (kd m = 18) || !pany (fun j => match fr (4 * m + j) with | some s => !bI x s | none => false) (cn m)
theorem po_rdyX {σ : pv_S} {n : Nat} {kd cn : Nat → Nat} {fr : Nat → Option Nat} {nu : Nat → Int32} (wf : pq_WF n kd cn fr nu) (h : pq_X σ n kd) (hf : ∀ i, i < 4 * n → σ.1 14 i = oI (fr i)) (x : Int32) {m : Nat} (hm : m < n) : f_Wr_isReady σ (pI m) x = some (b2i (po_rdy kd cn fr x m), σ) := by
  obtain ⟨n1, n2, w1, w2, _⟩ := id wf
  obtain ⟨k20, ec⟩ := w1 m hm
  have c4 := pq_inp wf hm
  unfold f_Wr_isReady f_Wr_isReady_0
  rw [pI_nat (by omega), h.2 m hm, if_pos ((pI_in (by omega)).mpr (by omega))]
  by_cases h18 : kd m = 18
  · rw [if_pos (show pI (kd m) = 18 by rw [h18]; rfl)]
    unfold po_rdy
    simp [h18, b2i]
  · rw [if_neg (show ¬ pI (kd m) = 18 from fun z => h18 ((neq_18 (by omega)).mp z))]
    have key := up_0 (N := cn m) (P := fun fu j => pany (fun j => match fr (4 * m + j) with | some s => !bI x s | none => false) j = false → f_Wr_isReady_15 fu σ (pI m) x (pI j) = some (b2i (po_rdy kd cn fr x m), σ)) ?_ ?_ (i := 0) (by omega) (by omega)
    · exact key rfl
    · intro fu hp
      show f_Wr_isReady_15b _ _ _ _ _ = _
      unfold f_Wr_isReady_15b
      rw [pI_nat (by omega), h.2 m hm, if_pos ((pI_in (by omega)).mpr (by omega)), px_inputsOf σ k20, Option.bind_some]
      simp only []
      rw [← ec, if_pos ((pI_le (by omega) (by omega)).mpr (by omega))]
      unfold po_rdy
      rw [hp]
      simp [b2i]
    · intro fu j hj ih hp
      show f_Wr_isReady_15b _ _ _ _ _ = _
      unfold f_Wr_isReady_15b f_Wr_isReady_57
      rw [pI_nat (by omega), h.2 m hm, if_pos ((pI_in (by omega)).mpr (by omega)), px_inputsOf σ k20, Option.bind_some]
      simp only []
      rw [← ec, if_neg (fun z => by have := (pI_le (by omega) (by omega)).mp z; omega), nmul_4, pI_add, if_pos ((pI_in (by omega)).mpr (by omega)), pI_nat (by omega), hf _ (by omega), nadd_1]
      have st : ∀ b, (match fr (4 * m + j) with | some s => !bI x s | none => false) = b → pany (fun j => match fr (4 * m + j) with | some s => !bI x s | none => false) (j + 1) = b := by
        intro b hb
        show (pany (fun j => match fr (4 * m + j) with | some s => !bI x s | none => false) j || (match fr (4 * m + j) with | some s => !bI x s | none => false)) = b
        rw [hp, hb]
        rfl
      cases e : fr (4 * m + j) with
      | none =>
        rw [if_pos (show oI none = -1 from rfl)]
        exact ih (st false (by rw [e]))
      | some s =>
        have hs := (w2 _ s (by omega) e).1
        rw [if_neg (show ¬ oI (some s) = -1 from fun z => (pI_neg (by omega)).mp z), show oI (some s) = pI s from rfl]
        cases hb : bI x s with
        | false =>
          rw [if_pos ((bI_test0 _ _ (by omega)).mpr hb)]
          have : pany (fun j => match fr (4 * m + j) with | some s => !bI x s | none => false) (cn m) = true := pany_true.mpr ⟨j, hj, by rw [e]; simp [hb]⟩
          unfold po_rdy
          rw [this]
          simp [h18, b2i]
        | true =>
          rw [if_neg (fun z => by rw [bI_test0 _ _ (by omega), hb] at z; cases z)]
          exact ih (st false (by rw [e]; simp [hb]))
theorem po_rdyM {σ : pv_S} {n : Nat} {kd cn : Nat → Nat} {fr : Nat → Option Nat} {nu : Nat → Int32} (wf : pq_WF n kd cn fr nu) (h : pq_M σ n kd cn fr nu) (x : Int32) {m : Nat} (hm : m < n) : f_Md_isReady σ (pI m) x = some (b2i (!bI x m && po_rdy kd cn fr x m), σ) := by
  obtain ⟨n1, n2, w1, w2, w3, _⟩ := id wf
  obtain ⟨k20, ec⟩ := w1 m hm
  have c4 := pq_inp wf hm
  have main : ∀ b : Bool, f_Md_isReady_13 σ (pI m) x (b2i b) = some (b2i (b && po_rdy kd cn fr x m), σ) := by
    intro b
    unfold f_Md_isReady_13
    rw [nmul_4]
    have key := up_0 (N := 4) (P := fun fu j => (kd m = 18 → j = 0) → f_Md_isReady_19 fu σ (pI m) x (b2i (b && !pany (fun j => match fr (4 * m + j) with | some s => !bI x s | none => false) j)) (pI (4 * m + j)) = some (b2i (b && po_rdy kd cn fr x m), σ)) ?_ ?_ (i := 0) (by omega) (by omega)
    · have := key (fun _ => rfl)
      simpa [pany] using this
    · intro fu h0
      show f_Md_isReady_19b _ _ _ _ _ _ = _
      unfold f_Md_isReady_19b
      rw [nmul_4, nadd_4, if_pos ((pI_le (by omega) (by omega)).mpr (by omega)), if_pos (b2i_z _)]
      have h18 : ¬ kd m = 18 := fun z => by have := h0 z; omega
      have e : pany (fun j => match fr (4 * m + j) with | some s => !bI x s | none => false) 4 = pany (fun j => match fr (4 * m + j) with | some s => !bI x s | none => false) (cn m) := by
        apply bool_ext
        rw [pany_true, pany_true]
        constructor
        · rintro ⟨j, hj, z⟩
          by_cases hc : j < cn m
          · exact ⟨j, hc, z⟩
          · rw [(w3 m j hm (by omega) hj).1] at z
            cases z
        · rintro ⟨j, hj, z⟩
          exact ⟨j, by omega, z⟩
      rw [e]
      unfold po_rdy
      simp [h18]
    · intro fu j hj ih h0
      show f_Md_isReady_19b _ _ _ _ _ _ = _
      unfold f_Md_isReady_19b f_Md_isReady_73 f_Md_isReady_69 f_Md_isReady_74
      rw [nmul_4, nadd_4, if_neg (fun z => by have := (pI_le (by omega) (by omega)).mp z; omega), pI_nat (by omega), (h.2.1 m hm).1, if_pos ((pI_in (by omega)).mpr (by omega))]
      by_cases h18 : kd m = 18
      · rw [if_pos (show pI (kd m) = 18 by rw [h18]; rfl), if_pos (b2i_z _), h0 h18]
        unfold po_rdy
        simp [h18, pany]
      · rw [if_neg (show ¬ pI (kd m) = 18 from fun z => h18 ((neq_18 (by omega)).mp z)), pI_nat (by omega), (h.2.2 (4 * m + j) (by omega)).1, nadd_1, if_pos ((pI_in (by omega)).mpr (by omega)), if_pos ((pI_in (by omega)).mpr (by omega))]
        simp only [b2i_0]
        have ih := ih (fun z => absurd z h18)
        have e1 : pany (fun j => match fr (4 * m + j) with | some s => !bI x s | none => false) (j + 1) = (pany (fun j => match fr (4 * m + j) with | some s => !bI x s | none => false) j || (match fr (4 * m + j) with | some s => !bI x s | none => false)) := rfl
        rw [e1] at ih
        cases eb : (b && !pany (fun j => match fr (4 * m + j) with | some s => !bI x s | none => false) j) with
        | false =>
          rw [if_pos rfl]
          have : (b && !(pany (fun j => match fr (4 * m + j) with | some s => !bI x s | none => false) j || (match fr (4 * m + j) with | some s => !bI x s | none => false))) = false := by
            rw [Bool.not_or, ← Bool.and_assoc, eb]; rfl
          rw [this] at ih
          exact ih
        | true =>
          rw [if_neg (by decide)]
          rw [Bool.not_or, ← Bool.and_assoc, eb, Bool.true_and] at ih
          cases e : fr (4 * m + j) with
          | none =>
            rw [if_pos (show oI none < 0 by decide)]
            rw [e] at ih
            exact ih
          | some s =>
            have hs := (w2 _ s (by omega) e).1
            rw [if_neg (show ¬ oI (some s) < 0 from fun z => (pI_lt0 (by omega)).mp z), show oI (some s) = pI s from rfl]
            rw [e] at ih
            cases hb : bI x s with
            | true =>
              rw [if_pos ((bI_test1 _ _ (by omega)).mpr hb)]
              simp only [hb] at ih
              exact ih
            | false =>
              rw [if_neg (fun z => by rw [bI_test1 _ _ (by omega), hb] at z; cases z)]
              simp only [hb] at ih
              exact ih
  unfold f_Md_isReady f_Md_isReady_0
  cases hb : bI x m with
  | false =>
    rw [if_pos ((bI_test0 _ _ (by omega)).mpr hb)]
    exact main true
  | true =>
    rw [if_neg (fun z => by rw [bI_test0 _ _ (by omega), hb] at z; cases z)]
    exact main false
theorem po_leastX {σ : pv_S} {n : Nat} {kd cn : Nat → Nat} {fr : Nat → Option Nat} {nu : Nat → Int32} (wf : pq_WF n kd cn fr nu) (h : pq_X σ n kd) (hf : ∀ i, i < 4 * n → σ.1 14 i = oI (fr i)) (x : Int32) {k : Nat} (hk : pfst (fun m => !bI x m && po_rdy kd cn fr x m) n = some k) : f_Wr_leastReady σ x = some (pI k, σ) := by
  obtain ⟨n1, n2, _⟩ := id wf
  obtain ⟨k1, k2, k3⟩ := pfst_some.mp hk
  have h12 : σ.1 12 0 - (1 : Int32) = pI (n - 1) := by
    rw [h.1]
    have : n = n - 1 + 1 := by omega
    rw [this, nm1]
    congr 1
  have key := up_0 (N := n - 1) (P := fun fu m => m ≤ k → f_Wr_leastReady_2 fu σ x (pI m) = some (pI k, σ)) ?_ ?_ (i := 0) (by omega) (by omega)
  · exact key (by omega)
  · intro fu hm
    show f_Wr_leastReady_2b _ _ _ _ = _
    unfold f_Wr_leastReady_2b
    rw [h12, if_pos ((pI_le (by omega) (by omega)).mpr (by omega))]
    congr 3
    omega
  · intro fu m hm ih hmk
    show f_Wr_leastReady_2b _ _ _ _ = _
    unfold f_Wr_leastReady_2b f_Wr_leastReady_31
    rw [h12, if_neg (fun z => by have := (pI_le (by omega) (by omega)).mp z; omega), po_rdyX wf h hf x (by omega), Option.bind_some, nadd_1]
    simp only [b2i_0]
    by_cases e : m = k
    · subst e
      rw [Bool.and_eq_true, Bool.not_eq_true'] at k2
      rw [if_pos ((bI_test0 _ _ (by omega)).mpr k2.1), if_neg (by rw [k2.2]; decide)]
    · have k3 := k3 m (by omega)
      rw [Bool.and_eq_false_iff, Bool.not_eq_false'] at k3
      have ih := ih (by omega)
      rcases k3 with z | z
      · rw [if_neg (fun y => by rw [bI_test0 _ _ (by omega), z] at y; cases y)]
        exact ih
      · by_cases y : (x >>> (pI m &&& 31)) &&& 1 = 0
        · rw [if_pos y, if_pos z]
          exact ih
        · rw [if_neg y]
          exact ih
theorem po_leastM {σ : pv_S} {n : Nat} {kd cn : Nat → Nat} {fr : Nat → Option Nat} {nu : Nat → Int32} (wf : pq_WF n kd cn fr nu) (h : pq_M σ n kd cn fr nu) (x : Int32) {k i : Nat} (hi : i < 24) (hk : pfst (fun m => !bI x m && po_rdy kd cn fr x m) n = some k) (k4 : pv_S → Int32 → Int32 → Option pv_S) : f_Md_arrange_14 k4 pv_fu σ x (pI i) 0 = k4 (pv_uI σ 13 i (pI k)) (x ||| ((1 : Int32) <<< (pI k &&& 31))) (pI (i + 1)) := by
  obtain ⟨n1, n2, _⟩ := id wf
  obtain ⟨k1, k2, k3⟩ := pfst_some.mp hk
  have key := up_0 (N := k) (P := fun fu m => f_Md_arrange_14 k4 fu σ x (pI i) (pI m) = k4 (pv_uI σ 13 i (pI k)) (x ||| ((1 : Int32) <<< (pI k &&& 31))) (pI (i + 1))) ?_ ?_ (i := 0) (by omega) (by omega)
  · exact key
  · intro fu
    show f_Md_arrange_14b _ _ _ _ _ _ = _
    unfold f_Md_arrange_14b
    rw [po_rdyM wf h x k1, k2, Option.bind_some]
    simp only [b2i_0]
    rw [if_neg (by decide), if_pos ((pI_in (by omega)).mpr (by omega)), pI_nat (by omega), nadd_1]
  · intro fu m hm ih
    show f_Md_arrange_14b _ _ _ _ _ _ = _
    unfold f_Md_arrange_14b
    rw [po_rdyM wf h x (by omega), k3 m hm, Option.bind_some]
    simp only [b2i_0]
    rw [if_pos trivial, nadd_1]
    exact ih
