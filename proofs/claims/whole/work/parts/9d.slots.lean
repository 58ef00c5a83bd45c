/-! Slots: the reference's question, both sides in step. -/
/-- what the reference's program has of its steps -/
def pr_M (σ : pv_S) (n : Nat) (kd : Nat → Nat) (S : Nat → Option Nat) (fp sc : Nat) (sm : Nat → Nat) (o : Option Nat) : Prop := σ.1 0 18 = pI n ∧ (∀ m, m < n → σ.1 9 m = pI (kd m)) ∧ (∀ i, i < 4 * n → f_Md_source σ (pI i) = some (oI (S i), σ)) ∧ σ.1 0 28 = pI sc ∧ (∀ t, t < sc → σ.1 18 t = pI (sm t) ∧ σ.1 19 t = b2i (decide (fp ≤ t))) ∧ σ.1 15 (n - 1) = oI o
theorem pr_readsM {σ : pv_S} {n : Nat} {kd cn : Nat → Nat} {S : Nat → Option Nat} {fp sc : Nat} {sm : Nat → Nat} {o : Option Nat} (B : pr_B n kd cn S fp sc sm) (M : pr_M σ n kd S fp sc sm o) {t m : Nat} (ht : t < sc) (hm : m < n) : f_Md_reads σ (pI t) (pI m) = some (b2i (pr_rd fp kd S sm t m), σ) := by
  obtain ⟨b1, b2, b2', b3, b4, b5, b6, b7, b8⟩ := B
  obtain ⟨m1, m2, m3, m4, m5, m6⟩ := M
  have hn := b4 t ht
  obtain ⟨m7, m8⟩ := m5 t ht
  have inj : ∀ i, i < 4 * n → (oI (S i) = pI m ↔ S i = some m) := fun i hi => oI_inj (b := some m) (fun k h => by have := b5 i k hi h; omega) (fun k h => by cases h; omega)
  unfold f_Md_reads f_Md_reads_0
  rw [pI_nat (by omega), m7, m8, if_pos ((pI_in (by omega)).mpr (by omega)), if_pos ((pI_in (by omega)).mpr (by omega)), nmul_4]
  simp only [b2i_0]
  by_cases h : fp ≤ t
  · rw [decide_eq_true h, if_neg (by decide), m3 _ (by omega), Option.bind_some]
    simp only []
    rw [ite_b2i']
    congr 3
    unfold pr_rd
    apply bool_ext
    rw [decide_eq_true_eq, inj _ (by omega), pany_true]
    unfold pr_so
    simp only [if_neg (show ¬ t < fp by omega)]
    constructor
    · intro z
      exact ⟨0, by decide, by rw [if_pos rfl]; exact decide_eq_true z⟩
    · rintro ⟨j, hj, z⟩
      by_cases h0 : j = 0
      · rw [if_pos h0] at z; exact of_decide_eq_true z
      · rw [if_neg h0] at z; cases z
  · rw [decide_eq_false h, if_pos rfl]
    by_cases h18 : kd (sm t) = 18
    · show f_Md_reads_39b _ _ _ _ _ _ _ = _
      unfold f_Md_reads_39b
      rw [nadd_4, if_neg (fun z => by have := (pI_le (by omega) (by omega)).mp z; omega), pI_nat (by omega), m7, pI_nat (by omega), m2 _ hn, if_pos ((pI_in (by omega)).mpr (by omega)), if_pos ((pI_in (by omega)).mpr (by omega)), if_pos (show pI (kd (sm t)) = 18 by rw [h18]; rfl), if_pos (by decide)]
      have : pr_rd fp kd S sm t m = false := by
        unfold pr_rd
        refine pany_false.mpr (fun j hj => ?_)
        unfold pr_so
        rw [if_pos (by omega), if_pos h18]
        rfl
      rw [this]
      rfl
    · have key := up_0 (N := 4) (P := fun fu j => f_Md_reads_39 fu σ (pI t) (pI m) (pI (4 * sm t)) (b2i (pany (fun j => decide (S (4 * sm t + j) = some m)) j)) (pI (4 * sm t + j)) = some (b2i (pr_rd fp kd S sm t m), σ)) ?_ ?_ (i := 0) (by omega) (by omega)
      · exact key
      · intro fu
        show f_Md_reads_39b _ _ _ _ _ _ _ = _
        unfold f_Md_reads_39b
        rw [nadd_4, if_pos ((pI_le (by omega) (by omega)).mpr (by omega)), if_pos (b2i_z _)]
        unfold pr_rd pr_so
        simp only [if_pos (show t < fp by omega), if_neg h18]
      · intro fu j hj ih
        show f_Md_reads_39b _ _ _ _ _ _ _ = _
        unfold f_Md_reads_39b f_Md_reads_78 f_Md_reads_83
        rw [nadd_4, if_neg (fun z => by have := (pI_le (by omega) (by omega)).mp z; omega), pI_nat (by omega), m7, pI_nat (by omega), m2 _ hn, if_pos ((pI_in (by omega)).mpr (by omega)), if_pos ((pI_in (by omega)).mpr (by omega)), if_neg (show ¬ pI (kd (sm t)) = 18 from fun z => h18 ((neq_18 (by have := (b6 _ hn).1; omega)).mp z)), m3 _ (by omega), Option.bind_some, nadd_1]
        simp only [b2i_0]
        have e1 : pany (fun j => decide (S (4 * sm t + j) = some m)) (j + 1) = (pany (fun j => decide (S (4 * sm t + j) = some m)) j || decide (S (4 * sm t + j) = some m)) := rfl
        rw [e1] at ih
        cases eb : pany (fun j => decide (S (4 * sm t + j) = some m)) j with
        | true =>
          rw [if_neg (by decide)]
          rw [eb] at ih
          exact ih
        | false =>
          rw [if_pos rfl]
          rw [eb, Bool.false_or] at ih
          by_cases hs : S (4 * sm t + j) = some m
          · rw [if_pos ((inj _ (by omega)).mpr hs)]
            rw [decide_eq_true hs] at ih
            exact ih
          · rw [if_neg (fun z => hs ((inj _ (by omega)).mp z))]
            rw [decide_eq_false hs] at ih
            exact ih
/-- slot s is full at step i -/
def pr_full (fp : Nat) (kd : Nat → Nat) (S : Nat → Option Nat) (sm : Nat → Nat) (sc : Nat) (o : Option Nat) (sl : Nat → Nat) (i s : Nat) : Bool := pany (fun e => decide (sl e = s) && pr_w fp kd S sm sc o (sm e) i) i
theorem pr_isFull {σ : pv_S} {n : Nat} {kd cn : Nat → Nat} {S : Nat → Option Nat} {fp sc : Nat} {sm : Nat → Nat} {o : Option Nat} (n1 : 1 ≤ n) (B : pr_B n kd cn S fp sc sm) (M : pr_M σ n kd S fp sc sm o) (ho : ∀ t, o = some t → t < n) {sl : Nat → Nat} {i s : Nat} (hi : i < fp) (hs : s < 1000) (h20 : ∀ e, e < i → σ.1 20 e = pI (sl e) ∧ sl e < 24) : f_Md_isFull σ (pI i) (pI s) = some (b2i (pr_full fp kd S sm sc o sl i s), σ) := by
  obtain ⟨b1, b2, b2', b3, b4, b5, b6, b7, b8⟩ := id B
  obtain ⟨m1, m2, m3, m4, m5, m6⟩ := id M
  have e12 : pI n - (1 : Int32) = pI (n - 1) := by
    have : n = n - 1 + 1 := by omega
    rw [this, nm1]
    congr 1
  have key := up_0 (N := i) (P := fun fu e => f_Md_isFull_5 fu σ (pI i) (pI s) (b2i (pany (fun e => decide (sl e = s) && pr_w fp kd S sm sc o (sm e) i) e)) (pI e) = some (b2i (pr_full fp kd S sm sc o sl i s), σ)) ?_ ?_ (i := 0) (by omega) (by omega)
  · exact key
  · intro fu
    show f_Md_isFull_5b _ _ _ _ _ _ = _
    unfold f_Md_isFull_5b
    rw [if_pos ((pI_le (by omega) (by omega)).mpr (by omega)), if_pos (b2i_z _)]
    rfl
  · intro fu e he ih
    obtain ⟨h20e, hsl⟩ := h20 e he
    obtain ⟨m7, m8⟩ := m5 e (by omega)
    have hn := b4 e (by omega)
    have e1 : pany (fun e => decide (sl e = s) && pr_w fp kd S sm sc o (sm e) i) (e + 1) = (pany (fun e => decide (sl e = s) && pr_w fp kd S sm sc o (sm e) i) e || (decide (sl e = s) && pr_w fp kd S sm sc o (sm e) i)) := rfl
    rw [e1] at ih
    -- the search for a later reader
    have later : ∀ (b : Bool), f_Md_isFull_65 (f_Md_isFull_5 fu) σ (pI i) (pI s) (b2i (pany (fun e => decide (sl e = s) && pr_w fp kd S sm sc o (sm e) i) e)) (pI e) (b2i b) (b2i (decide (o = some (sm e)))) = f_Md_isFull_5 fu σ (pI i) (pI s) (b2i (pany (fun e => decide (sl e = s) && pr_w fp kd S sm sc o (sm e) i) e || (b && pr_w fp kd S sm sc o (sm e) i))) (pI (e + 1)) := by
      intro b
      unfold f_Md_isFull_65
      rw [nadd_1]
      have key2 := up_0 (N := sc) (P := fun fu' d => i < d → f_Md_isFull_72 (f_Md_isFull_5 fu) fu' σ (pI i) (pI s) (b2i (pany (fun e => decide (sl e = s) && pr_w fp kd S sm sc o (sm e) i) e)) (pI e) (b2i b) (b2i (decide (o = some (sm e)) || pany (fun d => decide (i < d) && pr_rd fp kd S sm d (sm e)) d)) (pI d) = f_Md_isFull_5 fu σ (pI i) (pI s) (b2i (pany (fun e => decide (sl e = s) && pr_w fp kd S sm sc o (sm e) i) e || (b && pr_w fp kd S sm sc o (sm e) i))) (pI (e + 1))) ?_ ?_ (i := i + 1) (by omega) (by omega)
      · have := key2 (by omega)
        have z : pany (fun d => decide (i < d) && pr_rd fp kd S sm d (sm e)) (i + 1) = false := pany_false.mpr (fun d hd => by rw [decide_eq_false (by omega)]; rfl)
        rw [z, Bool.or_false] at this
        exact this
      · intro fu' _
        show f_Md_isFull_72b _ _ _ _ _ _ _ _ _ _ = _
        unfold f_Md_isFull_72b f_Md_isFull_133 f_Md_isFull_129 f_Md_isFull_134
        rw [m4, if_pos ((pI_le (by omega) (by omega)).mpr (by omega)), nadd_1]
        simp only [b2i_0]
        have ew : (decide (o = some (sm e)) || pany (fun d => decide (i < d) && pr_rd fp kd S sm d (sm e)) sc) = pr_w fp kd S sm sc o (sm e) i := rfl
        rw [ew]
        cases pany (fun e => decide (sl e = s) && pr_w fp kd S sm sc o (sm e) i) e with
        | true => rw [if_neg (by decide), Bool.true_or]; rfl
        | false =>
          rw [if_pos rfl, Bool.false_or]
          cases b with
          | false => rw [if_pos rfl]; rfl
          | true =>
            rw [if_neg (by decide), Bool.true_and]
            cases pr_w fp kd S sm sc o (sm e) i with
            | false => rw [if_pos rfl]; rfl
            | true => rw [if_neg (by decide)]; rfl
      · intro fu' d hd ih2 hid
        have ih2 := ih2 (by omega)
        have e2 : pany (fun d => decide (i < d) && pr_rd fp kd S sm d (sm e)) (d + 1) = (pany (fun d => decide (i < d) && pr_rd fp kd S sm d (sm e)) d || (decide (i < d) && pr_rd fp kd S sm d (sm e))) := rfl
        rw [e2, decide_eq_true hid, Bool.true_and, ← Bool.or_assoc] at ih2
        show f_Md_isFull_72b _ _ _ _ _ _ _ _ _ _ = _
        unfold f_Md_isFull_72b f_Md_isFull_102 f_Md_isFull_107
        have nl : ¬ pI sc ≤ pI d := fun z => by have := (pI_le (by omega) (by omega)).mp z; omega
        rw [m4, if_neg nl, pI_nat (by omega), m7, if_pos ((pI_in (by omega)).mpr (by omega)), pr_readsM B M hd hn, Option.bind_some, nadd_1]
        simp only [b2i_0]
        cases eb : (decide (o = some (sm e)) || pany (fun d => decide (i < d) && pr_rd fp kd S sm d (sm e)) d) with
        | true =>
          rw [if_neg (by decide)]
          rw [eb, Bool.true_or] at ih2
          exact ih2
        | false =>
          rw [if_pos rfl]
          rw [eb, Bool.false_or] at ih2
          cases er : pr_rd fp kd S sm d (sm e) with
          | true =>
            rw [if_neg (by decide)]
            rw [er] at ih2
            exact ih2
          | false =>
            rw [if_pos rfl]
            rw [er] at ih2
            exact ih2
    have lo : ∀ t, o = some t → t < 2147483648 := fun t h => by have := ho t h; omega
    have st : ∀ b : Bool, f_Md_isFull_37 (f_Md_isFull_5 fu) σ (pI i) (pI s) (b2i (pany (fun e => decide (sl e = s) && pr_w fp kd S sm sc o (sm e) i) e)) (pI e) (b2i b) = f_Md_isFull_5 fu σ (pI i) (pI s) (b2i (pany (fun e => decide (sl e = s) && pr_w fp kd S sm sc o (sm e) i) e || (b && pr_w fp kd S sm sc o (sm e) i))) (pI (e + 1)) := by
      intro b
      unfold f_Md_isFull_37
      rw [m1, e12, pI_nat (by omega), pI_nat (by omega), m7, m6, if_pos ((pI_in (by omega)).mpr (by omega)), if_pos ((pI_in (by omega)).mpr (by omega))]
      have L := later b
      by_cases h : o = some (sm e)
      · rw [if_pos (show pI (sm e) = oI o by rw [h]; rfl)]
        rw [decide_eq_true h] at L
        exact L
      · rw [if_neg (show ¬ pI (sm e) = oI o from fun y => h ((oI_inj (a := some (sm e)) (fun t h => by cases h; omega) lo).mp y).symm)]
        rw [decide_eq_false h] at L
        exact L
    show f_Md_isFull_5b _ _ _ _ _ _ = _
    unfold f_Md_isFull_5b f_Md_isFull_36
    have nl : ¬ pI i ≤ pI e := fun z => by have := (pI_le (by omega) (by omega)).mp z; omega
    rw [if_neg nl, pI_nat (by omega), m8, decide_eq_false (by omega), if_pos ((pI_in (by omega)).mpr (by omega)), if_pos ((pI_in (by omega)).mpr (by omega)), h20e, if_pos (show b2i false = 0 from rfl)]
    by_cases h : sl e = s
    · rw [if_pos (by rw [h])]
      rw [decide_eq_true h] at ih
      exact (st true).trans ih
    · rw [if_neg (fun z => h ((pI_eq (by omega) (by omega)).mp z))]
      rw [decide_eq_false h] at ih
      exact (st false).trans ih
