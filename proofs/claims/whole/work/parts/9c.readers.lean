/-! Who reads what, on both sides. -/
def pr_so (fp : Nat) (kd : Nat → Nat) (S : Nat → Option Nat) (sm : Nat → Nat) (t j : Nat) : Option Nat := if t < fp then (if kd (sm t) = 18 then none else S (4 * sm t + j)) else (if j = 0 then S (4 * sm t) else none)
def pr_rd (fp : Nat) (kd : Nat → Nat) (S : Nat → Option Nat) (sm : Nat → Nat) (t m : Nat) : Bool := pany (fun j => decide (pr_so fp kd S sm t j = some m)) 4
def plast (p : Nat → Bool) : Nat → Option Nat
  | 0 => none
  | n + 1 => if p n = true then some n else plast p n
theorem plast_lt {p : Nat → Bool} {i : Nat} : ∀ {n : Nat}, (∃ k, plast p n = some k ∧ i < k) ↔ ∃ t, i < t ∧ t < n ∧ p t = true := by
  intro n
  induction n with
  | zero => exact ⟨fun ⟨k, h, _⟩ => (by cases h), fun ⟨t, _, h, _⟩ => absurd h (by omega)⟩
  | succ n ih =>
    show (∃ k, (if p n = true then some n else plast p n) = some k ∧ i < k) ↔ _
    by_cases hp : p n = true
    · rw [if_pos hp]
      constructor
      · rintro ⟨k, h, hk⟩
        cases h
        exact ⟨n, hk, by omega, hp⟩
      · rintro ⟨t, h1, h2, h3⟩
        exact ⟨n, rfl, by omega⟩
    · rw [if_neg hp, ih]
      constructor
      · rintro ⟨t, h1, h2, h3⟩
        exact ⟨t, h1, by omega, h3⟩
      · rintro ⟨t, h1, h2, h3⟩
        refine ⟨t, h1, ?_, h3⟩
        by_cases e : t = n
        · subst e; exact absurd h3 hp
        · omega
theorem plast_b {p : Nat → Bool} : ∀ {n k : Nat}, plast p n = some k → k < n := by
  intro n
  induction n with
  | zero => intro k h; cases h
  | succ n ih =>
    intro k h
    have h : (if p n = true then some n else plast p n) = some k := h
    by_cases hp : p n = true
    · rw [if_pos hp] at h
      cases h
      omega
    · rw [if_neg hp] at h
      have := ih h
      omega
/-- what the class's program has of its steps -/
def pr_X (σ : pv_S) (n : Nat) (kd : Nat → Nat) (S : Nat → Option Nat) (fp sc : Nat) (sm : Nat → Nat) : Prop := pq_X σ n kd ∧ (∀ i, i < 4 * n → σ.1 14 i = oI (S i)) ∧ σ.1 11 1 = pI sc ∧ σ.1 11 2 = pI fp ∧ ∀ t, t < sc → σ.1 20 t = pI (sm t)
def pr_B (n : Nat) (kd cn : Nat → Nat) (S : Nat → Option Nat) (fp sc : Nat) (sm : Nat → Nat) : Prop := n ≤ 24 ∧ fp ≤ n ∧ fp ≤ sc ∧ sc ≤ 48 ∧ (∀ t, t < sc → sm t < n) ∧ (∀ i k, i < 4 * n → S i = some k → k < n) ∧ (∀ m, m < n → kd m < 20 ∧ cn m = pt_inp (kd m) ∧ cn m ≤ 4) ∧ (∀ m j, m < n → cn m ≤ j → j < 4 → S (4 * m + j) = none) ∧ ∀ m, m < n → kd m = 18 → S (4 * m + 1) = none
theorem pr_kind {σ : pv_S} {n : Nat} {kd cn : Nat → Nat} {S : Nat → Option Nat} {fp sc : Nat} {sm : Nat → Nat} (B : pr_B n kd cn S fp sc sm) (X : pr_X σ n kd S fp sc sm) {t : Nat} (ht : t < sc) : f_Pg_kindOf σ (pI t) = some (pI (if t < fp then kd (sm t) else 20), σ) := by
  obtain ⟨b1, b2, b2', b3, b4, b5, b6, b7, b8⟩ := B
  obtain ⟨x1, x2, x3, x4, x5⟩ := X
  have := b4 t ht
  unfold f_Pg_kindOf f_Pg_kindOf_0
  rw [x4, pI_nat (by omega), x5 t ht, pI_nat (by omega), x1.2 _ this]
  by_cases h : t < fp
  · rw [if_pos ((pI_lt (by omega) (by omega)).mpr h), if_pos h, if_pos ((pI_in (by omega)).mpr (by omega)), if_pos ((pI_in (by omega)).mpr (by omega))]
  · rw [if_neg (fun z => h ((pI_lt (by omega) (by omega)).mp z)), if_neg h]
    rfl
def pr_rs (fp : Nat) (kd cn : Nat → Nat) (sm : Nat → Nat) (t j : Nat) : Bool := if t < fp then (if kd (sm t) = 18 then decide (j = 1) else decide (j < cn (sm t))) else decide (j = 0)
theorem pr_reads {σ : pv_S} {n : Nat} {kd cn : Nat → Nat} {S : Nat → Option Nat} {fp sc : Nat} {sm : Nat → Nat} (B : pr_B n kd cn S fp sc sm) (X : pr_X σ n kd S fp sc sm) {t j : Nat} (ht : t < sc) (hj : j < 4) : f_Pg_reads σ (pI t) (pI j) = some (b2i (pr_rs fp kd cn sm t j), σ) := by
  have k := pr_kind B X ht
  obtain ⟨b1, b2, b2', b3, b4, b5, b6, b7, b8⟩ := B
  obtain ⟨k20, kc, c4⟩ := b6 _ (b4 t ht)
  unfold f_Pg_reads f_Pg_reads_0
  rw [k, Option.bind_some]
  simp only []
  unfold pr_rs
  by_cases h : t < fp
  · rw [if_pos h, if_pos h]
    by_cases h18 : kd (sm t) = 18
    · rw [if_pos h18, if_pos (show pI (kd (sm t)) = 18 by rw [h18]; rfl)]
      by_cases h1 : j = 1
      · rw [if_pos ((neq_1 (by omega)).mpr h1), decide_eq_true h1]; rfl
      · rw [if_neg (fun z => h1 ((neq_1 (by omega)).mp z)), decide_eq_false h1]; rfl
    · rw [if_neg h18, if_neg (show ¬ pI (kd (sm t)) = 18 from fun z => h18 ((neq_18 (by omega)).mp z)), if_neg (show ¬ pI (kd (sm t)) = 20 from fun z => by have := (neq_20 (by omega)).mp z; omega), px_inputsOf σ k20, Option.bind_some]
      simp only []
      rw [← kc, ite_b2i]
      congr 3
      by_cases hc : j < cn (sm t)
      · rw [decide_eq_true hc, decide_eq_true (show ¬ pI (cn (sm t)) ≤ pI j from fun z => by have := (pI_le (by omega) (by omega)).mp z; omega)]
      · rw [decide_eq_false hc, decide_eq_false (show ¬ ¬ pI (cn (sm t)) ≤ pI j from fun z => z ((pI_le (by omega) (by omega)).mpr (by omega)))]
  · rw [if_neg h, if_neg h, if_neg (show ¬ pI 20 = 18 by decide), if_pos (show pI 20 = 20 from rfl)]
    by_cases h1 : j = 0
    · rw [if_pos ((neq_0 (by omega)).mpr h1), decide_eq_true h1]; rfl
    · rw [if_neg (fun z => h1 ((neq_0 (by omega)).mp z)), decide_eq_false h1]; rfl
theorem pr_source {σ : pv_S} {n : Nat} {kd cn : Nat → Nat} {S : Nat → Option Nat} {fp sc : Nat} {sm : Nat → Nat} (B : pr_B n kd cn S fp sc sm) (X : pr_X σ n kd S fp sc sm) {t j : Nat} (ht : t < sc) (hj : j < 4) : f_Pg_sourceOf σ (pI t) (pI j) = some (oI (pr_so fp kd S sm t j), σ) := by
  have r := pr_reads B X ht hj
  obtain ⟨b1, b2, b2', b3, b4, b5, b6, b7, b8⟩ := B
  obtain ⟨x1, x2, x3, x4, x5⟩ := X
  have hn := b4 t ht
  unfold f_Pg_sourceOf f_Pg_sourceOf_0
  rw [r, Option.bind_some]
  simp only [b2i_0]
  rw [pI_nat (by omega), x5 t ht, nmul_4, pI_add, pI_nat (by omega), x2 _ (by omega), if_pos ((pI_in (by omega)).mpr (by omega)), if_pos ((pI_in (by omega)).mpr (by omega))]
  unfold pr_rs pr_so
  by_cases h : t < fp
  · rw [if_pos h, if_pos h]
    by_cases h18 : kd (sm t) = 18
    · rw [if_pos h18, if_pos h18]
      by_cases h1 : j = 1
      · rw [decide_eq_true h1, if_neg (by decide), h1, b8 _ hn h18]
      · rw [decide_eq_false h1, if_pos rfl]; rfl
    · rw [if_neg h18, if_neg h18]
      by_cases hc : j < cn (sm t)
      · rw [decide_eq_true hc, if_neg (by decide)]
      · rw [decide_eq_false hc, if_pos rfl, b7 _ j hn (by omega) hj]; rfl
  · rw [if_neg h, if_neg h]
    by_cases h1 : j = 0
    · rw [decide_eq_true h1, if_neg (by decide), if_pos h1, h1, Nat.add_zero]
    · rw [decide_eq_false h1, if_pos rfl, if_neg h1]; rfl
theorem pr_solt {n : Nat} {kd cn : Nat → Nat} {S : Nat → Option Nat} {fp sc : Nat} {sm : Nat → Nat} (B : pr_B n kd cn S fp sc sm) {t j k : Nat} (ht : t < sc) (hj : j < 4) (h : pr_so fp kd S sm t j = some k) : k < n := by
  obtain ⟨b1, b2, b2', b3, b4, b5, b6, b7, b8⟩ := B
  have hn := b4 t ht
  unfold pr_so at h
  by_cases h1 : t < fp
  · rw [if_pos h1] at h
    by_cases h18 : kd (sm t) = 18
    · rw [if_pos h18] at h; cases h
    · rw [if_neg h18] at h; exact b5 _ k (by omega) h
  · rw [if_neg h1] at h
    by_cases h0 : j = 0
    · rw [if_pos h0] at h; exact b5 _ k (by omega) h
    · rw [if_neg h0] at h; cases h
/-- last readers -/
def pr_L (fp : Nat) (kd : Nat → Nat) (S : Nat → Option Nat) (sm : Nat → Nat) (sc : Nat) (o : Option Nat) (m : Nat) : Option Nat := if o = some m then some sc else plast (fun t => pr_rd fp kd S sm t m) sc
theorem pr_last {σ : pv_S} {n : Nat} {kd cn : Nat → Nat} {S : Nat → Option Nat} {fp sc : Nat} {sm : Nat → Nat} (n1 : 1 ≤ n) (B : pr_B n kd cn S fp sc sm) (X : pr_X σ n kd S fp sc sm) {o : Option Nat} (h18 : σ.1 18 (n - 1) = oI o) (ho : ∀ t, o = some t → t < n) : ∃ f, f_Pg_findLastReaders σ = some (pv_rI σ 23 f) ∧ ∀ m, m < n → f m = oI (pr_L fp kd S sm sc o m) := by
  have Xr : ∀ f, pr_X (pv_rI σ 23 f) n kd S fp sc sm := fun _ => X
  obtain ⟨b1, b2, b2', b3, b4, b5, b6, b7, b8⟩ := id B
  obtain ⟨x1, x2, x3, x4, x5⟩ := id X
  have key := up_0 (N := sc) (P := fun fu t => ∀ f, (∀ m, m < n → f m = oI (plast (fun t => pr_rd fp kd S sm t m) t)) → ∃ f', f_Pg_findLastReaders_10 fu (pv_rI σ 23 f) (pI t) = some (pv_rI σ 23 f') ∧ ∀ m, m < n → f' m = oI (pr_L fp kd S sm sc o m)) ?_ ?_ (i := 0) (by omega) (by omega)
  · unfold f_Pg_findLastReaders f_Pg_findLastReaders_0
    rw [pf_23, Option.bind_some]
    exact key _ (fun m hm => if_pos (by omega))
  · intro fu f hf
    have e11 : (pv_rI σ 23 f).1 11 1 = pI sc := x3
    have e12 : (pv_rI σ 23 f).1 12 0 - (1 : Int32) = pI (n - 1) := by
      show σ.1 12 0 - 1 = _
      rw [x1.1]
      have : n = n - 1 + 1 := by omega
      rw [this, nm1]
      congr 1
    have eo : f_Wr_outputModule (pv_rI σ 23 f) = some (oI o, pv_rI σ 23 f) := by
      have h18' : (pv_rI σ 23 f).1 18 (n - 1) = oI o := h18
      unfold f_Wr_outputModule f_Wr_outputModule_0
      rw [e12, if_pos ((pI_in (by omega)).mpr (by omega)), pI_nat (by omega), h18']
    show ∃ f', f_Pg_findLastReaders_10b _ _ _ = _ ∧ _
    unfold f_Pg_findLastReaders_10b
    rw [e11, if_pos ((pI_le (by omega) (by omega)).mpr (by omega)), eo, Option.bind_some]
    simp only []
    cases e : o with
    | none =>
      rw [if_pos (show oI none = -1 from rfl)]
      refine ⟨f, rfl, fun m hm => ?_⟩
      rw [hf m hm]
      unfold pr_L
      rw [if_neg (by simp)]
    | some s =>
      have hs := ho s e
      rw [if_neg (show ¬ oI (some s) = -1 from fun z => (pI_neg (by omega)).mp z), show oI (some s) = pI s from rfl, if_pos ((pI_in (by omega)).mpr (by omega)), pI_nat (by omega), e11, rIu]
      refine ⟨_, rfl, fun m hm => ?_⟩
      unfold upd pr_L
      by_cases em : m = s
      · rw [if_pos em, em, if_pos rfl]; rfl
      · rw [if_neg em, if_neg (fun z => em (by cases z; rfl)), hf m hm]
  · intro fu t ht ih f hf
    have e11 : (pv_rI σ 23 f).1 11 1 = pI sc := x3
    have nl : ¬ pI sc ≤ pI t := fun z => by have := (pI_le (by omega) (by omega)).mp z; omega
    show ∃ f', f_Pg_findLastReaders_10b _ _ _ = _ ∧ _
    unfold f_Pg_findLastReaders_10b
    rw [e11, if_neg nl]
    have key2 := up_0 (N := 4) (P := fun fu' j => ∀ f, (∀ m, m < n → f m = if pany (fun j => decide (pr_so fp kd S sm t j = some m)) j = true then pI t else oI (plast (fun t => pr_rd fp kd S sm t m) t)) → ∃ f', f_Pg_findLastReaders_20 (f_Pg_findLastReaders_10 fu) fu' (pv_rI σ 23 f) (pI t) (pI j) = some (pv_rI σ 23 f') ∧ ∀ m, m < n → f' m = oI (pr_L fp kd S sm sc o m)) ?_ ?_ (i := 0) (by omega) (by omega)
    · exact key2 f (fun m hm => by rw [hf m hm]; rfl)
    · intro fu' f hf
      show ∃ f', f_Pg_findLastReaders_20b _ _ _ _ _ = _ ∧ _
      unfold f_Pg_findLastReaders_20b
      rw [if_pos (show (4 : Int32) ≤ pI 4 by decide), nadd_1]
      refine ih f (fun m hm => ?_)
      rw [hf m hm]
      show _ = oI (if pr_rd fp kd S sm t m = true then some t else plast (fun t => pr_rd fp kd S sm t m) t)
      unfold pr_rd
      by_cases hp : pany (fun j => decide (pr_so fp kd S sm t j = some m)) 4 = true
      · rw [if_pos hp, if_pos hp]; rfl
      · rw [if_neg hp, if_neg hp]
    · intro fu' j hj ih2 f hf
      show ∃ f', f_Pg_findLastReaders_20b _ _ _ _ _ = _ ∧ _
      unfold f_Pg_findLastReaders_20b f_Pg_findLastReaders_44
      rw [if_neg (fun z => by rw [nle_4 (by omega)] at z; omega), pr_source B (Xr f) ht hj, Option.bind_some, nadd_1]
      simp only []
      have e1 : ∀ m, pany (fun j => decide (pr_so fp kd S sm t j = some m)) (j + 1) = (pany (fun j => decide (pr_so fp kd S sm t j = some m)) j || decide (pr_so fp kd S sm t j = some m)) := fun _ => rfl
      cases e : pr_so fp kd S sm t j with
      | none =>
        rw [if_pos (show oI none = -1 from rfl)]
        refine ih2 f (fun m hm => ?_)
        rw [hf m hm, e1, e, decide_eq_false (by simp), Bool.or_false]
      | some s =>
        have hs := pr_solt B ht hj e
        rw [if_neg (show ¬ oI (some s) = -1 from fun z => (pI_neg (by omega)).mp z), show oI (some s) = pI s from rfl, if_pos ((pI_in (by omega)).mpr (by omega)), pI_nat (by omega), rIu]
        refine ih2 _ (fun m hm => ?_)
        unfold upd
        rw [e1, e]
        by_cases em : m = s
        · rw [if_pos em, em, decide_eq_true rfl, Bool.or_true, if_pos rfl]
        · rw [if_neg em, hf m hm, decide_eq_false (fun z => em (by cases z; rfl)), Bool.or_false]
/-- wanted behind step i -/
def pr_w (fp : Nat) (kd : Nat → Nat) (S : Nat → Option Nat) (sm : Nat → Nat) (sc : Nat) (o : Option Nat) (m i : Nat) : Bool := decide (o = some m) || pany (fun d => decide (i < d) && pr_rd fp kd S sm d m) sc
theorem pr_wanted {fp : Nat} {kd : Nat → Nat} {S : Nat → Option Nat} {sm : Nat → Nat} {sc : Nat} {o : Option Nat} {m i : Nat} (hi : i < sc) (hsc : sc ≤ 48) : pI i < oI (pr_L fp kd S sm sc o m) ↔ pr_w fp kd S sm sc o m i = true := by
  unfold pr_L pr_w
  rw [Bool.or_eq_true, decide_eq_true_eq]
  by_cases h : o = some m
  · rw [if_pos h]
    exact ⟨fun _ => Or.inl h, fun _ => (pI_lt (by omega) (by omega)).mpr hi⟩
  · rw [if_neg h, pany_true]
    have e : (∃ d, d < sc ∧ (decide (i < d) && pr_rd fp kd S sm d m) = true) ↔ ∃ t, i < t ∧ t < sc ∧ pr_rd fp kd S sm t m = true := by
      constructor
      · rintro ⟨d, h1, h2⟩
        rw [Bool.and_eq_true, decide_eq_true_eq] at h2
        exact ⟨d, h2.1, h1, h2.2⟩
      · rintro ⟨d, h1, h2, h3⟩
        exact ⟨d, h2, by rw [decide_eq_true h1, h3]; rfl⟩
    rw [e, ← plast_lt (p := fun t => pr_rd fp kd S sm t m)]
    constructor
    · intro z
      cases e2 : plast (fun t => pr_rd fp kd S sm t m) sc with
      | none =>
        rw [e2] at z
        have : ¬ pI i < oI none := by
          rw [Int32.lt_iff_toInt_lt, pI_toInt (by omega)]
          show ¬ (i : Int) < -1
          omega
        exact absurd z this
      | some k =>
        rw [e2] at z
        have := plast_b e2
        exact Or.inr ⟨k, rfl, (pI_lt (by omega) (by omega)).mp z⟩
    · rintro (z | ⟨k, h1, h2⟩)
      · exact absurd z h
      · rw [h1]
        have := plast_b h1
        exact (pI_lt (by omega) (by omega)).mpr h2
theorem pr_wmono {fp : Nat} {kd : Nat → Nat} {S : Nat → Option Nat} {sm : Nat → Nat} {sc : Nat} {o : Option Nat} {m i i' : Nat} (h : i ≤ i') (w : pr_w fp kd S sm sc o m i' = true) : pr_w fp kd S sm sc o m i = true := by
  unfold pr_w at *
  rw [Bool.or_eq_true] at *
  rcases w with w | w
  · exact Or.inl w
  · obtain ⟨d, h1, h2⟩ := pany_true.mp w
    rw [Bool.and_eq_true, decide_eq_true_eq] at h2
    exact Or.inr (pany_true.mpr ⟨d, h1, by rw [decide_eq_true (by omega), h2.2]; rfl⟩)
