/-! Who is kept, on both sides. -/
def pe_nd (S : Nat → Option Nat) (m t : Nat) : Bool := pany (fun j => decide (S (4 * m + j) = some t)) 4
/-- one pass over the first m modules -/
def pe_gs (nd : Nat → Nat → Bool) (K : Nat → Bool) : Nat → Nat → Bool
  | 0, t => K t
  | m + 1, t => pe_gs nd K m t || (pe_gs nd K m m && nd m t)
def pe_it (nd : Nat → Nat → Bool) (n : Nat) (K : Nat → Bool) : Nat → Nat → Bool
  | 0 => K
  | k + 1 => pe_gs nd (pe_it nd n K k) n
theorem pe_up {nd : Nat → Nat → Bool} {K : Nat → Bool} {t : Nat} : ∀ {m : Nat} (d : Nat), pe_gs nd K m t = true → pe_gs nd K (m + d) t = true := by
  intro m d
  induction d with
  | zero => exact id
  | succ d ih =>
    intro h
    show (pe_gs nd K (m + d) t || (pe_gs nd K (m + d) (m + d) && nd (m + d) t)) = true
    rw [ih h]
    rfl
theorem pe_mono {nd : Nat → Nat → Bool} {K : Nat → Bool} {t m : Nat} (h : K t = true) : pe_gs nd K m t = true := by
  have := pe_up (nd := nd) (K := K) (t := t) (m := 0) m h
  rwa [Nat.zero_add] at this
theorem pe_congr {nd : Nat → Nat → Bool} {K K' : Nat → Bool} {n : Nat} (h : ∀ t, t < n → K t = K' t) : ∀ {m t : Nat}, m ≤ n → t < n → pe_gs nd K m t = pe_gs nd K' m t := by
  intro m
  induction m with
  | zero => intro t _ ht; exact h t ht
  | succ m ih =>
    intro t hm ht
    show (pe_gs nd K m t || (pe_gs nd K m m && nd m t)) = (pe_gs nd K' m t || (pe_gs nd K' m m && nd m t))
    rw [ih (by omega) ht, ih (by omega) (by omega)]
theorem pe_none {nd : Nat → Nat → Bool} {K : Nat → Bool} {n : Nat} (h : ∀ t, t < n → K t = false) : ∀ {m t : Nat}, m ≤ n → t < n → pe_gs nd K m t = false := by
  intro m
  induction m with
  | zero => intro t _ ht; exact h t ht
  | succ m ih =>
    intro t hm ht
    show (pe_gs nd K m t || (pe_gs nd K m m && nd m t)) = false
    rw [ih (by omega) ht, ih (by omega) (by omega)]
    rfl
theorem pe_fix {nd : Nat → Nat → Bool} {K : Nat → Bool} {n : Nat} (h : ∀ t, t < n → pe_gs nd K n t = K t) {m t : Nat} (hm : m < n) (ht : t < n) (hK : K m = true) (hn : nd m t = true) : K t = true := by
  rw [← h t ht]
  have : pe_gs nd K (m + 1) t = true := by
    show (pe_gs nd K m t || (pe_gs nd K m m && nd m t)) = true
    rw [pe_mono hK, hn]
    simp
  have := pe_up (n - (m + 1)) this
  rwa [show m + 1 + (n - (m + 1)) = n by omega] at this
theorem pe_stab {nd : Nat → Nat → Bool} {K : Nat → Bool} {n k : Nat} (hk : n ≤ pcnt K n + k) : ∀ t, t < n → pe_it nd n K (k + 1) t = pe_it nd n K k t :=
  pg_stab (S := pe_it nd n K) (n := n) (fun k i hi h => pe_mono h) (fun k h i hi => pe_congr h (Nat.le_refl n) hi) hk
/-- a row of kept modules -/
def pe_row (f : Nat → Int32) (n : Nat) (K : Nat → Bool) : Prop := ∀ t, t < n → f t = b2i (K t)
/-! the class -/
theorem pe_sources {σ : pv_S} {n : Nat} {kd cn : Nat → Nat} {fr : Nat → Option Nat} {nu : Nat → Int32} (wf : pq_WF n kd cn fr nu) (hx : pq_X σ n kd) {S : Nat → Option Nat} (h14 : ∀ i, i < 4 * n → σ.1 14 i = oI (S i)) (hS : ∀ i t, i < 4 * n → S i = some t → t < n) (hz : ∀ m j, m < n → cn m ≤ j → j < 4 → S (4 * m + j) = none) {m : Nat} (hm : m < n) {f : Nat → Int32} {K : Nat → Bool} (hf : pe_row f n K) : ∃ f', f_Wr_keepSources (pv_rI σ 17 f) (pI m) = some (pv_rI σ 17 f') ∧ pe_row f' n (fun t => K t || pe_nd S m t) := by
  obtain ⟨n1, n2, w1, _⟩ := id wf
  obtain ⟨k20, ec⟩ := w1 m hm
  have c4 := pq_inp wf hm
  have key := up_0 (N := cn m) (P := fun fu j => ∀ f, pe_row f n (fun t => K t || pany (fun j => decide (S (4 * m + j) = some t)) j) → ∃ f', f_Wr_keepSources_2 fu (pv_rI σ 17 f) (pI m) (pI j) = some (pv_rI σ 17 f') ∧ pe_row f' n (fun t => K t || pe_nd S m t)) ?_ ?_ (i := 0) (by omega) (by omega)
  · exact key f (fun t ht => by rw [hf t ht]; show _ = b2i (K t || false); rw [Bool.or_false])
  · intro fu f hf
    have e13 : (pv_rI σ 17 f).1 13 m = pI (kd m) := hx.2 m hm
    refine ⟨f, ?_, fun t ht => ?_⟩
    · show f_Wr_keepSources_2b _ _ _ _ = _
      unfold f_Wr_keepSources_2b
      rw [pI_nat (by omega), e13, if_pos ((pI_in (by omega)).mpr (by omega)), px_inputsOf _ k20, Option.bind_some]
      simp only []
      rw [← ec, if_pos ((pI_le (by omega) (by omega)).mpr (by omega))]
    · rw [hf t ht]
      show b2i (K t || pany (fun j => decide (S (4 * m + j) = some t)) (cn m)) = b2i (K t || pe_nd S m t)
      refine congrArg (fun b => b2i (K t || b)) ?_
      apply bool_ext
      unfold pe_nd
      rw [pany_true, pany_true]
      constructor
      · rintro ⟨j, hj, z⟩
        exact ⟨j, by omega, z⟩
      · rintro ⟨j, hj, z⟩
        by_cases hc : j < cn m
        · exact ⟨j, hc, z⟩
        · rw [hz m j hm (by omega) hj] at z
          cases z
  · intro fu j hj ih f hf
    have e13 : (pv_rI σ 17 f).1 13 m = pI (kd m) := hx.2 m hm
    have e14 : (pv_rI σ 17 f).1 14 (4 * m + j) = oI (S (4 * m + j)) := h14 _ (by omega)
    show ∃ f', f_Wr_keepSources_2b _ _ _ _ = _ ∧ _
    unfold f_Wr_keepSources_2b f_Wr_keepSources_38
    rw [pI_nat (by omega), e13, if_pos ((pI_in (by omega)).mpr (by omega)), px_inputsOf _ k20, Option.bind_some]
    simp only []
    rw [← ec, if_neg (fun z => by have := (pI_le (by omega) (by omega)).mp z; omega), nmul_4, pI_add, if_pos ((pI_in (by omega)).mpr (by omega)), pI_nat (by omega), e14, nadd_1]
    cases e : S (4 * m + j) with
    | none =>
      rw [if_pos (show oI none = -1 from rfl)]
      refine ih f (fun t ht => ?_)
      rw [hf t ht]
      show _ = b2i (K t || (pany (fun j => decide (S (4 * m + j) = some t)) j || decide (S (4 * m + j) = some t)))
      rw [e]
      simp
    | some s =>
      have hs := hS _ s (by omega) e
      rw [if_neg (show ¬ oI (some s) = -1 from fun z => (pI_neg (by omega)).mp z), show oI (some s) = pI s from rfl, if_pos ((pI_in (by omega)).mpr (by omega)), pI_nat (by omega), rIu]
      refine ih _ (fun t ht => ?_)
      show upd f s (vp_nar .boolean 1) t = b2i (K t || (pany (fun j => decide (S (4 * m + j) = some t)) j || decide (S (4 * m + j) = some t)))
      unfold upd
      rw [e]
      by_cases es : t = s
      · rw [if_pos es, es]
        simp [b2i]
        rfl
      · rw [if_neg es, hf t ht]
        simp [show ¬ s = t from fun z => es z.symm]
theorem pe_passX {σ : pv_S} {n : Nat} {kd cn : Nat → Nat} {fr : Nat → Option Nat} {nu : Nat → Int32} (wf : pq_WF n kd cn fr nu) (hx : pq_X σ n kd) {S : Nat → Option Nat} (h14 : ∀ i, i < 4 * n → σ.1 14 i = oI (S i)) (hS : ∀ i t, i < 4 * n → S i = some t → t < n) (hz : ∀ m j, m < n → cn m ≤ j → j < 4 → S (4 * m + j) = none) {f : Nat → Int32} {K : Nat → Bool} (hf : pe_row f n K) (k21 : pv_S → Int32 → Option pv_S) (y : Int32) : ∃ f', f_Wr_keepNeeded_31 k21 pv_fu (pv_rI σ 17 f) y 0 = k21 (pv_rI σ 17 f') (y + 1) ∧ pe_row f' n (pe_gs (pe_nd S) K n) := by
  obtain ⟨n1, n2, _⟩ := id wf
  have key := up_0 (N := n) (P := fun fu m => ∀ f, pe_row f n (pe_gs (pe_nd S) K m) → ∃ f', f_Wr_keepNeeded_31 k21 fu (pv_rI σ 17 f) y (pI m) = k21 (pv_rI σ 17 f') (y + 1) ∧ pe_row f' n (pe_gs (pe_nd S) K n)) ?_ ?_ (i := 0) (by omega) (by omega)
  · exact key f hf
  · intro fu f hf
    have e12 : (pv_rI σ 17 f).1 12 0 = pI n := hx.1
    refine ⟨f, ?_, hf⟩
    show f_Wr_keepNeeded_31b _ _ _ _ _ = _
    unfold f_Wr_keepNeeded_31b
    rw [e12, if_pos ((pI_le (by omega) (by omega)).mpr (by omega))]
  · intro fu m hm ih f hf
    have e12 : (pv_rI σ 17 f).1 12 0 = pI n := hx.1
    have e17 : (pv_rI σ 17 f).1 17 m = b2i (pe_gs (pe_nd S) K m m) := hf m hm
    show ∃ f', f_Wr_keepNeeded_31b _ _ _ _ _ = _ ∧ _
    unfold f_Wr_keepNeeded_31b f_Wr_keepNeeded_53
    rw [e12, if_neg (fun z => by have := (pI_le (by omega) (by omega)).mp z; omega), pI_nat (by omega), e17, if_pos ((pI_in (by omega)).mpr (by omega)), nadd_1]
    simp only [b2i_0]
    cases eK : pe_gs (pe_nd S) K m m with
    | false =>
      rw [if_pos rfl]
      refine ih f (fun t ht => ?_)
      rw [hf t ht]
      show _ = b2i (pe_gs (pe_nd S) K m t || (pe_gs (pe_nd S) K m m && pe_nd S m t))
      rw [eK]
      simp
    | true =>
      obtain ⟨f', g1, g2⟩ := pe_sources wf hx h14 hS hz hm hf
      rw [if_neg (by decide), g1, Option.bind_some]
      refine ih f' (fun t ht => ?_)
      rw [g2 t ht]
      show _ = b2i (pe_gs (pe_nd S) K m t || (pe_gs (pe_nd S) K m m && pe_nd S m t))
      rw [eK]
      simp
theorem pe_X {σ : pv_S} {n : Nat} {kd cn : Nat → Nat} {fr : Nat → Option Nat} {nu : Nat → Int32} (wf : pq_WF n kd cn fr nu) (hx : pq_X σ n kd) {S : Nat → Option Nat} (h14 : ∀ i, i < 4 * n → σ.1 14 i = oI (S i)) (hS : ∀ i t, i < 4 * n → S i = some t → t < n) (hz : ∀ m j, m < n → cn m ≤ j → j < 4 → S (4 * m + j) = none) {o : Option Nat} (h18 : σ.1 18 (n - 1) = oI o) (ho : ∀ t, o = some t → t < n) (h17 : pe_row (σ.1 17) n (fun _ => false)) : ∃ f, f_Wr_keepNeeded σ = some (pv_rI σ 17 f) ∧ pe_row f n (pe_it (pe_nd S) n (fun t => decide (o = some t)) n) := by
  obtain ⟨n1, n2, _⟩ := id wf
  have e12 : σ.1 12 0 - (1 : Int32) = pI (n - 1) := by
    rw [hx.1]
    have : n = n - 1 + 1 := by omega
    rw [this, nm1]
    congr 1
  have eo : f_Wr_outputModule σ = some (oI o, σ) := by
    unfold f_Wr_outputModule f_Wr_outputModule_0
    rw [e12, if_pos ((pI_in (by omega)).mpr (by omega)), pI_nat (by omega), h18]
  unfold f_Wr_keepNeeded f_Wr_keepNeeded_0
  rw [eo]
  simp only [Option.bind_some]
  cases e : o with
  | none =>
    rw [if_pos (show oI none = -1 from rfl)]
    refine ⟨σ.1 17, by rw [rI0], fun t ht => ?_⟩
    rw [h17 t ht]
    have : ∀ k t, t < n → pe_it (pe_nd S) n (fun t => decide (none = some t)) k t = false := by
      intro k
      induction k with
      | zero => intro t _; rfl
      | succ k ih => intro t ht; exact pe_none ih (Nat.le_refl n) ht
    rw [this n t ht]
  | some s =>
    have hs := ho s e
    rw [if_neg (show ¬ oI (some s) = -1 from fun z => (pI_neg (by omega)).mp z), ← e, eo]
    simp only [Option.bind_some]
    rw [e, show oI (some s) = pI s from rfl, if_pos ((pI_in (by omega)).mpr (by omega)), pI_nat (by omega)]
    have e0 : pv_uI σ 17 s (vp_nar .boolean 1) = pv_rI σ 17 (upd (σ.1 17) s 1) := by
      have := rIu σ 17 (σ.1 17) s (vp_nar .boolean 1)
      rw [rI0] at this
      exact this
    rw [e0]
    have r0 : pe_row (upd (σ.1 17) s 1) n (fun t => decide (some s = some t)) := by
      intro t ht
      unfold upd
      by_cases es : t = s
      · rw [if_pos es, es]; simp [b2i]
      · rw [if_neg es, h17 t ht]
        simp [show ¬ s = t from fun z => es z.symm]
    have key := up_0 (N := n) (P := fun fu p => ∀ f, 1 ≤ p → pe_row f n (pe_it (pe_nd S) n (fun t => decide (some s = some t)) (p - 1)) → ∃ f', f_Wr_keepNeeded_21 fu (pv_rI σ 17 f) (pI p) = some (pv_rI σ 17 f') ∧ pe_row f' n (pe_it (pe_nd S) n (fun t => decide (some s = some t)) (n - 1))) ?_ ?_ (i := 1) (by omega) (by omega)
    · obtain ⟨f', g1, g2⟩ := key _ (by omega) r0
      refine ⟨f', g1, fun t ht => ?_⟩
      rw [g2 t ht]
      have := pe_stab (nd := pe_nd S) (K := fun t => decide (some s = some t)) (n := n) (k := n - 1) (by
        have := pcnt_pos (p := fun t => decide (some s = some t)) hs (by simp)
        omega) t ht
      rw [show n - 1 + 1 = n by omega] at this
      rw [this]
    · intro fu f _ hf
      refine ⟨f, ?_, hf⟩
      show f_Wr_keepNeeded_21b _ _ _ = _
      unfold f_Wr_keepNeeded_21b
      have e12 : (pv_rI σ 17 f).1 12 0 = pI n := hx.1
      rw [e12, if_pos ((pI_le (by omega) (by omega)).mpr (by omega))]
    · intro fu p hp ih f h1 hf
      show ∃ f', f_Wr_keepNeeded_21b _ _ _ = _ ∧ _
      unfold f_Wr_keepNeeded_21b
      have e12 : (pv_rI σ 17 f).1 12 0 = pI n := hx.1
      obtain ⟨f', g1, g2⟩ := pe_passX wf hx h14 hS hz hf (f_Wr_keepNeeded_21 fu) (pI p)
      rw [e12, if_neg (fun z => by have := (pI_le (by omega) (by omega)).mp z; omega), g1, nadd_1]
      refine ih f' (by omega) ?_
      have : pe_it (pe_nd S) n (fun t => decide (some s = some t)) (p + 1 - 1) = pe_gs (pe_nd S) (pe_it (pe_nd S) n (fun t => decide (some s = some t)) (p - 1)) n := by
        rw [show p + 1 - 1 = p - 1 + 1 by omega]
        rfl
      rw [this]
      exact g2
