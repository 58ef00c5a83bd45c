/-! What stands for the modules: both sides in step. -/
theorem rI2u (σ : pv_S) (f g : Nat → Int32) (k : Nat) (x y : Int32) : pv_uI (pv_uI (pv_rI (pv_rI σ 14 f) 15 g) 14 k x) 15 k y = pv_rI (pv_rI σ 14 (upd f k x)) 15 (upd g k y) := by
  refine Prod.ext ?_ rfl
  funext c j
  show (pv_uI (pv_uI (pv_rI (pv_rI σ 14 f) 15 g) 14 k x) 15 k y).1 c j = (pv_rI (pv_rI σ 14 (upd f k x)) 15 (upd g k y)).1 c j
  simp only [uI1, rI1, upd]
  by_cases h5 : c = 15
  · simp [h5]
  · by_cases h4 : c = 14
    · simp [h4]
    · simp [h4, h5]
theorem pz_read {σ : pv_S} {n : Nat} {kd cn : Nat → Nat} {fr : Nat → Option Nat} {nu : Nat → Int32} (wf : pq_WF n kd cn fr nu) (hx : pq_X σ n kd) {sd : Nat → Option Nat} {sn : Nat → Int32} {m : Nat} (hm : m < n) (raw : ∀ j, j < 4 → σ.1 14 (4 * m + j) = oI (fr (4 * m + j)) ∧ σ.1 15 (4 * m + j) = nu (4 * m + j)) (hs : ∀ s, s < n → σ.1 18 s = oI (sd s) ∧ σ.1 19 s = if sd s = none then sn s else 0) : ∃ f g, f_Wr_readStands σ (pI m) = some (pv_rI (pv_rI σ 14 f) 15 g) ∧ (∀ j, j < 4 → f (4 * m + j) = oI (ps_s fr sd (4 * m + j)) ∧ g (4 * m + j) = ps_a fr nu sd sn (4 * m + j)) ∧ ∀ i, ¬ (4 * m ≤ i ∧ i < 4 * m + 4) → f i = σ.1 14 i ∧ g i = σ.1 15 i := by
  obtain ⟨n1, n2, w1, w2, w3, _⟩ := id wf
  obtain ⟨k20, ec⟩ := w1 m hm
  have c4 := pq_inp wf hm
  have key := up_0 (N := cn m) (P := fun fu j => ∀ f g, (∀ j', j' < j → f (4 * m + j') = oI (ps_s fr sd (4 * m + j')) ∧ g (4 * m + j') = ps_a fr nu sd sn (4 * m + j')) → (∀ j', j ≤ j' → j' < 4 → f (4 * m + j') = oI (fr (4 * m + j')) ∧ g (4 * m + j') = nu (4 * m + j')) → (∀ i, ¬ (4 * m ≤ i ∧ i < 4 * m + 4) → f i = σ.1 14 i ∧ g i = σ.1 15 i) → ∃ f' g', f_Wr_readStands_2 fu (pv_rI (pv_rI σ 14 f) 15 g) (pI m) (pI j) = some (pv_rI (pv_rI σ 14 f') 15 g') ∧ (∀ j, j < 4 → f' (4 * m + j) = oI (ps_s fr sd (4 * m + j)) ∧ g' (4 * m + j) = ps_a fr nu sd sn (4 * m + j)) ∧ ∀ i, ¬ (4 * m ≤ i ∧ i < 4 * m + 4) → f' i = σ.1 14 i ∧ g' i = σ.1 15 i) ?_ ?_ (i := 0) (by omega) (by omega)
  · have := key (σ.1 14) (σ.1 15) (fun j hj => absurd hj (by omega)) (fun j _ hj => raw j hj) (fun i _ => ⟨rfl, rfl⟩)
    rw [rI0, rI0] at this
    exact this
  · intro fu f g h1 h2 h3
    refine ⟨f, g, ?_, fun j hj => ?_, h3⟩
    · show f_Wr_readStands_2b _ _ _ _ = _
      unfold f_Wr_readStands_2b
      have e13 : (pv_rI (pv_rI σ 14 f) 15 g).1 13 m = pI (kd m) := hx.2 m hm
      rw [pI_nat (by omega), e13, if_pos ((pI_in (by omega)).mpr (by omega)), px_inputsOf _ k20, Option.bind_some]
      simp only []
      rw [← ec, if_pos ((pI_le (by omega) (by omega)).mpr (by omega))]
    · by_cases hc : j < cn m
      · exact h1 j hc
      · obtain ⟨a, b⟩ := h2 j (by omega) hj
        obtain ⟨z1, z2⟩ := w3 m j hm (by omega) hj
        rw [a, b]
        unfold ps_s ps_a
        rw [z1]
        exact ⟨rfl, rfl⟩
  · intro fu j hj ih f g h1 h2 h3
    obtain ⟨a, b⟩ := h2 j (by omega) (by omega)
    have e13 : (pv_rI (pv_rI σ 14 f) 15 g).1 13 m = pI (kd m) := hx.2 m hm
    have e14 : (pv_rI (pv_rI σ 14 f) 15 g).1 14 (4 * m + j) = oI (fr (4 * m + j)) := a
    show ∃ f' g', f_Wr_readStands_2b _ _ _ _ = _ ∧ _
    unfold f_Wr_readStands_2b f_Wr_readStands_61
    rw [pI_nat (by omega), e13, if_pos ((pI_in (by omega)).mpr (by omega)), px_inputsOf _ k20, Option.bind_some]
    simp only []
    rw [← ec, if_neg (fun z => by have := (pI_le (by omega) (by omega)).mp z; omega), nmul_4, pI_add, pI_nat (by omega), e14, nadd_1, if_pos ((pI_in (by omega)).mpr (by omega)), if_pos ((pI_in (by omega)).mpr (by omega)), if_pos ((pI_in (by omega)).mpr (by omega))]
    cases e : fr (4 * m + j) with
    | none =>
      rw [if_pos (show oI none = -1 from rfl)]
      refine ih f g (fun j' hj' => ?_) (fun j' h hj' => h2 j' (by omega) hj') h3
      by_cases ej : j' = j
      · subst ej
        rw [a, b]
        unfold ps_s ps_a
        rw [e]
        exact ⟨rfl, rfl⟩
      · exact h1 j' (by omega)
    | some s =>
      have hs1 := (w2 _ s (by omega) e).1
      obtain ⟨s1, s2⟩ := hs s hs1
      rw [if_neg (show ¬ oI (some s) = -1 from fun z => (pI_neg (by omega)).mp z), show oI (some s) = pI s from rfl, if_pos ((pI_in (by omega)).mpr (by omega)), if_pos ((pI_in (by omega)).mpr (by omega)), pI_nat (by omega), rI2u]
      have q18 : (pv_rI (pv_rI σ 14 f) 15 g).1 18 s = oI (sd s) := s1
      have q19 : ∀ x, (pv_uI (pv_rI (pv_rI σ 14 f) 15 g) 14 (4 * m + j) x).1 19 s = if sd s = none then sn s else 0 := fun x => s2
      rw [q18, q19]
      refine ih _ _ (fun j' hj' => ?_) (fun j' h hj' => ?_) (fun i hi => ?_)
      · unfold upd
        by_cases ej : j' = j
        · subst ej
          simp only [if_true]
          unfold ps_s ps_a
          rw [e]
          refine ⟨rfl, ?_⟩
          simp only []
          cases sd s with
          | none => rfl
          | some t => rfl
        · rw [if_neg (by omega), if_neg (by omega)]
          exact h1 j' (by omega)
      · unfold upd
        rw [if_neg (by omega), if_neg (by omega)]
        exact h2 j' (by omega) hj'
      · unfold upd
        rw [if_neg (by omega), if_neg (by omega)]
        exact h3 i hi
/-- how it is with the k-th of the order -/
def ps_SO (kd cn : Nat → Nat) (fr : Nat → Option Nat) (nu : Nat → Int32) (od : Nat → Nat) (sd : Nat → Option Nat) (sn : Nat → Int32) (k : Nat) : Prop := sd (od k) = some (od k) ∨ (sd (od k) = none ∧ kd (od k) < 7 ∧ (∀ j, j < cn (od k) → ps_s fr sd (4 * od k + j) = none) ∧ sn (od k) = pn_v (pI (kd (od k))) (ps_a fr nu sd sn (4 * od k)) (ps_a fr nu sd sn (4 * od k + 1)) (ps_a fr nu sd sn (4 * od k + 2))) ∨ (∃ k', k' < k ∧ sd (od k) = some (od k') ∧ sd (od k') = some (od k') ∧ kd (od k) < 11 ∧ ps_sm kd cn (pz_al (ps_s fr sd) (ps_a fr nu sd sn)) (od k') (od k) = true)
theorem ps_sm_congr {kd cn : Nat → Nat} {al al' : Nat → Nat → Bool} {e m : Nat} (hc : cn e ≤ 4) (h : kd e = kd m → ∀ j k, j < 4 → k < 4 → al (4 * e + j) (4 * m + k) = al' (4 * e + j) (4 * m + k)) : ps_sm kd cn al e m = ps_sm kd cn al' e m := by
  unfold ps_sm
  by_cases hk : kd e = kd m
  · have h := h hk
    have h01 := h 0 1 (by decide) (by decide)
    have h10 := h 1 0 (by decide) (by decide)
    simp only [Nat.add_zero] at h01 h10
    rw [h01, h10, pany_congr (p := fun j => !al (4 * e + j) (4 * m + j)) (q := fun j => !al' (4 * e + j) (4 * m + j)) (fun j hj => by rw [h j j (by omega) (by omega)])]
  · rw [decide_eq_false hk, Bool.false_and, Bool.false_and]
/-- both sides at place i -/
def pz_I (n : Nat) (kd cn : Nat → Nat) (fr : Nat → Option Nat) (nu : Nat → Int32) (od : Nat → Nat) (sx sm : pv_S) (i : Nat) (sd : Nat → Option Nat) (sn : Nat → Int32) (τx τm : pv_S) : Prop :=
  (pq_FX sx τx ∧ τx.1 17 = sx.1 17 ∧ pq_X τx n kd ∧ (∀ k, k < n → τx.1 16 k = pI (od k)) ∧ (∀ m, m < n → τx.1 18 m = oI (sd m) ∧ τx.1 19 m = if sd m = none then sn m else 0) ∧ ∀ k, k < n → ∀ j, j < 4 → τx.1 14 (4 * od k + j) = oI (if k < i ∧ kd (od k) ≠ 18 then ps_s fr sd (4 * od k + j) else fr (4 * od k + j)) ∧ τx.1 15 (4 * od k + j) = if k < i ∧ kd (od k) ≠ 18 then ps_a fr nu sd sn (4 * od k + j) else nu (4 * od k + j)) ∧
  (pq_FM sm τm ∧ τm.1 14 = sm.1 14 ∧ τm.1 0 = sm.1 0 ∧ pq_M τm n kd cn fr nu ∧ (∀ k, k < n → τm.1 13 k = pI (od k)) ∧ ∀ m, m < n → τm.1 15 m = oI (sd m) ∧ (sd m = none → τm.1 16 m = sn m)) ∧
  (∀ m t, m < n → sd m = some t → t < n) ∧ (∀ k, i ≤ k → k < n → sd (od k) = some (od k)) ∧ ∀ k, k < i → ps_SO kd cn fr nu od sd sn k
theorem pz_place {n : Nat} {kd cn : Nat → Nat} {fr : Nat → Option Nat} {nu : Nat → Int32} (wf : pq_WF n kd cn fr nu) {od : Nat → Nat} {x : Int32} (O : po_I n kd cn fr od n x) {sx sm : pv_S} {i : Nat} (hi : i < n) {sd : Nat → Option Nat} {sn : Nat → Int32} {τx τm : pv_S} (I : pz_I n kd cn fr nu od sx sm i sd sn τx τm) : ∃ τx' τm' sd' sn', (if τx.1 13 (od i) = 18 then some τx else ((f_Wr_readStands τx (pI (od i))).bind fun q1 => f_Wr_findStand q1 (pI i))) = some τx' ∧ f_Md_judge τm (pI i) = some τm' ∧ pz_I n kd cn fr nu od sx sm (i + 1) sd' sn' τx' τm' := by
  obtain ⟨n1, n2, w1, w2, w3, _⟩ := id wf
  obtain ⟨o1, o2, o3, o4, _⟩ := O
  obtain ⟨⟨x1, x2, x3, x4, x5, x6⟩, ⟨m1, m2, m3, m4, m5, m6⟩, b1, b2, b3⟩ := I
  have hoi := o1 i hi
  obtain ⟨k20, ec⟩ := w1 _ hoi
  have c4 := pq_inp wf hoi
  have inj : ∀ k, k < i → od k ≠ od i := fun k hk z => by have := o2 k i (by omega) hi z; omega
  -- inputs of rows up to place i do not come from the module there
  have src : ∀ k j s, k ≤ i → kd (od k) ≠ 18 → j < 4 → fr (4 * od k + j) = some s → s < n ∧ s ≠ od i := by
    intro k j s hk h18 hj hf
    have hok := o1 k (by omega)
    by_cases hc : j < cn (od k)
    · obtain ⟨k', hk', e⟩ := o4 k (by omega) h18 j s hc hf
      refine ⟨(w2 _ s (by omega) hf).1, fun z => ?_⟩
      have := o2 k' i (by omega) hi (e.trans z)
      omega
    · rw [(w3 _ j hok (by omega) hj).1] at hf
      cases hf
  have S0 : ∀ k j t, k ≤ i → kd (od k) ≠ 18 → j < 4 → ps_s fr sd (4 * od k + j) = some t → t < n ∧ ps_a fr nu sd sn (4 * od k + j) = 0 := by
    intro k j t hk h18 hj h
    unfold ps_s at h
    unfold ps_a
    cases e : fr (4 * od k + j) with
    | none => rw [e] at h; cases h
    | some s =>
      rw [e] at h
      simp only [] at h
      simp only [h]
      exact ⟨b1 s t (src k j s hk h18 hj e).1 h, trivial⟩
  have J := pj_judge (σ := τm) wf (fun m hm => m4.2.1 m hm) (S := ps_s fr sd) (A := ps_a fr nu sd sn) (od := od) (sd := sd) hi (fun k hk => ⟨m5 k hk, o1 k hk⟩) inj (fun m hm => ⟨(m6 m hm).1, fun t ht => b1 m t hm ht⟩) (b2 i (by omega) hi) (fun k v hk h18 j hj => by
    have hok := o1 k (by omega)
    have hf := m4.2.2 (4 * od k + j) (by omega)
    refine ⟨ps_srcM (σ := pv_uI τm 15 (od i) v) n2 (by omega) hf.1 (fun s h => (src k j s hk h18 hj h).1) (fun s h => ?_), ps_amtM (σ := pv_uI τm 15 (od i) v) n2 (by omega) hf.1 hf.2 (fun s h => (src k j s hk h18 hj h).1) (fun s h => ?_), fun t ht => by have := (S0 k j t hk h18 hj ht).1; omega⟩
    · obtain ⟨g1, g2⟩ := src k j s hk h18 hj h
      rw [uI1c, if_neg g2]
      exact (m6 s g1).1
    · obtain ⟨g1, g2⟩ := src k j s hk h18 hj h
      refine ⟨by rw [uI1c, if_neg g2]; exact (m6 s g1).1, fun t ht => b1 s t g1 ht, fun h0 => (m6 s g1).2 h0⟩) (fun h18 j hj => by
    have hf := m4.2.2 (4 * od i + j) (by omega)
    exact ⟨_, ps_srcM (σ := τm) (sd := sd) n2 (by omega) hf.1 (fun s h => (w2 _ s (by omega) h).1) (fun s h => (m6 s (w2 _ s (by omega) h).1).1)⟩)
  by_cases h18 : kd (od i) = 18
  · have e13 : τx.1 13 (od i) = 18 := by rw [x3.2 _ hoi, h18]; rfl
    rw [if_neg (by simp [h18]), if_neg (by rw [h18]; decide)] at J
    refine ⟨τx, τm, sd, sn, by rw [if_pos e13], J, ⟨x1, x2, x3, x4, x5, fun k hk j hj => ?_⟩, ⟨m1, m2, m3, m4, m5, m6⟩, b1, fun k h1 h2 => b2 k (by omega) h2, fun k hk => ?_⟩
    · have := x6 k hk j hj
      by_cases e : k = i
      · subst e
        rw [if_neg (by omega), if_neg (by omega)] at this
        rw [if_neg (fun z => z.2 h18), if_neg (fun z => z.2 h18)]
        exact this
      · by_cases hk2 : k < i ∧ kd (od k) ≠ 18
        · rw [if_pos hk2, if_pos hk2] at this
          rw [if_pos ⟨by omega, hk2.2⟩, if_pos ⟨by omega, hk2.2⟩]
          exact this
        · rw [if_neg hk2, if_neg hk2] at this
          have hk3 : ¬ (k < i + 1 ∧ kd (od k) ≠ 18) := fun z => hk2 ⟨by omega, z.2⟩
          rw [if_neg hk3, if_neg hk3]
          exact this
    · by_cases e : k = i
      · subst e; exact Or.inl (b2 k (by omega) hi)
      · exact b3 k (by omega)
  · have e13 : ¬ τx.1 13 (od i) = 18 := by rw [x3.2 _ hoi]; exact fun z => h18 ((neq_18 (by omega)).mp z)
    obtain ⟨f, g, r1, r2, r3⟩ := pz_read (σ := τx) wf x3 (sd := sd) (sn := sn) hoi (fun j hj => by
      have := x6 i hi j hj
      rw [if_neg (by omega), if_neg (by omega)] at this
      exact this) x5
    have far : ∀ k, k ≠ i → k < n → ∀ j, j < 4 → ¬ (4 * od i ≤ 4 * od k + j ∧ 4 * od k + j < 4 * od i + 4) := by
      intro k hk hkn j hj z
      have : od k = od i := by omega
      exact hk (o2 k i hkn hi this)
    have rows : ∀ k, k ≤ i → kd (od k) ≠ 18 → pz_row (pv_rI (pv_rI τx 14 f) 15 g) (ps_s fr sd) (ps_a fr nu sd sn) (od k) := by
      intro k hk hk18 j hj
      have t0 : ∀ t, ps_s fr sd (4 * od k + j) = some t → t < 24 ∧ ps_a fr nu sd sn (4 * od k + j) = 0 := fun t ht => by
        obtain ⟨g1, g2⟩ := S0 k j t hk hk18 hj ht
        exact ⟨by omega, g2⟩
      by_cases e : k = i
      · subst e
        exact ⟨(r2 j hj).1, (r2 j hj).2, t0⟩
      · have q := x6 k (by omega) j hj
        rw [if_pos ⟨by omega, hk18⟩, if_pos ⟨by omega, hk18⟩] at q
        have q2 := r3 _ (far k e (by omega) j hj)
        exact ⟨q2.1.trans q.1, q2.2.trans q.2, t0⟩
    have F := pz_find (σ := pv_rI (pv_rI τx 14 f) 15 g) wf x3 (S := ps_s fr sd) (A := ps_a fr nu sd sn) (od := od) (sd := sd) hi (fun k hk => ⟨x4 k hk, o1 k hk⟩) (fun m hm => ⟨(x5 m hm).1, fun t ht => b1 m t hm ht⟩) h18 rows
    -- rows up to place i read the same with what comes now
    have agree : ∀ (X : Option Nat) (V : Int32) k j, k ≤ i → kd (od k) ≠ 18 → j < 4 → ps_s fr (fun t => if t = od i then X else sd t) (4 * od k + j) = ps_s fr sd (4 * od k + j) ∧ ps_a fr nu (fun t => if t = od i then X else sd t) (fun t => if t = od i then V else sn t) (4 * od k + j) = ps_a fr nu sd sn (4 * od k + j) := by
      intro X V k j hk hk18 hj
      unfold ps_s ps_a
      cases e : fr (4 * od k + j) with
      | none => exact ⟨rfl, rfl⟩
      | some s =>
        have := (src k j s hk hk18 hj e).2
        simp only [if_neg this]
        exact ⟨trivial, trivial⟩
    have fin : ∀ (X : Option Nat) (V : Int32) (τx' τm' : pv_S), (∀ t, X = some t → t < n) → pq_FX sx τx' → τx'.1 17 = sx.1 17 → (∀ c, c = 12 ∨ c = 13 ∨ c = 16 → τx'.1 c = τx.1 c) → τx'.1 14 = f → τx'.1 15 = g → (∀ m, m < n → τx'.1 18 m = (if m = od i then oI X else τx.1 18 m) ∧ τx'.1 19 m = if m = od i then (if X = none then V else 0) else τx.1 19 m) → pq_FM sm τm' → (∀ c, c = 0 ∨ c = 9 ∨ c = 10 ∨ c = 11 ∨ c = 12 ∨ c = 13 ∨ c = 14 → τm'.1 c = τm.1 c) → (∀ m, m < n → τm'.1 15 m = (if m = od i then oI X else τm.1 15 m) ∧ (m = od i → X = none → τm'.1 16 m = V) ∧ (m ≠ od i → τm'.1 16 m = τm.1 16 m)) → ps_SO kd cn fr nu od (fun t => if t = od i then X else sd t) (fun t => if t = od i then V else sn t) i → pz_I n kd cn fr nu od sx sm (i + 1) (fun t => if t = od i then X else sd t) (fun t => if t = od i then V else sn t) τx' τm' := by
      intro X V τx' τm' hX c1 c2 c3 c4' c5 c6 d1 d2 d3 so
      refine ⟨⟨c1, c2, ⟨by rw [c3 12 (by omega)]; exact x3.1, fun m hm => by rw [c3 13 (by omega)]; exact x3.2 m hm⟩, fun k hk => by rw [c3 16 (by omega)]; exact x4 k hk, fun m hm => ?_, fun k hk j hj => ?_⟩, ⟨d1, by rw [d2 14 (by omega)]; exact m2, by rw [d2 0 (by omega)]; exact m3, ⟨by rw [d2 0 (by omega)]; exact m4.1, fun m hm => by rw [d2 9 (by omega), d2 10 (by omega)]; exact m4.2.1 m hm, fun i hi => by rw [d2 11 (by omega), d2 12 (by omega)]; exact m4.2.2 i hi⟩, fun k hk => by rw [d2 13 (by omega)]; exact m5 k hk, fun m hm => ?_⟩, fun m t hm ht => ?_, fun k h1 h2 => ?_, fun k hk => ?_⟩
      · obtain ⟨g1, g2⟩ := c6 m hm
        rw [g1, g2]
        by_cases e : m = od i
        · simp only [if_pos e]; exact ⟨trivial, trivial⟩
        · simp only [if_neg e]; exact x5 m hm
      · rw [c4', c5]
        by_cases e : k = i
        · subst e
          rw [if_pos ⟨by omega, h18⟩, if_pos ⟨by omega, h18⟩, (agree X V k j (by omega) h18 hj).1, (agree X V k j (by omega) h18 hj).2]
          exact r2 j hj
        · obtain ⟨q1, q2⟩ := r3 _ (far k e hk j hj)
          rw [q1, q2]
          have := x6 k hk j hj
          by_cases hk2 : k < i ∧ kd (od k) ≠ 18
          · rw [if_pos hk2, if_pos hk2] at this
            rw [if_pos ⟨by omega, hk2.2⟩, if_pos ⟨by omega, hk2.2⟩, (agree X V k j (by omega) hk2.2 hj).1, (agree X V k j (by omega) hk2.2 hj).2]
            exact this
          · rw [if_neg hk2, if_neg hk2] at this
            have hk3 : ¬ (k < i + 1 ∧ kd (od k) ≠ 18) := fun z => hk2 ⟨by omega, z.2⟩
            rw [if_neg hk3, if_neg hk3]
            exact this
      · obtain ⟨g1, g2, g3⟩ := d3 m hm
        rw [g1]
        by_cases e : m = od i
        · simp only [if_pos e]; exact ⟨trivial, fun h => g2 e h⟩
        · simp only [if_neg e]
          refine ⟨(m6 m hm).1, fun h => ?_⟩
          rw [g3 e]
          exact (m6 m hm).2 h
      · by_cases e : m = od i
        · simp only [if_pos e] at ht; exact hX t ht
        · simp only [if_neg e] at ht; exact b1 m t hm ht
      · have : od k ≠ od i := fun z => by have := o2 k i h2 hi z; omega
        simp only [if_neg this]
        exact b2 k (by omega) h2
      · by_cases e : k = i
        · subst e; exact so
        · have hki : k < i := by omega
          have ne := inj k hki
          rcases b3 k hki with h | ⟨h1, h2, h3, h4⟩ | ⟨k', hk', h1, h2, h3, h4⟩
          · refine Or.inl ?_
            simp only [if_neg ne]
            exact h
          · have hn18 : kd (od k) ≠ 18 := by omega
            have A0 := (agree X V k 0 (by omega) hn18 (by decide)).2
            rw [Nat.add_zero] at A0
            refine Or.inr (Or.inl ⟨?_, h2, fun j hj => ?_, ?_⟩)
            · simp only [if_neg ne]; exact h1
            · rw [(agree X V k j (by omega) hn18 (by have := pq_inp wf (o1 k (by omega)); omega)).1]
              exact h3 j hj
            · rw [A0, (agree X V k 1 (by omega) hn18 (by decide)).2, (agree X V k 2 (by omega) hn18 (by decide)).2]
              simp only [if_neg ne]
              exact h4
          · have ne' := inj k' (by omega)
            have hn18 : kd (od k) ≠ 18 := by omega
            refine Or.inr (Or.inr ⟨k', hk', ?_, ?_, h3, ?_⟩)
            · simp only [if_neg ne]; exact h1
            · simp only [if_neg ne']; exact h2
            · rw [← h4]
              refine ps_sm_congr (pq_inp wf (o1 k' (by omega))) (fun hkk j l hj hl => ?_)
              have hn18' : kd (od k') ≠ 18 := by rw [hkk]; exact hn18
              unfold pz_al
              rw [(agree X V k' j (by omega) hn18' hj).1, (agree X V k' j (by omega) hn18' hj).2, (agree X V k l (by omega) hn18 hl).1, (agree X V k l (by omega) hn18 hl).2]
    have FX1 : pq_FX sx (pv_rI (pv_rI τx 14 f) 15 g) := pq_FXr (pq_FXr x1 (by omega)) (by omega)
    rw [if_neg e13, r1, Option.bind_some, F, J]
    have A0 := fun X V => (agree X V i 0 (by omega) h18 (by decide)).2
    have A1 := fun X V => (agree X V i 1 (by omega) h18 (by decide)).2
    have A2 := fun X V => (agree X V i 2 (by omega) h18 (by decide)).2
    simp only [Nat.add_zero] at A0
    by_cases bare : (decide (kd (od i) < 7) && !pany (fun j => (ps_s fr sd (4 * od i + j)).isSome) (cn (od i))) = true
    · rw [if_pos bare, if_pos bare]
      refine ⟨_, _, _, _, rfl, rfl, fin none (pn_v (pI (kd (od i))) (ps_a fr nu sd sn (4 * od i)) (ps_a fr nu sd sn (4 * od i + 1)) (ps_a fr nu sd sn (4 * od i + 2))) _ _ (fun t h => by cases h) (pq_FXu (pq_FXu FX1 (by omega)) (by omega)) x2 (fun c hc => by rcases hc with rfl | rfl | rfl <;> rfl) rfl rfl (fun m hm => ⟨?_, ?_⟩) (pq_FMu (pq_FMu m1 (by omega)) (by omega)) (fun c hc => by rcases hc with rfl | rfl | rfl | rfl | rfl | rfl | rfl <;> rfl) (fun m hm => ⟨?_, fun e _ => ?_, fun e => ?_⟩) (Or.inr (Or.inl ⟨?_, ?_, fun j hj => ?_, ?_⟩))⟩
      · rw [uI1n (by decide), uI1c]; rfl
      · rw [uI1c]
        by_cases e : m = od i
        · rw [if_pos e, if_pos e, if_pos rfl]
        · rw [if_neg e, if_neg e]; rfl
      · rw [uI1n (by decide), uI1c]; rfl
      · rw [uI1c, if_pos e]
      · rw [uI1c, if_neg e]; rfl
      · simp
      · rw [Bool.and_eq_true, decide_eq_true_eq] at bare; exact bare.1
      · rw [(agree _ (pn_v (pI (kd (od i))) (ps_a fr nu sd sn (4 * od i)) (ps_a fr nu sd sn (4 * od i + 1)) (ps_a fr nu sd sn (4 * od i + 2))) i j (by omega) h18 (by omega)).1]
        rw [Bool.and_eq_true, Bool.not_eq_true'] at bare
        have := pany_false.mp bare.2 j hj
        simpa using this
      · rw [A0, A1, A2]
        simp
    · rw [if_neg bare, if_neg bare]
      by_cases h11 : kd (od i) < 11
      · rw [if_pos h11, if_pos h11]
        have eE : ps_e sd (ps_sm kd cn (pz_al (ps_s fr sd) (ps_a fr nu sd sn))) od i (od i) < n ∧ (ps_e sd (ps_sm kd cn (pz_al (ps_s fr sd) (ps_a fr nu sd sn))) od i (od i) = od i ∨ ∃ k, k < i ∧ ps_e sd (ps_sm kd cn (pz_al (ps_s fr sd) (ps_a fr nu sd sn))) od i (od i) = od k ∧ sd (od k) = some (od k) ∧ ps_sm kd cn (pz_al (ps_s fr sd) (ps_a fr nu sd sn)) (od k) (od i) = true) := by
          unfold ps_e
          cases e : pfst (fun k => decide (sd (od k) = some (od k)) && ps_sm kd cn (pz_al (ps_s fr sd) (ps_a fr nu sd sn)) (od k) (od i)) i with
          | none => exact ⟨hoi, Or.inl rfl⟩
          | some k =>
            obtain ⟨k1, k2, _⟩ := pfst_some.mp e
            rw [Bool.and_eq_true, decide_eq_true_eq] at k2
            exact ⟨o1 k (by omega), Or.inr ⟨k, k1, rfl, k2.1, k2.2⟩⟩
        generalize hE : ps_e sd (ps_sm kd cn (pz_al (ps_s fr sd) (ps_a fr nu sd sn))) od i (od i) = E at eE
        refine ⟨_, _, _, _, rfl, rfl, fin (some E) (sn (od i)) _ _ (fun t h => by cases h; exact eE.1) (pq_FXu FX1 (by omega)) x2 (fun c hc => by rcases hc with rfl | rfl | rfl <;> rfl) rfl rfl (fun m hm => ⟨?_, ?_⟩) (pq_FMu m1 (by omega)) (fun c hc => by rcases hc with rfl | rfl | rfl | rfl | rfl | rfl | rfl <;> rfl) (fun m hm => ⟨?_, fun _ h => (by cases h), fun e => ?_⟩) ?_⟩
        · rw [uI1c]; rfl
        · by_cases e : m = od i
          · rw [if_pos e, if_neg (by simp), e]
            show τx.1 19 (od i) = 0
            rw [(x5 _ hoi).2, if_neg (by rw [b2 i (by omega) hi]; simp)]
          · rw [if_neg e]; rfl
        · rw [uI1c]; rfl
        · rfl
        · rcases eE.2 with h | ⟨k, hk, h1, h2, h3⟩
          · refine Or.inl ?_
            simp [h]
          · have ne := inj k hk
            refine Or.inr (Or.inr ⟨k, hk, ?_, ?_, h11, ?_⟩)
            · simp [h1]
            · simp only [if_neg ne]; exact h2
            · rw [← h3]
              refine ps_sm_congr (pq_inp wf (o1 k (by omega))) (fun hkk j l hj hl => ?_)
              have hn18' : kd (od k) ≠ 18 := by rw [hkk]; exact h18
              unfold pz_al
              rw [(agree (some E) (sn (od i)) k j (by omega) hn18' hj).1, (agree (some E) (sn (od i)) k j (by omega) hn18' hj).2, (agree (some E) (sn (od i)) i l (by omega) h18 hl).1, (agree (some E) (sn (od i)) i l (by omega) h18 hl).2]
      · rw [if_neg h11, if_neg h11]
        refine ⟨_, _, _, _, rfl, rfl, fin (some (od i)) (sn (od i)) _ _ (fun t h => by cases h; exact hoi) FX1 x2 (fun c hc => by rcases hc with rfl | rfl | rfl <;> rfl) rfl rfl (fun m hm => ⟨?_, ?_⟩) m1 (fun c _ => rfl) (fun m hm => ⟨?_, fun _ h => (by cases h), fun _ => rfl⟩) (Or.inl (by simp))⟩
        · by_cases e : m = od i
          · rw [if_pos e, e]
            show τx.1 18 (od i) = _
            rw [(x5 _ hoi).1, b2 i (by omega) hi]
          · rw [if_neg e]; rfl
        · by_cases e : m = od i
          · rw [if_pos e, if_neg (by simp), e]
            show τx.1 19 (od i) = 0
            rw [(x5 _ hoi).2, if_neg (by rw [b2 i (by omega) hi]; simp)]
          · rw [if_neg e]; rfl
        · by_cases e : m = od i
          · rw [if_pos e, e, (m6 _ hoi).1, b2 i (by omega) hi]
          · rw [if_neg e]
