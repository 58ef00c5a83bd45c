/-! The patch taken over, on both sides. -/
def pq_X (σ : pv_S) (n : Nat) (kd : Nat → Nat) : Prop := σ.1 12 0 = pI n ∧ ∀ m, m < n → σ.1 13 m = pI (kd m)
def pq_M (σ : pv_S) (n : Nat) (kd cn : Nat → Nat) (fr : Nat → Option Nat) (nu : Nat → Int32) : Prop := σ.1 0 18 = pI n ∧ (∀ m, m < n → σ.1 9 m = pI (kd m) ∧ σ.1 10 m = pI (cn m)) ∧ ∀ i, i < 4 * n → σ.1 11 i = oI (fr i) ∧ σ.1 12 i = nu i
/-- a program's modules, without faults -/
def pq_WF (n : Nat) (kd cn : Nat → Nat) (fr : Nat → Option Nat) (nu : Nat → Int32) : Prop := 1 ≤ n ∧ n ≤ 24 ∧ (∀ m, m < n → kd m < 20 ∧ cn m = pt_inp (kd m)) ∧ (∀ i k, i < 4 * n → fr i = some k → k < n ∧ nu i = 0) ∧ (∀ m j, m < n → cn m ≤ j → j < 4 → fr (4 * m + j) = none ∧ nu (4 * m + j) = 0) ∧ (∀ m, m < n → kd m = 18 → fr (4 * m + 1) = none ∧ ¬ nu (4 * m + 1) < 1 ∧ ¬ 64 < nu (4 * m + 1)) ∧ (∀ m, m < n → kd m = 7 → fr (4 * m) = none ∧ ¬ nu (4 * m) < 0 ∧ ¬ 3 < nu (4 * m)) ∧ (∀ m, m < n → pt_dl kd nu (m + 1) ≤ 128) ∧ ∀ m, m < n → pg_W (pt_E kd cn fr) n m m = false
theorem pq_of {r : Nat} {nm : Nat → Int32} {kd cn : Nat → Nat} {cd nu : Nat → Int32} (wf : pt_WF r kd cn cd nu) (ok : pt_ok r nm kd cn cd nu) : pq_WF r kd cn (pt_fr nm r cd) nu := by
  obtain ⟨w1, w2, wf⟩ := wf
  obtain ⟨o1, o2, o3, o4, o5⟩ := ok
  refine ⟨w1, o1, fun m hm => ⟨(wf m hm).1, (pt_F4f (o3 m hm)).1⟩, fun i k hi h => ⟨pt_fr_lt h, ?_⟩, fun m j hm h1 h2 => ?_, fun m hm h => ?_, fun m hm h => ?_, fun m hm => ?_, o5⟩
  · obtain ⟨m, j, hj, rfl⟩ : ∃ m j, j < 4 ∧ i = 4 * m + j := ⟨i / 4, i % 4, by omega, by omega⟩
    have hm : m < r := by omega
    obtain ⟨_, _, a, b⟩ := wf m hm
    by_cases hc : j < cn m
    · refine b j hc (fun z => ?_)
      unfold pt_fr at h
      rw [if_pos z] at h
      cases h
    · exact (a j (by omega) hj).2
  · obtain ⟨a, b⟩ := (wf m hm).2.2.1 j h1 h2
    refine ⟨?_, b⟩
    unfold pt_fr
    rw [if_pos a]
  · obtain ⟨a, b, c⟩ := (pt_F4f (o3 m hm)).2.1 h
    refine ⟨?_, b, c⟩
    unfold pt_fr
    rw [if_pos a]
  · obtain ⟨a, b, c⟩ := (pt_F4f (o3 m hm)).2.2 h
    refine ⟨?_, b, c⟩
    unfold pt_fr
    rw [if_pos a]
  · have := o4 m hm
    unfold pt_F5m at this
    simp only [Bool.or_eq_false_iff, decide_eq_false_iff_not, Classical.not_not] at this
    exact this.2
theorem pq_inp {n : Nat} {kd cn : Nat → Nat} {fr : Nat → Option Nat} {nu : Nat → Int32} (wf : pq_WF n kd cn fr nu) {m : Nat} (hm : m < n) : cn m ≤ 4 := by
  rw [(wf.2.2.1 m hm).2]
  exact (pt_INP _ (wf.2.2.1 m hm).1).2
/-! the class: rows copied, stands as they are -/
theorem va_cpy0 (f g : Nat → Int32) (n k : Nat) : va_cpy f g 0 0 n k = if k < n then f k else g k := by
  unfold va_cpy
  by_cases h : k < n
  · rw [if_pos h, if_pos ⟨by omega, by omega⟩]
    congr 1
    omega
  · rw [if_neg h, if_neg (by omega)]
theorem nz : ((0 : Int32)).toNatClampNeg = 0 := rfl
theorem cp_ok {k n0 n1 : Nat} (hk : k < 2147483648) (h0 : k ≤ n0) (h1 : k ≤ n1) : pv_cp 0 0 (pI k) n0 n1 = true := by
  have : (0 : Int32) ≤ pI k := by rw [Int32.le_iff_toInt_le, pI_toInt hk]; show (0 : Int) ≤ _; omega
  unfold pv_cp
  rw [pI_nat hk, nz]
  simp [this]
  omega
/-- what the making of the wiring may change -/
def pq_FX (sx σ : pv_S) : Prop := (∀ c, ¬ (11 ≤ c ∧ c ≤ 24) → σ.1 c = sx.1 c) ∧ σ.2 = sx.2
def pq_FM (sm σ : pv_S) : Prop := (∀ c, ¬ (c = 0 ∨ (9 ≤ c ∧ c ≤ 20)) → σ.1 c = sm.1 c) ∧ (∀ k, ¬ (k = 18 ∨ k = 28) → σ.1 0 k = sm.1 0 k) ∧ σ.2 = sm.2
theorem pq_FXu {sx σ : pv_S} {c k : Nat} {x : Int32} (h : pq_FX sx σ) (hc : 11 ≤ c ∧ c ≤ 24) : pq_FX sx (pv_uI σ c k x) := ⟨fun d n => by
  rw [← h.1 d n]
  funext j
  rw [uI1, if_neg (fun e => n (by rw [e.1]; exact hc))], h.2⟩
theorem pq_FXr {sx σ : pv_S} {c : Nat} {f : Nat → Int32} (h : pq_FX sx σ) (hc : 11 ≤ c ∧ c ≤ 24) : pq_FX sx (pv_rI σ c f) := ⟨fun d n => by
  rw [← h.1 d n]
  funext j
  rw [rI1, if_neg (fun e => n (by rw [e]; exact hc))], h.2⟩
theorem pq_FMu {sm σ : pv_S} {c k : Nat} {x : Int32} (h : pq_FM sm σ) (hc : 9 ≤ c ∧ c ≤ 20) : pq_FM sm (pv_uI σ c k x) := ⟨fun d n => by
  rw [← h.1 d n]
  funext j
  rw [uI1, if_neg (fun e => n (by rw [e.1]; exact Or.inr hc))], fun j n => by
  rw [← h.2.1 j n, uI1, if_neg (by omega)], h.2.2⟩
theorem pq_FMr {sm σ : pv_S} {c : Nat} {f : Nat → Int32} (h : pq_FM sm σ) (hc : 9 ≤ c ∧ c ≤ 20) : pq_FM sm (pv_rI σ c f) := ⟨fun d n => by
  rw [← h.1 d n]
  funext j
  rw [rI1, if_neg (fun e => n (by rw [e]; exact Or.inr hc))], fun j n => by
  rw [← h.2.1 j n, rI1, if_neg (by omega)], h.2.2⟩
/-- the class's wiring before order and stands -/
theorem pq_make {σ : pv_S} {r : Nat} {nm : Nat → Int32} {kd cn : Nat → Nat} {cd nu : Nat → Int32} (h : pt_T σ r nm kd cn cd nu) (hr : r ≤ 24) (x : Int32) (hx : x = 0 ∨ x = 1) : ∃ τ, f_Wr_make σ x = ((f_Wr_putInOrder τ).bind fun q1 => (if x = 0 then some q1 else ((f_Wr_findStands q1).bind fun q2 => ((f_Wr_keepNeeded q2).bind fun q3 => some q3)))) ∧ pq_FX σ τ ∧ pq_X τ r kd ∧ (∀ i, i < 4 * r → τ.1 14 i = oI (pt_fr nm r cd i) ∧ τ.1 15 i = nu i) ∧ ∀ m, m < r → τ.1 18 m = pI m ∧ τ.1 19 m = 0 ∧ τ.1 17 m = 1 - x := by
  obtain ⟨⟨h3, hm, hi⟩, hf, _⟩ := h
  have key := up_0 (N := r) (P := fun fu k => ∀ τ : pv_S, pq_FX σ τ → pq_X τ r kd → (∀ i, i < 4 * r → τ.1 14 i = oI (pt_fr nm r cd i) ∧ τ.1 15 i = nu i) → (∀ m, m < k → τ.1 18 m = pI m ∧ τ.1 19 m = 0 ∧ τ.1 17 m = 1 - x) → ∃ τ', f_Wr_make_70 fu τ x (pI k) = ((f_Wr_putInOrder τ').bind fun q1 => (if x = 0 then some q1 else ((f_Wr_findStands q1).bind fun q2 => ((f_Wr_keepNeeded q2).bind fun q3 => some q3)))) ∧ pq_FX σ τ' ∧ pq_X τ' r kd ∧ (∀ i, i < 4 * r → τ'.1 14 i = oI (pt_fr nm r cd i) ∧ τ'.1 15 i = nu i) ∧ ∀ m, m < r → τ'.1 18 m = pI m ∧ τ'.1 19 m = 0 ∧ τ'.1 17 m = 1 - x) ?_ ?_ (i := 0) (by omega) (by omega)
  · have em : (if (24 : Int32) < σ.1 3 0 then (24 : Int32) else σ.1 3 0) = pI r := by rw [h3, if_neg (fun z => by rw [nlt_24 (by omega)] at z; omega)]
    unfold f_Wr_make f_Wr_make_0
    rw [em]
    have e12 : ∀ x, (pv_uI σ 12 0 x).1 12 0 = x := fun x => by rw [uI1]; simp
    have e12r : ∀ (τ : pv_S) c f, c ≠ 12 → (pv_rI τ c f).1 12 0 = τ.1 12 0 := fun τ c f hc => by rw [rI1, if_neg (fun z => hc z.symm)]
    simp only [e12r _ 13 _ (by decide), e12r _ 14 _ (by decide), e12, nmul_4, nz, pI_nat (show r < 2147483648 by omega), pI_nat (show 4 * r < 2147483648 by omega)]
    rw [if_pos (cp_ok (by omega) (by omega) (by omega)), if_pos (cp_ok (by omega) (by omega) (by omega)), if_pos (cp_ok (by omega) (by omega) (by omega))]
    refine key _ ?_ ⟨?_, fun m hm2 => ?_⟩ (fun i hi2 => ⟨?_, ?_⟩) (fun m hm => absurd hm (by omega))
    · exact pq_FXr (pq_FXr (pq_FXr (pq_FXu ⟨fun _ _ => rfl, rfl⟩ (by omega)) (by omega)) (by omega)) (by omega)
    · simp [rI1, uI1]
    · simp only [rI1, uI1, va_cpy0]
      simp only [hm2]
      exact (hm m hm2).2.1
    · simp only [rI1, uI1, va_cpy0]
      simp only [hi2]
      exact hf i hi2
    · simp only [rI1, uI1, va_cpy0]
      simp only [hi2]
      exact (hi i hi2).2
  · intro fu τ f1 f2 f3 f4
    refine ⟨τ, ?_, f1, f2, f3, f4⟩
    show f_Wr_make_70b _ _ _ _ = _
    unfold f_Wr_make_70b
    rw [f2.1, if_pos ((pI_le (by omega) (by omega)).mpr (by omega))]
  · intro fu k hk ih τ f1 f2 f3 f4
    have nb : ∀ y : Int32, y = 0 ∨ y = 1 → vp_nar .boolean y = y := by
      rintro y (rfl | rfl) <;> rfl
    have step : ∀ y : Int32, y = 1 - x → vp_nar .boolean y = y → ∃ τ', f_Wr_make_70 fu (pv_uI (pv_uI (pv_uI τ 18 k (pI k)) 19 k 0) 17 k (vp_nar .boolean y)) x (pI (k + 1)) = ((f_Wr_putInOrder τ').bind fun q1 => (if x = 0 then some q1 else ((f_Wr_findStands q1).bind fun q2 => ((f_Wr_keepNeeded q2).bind fun q3 => some q3)))) ∧ pq_FX σ τ' ∧ pq_X τ' r kd ∧ (∀ i, i < 4 * r → τ'.1 14 i = oI (pt_fr nm r cd i) ∧ τ'.1 15 i = nu i) ∧ ∀ m, m < r → τ'.1 18 m = pI m ∧ τ'.1 19 m = 0 ∧ τ'.1 17 m = 1 - x := by
      intro y hy hn
      refine ih _ (pq_FXu (pq_FXu (pq_FXu f1 (by omega)) (by omega)) (by omega)) f2 f3 (fun m hm => ?_)
      by_cases e : m = k
      · subst e
        refine ⟨by simp [uI1], by simp [uI1], ?_⟩
        rw [hn]
        simp [uI1, hy]
      · obtain ⟨g1, g2, g3⟩ := f4 m (by omega)
        exact ⟨by simp [uI1, e, g1], by simp [uI1, e, g2], by simp [uI1, e, g3]⟩
    show ∃ τ', f_Wr_make_70b _ _ _ _ = _ ∧ _
    unfold f_Wr_make_70b f_Wr_make_106
    rw [f2.1, if_neg (fun z => by have := (pI_le (by omega) (by omega)).mp z; omega), pI_nat (by omega), if_pos ((pI_in (by omega)).mpr (by omega)), if_pos ((pI_in (by omega)).mpr (by omega)), nadd_1]
    rcases hx with rfl | rfl
    · rw [if_pos rfl, if_pos ((pI_in (by omega)).mpr (by omega))]
      exact step 1 (by decide) rfl
    · rw [if_neg (by decide), if_pos ((pI_in (by omega)).mpr (by omega))]
      exact step 0 (by decide) rfl
