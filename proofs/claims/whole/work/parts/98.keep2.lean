/-! Who is kept: the reference. -/
theorem pe_innerM {σ : pv_S} {n : Nat} {S : Nat → Option Nat} (hn : n ≤ 24) (h18 : σ.1 0 18 = pI n) (hsrc : ∀ f i, i < 4 * n → f_Md_source (pv_rI σ 17 f) (pI i) = some (oI (S i), pv_rI σ 17 f)) (hS : ∀ i t, i < 4 * n → S i = some t → t < n) {m : Nat} (hm : m < n) {f : Nat → Int32} {K : Nat → Bool} (hf : pe_row f n K) (k51 : pv_S → Int32 → Option pv_S) (k61 : pv_S → Int32 → Int32 → Option pv_S) (y : Int32) : ∃ f', f_Md_keep_73 k51 k61 pv_fu (pv_rI σ 17 f) y (pI m) (pI (4 * m)) = k61 (pv_rI σ 17 f') y (pI (m + 1)) ∧ pe_row f' n (fun t => K t || (K m && pe_nd S m t)) := by
  by_cases hK : K m = true
  · have key := up_0 (N := 4) (P := fun fu j => ∀ f, pe_row f n (fun t => K t || pany (fun j => decide (S (4 * m + j) = some t)) j) → ∃ f', f_Md_keep_73 k51 k61 fu (pv_rI σ 17 f) y (pI m) (pI (4 * m + j)) = k61 (pv_rI σ 17 f') y (pI (m + 1)) ∧ pe_row f' n (fun t => K t || pe_nd S m t)) ?_ ?_ (i := 0) (by omega) (by omega)
    · obtain ⟨f', g1, g2⟩ := key f (fun t ht => by rw [hf t ht]; show _ = b2i (K t || false); rw [Bool.or_false])
      refine ⟨f', g1, fun t ht => ?_⟩
      rw [g2 t ht]
      show b2i (K t || pe_nd S m t) = b2i (K t || (K m && pe_nd S m t))
      rw [hK, Bool.true_and]
    · intro fu f hf
      refine ⟨f, ?_, hf⟩
      show f_Md_keep_73b _ _ _ _ _ _ _ = _
      unfold f_Md_keep_73b f_Md_keep_116
      rw [nmul_4, nadd_4, if_pos ((pI_le (by omega) (by omega)).mpr (by omega)), nadd_1]
    · intro fu j hj ih f hf
      have e17 : (pv_rI σ 17 f).1 17 m = 1 := by
        show f m = 1
        rw [hf m hm]
        show b2i (K m || _) = 1
        rw [hK]
        rfl
      show ∃ f', f_Md_keep_73b _ _ _ _ _ _ _ = _ ∧ _
      unfold f_Md_keep_73b f_Md_keep_110
      rw [nmul_4, nadd_4, if_neg (fun z => by have := (pI_le (by omega) (by omega)).mp z; omega), pI_nat (by omega), e17, if_pos ((pI_in (by omega)).mpr (by omega)), if_neg (by decide), hsrc f _ (by omega), nadd_1]
      simp only [Option.bind_some]
      cases e : S (4 * m + j) with
      | none =>
        rw [if_pos (show oI none < 0 by decide)]
        refine ih f (fun t ht => ?_)
        rw [hf t ht]
        show _ = b2i (K t || (pany (fun j => decide (S (4 * m + j) = some t)) j || decide (S (4 * m + j) = some t)))
        rw [e]
        simp
      | some s =>
        have hs := hS _ s (by omega) e
        rw [if_neg (show ¬ oI (some s) < 0 from fun z => (pI_lt0 (by omega)).mp z), hsrc f _ (by omega), e]
        simp only [Option.bind_some]
        rw [show oI (some s) = pI s from rfl, if_pos ((pI_in (by omega)).mpr (by omega)), pI_nat (by omega), rIu]
        refine ih _ (fun t ht => ?_)
        show upd f s (vp_nar .boolean 1) t = b2i (K t || (pany (fun j => decide (S (4 * m + j) = some t)) j || decide (S (4 * m + j) = some t)))
        unfold upd
        rw [e]
        by_cases es : t = s
        · rw [if_pos es, es]
          simp [b2i]
          rfl
        · rw [if_neg es, hf t ht]
          simp [show ¬ s = t from fun z => es z.symm]
  · have hK : K m = false := by simpa using hK
    refine ⟨f, ?_, fun t ht => by rw [hf t ht, hK]; simp⟩
    have e17 : (pv_rI σ 17 f).1 17 m = 0 := by
      show f m = 0
      rw [hf m hm, hK]
      rfl
    show f_Md_keep_73b _ _ _ _ _ _ _ = _
    unfold f_Md_keep_73b f_Md_keep_116
    rw [nmul_4, nadd_4, if_neg (fun z => by have := (pI_le (by omega) (by omega)).mp z; omega), pI_nat (by omega), e17, if_pos ((pI_in (by omega)).mpr (by omega)), if_pos rfl, nadd_1]
theorem pe_M {σ : pv_S} {n : Nat} {S : Nat → Option Nat} (n1 : 1 ≤ n) (hn : n ≤ 24) (h18 : σ.1 0 18 = pI n) {z : Int32} (h17 : σ.1 0 17 = z) {o : Option Nat} (h15 : σ.1 15 (n - 1) = oI o) (ho : ∀ t, o = some t → t < n) (hsrc : ∀ f i, i < 4 * n → f_Md_source (pv_rI σ 17 f) (pI i) = some (oI (S i), pv_rI σ 17 f)) (hS : ∀ i t, i < 4 * n → S i = some t → t < n) : ∃ f, f_Md_keep σ = some (pv_rI σ 17 f) ∧ pe_row f n (pe_it (pe_nd S) n (fun t => decide (z = 0) || decide (o = some t)) n) := by
  have e12 : (pI n : Int32) - (1 : Int32) = pI (n - 1) := by
    have : n = n - 1 + 1 := by omega
    rw [this, nm1]
    congr 1
  have rounds := up_0 (N := n) (P := fun fu p => ∀ f, pe_row f n (pe_it (pe_nd S) n (fun t => decide (z = 0) || decide (o = some t)) p) → ∃ f', f_Md_keep_51 fu (pv_rI σ 17 f) (pI p) = some (pv_rI σ 17 f') ∧ pe_row f' n (pe_it (pe_nd S) n (fun t => decide (z = 0) || decide (o = some t)) n)) ?_ ?_ (i := 0) (by omega) (by omega)
  · have key := up_0 (N := n) (P := fun fu m => ∀ f, (∀ t, t < m → f t = b2i (decide (z = 0) || decide (o = some t))) → ∃ f', f_Md_keep_2 fu (pv_rI σ 17 f) (pI m) = some (pv_rI σ 17 f') ∧ pe_row f' n (pe_it (pe_nd S) n (fun t => decide (z = 0) || decide (o = some t)) n)) ?_ ?_ (i := 0) (by omega) (by omega)
    · have := key (σ.1 17) (fun t ht => absurd ht (by omega))
      rw [rI0] at this
      exact this
    · intro fu f hf
      have e : (pv_rI σ 17 f).1 0 18 = pI n := h18
      show ∃ f', f_Md_keep_2b _ _ _ = _ ∧ _
      unfold f_Md_keep_2b
      rw [e, if_pos ((pI_le (by omega) (by omega)).mpr (by omega))]
      exact rounds f hf
    · intro fu m hm ih f hf
      have e : (pv_rI σ 17 f).1 0 18 = pI n := h18
      have e17 : (pv_rI σ 17 f).1 0 17 = z := h17
      have e15 : (pv_rI σ 17 f).1 15 (n - 1) = oI o := h15
      show ∃ f', f_Md_keep_2b _ _ _ = _ ∧ _
      unfold f_Md_keep_2b f_Md_keep_37 f_Md_keep_42
      rw [e, e17, if_neg (fun z => by have := (pI_le (by omega) (by omega)).mp z; omega), e12, pI_nat (by omega), pI_nat (by omega), e15, if_pos ((pI_in (by omega)).mpr (by omega)), if_pos ((pI_in (by omega)).mpr (by omega)), if_pos ((pI_in (by omega)).mpr (by omega)), nadd_1, rIu, rIu]
      have st : ∀ b : Bool, b = (decide (z = 0) || decide (o = some m)) → ∃ f', f_Md_keep_2 fu (pv_rI σ 17 (upd f m (vp_nar .boolean (b2i b)))) (pI (m + 1)) = some (pv_rI σ 17 f') ∧ pe_row f' n (pe_it (pe_nd S) n (fun t => decide (z = 0) || decide (o = some t)) n) := by
        intro b hb
        refine ih _ (fun t ht => ?_)
        unfold upd
        by_cases et : t = m
        · rw [if_pos et, et, ← hb]
          cases b <;> rfl
        · rw [if_neg et]
          exact hf t (by omega)
      have lo : ∀ t, o = some t → t < 2147483648 := fun t h => by have := ho t h; omega
      by_cases hz : z = 0
      · rw [if_pos hz]
        exact st true (by simp [hz])
      · rw [if_neg hz]
        by_cases hm2 : o = some m
        · rw [if_pos (show pI m = oI o by rw [hm2]; rfl)]
          exact st true (by simp [hm2])
        · rw [if_neg (show ¬ pI m = oI o from fun y => hm2 ((oI_inj (a := some m) (fun t h => by cases h; omega) lo).mp y).symm)]
          exact st false (by simp [hz, hm2])
  · intro fu f hf
    have e : (pv_rI σ 17 f).1 0 18 = pI n := h18
    refine ⟨f, ?_, hf⟩
    show f_Md_keep_51b _ _ _ = _
    unfold f_Md_keep_51b
    rw [e, if_pos ((pI_le (by omega) (by omega)).mpr (by omega))]
  · intro fu p hp ih f hf
    have e : (pv_rI σ 17 f).1 0 18 = pI n := h18
    show ∃ f', f_Md_keep_51b _ _ _ = _ ∧ _
    unfold f_Md_keep_51b
    rw [e, if_neg (fun z => by have := (pI_le (by omega) (by omega)).mp z; omega)]
    have key := up_0 (N := n) (P := fun fu' m => ∀ f, pe_row f n (pe_gs (pe_nd S) (pe_it (pe_nd S) n (fun t => decide (z = 0) || decide (o = some t)) p) m) → ∃ f', f_Md_keep_61 (f_Md_keep_51 fu) fu' (pv_rI σ 17 f) (pI p) (pI m) = some (pv_rI σ 17 f') ∧ pe_row f' n (pe_it (pe_nd S) n (fun t => decide (z = 0) || decide (o = some t)) n)) ?_ ?_ (i := 0) (by omega) (by omega)
    · exact key f hf
    · intro fu' f hf
      have e : (pv_rI σ 17 f).1 0 18 = pI n := h18
      show ∃ f', f_Md_keep_61b _ _ _ _ _ = _ ∧ _
      unfold f_Md_keep_61b
      rw [e, if_pos ((pI_le (by omega) (by omega)).mpr (by omega)), nadd_1]
      exact ih f hf
    · intro fu' m hm ih2 f hf
      have e : (pv_rI σ 17 f).1 0 18 = pI n := h18
      show ∃ f', f_Md_keep_61b _ _ _ _ _ = _ ∧ _
      unfold f_Md_keep_61b
      obtain ⟨f', g1, g2⟩ := pe_innerM hn h18 hsrc hS hm hf (f_Md_keep_51 fu) (f_Md_keep_61 (f_Md_keep_51 fu) fu') (pI p)
      rw [e, if_neg (fun z => by have := (pI_le (by omega) (by omega)).mp z; omega), nmul_4, g1]
      exact ih2 f' g2
/-- both sides keep the same -/
theorem pe_both {n : Nat} {kd cn : Nat → Nat} {fr : Nat → Option Nat} {nu : Nat → Int32} (wf : pq_WF n kd cn fr nu) {od : Nat → Nat} {sd : Nat → Option Nat} {sn : Nat → Int32} {τx τm : pv_S} (X : pz_WX n kd fr nu od sd sn τx) (M : pz_WM n kd cn fr nu od sd sn τm) (b1 : ∀ m t, m < n → sd m = some t → t < n) {z : Int32} (h17 : τm.1 0 17 = z) (hk : z ≠ 0 → pe_row (τx.1 17) n (fun _ => false)) (hk0 : z = 0 → pe_row (τx.1 17) n (fun _ => true)) : ∃ f g K, (if z = 0 then some τx else f_Wr_keepNeeded τx) = some (pv_rI τx 17 f) ∧ f_Md_keep τm = some (pv_rI τm 17 g) ∧ pe_row f n K ∧ pe_row g n K ∧ (∀ m j t, m < n → j < 4 → K m = true → ps_s fr sd (4 * m + j) = some t → K t = true) ∧ (∀ t, sd (n - 1) = some t → K t = true) ∧ (z = 0 → ∀ m, m < n → K m = true) := by
  obtain ⟨n1, n2, w1, w2, w3, _⟩ := id wf
  obtain ⟨x1, x2, x3, x4⟩ := X
  obtain ⟨m1, m2, m3⟩ := M
  have hS : ∀ i t, i < 4 * n → ps_s fr sd i = some t → t < n := by
    intro i t hi h
    unfold ps_s at h
    cases e : fr i with
    | none => rw [e] at h; cases h
    | some s =>
      rw [e] at h
      exact b1 s t (w2 i s hi e).1 h
  have hz : ∀ m j, m < n → cn m ≤ j → j < 4 → ps_s fr sd (4 * m + j) = none := by
    intro m j hm h1 h2
    unfold ps_s
    rw [(w3 m j hm h1 h2).1]
  have ho : ∀ t, sd (n - 1) = some t → t < n := fun t h => b1 _ t (by omega) h
  obtain ⟨g, g1, g2⟩ := pe_M (σ := τm) (S := ps_s fr sd) n1 n2 m1.1 h17 (m3 (n - 1) (by omega)).1 ho (fun f i hi => ps_srcM (σ := pv_rI τm 17 f) n2 hi (m1.2.2 i hi).1 (fun k h => (w2 i k hi h).1) (fun k h => (m3 k (w2 i k hi h).1).1)) hS
  have st : ∀ t, t < n → pe_it (pe_nd (ps_s fr sd)) n (fun t => decide (z = 0) || decide (sd (n - 1) = some t)) (n + 1) t = pe_it (pe_nd (ps_s fr sd)) n (fun t => decide (z = 0) || decide (sd (n - 1) = some t)) n t := pe_stab (by omega)
  have closed : ∀ m j t, m < n → j < 4 → pe_it (pe_nd (ps_s fr sd)) n (fun t => decide (z = 0) || decide (sd (n - 1) = some t)) n m = true → ps_s fr sd (4 * m + j) = some t → pe_it (pe_nd (ps_s fr sd)) n (fun t => decide (z = 0) || decide (sd (n - 1) = some t)) n t = true := by
    intro m j t hm hj hK h
    exact pe_fix st hm (hS _ t (by omega) h) hK (pany_true.mpr ⟨j, hj, decide_eq_true h⟩)
  have base : ∀ k t, (decide (z = 0) || decide (sd (n - 1) = some t)) = true → pe_it (pe_nd (ps_s fr sd)) n (fun t => decide (z = 0) || decide (sd (n - 1) = some t)) k t = true := by
    intro k
    induction k with
    | zero => intro t h; exact h
    | succ k ih => intro t h; exact pe_mono (ih t h)
  by_cases h0 : z = 0
  · refine ⟨τx.1 17, g, _, by rw [if_pos h0, rI0], g1, fun t ht => ?_, g2, closed, fun t h => base n t (by simp [h]), fun _ m hm => base n m (by simp [h0])⟩
    rw [hk0 h0 t ht, base n t (by simp [h0])]
  · obtain ⟨f, f1, f2⟩ := pe_X wf x1 (fun i hi => (x4 i hi).1) hS hz (x3 (n - 1) (by omega)).1 ho (hk h0)
    refine ⟨f, g, _, by rw [if_neg h0]; exact f1, g1, fun t ht => ?_, g2, closed, fun t h => base n t (by simp [h]), fun h => absurd h h0⟩
    rw [f2 t ht]
    have : (fun t => decide (z = 0) || decide (sd (n - 1) = some t)) = fun t => decide (sd (n - 1) = some t) := by
      funext t
      simp [h0]
    rw [this]
