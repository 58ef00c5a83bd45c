/-! What the steps are; lines of dels. -/
theorem ph_of {n : Nat} {kd : Nat → Nat} {K : Nat → Bool} {od sm : Nat → Nat} {fp sc : Nat} (P : ph_P n kd K od sm fp sc) : fp ≤ n ∧ sc ≤ fp + n ∧ fp ≤ sc ∧ (∀ t, t < fp → ∃ k, k < n ∧ K (od k) = true ∧ ph_kc K od k = t ∧ sm t = od k) ∧ (∀ t, fp ≤ t → t < sc → ∃ k, k < n ∧ K (od k) = true ∧ kd (od k) = 18 ∧ fp + ph_dc K kd od k = t ∧ sm t = od k) ∧ (∀ k, k < n → K (od k) = true → ph_kc K od k < fp ∧ sm (ph_kc K od k) = od k) ∧ ∀ k, k < n → K (od k) = true → kd (od k) = 18 → fp + ph_dc K kd od k < sc ∧ sm (fp + ph_dc K kd od k) = od k := by
  obtain ⟨e1, e2, s1, s2⟩ := P
  have b1 : ph_kc K od n ≤ n := pcnt_le _ n
  have b2 : ph_dc K kd od n ≤ n := pcnt_le _ n
  subst e1
  refine ⟨b1, by omega, by omega, fun t ht => ?_, fun t h1 h2 => ?_, fun k hk hK => ⟨?_, s1 k hk hK⟩, fun k hk hK h18 => ?_⟩
  · obtain ⟨k, k1, k2, k3⟩ := ph_ex (p := fun k => K (od k)) ht
    exact ⟨k, k1, k2, k3, by rw [← k3]; exact s1 k k1 k2⟩
  · obtain ⟨k, k1, k2, k3⟩ := ph_ex (p := fun k => K (od k) && decide (kd (od k) = 18)) (n := n) (t := t - ph_kc K od n) (by show t - ph_kc K od n < ph_dc K kd od n; omega)
    have k2' := k2
    rw [Bool.and_eq_true, decide_eq_true_eq] at k2
    have k3 : ph_dc K kd od k = t - ph_kc K od n := k3
    have e : ph_kc K od n + ph_dc K kd od k = t := by omega
    exact ⟨k, k1, k2.1, k2.2, e, by rw [← e]; exact s2 k k1 k2'⟩
  · have := ph_up (fun k => K (od k)) (show k + 1 ≤ n by omega)
    have e2 : ph_kc K od (k + 1) = ph_kc K od k + 1 := by rw [ph_kc1, hK, if_pos rfl]
    unfold ph_kc at *
    omega
  · have hb : (K (od k) && decide (kd (od k) = 18)) = true := by rw [hK, decide_eq_true h18]; rfl
    refine ⟨?_, s2 k hk hb⟩
    have := ph_up (fun k => K (od k) && decide (kd (od k) = 18)) (show k + 1 ≤ n by omega)
    have e3 : ph_dc K kd od (k + 1) = ph_dc K kd od k + 1 := by rw [ph_dc1, hb, if_pos rfl]
    unfold ph_dc at *
    omega
/-- two steps of one sort have two modules -/
theorem ph_inj1 {n : Nat} {kd : Nat → Nat} {K : Nat → Bool} {od sm : Nat → Nat} {fp sc : Nat} (P : ph_P n kd K od sm fp sc) (oi : ∀ k k', k < n → k' < n → od k = od k' → k = k') {t t' : Nat} (h : (t < fp ∧ t' < fp) ∨ (fp ≤ t ∧ fp ≤ t' ∧ t < sc ∧ t' < sc)) (e : sm t = sm t') : t = t' := by
  obtain ⟨_, _, _, f1, f2, _, _⟩ := ph_of P
  rcases h with ⟨h1, h2⟩ | ⟨h1, h2, h3, h4⟩
  · obtain ⟨k, k1, _, k3, k4⟩ := f1 t h1
    obtain ⟨l, l1, _, l3, l4⟩ := f1 t' h2
    have : k = l := oi k l k1 l1 (by rw [← k4, ← l4]; exact e)
    subst this
    omega
  · obtain ⟨k, k1, _, _, k3, k4⟩ := f2 t h1 h3
    obtain ⟨l, l1, _, _, l3, l4⟩ := f2 t' h2 h4
    have : k = l := oi k l k1 l1 (by rw [← k4, ← l4]; exact e)
    subst this
    omega
def psum (p : Nat → Bool) (w : Nat → Nat) : Nat → Nat
  | 0 => 0
  | n + 1 => psum p w n + (if p n = true then w n else 0)
theorem psum_mono {p q : Nat → Bool} {w : Nat → Nat} : ∀ {n : Nat}, (∀ i, i < n → p i = true → q i = true) → psum p w n ≤ psum q w n := by
  intro n
  induction n with
  | zero => intro _; exact Nat.le_refl _
  | succ n ih =>
    intro h
    have := ih (fun i hi => h i (by omega))
    show psum p w n + (if p n = true then w n else 0) ≤ psum q w n + (if q n = true then w n else 0)
    by_cases hp : p n = true
    · rw [if_pos hp, if_pos (h n (by omega) hp)]; omega
    · rw [if_neg hp]; omega
theorem psum_add {p q : Nat → Bool} {w : Nat → Nat} {k : Nat} : ∀ {n : Nat}, (∀ t, t < n → q t = (p t || decide (t = k))) → p k = false → psum q w n = psum p w n + (if k < n then w k else 0) := by
  intro n
  induction n with
  | zero => intro _ _; rfl
  | succ n ih =>
    intro h hk
    have e := ih (fun t ht => h t (by omega)) hk
    show psum q w n + (if q n = true then w n else 0) = psum p w n + (if p n = true then w n else 0) + (if k < n + 1 then w k else 0)
    rw [e, h n (by omega)]
    by_cases hkn : n = k
    · subst hkn
      rw [hk, if_neg (show ¬ n < n by omega), if_pos (show n < n + 1 by omega)]
      simp
    · rw [decide_eq_false hkn, Bool.or_false]
      by_cases h2 : k < n
      · rw [if_pos h2, if_pos (show k < n + 1 by omega)]; omega
      · rw [if_neg h2, if_neg (show ¬ k < n + 1 by omega)]; omega
theorem psum_up {p : Nat → Bool} {w : Nat → Nat} : ∀ {a b : Nat}, a ≤ b → psum p w a ≤ psum p w b := by
  intro a b h
  induction b with
  | zero => have : a = 0 := by omega
            subst this
            exact Nat.le_refl _
  | succ b ih =>
    by_cases e : a = b + 1
    · subst e; exact Nat.le_refl _
    · have := ih (by omega)
      show psum p w a ≤ psum p w b + (if p b = true then w b else 0)
      omega
/-- how many samples a del holds back -/
def pl_N (nu : Nat → Int32) (m : Nat) : Nat := (nu (4 * m + 1)).toNatClampNeg
theorem pl_N1 {n : Nat} {kd cn : Nat → Nat} {fr : Nat → Option Nat} {nu : Nat → Int32} (wf : pq_WF n kd cn fr nu) {m : Nat} (hm : m < n) (h : kd m = 18) : nu (4 * m + 1) = pI (pl_N nu m) ∧ 1 ≤ pl_N nu m ∧ pl_N nu m ≤ 64 := by
  obtain ⟨_, h1, h2⟩ := wf.2.2.2.2.2.1 m hm h
  obtain ⟨e, l⟩ := pI_of (pI_of1 h1)
  refine ⟨e, ?_, ?_⟩
  · rw [e, nlt'_1 l] at h1
    unfold pl_N
    omega
  · rw [e, nlt_64 l] at h2
    unfold pl_N
    omega
theorem pl_dl {n : Nat} {kd cn : Nat → Nat} {fr : Nat → Option Nat} {nu : Nat → Int32} (wf : pq_WF n kd cn fr nu) : ∀ {k : Nat}, k ≤ n → pt_dl kd nu k = pI (psum (fun m => decide (kd m = 18)) (pl_N nu) k) ∧ psum (fun m => decide (kd m = 18)) (pl_N nu) k ≤ 64 * k := by
  intro k
  induction k with
  | zero => intro _; exact ⟨rfl, Nat.le_refl _⟩
  | succ k ih =>
    intro hk
    obtain ⟨h1, h2⟩ := ih (by omega)
    have e : pt_dl kd nu (k + 1) = pt_dl kd nu k + (if kd k = 18 then nu (4 * k + 1) else 0) := rfl
    have e2 : psum (fun m => decide (kd m = 18)) (pl_N nu) (k + 1) = psum (fun m => decide (kd m = 18)) (pl_N nu) k + (if decide (kd k = 18) = true then pl_N nu k else 0) := rfl
    rw [e, e2, h1]
    by_cases h18 : kd k = 18
    · obtain ⟨a, b, c⟩ := pl_N1 wf (show k < n by omega) h18
      rw [if_pos h18, decide_eq_true h18, if_pos rfl, a, pI_add]
      exact ⟨rfl, by omega⟩
    · rw [if_neg h18, decide_eq_false h18, if_neg (by decide), Int32.add_zero]
      exact ⟨rfl, by omega⟩
theorem pl_128 {n : Nat} {kd cn : Nat → Nat} {fr : Nat → Option Nat} {nu : Nat → Int32} (wf : pq_WF n kd cn fr nu) : psum (fun m => decide (kd m = 18)) (pl_N nu) n ≤ 128 := by
  obtain ⟨n1, n2, _, _, _, _, _, w6, _⟩ := id wf
  have h := w6 (n - 1) (by omega)
  rw [show n - 1 + 1 = n by omega] at h
  obtain ⟨h1, h2⟩ := pl_dl wf (Nat.le_refl n)
  rw [h1, nle'_128 (by omega)] at h
  exact h
/-- where the lines begin, by the puts -/
def pl_L (fp : Nat) (sm : Nat → Nat) (w : Nat → Nat) : Nat → Nat
  | 0 => 0
  | d + 1 => pl_L fp sm w d + w (sm (fp + d))
theorem pl_Lup {fp : Nat} {sm w : Nat → Nat} {d : Nat} : ∀ {d' : Nat}, d < d' → pl_L fp sm w d + w (sm (fp + d)) ≤ pl_L fp sm w d' := by
  intro d'
  induction d' with
  | zero => intro h; omega
  | succ d' ih =>
    intro h
    show _ ≤ pl_L fp sm w d' + w (sm (fp + d'))
    by_cases e : d = d'
    · subst e; exact Nat.le_refl _
    · have := ih (by omega)
      omega
theorem pl_Lsum {n fp sc : Nat} {sm w : Nat → Nat} {kd : Nat → Nat} (h : ∀ t, fp ≤ t → t < sc → sm t < n ∧ kd (sm t) = 18) (inj : ∀ t t', fp ≤ t → fp ≤ t' → t < sc → t' < sc → sm t = sm t' → t = t') : ∀ {d : Nat}, fp + d ≤ sc → pl_L fp sm w d = psum (fun m => pany (fun u => decide (sm (fp + u) = m)) d) w n := by
  intro d
  induction d with
  | zero =>
    intro _
    have : ∀ n, psum (fun m => pany (fun u => decide (sm (fp + u) = m)) 0) w n = 0 := by
      intro n
      induction n with
      | zero => rfl
      | succ n ih =>
        show psum _ w n + (if false = true then w n else 0) = 0
        rw [ih, if_neg (by decide)]
    exact (this n).symm
  | succ d ih =>
    intro hd
    obtain ⟨h1, h2⟩ := h (fp + d) (by omega) (by omega)
    have := psum_add (p := fun m => pany (fun u => decide (sm (fp + u) = m)) d) (q := fun m => pany (fun u => decide (sm (fp + u) = m)) (d + 1)) (w := w) (k := sm (fp + d)) (n := n) (fun t ht => by
      show (pany (fun u => decide (sm (fp + u) = t)) d || decide (sm (fp + d) = t)) = _
      congr 1
      by_cases e : sm (fp + d) = t
      · rw [decide_eq_true e, decide_eq_true e.symm]
      · rw [decide_eq_false e, decide_eq_false (fun z => e z.symm)]) (pany_false.mpr (fun u hu => decide_eq_false (fun z => by
        have := inj _ _ (by omega) (by omega) (by omega) (by omega) z
        omega)))
    rw [this, if_pos h1, ← ih (by omega)]
    rfl
theorem pl_lines {n : Nat} {kd cn : Nat → Nat} {fr : Nat → Option Nat} {nu : Nat → Int32} (wf : pq_WF n kd cn fr nu) {fp sc : Nat} {sm : Nat → Nat} (hsc : sc ≤ 48) (hfs : fp ≤ sc) (h : ∀ t, fp ≤ t → t < sc → sm t < n ∧ kd (sm t) = 18) (inj : ∀ t t', fp ≤ t → fp ≤ t' → t < sc → t' < sc → sm t = sm t' → t = t') {σ : pv_S} (x1 : σ.1 11 1 = pI sc) (x2 : σ.1 11 2 = pI fp) (x20 : ∀ t, t < sc → σ.1 20 t = pI (sm t)) (x15 : ∀ m, m < n → kd m = 18 → σ.1 15 (4 * m + 1) = nu (4 * m + 1)) : ∃ f, f_Pg_layLines σ = some (pv_rI σ 21 f) ∧ (∀ d, fp + d < sc → f (sm (fp + d)) = pI (pl_L fp sm (pl_N nu) d)) ∧ pl_L fp sm (pl_N nu) (sc - fp) ≤ 128 := by
  obtain ⟨n1, n2, _⟩ := id wf
  have le : ∀ d, fp + d ≤ sc → pl_L fp sm (pl_N nu) d ≤ 128 := by
    intro d hd
    rw [pl_Lsum h inj hd]
    refine Nat.le_trans (psum_mono (fun m hm z => ?_)) (pl_128 wf)
    obtain ⟨u, hu, z⟩ := pany_true.mp z
    rw [decide_eq_true_eq] at z ⊢
    rw [← z]
    exact (h _ (by omega) (by omega)).2
  have key := up_0 (N := sc) (P := fun fu t => ∀ f, fp ≤ t → (∀ d, fp + d < t → f (sm (fp + d)) = pI (pl_L fp sm (pl_N nu) d)) → ∃ f', f_Pg_layLines_7 fu (pv_rI σ 21 f) (pI (pl_L fp sm (pl_N nu) (t - fp))) (pI t) = some (pv_rI σ 21 f') ∧ ∀ d, fp + d < sc → f' (sm (fp + d)) = pI (pl_L fp sm (pl_N nu) d)) ?_ ?_ (i := fp) (by omega) (by omega)
  · obtain ⟨f', g1, g2⟩ := key (σ.1 21) (Nat.le_refl _) (fun d hd => absurd hd (by omega))
    rw [rI0, Nat.sub_self] at g1
    refine ⟨f', ?_, g2, le _ (by omega)⟩
    unfold f_Pg_layLines f_Pg_layLines_0
    rw [x2]
    exact g1
  · intro fu f h1 hf
    have e11 : (pv_rI σ 21 f).1 11 1 = pI sc := x1
    refine ⟨f, ?_, hf⟩
    show f_Pg_layLines_7b _ _ _ _ = _
    unfold f_Pg_layLines_7b
    rw [e11, if_pos ((pI_le (by omega) (by omega)).mpr (by omega))]
  · intro fu t ht ih f h1 hf
    have e11 : (pv_rI σ 21 f).1 11 1 = pI sc := x1
    have e20 : ∀ f, (pv_rI σ 21 f).1 20 t = pI (sm t) := fun _ => x20 t ht
    obtain ⟨q1, q2⟩ := h t h1 ht
    have e15 : ∀ f, (pv_rI σ 21 f).1 15 (4 * sm t + 1) = pI (pl_N nu (sm t)) := fun _ => by
      have := x15 _ q1 q2
      rw [(pl_N1 wf q1 q2).1] at this
      exact this
    show ∃ f', f_Pg_layLines_7b _ _ _ _ = _ ∧ _
    unfold f_Pg_layLines_7b
    have nl : ¬ pI sc ≤ pI t := fun z => by have := (pI_le (by omega) (by omega)).mp z; omega
    rw [e11, if_neg nl, pI_nat (by omega), e20, pI_nat (by omega), rIu, e20, nmul_4, nadd_1, pI_nat (by omega), e15, pI_add, nadd_1, if_pos ((pI_in (by omega)).mpr (by omega)), if_pos ((pI_in (by omega)).mpr (by omega)), if_pos ((pI_in (by omega)).mpr (by omega)), if_pos ((pI_in (by omega)).mpr (by omega))]
    have eL : pl_L fp sm (pl_N nu) (t + 1 - fp) = pl_L fp sm (pl_N nu) (t - fp) + pl_N nu (sm t) := by
      rw [show t + 1 - fp = t - fp + 1 by omega]
      show pl_L fp sm (pl_N nu) (t - fp) + pl_N nu (sm (fp + (t - fp))) = _
      rw [show fp + (t - fp) = t by omega]
    rw [← eL]
    refine ih _ (by omega) (fun d hd => ?_)
    unfold upd
    by_cases e : fp + d = t
    · rw [e, if_pos rfl]
      congr 2
      omega
    · rw [if_neg (fun z => e (inj _ _ (by omega) (by omega) (by omega) (by omega) z))]
      exact hf d (by omega)
