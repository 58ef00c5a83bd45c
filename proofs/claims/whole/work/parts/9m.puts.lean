/-! The puts of a sample, on each side. -/
theorem mod_next {a N : Nat} (h : 1 ≤ N) : (if N ≤ a % N + 1 then 0 else a % N + 1) = (a + 1) % N := by
  have h1 : a % N < N := Nat.mod_lt _ (by omega)
  have e : (a + 1) % N = (a % N + 1) % N := by rw [Nat.add_mod]; simp [Nat.add_mod]
  rw [e]
  by_cases h2 : N ≤ a % N + 1
  · rw [if_pos h2]
    have : a % N + 1 = N := by omega
    rw [this, Nat.mod_self]
  · rw [if_neg h2]
    exact (Nat.mod_eq_of_lt (by omega)).symm
/-- the class's value of an input -/
def CV (d : PD) (v : Nat) (σ : pv_S) (i : Nat) : Int32 := match d_S d i with
  | none => d_A d i
  | some t => σ.1 (28 + 6 * v + 1) t
theorem px_put {d : PD} (W : PW d) {v : Nat} (hv : v < 4) {σ : pv_S} (X : PX d σ) {k a : Nat} (hk : d_fp d + k < d_sc d) (h3 : σ.1 (28 + 6 * v + 3) (d_sm d (d_fp d + k)) = pI (a % pl_N (d_nu d) (d_sm d (d_fp d + k)))) : f_Vc_put v σ (pI (d_sm d (d_fp d + k))) = some (pv_uI (pv_uI σ (28 + 6 * v + 5) (d_L d k + a % pl_N (d_nu d) (d_sm d (d_fp d + k))) (CV d v σ (4 * d_sm d (d_fp d + k)))) (28 + 6 * v + 3) (d_sm d (d_fp d + k)) (pI ((a + 1) % pl_N (d_nu d) (d_sm d (d_fp d + k))))) := by
  obtain ⟨wf, ⟨x, O⟩, b1, so, closed, outK, P, sl24, l128⟩ := id W
  obtain ⟨n1, n2, w1, w2, w3, w4, w5, w6, w7⟩ := id wf
  obtain ⟨⟨⟨x12, x13⟩, x16, x18, x14⟩, x17, x11, x112, x20, x21, x22, x114⟩ := id X
  obtain ⟨p1, p2, p3, p4, p5, p6, p7⟩ := ph_of P
  obtain ⟨l, l1, l2, l3, l4, l5⟩ := p5 (d_fp d + k) (by omega) hk
  have e21 := x21 k hk
  have hL0 : d_L d k + pl_N (d_nu d) (d_sm d (d_fp d + k)) ≤ 128 := by
    have := pl_Lup (fp := d_fp d) (sm := d_sm d) (w := pl_N (d_nu d)) (d := k) (d' := d_sc d - d_fp d) (by omega)
    unfold d_L
    omega
  have hm : d_sm d (d_fp d + k) < d_n d := by rw [l5]; exact O.1 l l1
  have h18 : d_kd d (d_sm d (d_fp d + k)) = 18 := by rw [l5]; exact l3
  generalize d_sm d (d_fp d + k) = m at *
  obtain ⟨N0, N1, N2⟩ := pl_N1 wf hm h18
  have hmod : a % pl_N (d_nu d) m < pl_N (d_nu d) m := Nat.mod_lt _ (by omega)
  have e15 : σ.1 15 (4 * m + 1) = pI (pl_N (d_nu d) m) := by
    rw [(x14 (4 * m + 1) (by omega)).2]
    unfold ps_a
    rw [(w4 m hm h18).1]
    exact N0
  have R := pxv (σ := σ) (v := v) (S := d_S d) (A := d_A d) (show 4 * m < 96 by omega) (x14 (4 * m) (by omega)).1 (x14 (4 * m) (by omega)).2 (fun t h => by
    unfold d_S ps_s at h
    cases e : d_fr d (4 * m) with
    | none => rw [e] at h; cases h
    | some s =>
      rw [e] at h
      have := b1 s t (w2 _ s (by omega) e).1 h
      omega)
  have i24 : pv_in (pI m) 24 = true := (pI_in (by omega)).mpr (by omega)
  have eL : σ.1 21 m = pI (d_L d k) := e21
  unfold f_Vc_put f_Vc_put_0
  rw [nmul_4, R, Option.bind_some]
  simp only [pI_nat (show m < 2147483648 by omega), if_pos i24, eL, h3, pI_add, nadd_1, pI_nat (show d_L d k + a % pl_N (d_nu d) m < 2147483648 by omega), pI_nat (show 4 * m + 1 < 2147483648 by omega)]
  rw [if_pos ((pI_in (by omega)).mpr (by omega)), if_pos ((pI_in (by omega)).mpr (by omega))]
  have r15 : ∀ y, (pv_uI σ (28 + 6 * v + 5) (d_L d k + a % pl_N (d_nu d) m) y).1 15 (4 * m + 1) = pI (pl_N (d_nu d) m) := fun y => by rw [uI1n (by omega)]; exact e15
  have r3 : ∀ y, (pv_uI σ (28 + 6 * v + 5) (d_L d k + a % pl_N (d_nu d) m) y).1 (28 + 6 * v + 3) m = pI (a % pl_N (d_nu d) m) := fun y => by rw [uI1n (by omega)]; exact h3
  rw [r15, r3, nadd_1]
  have mn := mod_next (a := a) N1
  unfold CV
  by_cases h : pl_N (d_nu d) m ≤ a % pl_N (d_nu d) m + 1
  · rw [if_pos ((pI_le (by omega) (by omega)).mpr h)]
    rw [if_pos h] at mn
    rw [← mn]
    rfl
  · rw [if_neg (fun z => h ((pI_le (by omega) (by omega)).mp z))]
    rw [if_neg h] at mn
    rw [← mn]
    rfl
/-- all the puts of the class -/
theorem px_puts {d : PD} (W : PW d) {v : Nat} (hv : v < 4) {σ0 : pv_S} (X : PX d σ0) {a : Nat} (h3 : ∀ k, d_fp d + k < d_sc d → σ0.1 (28 + 6 * v + 3) (d_sm d (d_fp d + k)) = pI (a % pl_N (d_nu d) (d_sm d (d_fp d + k)))) (Q : Option (Int32 × pv_S) → Prop) (fin : ∀ (σ : pv_S) (fu : Nat), (∀ c, c ≠ 28 + 6 * v + 3 → c ≠ 28 + 6 * v + 5 → σ.1 c = σ0.1 c) → σ.2 = σ0.2 → (∀ m, (∀ k, d_fp d + k < d_sc d → d_sm d (d_fp d + k) ≠ m) → σ.1 (28 + 6 * v + 3) m = σ0.1 (28 + 6 * v + 3) m) → (∀ k, d_fp d + k < d_sc d → σ.1 (28 + 6 * v + 3) (d_sm d (d_fp d + k)) = pI ((a + 1) % pl_N (d_nu d) (d_sm d (d_fp d + k))) ∧ ∀ i, i < pl_N (d_nu d) (d_sm d (d_fp d + k)) → σ.1 (28 + 6 * v + 5) (d_L d k + i) = if i = a % pl_N (d_nu d) (d_sm d (d_fp d + k)) then CV d v σ0 (4 * d_sm d (d_fp d + k)) else σ0.1 (28 + 6 * v + 5) (d_L d k + i)) → Q (f_Vc_play_108 v (fu + 1) σ (pI (d_sc d)))) : Q (f_Vc_play_108 v pv_fu σ0 (pI (d_fp d))) := by
  obtain ⟨wf, ⟨x, O⟩, b1, so, closed, outK, P, sl24, l128⟩ := id W
  obtain ⟨n1, n2, _⟩ := id wf
  obtain ⟨p1, p2, p3, p4, p5, p6, p7⟩ := ph_of P
  have x11 := X.2.2.1
  have x20 := X.2.2.2.2.1
  have key : ∀ (c k fu : Nat) (σ : pv_S), d_fp d + k + c = d_sc d → c < fu → (∀ c, c ≠ 28 + 6 * v + 3 → c ≠ 28 + 6 * v + 5 → σ.1 c = σ0.1 c) → σ.2 = σ0.2 → (∀ m, (∀ k, d_fp d + k < d_sc d → d_sm d (d_fp d + k) ≠ m) → σ.1 (28 + 6 * v + 3) m = σ0.1 (28 + 6 * v + 3) m) → (∀ l, d_fp d + l < d_sc d → σ.1 (28 + 6 * v + 3) (d_sm d (d_fp d + l)) = pI ((if l < k then a + 1 else a) % pl_N (d_nu d) (d_sm d (d_fp d + l))) ∧ ∀ i, i < pl_N (d_nu d) (d_sm d (d_fp d + l)) → σ.1 (28 + 6 * v + 5) (d_L d l + i) = if l < k ∧ i = a % pl_N (d_nu d) (d_sm d (d_fp d + l)) then CV d v σ0 (4 * d_sm d (d_fp d + l)) else σ0.1 (28 + 6 * v + 5) (d_L d l + i)) → Q (f_Vc_play_108 v fu σ (pI (d_fp d + k))) := by
    intro c
    induction c with
    | zero =>
      intro k fu σ e hf a1 a2 a3 a4
      obtain ⟨fu, rfl⟩ : ∃ k, fu = k + 1 := ⟨fu - 1, by omega⟩
      have : d_fp d + k = d_sc d := by omega
      rw [this]
      refine fin σ fu a1 a2 a3 (fun l hl => ?_)
      obtain ⟨q1, q2⟩ := a4 l hl
      rw [if_pos (by omega)] at q1
      refine ⟨q1, fun i hi => ?_⟩
      rw [q2 i hi]
      by_cases h : i = a % pl_N (d_nu d) (d_sm d (d_fp d + l))
      · rw [if_pos ⟨by omega, h⟩, if_pos h]
      · rw [if_neg (fun z => h z.2), if_neg h]
    | succ c ih =>
      intro k fu σ e hf a1 a2 a3 a4
      obtain ⟨fu, rfl⟩ : ∃ k, fu = k + 1 := ⟨fu - 1, by omega⟩
      have hk : d_fp d + k < d_sc d := by omega
      have X' : PX d σ := PX_congr (fun c h1 h2 => a1 c (by omega) (by omega)) X
      obtain ⟨q1, _⟩ := a4 k hk
      rw [if_neg (by omega)] at q1
      have hput := px_put W hv X' hk q1
      have eCV : CV d v σ (4 * d_sm d (d_fp d + k)) = CV d v σ0 (4 * d_sm d (d_fp d + k)) := by
        unfold CV
        rw [a1 (28 + 6 * v + 1) (by omega) (by omega)]
      have go : f_Vc_play_108 v (fu + 1) σ (pI (d_fp d + k)) = f_Vc_play_108 v fu (pv_uI (pv_uI σ (28 + 6 * v + 5) (d_L d k + a % pl_N (d_nu d) (d_sm d (d_fp d + k))) (CV d v σ (4 * d_sm d (d_fp d + k)))) (28 + 6 * v + 3) (d_sm d (d_fp d + k)) (pI ((a + 1) % pl_N (d_nu d) (d_sm d (d_fp d + k))))) (pI (d_fp d + (k + 1))) := by
        have nl : ¬ pI (d_sc d) ≤ pI (d_fp d + k) := fun z => by have := (pI_le (by omega) (by omega)).mp z; omega
        show f_Vc_play_108b _ _ _ _ = _
        unfold f_Vc_play_108b
        rw [X'.2.2.1, if_neg nl, pI_nat (by omega), X'.2.2.2.2.1 _ hk, hput, Option.bind_some, if_pos ((pI_in (by omega)).mpr (by omega)), nadd_1]
        rfl
      rw [go]
      have inj : ∀ l, l ≠ k → d_fp d + l < d_sc d → d_sm d (d_fp d + l) ≠ d_sm d (d_fp d + k) := fun l hl h z => hl (by
        have := ph_inj1 P O.2.1 (Or.inr ⟨by omega, by omega, h, hk⟩) z
        omega)
      obtain ⟨y, y1, y2, y3, y4, y5⟩ := p5 (d_fp d + k) (by omega) hk
      have hmn : d_sm d (d_fp d + k) < d_n d := by rw [y5]; exact O.1 y y1
      have N1 := (pl_N1 wf hmn (by rw [y5]; exact y3)).2.1
      have hmod : a % pl_N (d_nu d) (d_sm d (d_fp d + k)) < pl_N (d_nu d) (d_sm d (d_fp d + k)) := Nat.mod_lt _ (by omega)
      refine ih (k + 1) fu _ (by omega) (by omega) (fun c h1 h2 => ?_) a2 (fun m hm => ?_) (fun l hl => ⟨?_, fun i hi => ?_⟩)
      · rw [← a1 c h1 h2]; funext j; rw [uI1n h1, uI1n h2]
      · rw [← a3 m hm, uI1c, if_neg (fun z => hm k hk z.symm), uI1n (by omega)]
      · rw [uI1c]
        by_cases el : l = k
        · subst el
          rw [if_pos rfl, if_pos (by omega)]
        · rw [if_neg (inj l el hl), uI1n (by omega), (a4 l hl).1]
          by_cases h : l < k
          · rw [if_pos h, if_pos (by omega)]
          · rw [if_neg h, if_neg (by omega)]
      · rw [uI1n (by omega), uI1c]
        by_cases el : l = k
        · subst el
          by_cases ei : i = a % pl_N (d_nu d) (d_sm d (d_fp d + l))
          · rw [if_pos (by omega), if_pos ⟨by omega, ei⟩, eCV]
          · rw [if_neg (by omega), if_neg (fun z => ei z.2), (a4 l hl).2 i hi, if_neg (fun z => ei z.2)]
        · have far : d_L d l + i ≠ d_L d k + a % pl_N (d_nu d) (d_sm d (d_fp d + k)) := by
            by_cases h : l < k
            · have := pl_Lup (fp := d_fp d) (sm := d_sm d) (w := pl_N (d_nu d)) (d := l) (d' := k) h
              unfold d_L
              omega
            · have := pl_Lup (fp := d_fp d) (sm := d_sm d) (w := pl_N (d_nu d)) (d := k) (d' := l) (by omega)
              unfold d_L
              omega
          rw [if_neg far, (a4 l hl).2 i hi]
          by_cases h : l < k ∧ i = a % pl_N (d_nu d) (d_sm d (d_fp d + l))
          · rw [if_pos h, if_pos ⟨by omega, h.2⟩]
          · rw [if_neg h, if_neg (fun z => h ⟨by omega, z.2⟩)]
  have := key (d_sc d - d_fp d) 0 pv_fu σ0 (by omega) (by unfold pv_fu; omega) (fun _ _ _ => rfl) rfl (fun _ _ => rfl) (fun l hl => ⟨by rw [if_neg (by omega)]; exact h3 l hl, fun i hi => by rw [if_neg (by omega)]⟩)
  rwa [Nat.add_zero] at this
/-- an input, once all values are there -/
theorem rin_all {d : PD} (W : PW d) {v : Nat} {σm : pv_S} (val : ∀ k', k' < d_n d → (∀ t, d_sd d (d_od d k') = some t → σm.1 33 (24 * v + d_od d k') = σm.1 33 (24 * v + t)) ∧ (d_sd d (d_od d k') = none → σm.1 33 (24 * v + d_od d k') = d_sn d (d_od d k'))) {i : Nat} (hi : i < 4 * d_n d) : pm_rin σm v (d_fr d) (d_nu d) i = IV d v σm i := by
  obtain ⟨wf, ⟨x, O⟩, b1, so, _⟩ := id W
  unfold pm_rin IV d_S d_A ps_s ps_a
  cases e : d_fr d i with
  | none => rfl
  | some s =>
    obtain ⟨k', hk', rfl⟩ := po_all wf.2.1 O (wf.2.2.2.1 i s hi e).1
    obtain ⟨v1, v2⟩ := val k' hk'
    simp only []
    cases e2 : d_sd d (d_od d k') with
    | none => exact v2 e2
    | some t => exact v1 t e2
/-- all the puts of the reference -/
theorem pm_puts {d : PD} (W : PW d) {v : Nat} (hv : v < 4) {σ0 : pv_S} (M : PM d σ0) {a : Nat} (ha : a < 2147483648) (h30 : σ0.1 30 v = pI a) (val : ∀ k', k' < d_n d → (∀ t, d_sd d (d_od d k') = some t → σ0.1 33 (24 * v + d_od d k') = σ0.1 33 (24 * v + t)) ∧ (d_sd d (d_od d k') = none → σ0.1 33 (24 * v + d_od d k') = d_sn d (d_od d k'))) (Q : Option (Int32 × pv_S) → Prop) (fin : ∀ (σ : pv_S) (fu : Nat), (∀ c, c ≠ 34 → σ.1 c = σ0.1 c) → σ.2 = σ0.2 → (∀ j, ¬ (128 * v ≤ j ∧ j < 128 * v + 128) → σ.1 34 j = σ0.1 34 j) → (∀ m, m < d_n d → d_kd d m = 18 → ∀ i, i < pl_N (d_nu d) m → σ.1 34 (128 * v + d_of d m + i) = if i = a % pl_N (d_nu d) m then IV d v σ0 (4 * m) else σ0.1 34 (128 * v + d_of d m + i)) → Q (f_Md_sample_42 (fu + 1) σ (pI v) (pI (d_n d)))) : Q (f_Md_sample_42 pv_fu σ0 (pI v) 0) := by
  obtain ⟨wf, ⟨x, O⟩, b1, so, closed, outK, P, sl24, l128⟩ := id W
  obtain ⟨n1, n2, w1, w2, w3, w4, w5, w6, w7⟩ := id wf
  obtain ⟨⟨⟨m18, m9, m11⟩, m13, m15⟩, m17, m14, m28, m1819, m20, m20'⟩ := id M
  have ofN : ∀ m, m < d_n d → d_kd d m = 18 → ∀ m2, m < m2 → m2 ≤ d_n d → d_of d m + pl_N (d_nu d) m ≤ d_of d m2 := by
    intro m hm h18 m2 h1 h2
    have h := psum_up (p := fun m => decide (d_kd d m = 18)) (w := pl_N (d_nu d)) (show m + 1 ≤ m2 by omega)
    have h3 : psum (fun m => decide (d_kd d m = 18)) (pl_N (d_nu d)) (m + 1) = psum (fun m => decide (d_kd d m = 18)) (pl_N (d_nu d)) m + (if decide (d_kd d m = 18) = true then pl_N (d_nu d) m else 0) := rfl
    rw [decide_eq_true h18, if_pos rfl] at h3
    unfold d_of
    omega
  have tot : d_of d (d_n d) ≤ 128 := pl_128 wf
  have key := up_ind (N := d_n d) (P := fun fu m' => ∀ σ : pv_S, (∀ c, c ≠ 34 → σ.1 c = σ0.1 c) → σ.2 = σ0.2 → (∀ j, ¬ (128 * v ≤ j ∧ j < 128 * v + 128) → σ.1 34 j = σ0.1 34 j) → (∀ m, m < d_n d → d_kd d m = 18 → ∀ i, i < pl_N (d_nu d) m → σ.1 34 (128 * v + d_of d m + i) = if m < m' ∧ i = a % pl_N (d_nu d) m then IV d v σ0 (4 * m) else σ0.1 34 (128 * v + d_of d m + i)) → Q (f_Md_sample_42 fu σ (pI v) (pI m'))) ?_ ?_ (d_n d) 0 pv_fu (by omega) (by unfold pv_fu; omega)
  · exact key σ0 (fun _ _ => rfl) rfl (fun _ _ => rfl) (fun m hm h i hi => by rw [if_neg (by omega)])
  · intro fu σ a1 a2 a3 a4
    refine fin σ fu a1 a2 a3 (fun m hm h i hi => ?_)
    rw [a4 m hm h i hi]
    by_cases e : i = a % pl_N (d_nu d) m
    · rw [if_pos ⟨hm, e⟩, if_pos e]
    · rw [if_neg (fun z => e z.2), if_neg e]
  · intro fu m hm ih σ a1 a2 a3 a4
    have c18 : σ.1 0 18 = pI (d_n d) := by rw [a1 0 (by decide)]; exact m18
    have c9 : σ.1 9 m = pI (d_kd d m) := by rw [a1 9 (by decide)]; exact (m9 m hm).1
    have nl : ¬ pI (d_n d) ≤ pI m := fun z => by have := (pI_le (by omega) (by omega)).mp z; omega
    have k20 := (w1 m hm).1
    by_cases h18 : d_kd d m = 18
    · obtain ⟨N0, N1, N2⟩ := pl_N1 wf hm h18
      have hmod : a % pl_N (d_nu d) m < pl_N (d_nu d) m := Nat.mod_lt _ (by omega)
      have c12 : σ.1 12 (4 * m + 1) = pI (pl_N (d_nu d) m) := by rw [a1 12 (by decide), (m11 _ (by omega)).2]; exact N0
      have c14 : σ.1 14 m = pI (d_of d m) := by rw [a1 14 (by decide), m14 m hm]; exact (pl_dl wf (by omega)).1
      have c30 : σ.1 30 v = pI a := by rw [a1 30 (by decide)]; exact h30
      have hoN := ofN m hm h18 (d_n d) (by omega) (Nat.le_refl _)
      have R := pm_in (σ := σ) (fr := d_fr d) (nu := d_nu d) hv (show 4 * m < 96 by omega) (by rw [a1 11 (by decide)]; exact (m11 _ (by omega)).1) (by rw [a1 12 (by decide)]; exact (m11 _ (by omega)).2) (fun s h => by have := (w2 _ s (by omega) h).1; omega)
      have eR : pm_rin σ v (d_fr d) (d_nu d) (4 * m) = IV d v σ0 (4 * m) := by
        rw [← rin_all W val (show 4 * m < 4 * d_n d by omega)]
        unfold pm_rin
        rw [a1 33 (by decide)]
      rw [eR] at R
      have e : pI a - pI a / pI (pl_N (d_nu d) m) * pI (pl_N (d_nu d) m) = pI (a % pl_N (d_nu d) m) := pI_mod' a _ ha N1 (by omega)
      have go : f_Md_sample_42 (fu + 1) σ (pI v) (pI m) = f_Md_sample_42 fu (pv_uI σ 34 (128 * v + d_of d m + a % pl_N (d_nu d) m) (IV d v σ0 (4 * m))) (pI v) (pI (m + 1)) := by
        show f_Md_sample_42b _ _ _ _ = _
        unfold f_Md_sample_42b f_Md_sample_104
        rw [c18, if_neg nl]
        simp only [pI_nat (show m < 2147483648 by omega), pI_nat (show v < 2147483648 by omega), nmul_4, nadd_1, pI_nat (show 4 * m + 1 < 2147483648 by omega), c9, c12, c14, c30, e, nmul_128, pI_add, R, Option.bind_some, h18]
        rw [if_pos ((pI_in (by omega)).mpr (by omega)), if_pos (show pI 18 = 18 from rfl), if_pos ((pI_in (by omega)).mpr (by omega)), if_pos ((pI_in (by omega)).mpr hv), if_pos ((pI_in (by omega)).mpr (by omega)), if_pos (show ¬ pI (pl_N (d_nu d) m) = 0 from fun z => by have := (neq_0 (by omega)).mp z; omega), if_pos ((pI_in (by omega)).mpr (by omega)), pI_nat (by omega)]
      rw [go]
      refine ih _ (fun c hc => ?_) a2 (fun j hj => ?_) (fun m2 hm2 h2 i hi => ?_)
      · rw [← a1 c hc]; funext j; rw [uI1n hc]
      · rw [← a3 j hj, uI1c, if_neg (by omega)]
      · rw [uI1c]
        by_cases em : m2 = m
        · subst em
          by_cases ei : i = a % pl_N (d_nu d) m2
          · rw [if_pos (by omega), if_pos ⟨by omega, ei⟩]
          · rw [if_neg (by omega), if_neg (fun z => ei z.2), a4 m2 hm2 h2 i hi, if_neg (fun z => ei z.2)]
        · have far : 128 * v + d_of d m2 + i ≠ 128 * v + d_of d m + a % pl_N (d_nu d) m := by
            by_cases h : m2 < m
            · have := ofN m2 hm2 h2 m h (by omega)
              omega
            · have := ofN m hm h18 m2 (by omega) (by omega)
              omega
          rw [if_neg far, a4 m2 hm2 h2 i hi]
          by_cases h : m2 < m ∧ i = a % pl_N (d_nu d) m2
          · rw [if_pos h, if_pos ⟨by omega, h.2⟩]
          · rw [if_neg h, if_neg (fun z => h ⟨by omega, z.2⟩)]
    · have go : f_Md_sample_42 (fu + 1) σ (pI v) (pI m) = f_Md_sample_42 fu σ (pI v) (pI (m + 1)) := by
        show f_Md_sample_42b _ _ _ _ = _
        unfold f_Md_sample_42b f_Md_sample_104
        rw [c18, if_neg nl, pI_nat (by omega), c9, if_pos ((pI_in (by omega)).mpr (by omega)), if_neg (show ¬ pI (d_kd d m) = 18 from fun z => h18 ((neq_18 (by omega)).mp z)), nadd_1]
      rw [go]
      refine ih σ a1 a2 a3 (fun m2 hm2 h2 i hi => ?_)
      have : m2 ≠ m := fun z => h18 (by rw [← z]; exact h2)
      rw [a4 m2 hm2 h2 i hi]
      by_cases h : m2 < m ∧ i = a % pl_N (d_nu d) m2
      · rw [if_pos h, if_pos ⟨by omega, h.2⟩]
      · rw [if_neg h, if_neg (fun z => h ⟨by omega, z.2⟩)]
