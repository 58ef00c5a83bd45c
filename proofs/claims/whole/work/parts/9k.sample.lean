/-! One sample of one voice: the modules, both sides in step. -/
theorem pxv {σ : pv_S} {v i : Nat} {S : Nat → Option Nat} {A : Nat → Int32} (hi : i < 96) (h14 : σ.1 14 i = oI (S i)) (h15 : σ.1 15 i = A i) (hl : ∀ t, S i = some t → t < 24) : f_Vc_valueRead v σ (pI i) = some (match S i with | none => A i | some t => σ.1 (28 + 6 * v + 1) t, σ) := by
  unfold f_Vc_valueRead f_Vc_valueRead_0
  rw [pI_nat (by omega), h14, h15, if_pos ((pI_in (by omega)).mpr (by omega)), if_pos ((pI_in (by omega)).mpr (by omega)), if_pos ((pI_in (by omega)).mpr (by omega))]
  cases e : S i with
  | none => rw [if_pos (show oI none = -1 from rfl)]
  | some t =>
    have := hl t e
    rw [if_neg (show ¬ oI (some t) = -1 from fun z => (pI_neg (by omega)).mp z), show oI (some t) = pI t from rfl, if_pos ((pI_in (by omega)).mpr (by omega)), pI_nat (by omega)]
theorem pxr {σ : pv_S} {v m : Nat} {S : Nat → Option Nat} {A : Nat → Int32} (hv : v < 4) (hm : m < 24) (h14 : ∀ j, j < 4 → σ.1 14 (4 * m + j) = oI (S (4 * m + j)) ∧ σ.1 15 (4 * m + j) = A (4 * m + j)) (hl : ∀ j t, j < 4 → S (4 * m + j) = some t → t < 24) : ∃ h, f_Vc_readInputs v σ (pI m) = some (pv_rI σ (28 + 6 * v + 2) h) ∧ ∀ j, j < 4 → h j = match S (4 * m + j) with | none => A (4 * m + j) | some t => σ.1 (28 + 6 * v + 1) t := by
  have key := up_0 (N := 4) (P := fun fu j => ∀ h : Nat → Int32, (∀ j', j' < j → h j' = match S (4 * m + j') with | none => A (4 * m + j') | some t => σ.1 (28 + 6 * v + 1) t) → ∃ h', f_Vc_readInputs_2 v fu (pv_rI σ (28 + 6 * v + 2) h) (pI m) (pI j) = some (pv_rI σ (28 + 6 * v + 2) h') ∧ ∀ j, j < 4 → h' j = match S (4 * m + j) with | none => A (4 * m + j) | some t => σ.1 (28 + 6 * v + 1) t) ?_ ?_ (i := 0) (by omega) (by omega)
  · have := key (σ.1 (28 + 6 * v + 2)) (fun j hj => absurd hj (by omega))
    rw [rI0] at this
    exact this
  · intro fu h hh
    refine ⟨h, ?_, hh⟩
    show f_Vc_readInputs_2b _ _ _ _ _ = _
    unfold f_Vc_readInputs_2b
    rw [if_pos (show (4 : Int32) ≤ pI 4 by decide)]
  · intro fu j hj ih h hh
    have r1 : (pv_rI σ (28 + 6 * v + 2) h).1 14 (4 * m + j) = oI (S (4 * m + j)) := by rw [rI1, if_neg (by omega)]; exact (h14 j hj).1
    have r2 : (pv_rI σ (28 + 6 * v + 2) h).1 15 (4 * m + j) = A (4 * m + j) := by rw [rI1, if_neg (by omega)]; exact (h14 j hj).2
    have R := pxv (σ := pv_rI σ (28 + 6 * v + 2) h) (v := v) (show 4 * m + j < 96 by omega) r1 r2 (fun t ht => hl j t hj ht)
    show ∃ h', f_Vc_readInputs_2b _ _ _ _ _ = _ ∧ _
    unfold f_Vc_readInputs_2b
    rw [if_neg (fun z => by rw [nle_4 (by omega)] at z; omega), nmul_4, pI_add, R, Option.bind_some, if_pos ((pI_in (by omega)).mpr (by omega)), pI_nat (by omega), nadd_1]
    simp only []
    rw [rIu]
    refine ih _ (fun j' hj' => ?_)
    unfold upd
    by_cases e : j' = j
    · rw [if_pos e, e]
      cases S (4 * m + j) with
      | none => rfl
      | some t =>
        show (pv_rI σ (28 + 6 * v + 2) h).1 (28 + 6 * v + 1) t = _
        rw [rI1, if_neg (by omega)]
    · rw [if_neg e]; exact hh j' (by omega)
/-- where a del's samples lie in the reference -/
def d_of (d : PD) (m : Nat) : Nat := psum (fun m => decide (d_kd d m = 18)) (pl_N (d_nu d)) m
def d_L (d : PD) (k : Nat) : Nat := pl_L (d_fp d) (d_sm d) (pl_N (d_nu d)) k
/-- memories of a voice: alike where modules are kept -/
def VM (d : PD) (v a : Nat) (σx σm : pv_S) : Prop := (∀ m, m < d_n d → d_K d m = true → d_kd d m ≠ 18 → σx.1 (28 + 6 * v + 3) m = σm.1 31 (24 * v + m) ∧ σx.1 (28 + 6 * v + 4) m = σm.1 32 (24 * v + m)) ∧ ∀ k, d_fp d + k < d_sc d → σx.1 (28 + 6 * v + 3) (d_sm d (d_fp d + k)) = pI (a % pl_N (d_nu d) (d_sm d (d_fp d + k))) ∧ ∀ i, i < pl_N (d_nu d) (d_sm d (d_fp d + k)) → σx.1 (28 + 6 * v + 5) (d_L d k + i) = σm.1 34 (128 * v + d_of d (d_sm d (d_fp d + k)) + i)
/-- the value of an input in the sample -/
def IV (d : PD) (v : Nat) (σm : pv_S) (i : Nat) : Int32 := match d_S d i with
  | none => d_A d i
  | some t => σm.1 33 (24 * v + t)
def SI (d : PD) (v a : Nat) (sx sm : pv_S) (k : Nat) (σx σm : pv_S) : Prop :=
  (∀ c, c ≠ 28 + 6 * v + 1 → c ≠ 28 + 6 * v + 2 → c ≠ 28 + 6 * v + 3 → c ≠ 28 + 6 * v + 4 → σx.1 c = sx.1 c) ∧ σx.2 = sx.2 ∧ (∀ c, c ≠ 31 → c ≠ 32 → c ≠ 33 → σm.1 c = sm.1 c) ∧ (∀ c j, ¬ (24 * v ≤ j ∧ j < 24 * v + 24) → σm.1 c j = sm.1 c j) ∧ σm.2 = sm.2 ∧ VM d v a σx σm ∧
  (∀ k', k' < k → (∀ t, d_sd d (d_od d k') = some t → σm.1 33 (24 * v + d_od d k') = σm.1 33 (24 * v + t)) ∧ (d_sd d (d_od d k') = none → σm.1 33 (24 * v + d_od d k') = d_sn d (d_od d k'))) ∧
  (∀ k', k' < k → d_kd d (d_od d k') < 11 → σm.1 33 (24 * v + d_od d k') = (pE (d_kd d (d_od d k')) (IV d v σm (4 * d_od d k')) (IV d v σm (4 * d_od d k' + 1)) (IV d v σm (4 * d_od d k' + 2)) 0 0 0 (sm.1 23 v) (sm.1 25 v) (sm.1 24 v) (sm.1 21)).1) ∧
  ∀ k', k' < k → d_K d (d_od d k') = true → σx.1 (28 + 6 * v + 1) (d_od d k') = σm.1 33 (24 * v + d_od d k')
theorem pE_11 {k : Nat} (h : k < 11) (a b c d μ ν p g s : Int32) (kn : Nat → Int32) : (pE k a b c d μ ν p g s kn).1 = (pE k a b c 0 0 0 p g s kn).1 ∧ (pE k a b c d μ ν p g s kn).2 = (μ, ν) := by
  unfold pE
  by_cases k7 : k = 7
  · simp only [if_pos k7]; exact ⟨trivial, trivial⟩
  simp only [if_neg k7]
  by_cases k8 : k = 8
  · simp only [if_pos k8]; exact ⟨trivial, trivial⟩
  simp only [if_neg k8]
  by_cases k9 : k = 9
  · simp only [if_pos k9]; exact ⟨trivial, trivial⟩
  simp only [if_neg k9]
  by_cases k10 : k = 10
  · simp only [if_pos k10]; exact ⟨trivial, trivial⟩
  simp only [if_neg k10, if_neg (show ¬ (k = 11 ∨ k = 12 ∨ k = 13 ∨ k = 14) by omega), if_neg (show ¬ k = 15 by omega), if_neg (show ¬ k = 16 by omega), if_neg (show ¬ k = 17 by omega), if_neg (show ¬ k = 19 by omega)]
  exact ⟨trivial, trivial⟩
theorem pE_kn {k : Nat} {a b c d μ ν p g s : Int32} {kn kn' : Nat → Int32} (h : k = 7 → kn a.toNatClampNeg = kn' a.toNatClampNeg) : pE k a b c d μ ν p g s kn = pE k a b c d μ ν p g s kn' := by
  unfold pE
  by_cases k7 : k = 7
  · simp only [if_pos k7, h k7]
  · simp only [if_neg k7]
theorem pE_pl {k : Nat} (h : k < 7) (a b c d μ ν p g s : Int32) (kn : Nat → Int32) : (pE k a b c d μ ν p g s kn).1 = pn_v (pI k) a b c := by
  unfold pE
  simp only [if_neg (show ¬ k = 7 by omega), if_neg (show ¬ k = 8 by omega), if_neg (show ¬ k = 9 by omega), if_neg (show ¬ k = 10 by omega), if_neg (show ¬ (k = 11 ∨ k = 12 ∨ k = 13 ∨ k = 14) by omega), if_neg (show ¬ k = 15 by omega), if_neg (show ¬ k = 16 by omega), if_neg (show ¬ k = 17 by omega), if_neg (show ¬ k = 19 by omega)]
theorem pn_swap {k : Nat} (h : k = 0 ∨ k = 2) (x y z w : Int32) : pn_v (pI k) x y z = pn_v (pI k) y x w := by
  rcases h with rfl | rfl
  · show pn_st (x.toInt64 + y.toInt64) = pn_st (y.toInt64 + x.toInt64)
    rw [Int64.add_comm]
  · show pn_st ((x.toInt64 * y.toInt64) >>> _) = pn_st ((y.toInt64 * x.toInt64) >>> _)
    rw [Int64.mul_comm]
/-- what stands for a module of the order is one of the order, no later -/
theorem SO_le {d : PD} (W : PW d) {k t : Nat} (hk : k < d_n d) (h : d_sd d (d_od d k) = some t) : ∃ k', k' ≤ k ∧ d_od d k' = t := by
  obtain ⟨wf, ⟨x, O⟩, b1, so, _⟩ := W
  rcases so k hk with e | ⟨e, _⟩ | ⟨k', hk', e, _⟩
  · rw [h] at e; cases e; exact ⟨k, Nat.le_refl _, rfl⟩
  · rw [h] at e; cases e
  · rw [h] at e; cases e; exact ⟨k', by omega, rfl⟩
/-- where the inputs of a module of the order come from -/
theorem S_lt {d : PD} (W : PW d) {k j t : Nat} (hk : k < d_n d) (hj : j < 4) (h18 : d_kd d (d_od d k) ≠ 18) (h : d_S d (4 * d_od d k + j) = some t) : ∃ k', k' < k ∧ d_od d k' = t := by
  obtain ⟨wf, ⟨x, O⟩, b1, so, _⟩ := id W
  have hok := O.1 k hk
  unfold d_S ps_s at h
  cases e : d_fr d (4 * d_od d k + j) with
  | none => rw [e] at h; cases h
  | some s =>
    rw [e] at h
    by_cases hc : j < d_cn d (d_od d k)
    · obtain ⟨k', hk', e'⟩ := O.2.2.2.1 k hk h18 j s hc e
      subst e'
      obtain ⟨k'', h1, h2⟩ := SO_le W (show k' < d_n d by omega) h
      exact ⟨k'', by omega, h2⟩
    · rw [(wf.2.2.2.2.1 _ j hok (by omega) hj).1] at e
      cases e
/-- an input is read alike -/
theorem rin_IV {d : PD} (W : PW d) {v k : Nat} (hk : k < d_n d) {σm : pv_S} (val : ∀ k', k' < k → (∀ t, d_sd d (d_od d k') = some t → σm.1 33 (24 * v + d_od d k') = σm.1 33 (24 * v + t)) ∧ (d_sd d (d_od d k') = none → σm.1 33 (24 * v + d_od d k') = d_sn d (d_od d k'))) (h18 : d_kd d (d_od d k) ≠ 18) {j : Nat} (hj : j < 4) : pm_rin σm v (d_fr d) (d_nu d) (4 * d_od d k + j) = IV d v σm (4 * d_od d k + j) := by
  obtain ⟨wf, ⟨x, O⟩, b1, so, _⟩ := id W
  have hok := O.1 k hk
  unfold pm_rin IV d_S d_A ps_s ps_a
  cases e : d_fr d (4 * d_od d k + j) with
  | none => rfl
  | some s =>
    have hc : j < d_cn d (d_od d k) := by
      refine Classical.byContradiction fun z => ?_
      rw [(wf.2.2.2.2.1 _ j hok (by omega) hj).1] at e
      cases e
    obtain ⟨k', hk', rfl⟩ := O.2.2.2.1 k hk h18 j s hc e
    obtain ⟨v1, v2⟩ := val k' hk'
    simp only []
    cases e2 : d_sd d (d_od d k') with
    | none => exact v2 e2
    | some t => exact v1 t e2
/-- values stay as long as the modules that they come from are not written -/
theorem IV_far {d : PD} {v i m : Nat} {σm τ : pv_S} (h33 : ∀ t, t ≠ m → τ.1 33 (24 * v + t) = σm.1 33 (24 * v + t)) (h : d_S d i ≠ some m) : IV d v τ i = IV d v σm i := by
  unfold IV
  cases e : d_S d i with
  | none => rfl
  | some t => exact h33 t (fun z => h (by rw [e, z]))
