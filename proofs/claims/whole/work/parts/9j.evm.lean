/-! What a module makes, in the reference. -/
theorem pI_div (a n : Nat) (ha : a < 2147483648) (h1 : 1 ≤ n) (hn : n < 2147483648) : pI a / pI n = pI (a / n) := by
  have hd : a / n ≤ a := Nat.div_le_self a n
  rw [← Int32.toInt_inj, Int32.toInt_div, pI_toInt ha, pI_toInt hn, pI_toInt (by omega)]
  have e : (a : Int).tdiv (n : Int) = ((a / n : Nat) : Int) := by
    rw [Int.tdiv_eq_ediv_of_nonneg (by omega)]
    rfl
  rw [e]
  generalize a / n = q at hd ⊢
  exact Int.bmod_eq_of_le (by omega) (by omega)
theorem pI_mod' (a n : Nat) (ha : a < 2147483648) (h1 : 1 ≤ n) (hn : n < 2147483648) : pI a - pI a / pI n * pI n = pI (a % n) := by
  rw [pI_div a n ha h1 hn, pI_mul, pI_sub (Nat.div_mul_le_self a n)]
  congr 1
  have := Nat.div_add_mod a n
  rw [Nat.mul_comm] at this
  omega
/-- an input, as the reference reads it -/
def pm_rin (σ : pv_S) (v : Nat) (fr : Nat → Option Nat) (nu : Nat → Int32) (i : Nat) : Int32 := match fr i with
  | none => nu i
  | some s => σ.1 33 (24 * v + s)
theorem pm_in {σ : pv_S} {v i : Nat} {fr : Nat → Option Nat} {nu : Nat → Int32} (hv : v < 4) (hi : i < 96) (h11 : σ.1 11 i = oI (fr i)) (h12 : σ.1 12 i = nu i) (hl : ∀ s, fr i = some s → s < 24) : f_Md_inputOf σ (pI v) (pI i) = some (pm_rin σ v fr nu i, σ) := by
  unfold f_Md_inputOf f_Md_inputOf_0 pm_rin
  rw [pI_nat (by omega), h11, h12, if_pos ((pI_in (by omega)).mpr (by omega)), if_pos ((pI_in (by omega)).mpr (by omega)), if_pos ((pI_in (by omega)).mpr (by omega))]
  cases e : fr i with
  | none => rw [if_neg (by decide)]
  | some s =>
    have := hl s e
    rw [show oI (some s) = pI s from rfl, if_pos (show (0 : Int32) ≤ pI s from (nle_0 (by omega)).mpr (by omega)), nmul_24, pI_add, if_pos ((pI_in (by omega)).mpr (by omega)), pI_nat (by omega)]
theorem pE_mp (b : Int32) : (if 0 ≤ b then b else 0).toInt64 = pE_m b := by
  unfold pE_m
  by_cases h : 0 < b
  · rw [if_pos h, if_pos (Int32.le_of_lt h)]
  · rw [if_neg h]
    by_cases h0 : 0 ≤ b
    · have : b = 0 := Int32.le_antisymm (Int32.not_lt.mp h) h0
      rw [if_pos h0, this]
    · rw [if_neg h0]
theorem pm_env {σ : pv_S} {t : Nat} (ht : t < 96) {a b c d μ ν : Int32} (hμ : σ.1 31 t = μ) (hν : σ.1 32 t = ν) : f_Md_envelope σ (pI t) a b c d = some ((pE_l (pE_s a ν) b c d μ).1, pv_uI (pv_uI σ 31 t (pE_l (pE_s a ν) b c d μ).1) 32 t (pE_l (pE_s a ν) b c d μ).2) := by
  have i96 : pv_in (pI t) 96 = true := (pI_in (by omega)).mpr ht
  have e231 : ∀ s x, f_Md_envelope_231 σ (pI t) s x = some (x.toInt32, pv_uI (pv_uI σ 31 t x.toInt32) 32 t s) := by
    intro s x
    unfold f_Md_envelope_231
    simp only [pI_nat (show t < 2147483648 by omega), if_pos i96]
    rw [uI1n (by decide), uI1c, if_pos rfl]
  have e48 : ∀ s, f_Md_envelope_48 σ (pI t) b c d s = some ((pE_l s b c d μ).1, pv_uI (pv_uI σ 31 t (pE_l s b c d μ).1) 32 t (pE_l s b c d μ).2) := by
    intro s
    have c76 : ∀ x : Int32, f_Md_envelope_76 σ (pI t) x μ.toInt64 = if μ.toInt64 + x.toInt64 < 65536 then some ((μ.toInt64 + x.toInt64).toInt32, pv_uI (pv_uI σ 31 t (μ.toInt64 + x.toInt64).toInt32) 32 t 1) else some (65536, pv_uI (pv_uI σ 31 t 65536) 32 t 2) := by
      intro x
      unfold f_Md_envelope_76 f_Md_envelope_94 f_Md_envelope_113
      simp only [lg_lt0, e231]
      by_cases h : μ.toInt64 + x.toInt64 < 65536
      · simp only [if_pos h]
      · simp only [if_neg h]
        rfl
    have c137 : ∀ x : Int32, f_Md_envelope_137 σ (pI t) x μ.toInt64 = if 32768 < μ.toInt64 - x.toInt64 then some ((μ.toInt64 - x.toInt64).toInt32, pv_uI (pv_uI σ 31 t (μ.toInt64 - x.toInt64).toInt32) 32 t 2) else some (32768, pv_uI (pv_uI σ 31 t 32768) 32 t 3) := by
      intro x
      unfold f_Md_envelope_137 f_Md_envelope_155 f_Md_envelope_174
      simp only [lg_gt0, e231]
      by_cases h : 32768 < μ.toInt64 - x.toInt64
      · simp only [if_pos h]
      · simp only [if_neg h]
        rfl
    have c198 : ∀ x : Int32, f_Md_envelope_198 σ (pI t) x μ.toInt64 = if 0 < μ.toInt64 - x.toInt64 then some ((μ.toInt64 - x.toInt64).toInt32, pv_uI (pv_uI σ 31 t (μ.toInt64 - x.toInt64).toInt32) 32 t 4) else some (0, pv_uI (pv_uI σ 31 t 0) 32 t 0) := by
      intro x
      unfold f_Md_envelope_198 f_Md_envelope_214 f_Md_envelope_229
      simp only [lg_gt0, e231]
      by_cases h : 0 < μ.toInt64 - x.toInt64
      · simp only [if_pos h]
      · simp only [if_neg h]
        rfl
    have pm : ∀ (x : Int32) (F : Int32 → Option (Int32 × pv_S)), (if 0 ≤ x then F x else F 0) = F (if 0 ≤ x then x else 0) := by
      intro x F
      by_cases h : 0 ≤ x
      · rw [if_pos h, if_pos h]
      · rw [if_neg h, if_neg h]
    unfold f_Md_envelope_48 pE_l
    rw [pI_nat (by omega), if_pos i96, hμ, pm b (fun x => f_Md_envelope_76 σ (pI t) x μ.toInt64), pm c (fun x => f_Md_envelope_137 σ (pI t) x μ.toInt64), pm d (fun x => f_Md_envelope_198 σ (pI t) x μ.toInt64)]
    by_cases s1 : s = 1
    · simp only [if_pos s1]
      rw [c76, pE_mp]
      by_cases h : μ.toInt64 + pE_m b < 65536
      · simp only [if_pos h]
      · simp only [if_neg h]
    · simp only [if_neg s1]
      by_cases s2 : s = 2
      · simp only [if_pos s2]
        rw [c137, pE_mp]
        by_cases h : 32768 < μ.toInt64 - pE_m c
        · simp only [if_pos h]
        · simp only [if_neg h]
      · simp only [if_neg s2]
        by_cases s4 : s = 4
        · simp only [if_pos s4]
          rw [c198, pE_mp]
          by_cases h : 0 < μ.toInt64 - pE_m d
          · simp only [if_pos h]
          · simp only [if_neg h]
        · simp only [if_neg s4]
          rw [e231]
          have : μ.toInt64.toInt32 = μ := by
            rw [← Int32.toInt_inj, to32 (by rw [t64]; exact (t64b μ).1) (by rw [t64]; exact (t64b μ).2), t64]
          rw [this]
  unfold f_Md_envelope f_Md_envelope_0 f_Md_envelope_27 f_Md_envelope_23 f_Md_envelope_46
  rw [pI_nat (by omega), if_pos i96, hν]
  simp only [e48]
  unfold pE_s
  by_cases ha : a ≤ 0
  · have na : ¬ 0 < a := Int32.not_lt.mpr ha
    simp only [if_pos ha, if_neg na]
    have c1 : ν ≤ 0 ↔ ν < 1 := by
      rw [Int32.le_iff_toInt_le, Int32.lt_iff_toInt_lt]
      have e0 : (0 : Int32).toInt = 0 := rfl
      have e1 : (1 : Int32).toInt = 1 := rfl
      omega
    have c4 : 4 ≤ ν ↔ 3 < ν := by
      rw [Int32.le_iff_toInt_le, Int32.lt_iff_toInt_lt]
      have e0 : (4 : Int32).toInt = 4 := rfl
      have e1 : (3 : Int32).toInt = 3 := rfl
      omega
    by_cases h1 : ν < 1
    · simp only [if_pos h1, if_pos (c1.mpr h1)]
    · simp only [if_neg h1, if_neg (fun z => h1 (c1.mp z))]
      by_cases h3 : 3 < ν
      · simp only [if_pos h3, if_pos (c4.mpr h3)]
      · simp only [if_neg h3, if_neg (fun z => h3 (c4.mp z))]
  · have na : 0 < a := Int32.not_le.mp ha
    simp only [if_neg ha, if_pos na]
    by_cases h0 : ν = 0
    · simp only [if_pos h0]
    · simp only [if_neg h0]
      by_cases h4 : ν = 4
      · simp only [if_pos h4]
      · simp only [if_neg h4]
theorem pm_noise {σ : pv_S} {t : Nat} (ht : t < 96) {μ ν : Int32} (hμ : σ.1 31 t = μ) (hν : σ.1 32 t = ν) : f_Md_noise σ (pI t) = some (pE_z μ >>> ((16 : Int32) &&& 31), pv_uI (pv_uI σ 31 t (pE_z μ)) 32 t ν) := by
  have i96 : pv_in (pI t) 96 = true := (pI_in (by omega)).mpr ht
  have e : ∀ x, pv_uI (pv_uI σ 31 t x) 32 t ν = pv_uI σ 31 t x := fun x => uIself _ _ _ (by rw [uI1n (by decide)]; exact hν)
  unfold f_Md_noise f_Md_noise_0 f_Md_noise_32 pE_z
  simp only [pI_nat (show t < 2147483648 by omega), if_pos i96, hμ, e, uI1c, if_true]
  rcases and1 μ with h | h
  · simp only [h, if_neg (show ¬ (0 : Int32) = 1 by decide), if_true]
  · simp only [h, if_true, if_neg (show ¬ (1 : Int32) = 0 by decide)]
theorem pm_filter {σ : pv_S} {t : Nat} (ht : t < 96) {a b c μ ν : Int32} (hμ : σ.1 31 t = μ) (hν : σ.1 32 t = ν) : f_Md_filter σ (pI t) a b c = some (pE_c a b c μ ν, pv_uI (pv_uI σ 31 t (pE_c a b c μ ν)) 32 t (pE_b a b c μ ν)) := by
  have i96 : pv_in (pI t) 96 = true := (pI_in (by omega)).mpr ht
  have r1 : ∀ x, (pv_uI σ 32 t x).1 31 t = μ := fun x => by rw [uI1n (by decide)]; exact hμ
  have r2 : ∀ x, (pv_uI σ 32 t x).1 32 t = x := fun x => by rw [uI1c, if_pos rfl]
  unfold f_Md_filter f_Md_filter_0
  simp only [pI_nat (show t < 2147483648 by omega), if_pos i96, hμ, hν, pn_stM, Option.bind_some, r1, r2, uI1c, if_true]
  rw [uI_comm (c := 31) (c' := 32) (by decide)]
  rfl
theorem pm_hold {σ : pv_S} {t : Nat} (ht : t < 96) {a b μ ν : Int32} (hμ : σ.1 31 t = μ) (hν : σ.1 32 t = ν) : f_Md_hold σ (pI t) a b = some (if 0 < b ∧ ν = 0 then a else μ, pv_uI (pv_uI σ 31 t (if 0 < b ∧ ν = 0 then a else μ)) 32 t (if b ≤ 0 then 0 else 1)) := by
  have i96 : pv_in (pI t) 96 = true := (pI_in (by omega)).mpr ht
  have r : ∀ x y, (pv_uI (pv_uI σ 31 t x) 32 t y).1 31 t = x := fun x y => by rw [uI1n (by decide), uI1c, if_pos rfl]
  unfold f_Md_hold f_Md_hold_0 f_Md_hold_22 f_Md_hold_28
  simp only [pI_nat (show t < 2147483648 by omega), if_pos i96, hμ, hν, r]
  by_cases h : b ≤ 0
  · have h2 : ¬ (0 < b ∧ ν = 0) := fun z => absurd z.1 (Int32.not_lt.mpr h)
    simp only [if_pos h, if_neg h2]
  · have h3 : 0 < b := Int32.not_le.mp h
    simp only [if_neg h]
    by_cases h0 : ν = 0
    · simp only [if_pos h0, if_pos (show 0 < b ∧ ν = 0 from ⟨h3, h0⟩)]
    · simp only [if_neg h0, if_neg (show ¬ (0 < b ∧ ν = 0) from fun z => h0 z.2)]
theorem pm_reckon {σ : pv_S} {v m k : Nat} {fr : Nat → Option Nat} {nu : Nat → Int32} (hv : v < 4) (hm : m < 24) (hk : k < 20) (h18 : k ≠ 18) (h9 : σ.1 9 m = pI k) (hin : ∀ j, j < 4 → σ.1 11 (4 * m + j) = oI (fr (4 * m + j)) ∧ σ.1 12 (4 * m + j) = nu (4 * m + j)) (hl : ∀ j s, j < 4 → fr (4 * m + j) = some s → s < 24) {a b c d μ ν : Int32} (ha : pm_rin σ v fr nu (4 * m) = a) (hb : pm_rin σ v fr nu (4 * m + 1) = b) (hc : pm_rin σ v fr nu (4 * m + 2) = c) (hd : pm_rin σ v fr nu (4 * m + 3) = d) (hμ : σ.1 31 (24 * v + m) = μ) (hν : σ.1 32 (24 * v + m) = ν) (h7 : k = 7 → pv_in a 4 = true) : f_Md_reckon σ (pI v) (pI m) = some ((pE k a b c d μ ν (σ.1 23 v) (σ.1 25 v) (σ.1 24 v) (σ.1 21)).1, pv_uI (pv_uI σ 31 (24 * v + m) (pE k a b c d μ ν (σ.1 23 v) (σ.1 25 v) (σ.1 24 v) (σ.1 21)).2.1) 32 (24 * v + m) (pE k a b c d μ ν (σ.1 23 v) (σ.1 25 v) (σ.1 24 v) (σ.1 21)).2.2) := by
  have i24 : pv_in (pI m) 24 = true := (pI_in (by omega)).mpr hm
  have i4 : pv_in (pI v) 4 = true := (pI_in (by omega)).mpr hv
  have i96 : pv_in (pI (24 * v + m)) 96 = true := (pI_in (by omega)).mpr (by omega)
  have es : pv_uI (pv_uI σ 31 (24 * v + m) μ) 32 (24 * v + m) ν = σ := by
    rw [uIself σ 31 (24 * v + m) hμ, uIself σ 32 (24 * v + m) hν]
  have ew : ∀ x, pv_uI (pv_uI σ 31 (24 * v + m) x) 32 (24 * v + m) ν = pv_uI σ 31 (24 * v + m) x := fun x => uIself _ _ _ (by rw [uI1n (by decide)]; exact hν)
  have n0 := pm_in (σ := σ) hv (show 4 * m < 96 by omega) (hin 0 (by decide)).1 (hin 0 (by decide)).2 (fun s h => hl 0 s (by decide) h)
  have n1 := pm_in (σ := σ) hv (show 4 * m + 1 < 96 by omega) (hin 1 (by decide)).1 (hin 1 (by decide)).2 (fun s h => hl 1 s (by decide) h)
  have n2 := pm_in (σ := σ) hv (show 4 * m + 2 < 96 by omega) (hin 2 (by decide)).1 (hin 2 (by decide)).2 (fun s h => hl 2 s (by decide) h)
  have n3 := pm_in (σ := σ) hv (show 4 * m + 3 < 96 by omega) (hin 3 (by decide)).1 (hin 3 (by decide)).2 (fun s h => hl 3 s (by decide) h)
  rw [ha] at n0
  rw [hb] at n1
  rw [hc] at n2
  rw [hd] at n3
  unfold f_Md_reckon f_Md_reckon_0
  rw [nmul_4, nadd_1, nadd_2, nadd_3, nmul_24, pI_add, n0, Option.bind_some]
  simp only [n1, n2, n3, Option.bind_some]
  simp only [pI_nat (show m < 2147483648 by omega), pI_nat (show v < 2147483648 by omega), pI_nat (show 24 * v + m < 2147483648 by omega), h9, if_pos i24, if_pos i4, if_pos i96, nle_7 (show k < 2147483648 by omega), nle_11 (show k < 2147483648 by omega), nle_15 (show k < 2147483648 by omega), neq_7 (show k < 2147483648 by omega), neq_8 (show k < 2147483648 by omega), neq_9 (show k < 2147483648 by omega), neq_15 (show k < 2147483648 by omega), neq_16 (show k < 2147483648 by omega), neq_17 (show k < 2147483648 by omega), neq_18 (show k < 2147483648 by omega), hμ, pm_env (σ := σ) (show 24 * v + m < 96 by omega) hμ hν, pm_noise (σ := σ) (show 24 * v + m < 96 by omega) hμ hν, pm_filter (σ := σ) (show 24 * v + m < 96 by omega) hμ hν, pm_hold (σ := σ) (show 24 * v + m < 96 by omega) hμ hν, pn_M, Option.bind_some, uI1c, if_true, if_neg h18]
  unfold pE
  by_cases k7 : k = 7
  · simp only [if_pos k7, if_pos (show 7 ≤ k by omega), if_neg (show ¬ 11 ≤ k by omega), if_pos (h7 k7), es]
  simp only [if_neg k7]
  by_cases k8 : k = 8
  · simp only [if_pos k8, if_pos (show 7 ≤ k by omega), if_neg (show ¬ 11 ≤ k by omega), es]
  simp only [if_neg k8]
  by_cases k9 : k = 9
  · simp only [if_pos k9, if_pos (show 7 ≤ k by omega), if_neg (show ¬ 11 ≤ k by omega), es, ite_some]
  simp only [if_neg k9]
  by_cases k10 : k = 10
  · simp only [if_pos k10, if_pos (show 7 ≤ k by omega), if_neg (show ¬ 11 ≤ k by omega), es]
  simp only [if_neg k10]
  by_cases k11 : k = 11 ∨ k = 12 ∨ k = 13 ∨ k = 14
  · simp only [if_pos k11, if_pos (show 7 ≤ k by omega), if_pos (show 11 ≤ k by omega), if_neg (show ¬ 15 ≤ k by omega), pE_wM _ k11, Option.bind_some, ew]
  simp only [if_neg k11]
  by_cases k15 : k = 15
  · simp only [if_pos k15, if_pos (show 7 ≤ k by omega), if_pos (show 11 ≤ k by omega), if_pos (show 15 ≤ k by omega), if_neg (show ¬ k = 16 by omega)]
  simp only [if_neg k15]
  by_cases k16 : k = 16
  · simp only [if_pos k16, if_pos (show 7 ≤ k by omega), if_pos (show 11 ≤ k by omega), if_pos (show 15 ≤ k by omega)]
  simp only [if_neg k16]
  by_cases k17 : k = 17
  · simp only [if_pos k17, if_pos (show 7 ≤ k by omega), if_pos (show 11 ≤ k by omega), if_pos (show 15 ≤ k by omega)]
  simp only [if_neg k17]
  by_cases k19 : k = 19
  · simp only [if_pos k19, if_pos (show 7 ≤ k by omega), if_pos (show 11 ≤ k by omega), if_pos (show 15 ≤ k by omega)]
  simp only [if_neg k19, if_neg (show ¬ 7 ≤ k by omega), es]
theorem pm_del {σ : pv_S} {v m : Nat} {fr : Nat → Option Nat} {nu : Nat → Int32} (hv : v < 4) (hm : m < 24) (h9 : σ.1 9 m = pI 18) (hin : ∀ j, j < 4 → σ.1 11 (4 * m + j) = oI (fr (4 * m + j)) ∧ σ.1 12 (4 * m + j) = nu (4 * m + j)) (hl : ∀ j s, j < 4 → fr (4 * m + j) = some s → s < 24) {N a o : Nat} (hN : nu (4 * m + 1) = pI N) (N1 : 1 ≤ N) (h14 : σ.1 14 m = pI o) (hoN : o + N ≤ 128) (h30 : σ.1 30 v = pI a) (ha : a < 2147483648) : f_Md_reckon σ (pI v) (pI m) = some (σ.1 34 (128 * v + o + a % N), σ) := by
  have i24 : pv_in (pI m) 24 = true := (pI_in (by omega)).mpr hm
  have i4 : pv_in (pI v) 4 = true := (pI_in (by omega)).mpr hv
  have n0 := pm_in (σ := σ) hv (show 4 * m < 96 by omega) (hin 0 (by decide)).1 (hin 0 (by decide)).2 (fun s h => hl 0 s (by decide) h)
  have n1 := pm_in (σ := σ) hv (show 4 * m + 1 < 96 by omega) (hin 1 (by decide)).1 (hin 1 (by decide)).2 (fun s h => hl 1 s (by decide) h)
  have n2 := pm_in (σ := σ) hv (show 4 * m + 2 < 96 by omega) (hin 2 (by decide)).1 (hin 2 (by decide)).2 (fun s h => hl 2 s (by decide) h)
  have hmod : a % N < N := Nat.mod_lt _ (by omega)
  unfold f_Md_reckon f_Md_reckon_0
  rw [nmul_4, nadd_1, nadd_2, n0, Option.bind_some]
  simp only [n1, n2, Option.bind_some]
  have e12 : σ.1 12 (4 * m + 1) = pI N := by rw [(hin 1 (by decide)).2]; exact hN
  have e : pI a - pI a / pI N * pI N = pI (a % N) := pI_mod' a N ha N1 (by omega)
  simp only [pI_nat (show m < 2147483648 by omega), pI_nat (show v < 2147483648 by omega), pI_nat (show 4 * m + 1 < 2147483648 by omega), h9, h14, h30, e12, e, nmul_128, pI_add]
  rw [if_pos i24, if_pos (show (7 : Int32) ≤ pI 18 by decide), if_pos (show (11 : Int32) ≤ pI 18 by decide), if_pos (show (15 : Int32) ≤ pI 18 by decide), if_pos (show pI 18 = 18 from rfl), if_pos i24, if_pos i4, if_pos ((pI_in (by omega)).mpr (by omega)), if_pos (show ¬ pI N = 0 from fun z => by have := (neq_0 (by omega)).mp z; omega), if_pos ((pI_in (by omega)).mpr (by omega)), pI_nat (by omega)]
