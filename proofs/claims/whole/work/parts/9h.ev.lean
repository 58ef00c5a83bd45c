/-! What a module makes of its inputs and its memory. -/
theorem neq_9 {i : Nat} (h : i < 2147483648) : (pI i = (9 : Int32)) ↔ i = 9 := pI_eq h (by decide)
theorem neq_12 {i : Nat} (h : i < 2147483648) : (pI i = (12 : Int32)) ↔ i = 12 := pI_eq h (by decide)
theorem neq_14 {i : Nat} (h : i < 2147483648) : (pI i = (14 : Int32)) ↔ i = 14 := pI_eq h (by decide)
theorem neq_17 {i : Nat} (h : i < 2147483648) : (pI i = (17 : Int32)) ↔ i = 17 := pI_eq h (by decide)
theorem neq_19 {i : Nat} (h : i < 2147483648) : (pI i = (19 : Int32)) ↔ i = 19 := pI_eq h (by decide)
theorem lg_lt0 (x y : Int64) : lg_cmp x y < 0 ↔ x < y := by
  rw [← Int32.not_le, lg_ge, Int64.not_le]
theorem lg_gt0 (x y : Int64) : 0 < lg_cmp x y ↔ y < x := by
  rw [← Int32.not_le, lg_le, Int64.not_le]
def pE_w (k : Nat) (p : Int32) : Int32 := if k = 11 then p else if k = 12 then (if p < 0 then -32767 else 32767) else if k = 13 then 32768 - 2 * (if 0 ≤ p then p else -p) else (p * (32768 - (if 0 ≤ p then p else -p))) / 8192
def pE_z (μ : Int32) : Int32 := if μ &&& 1 = 0 then (μ.toUInt32 >>> (((1 : Int32)).toUInt32 &&& Int32.toUInt32 31)).toInt32 else (μ.toUInt32 >>> (((1 : Int32)).toUInt32 &&& Int32.toUInt32 31)).toInt32 ^^^ (-1262693540 : Int32)
def pE_s (g ν : Int32) : Int32 := if g ≤ 0 then (if ν < 1 then ν else if 3 < ν then ν else 4) else (if ν = 0 then 1 else if ν = 4 then 1 else ν)
def pE_m (x : Int32) : Int64 := (if 0 < x then x else 0).toInt64
/-- level and stage -/
def pE_l (s a d r μ : Int32) : Int32 × Int32 :=
  if s = 1 then (if μ.toInt64 + pE_m a < 65536 then ((μ.toInt64 + pE_m a).toInt32, 1) else (65536, 2)) else if s = 2 then (if 32768 < μ.toInt64 - pE_m d then ((μ.toInt64 - pE_m d).toInt32, 2) else (32768, 3)) else if s = 4 then (if 0 < μ.toInt64 - pE_m r then ((μ.toInt64 - pE_m r).toInt32, 4) else (0, 0)) else (μ, s)
def pE_h (x f q μ ν : Int32) : Int32 := pn_st ((x.toInt64 - μ.toInt64) - ((q.toInt64 * ν.toInt64) >>> (((16 : Int32)).toInt64 &&& 63)))
def pE_b (x f q μ ν : Int32) : Int32 := pn_st (ν.toInt64 + ((f.toInt64 * (pE_h x f q μ ν).toInt64) >>> (((16 : Int32)).toInt64 &&& 63)))
def pE_c (x f q μ ν : Int32) : Int32 := pn_st (μ.toInt64 + ((f.toInt64 * (pE_b x f q μ ν).toInt64) >>> (((16 : Int32)).toInt64 &&& 63)))
def pE (k : Nat) (a b c d μ ν pit gat str : Int32) (kn : Nat → Int32) : Int32 × Int32 × Int32 :=
  if k = 7 then (kn a.toNatClampNeg, μ, ν) else if k = 8 then (pit, μ, ν) else if k = 9 then (if gat = 0 then 0 else 65536, μ, ν) else if k = 10 then (512 * str, μ, ν) else if k = 11 ∨ k = 12 ∨ k = 13 ∨ k = 14 then (pE_w k ((μ + a) >>> ((16 : Int32) &&& 31)), μ + a, ν) else if k = 15 then (pE_z μ >>> ((16 : Int32) &&& 31), pE_z μ, ν) else if k = 16 then ((pE_l (pE_s a ν) b c d μ).1, (pE_l (pE_s a ν) b c d μ).1, (pE_l (pE_s a ν) b c d μ).2) else if k = 17 then (pE_c a b c μ ν, pE_c a b c μ ν, pE_b a b c μ ν) else if k = 19 then (if 0 < b ∧ ν = 0 then a else μ, if 0 < b ∧ ν = 0 then a else μ, if b ≤ 0 then 0 else 1) else (pn_v (pI k) a b c, μ, ν)
theorem pE_wX (σ : pv_S) {k : Nat} (hk : k = 11 ∨ k = 12 ∨ k = 13 ∨ k = 14) (x : Int32) : f_Kd_waveValue σ (pI k) x = some (pE_w k (x >>> ((16 : Int32) &&& 31)), σ) := by
  unfold f_Kd_waveValue f_Kd_waveValue_0 pE_w
  rw [Int32.zero_sub]
  rcases hk with rfl | rfl | rfl | rfl
  · rfl
  · exact ite_some
  · rfl
  · rfl
theorem pE_wM (σ : pv_S) {k : Nat} (hk : k = 11 ∨ k = 12 ∨ k = 13 ∨ k = 14) (x : Int32) : f_Md_wave σ (pI k) x = some (pE_w k (x >>> ((16 : Int32) &&& 31)), σ) := by
  have key : ∀ p s : Int32, s = (if 0 ≤ p then p else -p) → f_Md_wave_15 σ (pI k) p s = some (pE_w k p, σ) := by
    intro p s hs
    unfold f_Md_wave_15 pE_w
    rw [← hs]
    rcases hk with rfl | rfl | rfl | rfl
    · rfl
    · exact ite_some
    · rfl
    · rfl
  unfold f_Md_wave f_Md_wave_0
  by_cases h : 0 ≤ x >>> ((16 : Int32) &&& 31)
  · rw [if_pos h]
    exact key _ _ (by rw [if_pos h])
  · rw [if_neg h]
    exact key _ _ (by rw [if_neg h])
theorem and1 (x : Int32) : x &&& 1 = 0 ∨ x &&& 1 = 1 := by
  have h := bI_and1 x 0 (by decide)
  have e : x >>> (pI 0 &&& 31) = x := by
    apply Int32.toBitVec_inj.mp
    rw [Int32.toBitVec_shiftRight, bI_sh 0 (by decide)]
    show x.toBitVec.sshiftRight 0 = _
    simp
  rw [e] at h
  rw [h]
  cases bI x 0
  · exact Or.inl rfl
  · exact Or.inr rfl
/-! bounds -/
theorem t64 (x : Int32) : x.toInt64.toInt = x.toInt := Int32.toInt_toInt64 x
theorem t64b (x : Int32) : -2147483648 ≤ x.toInt ∧ x.toInt < 2147483648 := ⟨Int32.le_toInt x, Int32.toInt_lt x⟩
theorem pE_m0 (x : Int32) : 0 ≤ (pE_m x).toInt ∧ (pE_m x).toInt < 2147483648 := by
  unfold pE_m
  rw [t64]
  have := t64b x
  by_cases h : 0 < x
  · rw [if_pos h]
    have h := Int32.lt_iff_toInt_lt.mp h
    have e : (0 : Int32).toInt = 0 := rfl
    omega
  · rw [if_neg h]
    have e : (0 : Int32).toInt = 0 := rfl
    omega
theorem add64 {x y : Int64} (h1 : -4611686018427387904 ≤ x.toInt + y.toInt) (h2 : x.toInt + y.toInt < 4611686018427387904) : (x + y).toInt = x.toInt + y.toInt := by
  rw [Int64.toInt_add]
  exact Int.bmod_eq_of_le (by omega) (by omega)
theorem sub64 {x y : Int64} (h1 : -4611686018427387904 ≤ x.toInt - y.toInt) (h2 : x.toInt - y.toInt < 4611686018427387904) : (x - y).toInt = x.toInt - y.toInt := by
  rw [Int64.toInt_sub]
  exact Int.bmod_eq_of_le (by omega) (by omega)
theorem to32 {x : Int64} (h1 : -2147483648 ≤ x.toInt) (h2 : x.toInt < 2147483648) : x.toInt32.toInt = x.toInt := by
  rw [Int64.toInt_toInt32]
  exact Int.bmod_eq_of_le (by omega) (by omega)
