/-! Plain values; what stands for an input. -/
def pn_st (x : Int64) : Int32 := (if (if x < (2147483647 : Int64) then x else (2147483647 : Int64)) < (-2147483648 : Int64) then (-2147483648 : Int64) else (if x < (2147483647 : Int64) then x else (2147483647 : Int64))).toInt32
theorem pn_stX (σ : pv_S) (x : Int64) : f_Kd_stopped σ x = some (pn_st x, σ) := rfl
theorem lg_ge (x y : Int64) : 0 ≤ lg_cmp x y ↔ y ≤ x := by
  unfold lg_cmp
  by_cases h : x > y
  · rw [if_pos h]
    exact ⟨fun _ => Int64.le_of_lt h, fun _ => by decide⟩
  · rw [if_neg h]
    by_cases e : x = y
    · rw [if_pos e]
      subst e
      exact ⟨fun _ => Int64.le_refl _, fun _ => by decide⟩
    · rw [if_neg e]
      refine ⟨fun z => absurd z (by decide), fun z => absurd ?_ e⟩
      exact Int64.le_antisymm (Int64.not_lt.mp h) z
theorem lg_le (x y : Int64) : lg_cmp x y ≤ 0 ↔ x ≤ y := by
  unfold lg_cmp
  by_cases h : x > y
  · rw [if_pos h]
    refine ⟨fun z => absurd z (by decide), fun z => absurd h (Int64.not_lt.mpr z)⟩
  · rw [if_neg h]
    have : x ≤ y := Int64.not_lt.mp h
    by_cases e : x = y
    · rw [if_pos e]
      exact ⟨fun _ => this, fun _ => by decide⟩
    · rw [if_neg e]
      exact ⟨fun _ => this, fun _ => by decide⟩
theorem pn_stM (σ : pv_S) (x : Int64) : f_Md_stop σ x = some (pn_st x, σ) := by
  unfold f_Md_stop f_Md_stop_0 pn_st
  by_cases h1 : (-2147483648 : Int64) ≤ x
  · rw [if_pos ((lg_ge _ _).mpr h1)]
    by_cases h2 : x < 2147483647
    · rw [if_pos ((lg_le _ _).mpr (Int64.le_of_lt h2)), if_pos h2, if_neg (Int64.not_lt.mpr h1)]
    · rw [if_neg h2, if_neg (show ¬ (2147483647 : Int64) < -2147483648 by decide)]
      by_cases h3 : x ≤ 2147483647
      · have : x = 2147483647 := Int64.le_antisymm h3 (Int64.not_lt.mp h2)
        subst this
        rw [if_pos ((lg_le _ _).mpr h3)]
      · rw [if_neg (fun z => h3 ((lg_le _ _).mp z))]
        rfl
  · rw [if_neg (fun z => h1 ((lg_ge _ _).mp z))]
    have h2 : x < -2147483648 := Int64.not_le.mp h1
    have h3 : x < 2147483647 := Int64.lt_trans h2 (by decide)
    rw [if_pos h3, if_pos h2]
    rfl
def pn_v (k x y z : Int32) : Int32 :=
  if k = 0 then pn_st (x.toInt64 + y.toInt64) else if k = 1 then pn_st (x.toInt64 - y.toInt64) else if k = 2 then pn_st ((x.toInt64 * y.toInt64) >>> (((16 : Int32)).toInt64 &&& 63)) else if k = 3 then pn_st (x.toInt64 + (((y.toInt64 - x.toInt64) * z.toInt64) >>> (((16 : Int32)).toInt64 &&& 63))) else if k = 4 then (if y ≤ x then (if x ≤ z then x else z) else y) else if k = 5 then (if x ≤ y then 0 else 65536) else (if x ≤ 0 then z else y)
theorem ite_some {c : Prop} [Decidable c] {α : Type} {a b : α} {σ : pv_S} : (if c then some (a, σ) else some (b, σ)) = some (if c then a else b, σ) := by
  by_cases h : c
  · rw [if_pos h, if_pos h]
  · rw [if_neg h, if_neg h]
theorem pn_X (σ : pv_S) (k x y z : Int32) : f_Kd_plainValue σ k x y z = some (pn_v k x y z, σ) := by
  unfold f_Kd_plainValue f_Kd_plainValue_0 pn_v f_Kd_scaled f_Kd_scaled_0
  simp only [pn_stX, Option.bind_some, ite_some]
theorem pn_M (σ : pv_S) (k x y z : Int32) : f_Md_plain σ k x y z = some (pn_v k x y z, σ) := by
  unfold f_Md_plain f_Md_plain_0 pn_v
  simp only [pn_stM, Option.bind_some, ite_some]
/-- what stands for the module that a cord comes from; the number that stands for an input -/
def ps_s (fr sd : Nat → Option Nat) (i : Nat) : Option Nat := match fr i with
  | none => none
  | some s => sd s
def ps_a (fr : Nat → Option Nat) (nu : Nat → Int32) (sd : Nat → Option Nat) (sn : Nat → Int32) (i : Nat) : Int32 := match fr i with
  | none => nu i
  | some s => match sd s with
    | none => sn s
    | some _ => 0
def ps_al (fr : Nat → Option Nat) (nu : Nat → Int32) (sd : Nat → Option Nat) (sn : Nat → Int32) (i j : Nat) : Bool := decide (ps_s fr sd i = ps_s fr sd j) && decide (ps_a fr nu sd sn i = ps_a fr nu sd sn j)
def ps_sm (kd cn : Nat → Nat) (al : Nat → Nat → Bool) (e m : Nat) : Bool := decide (kd e = kd m) && ((!pany (fun j => !al (4 * e + j) (4 * m + j)) (cn e)) || (decide (kd e = 0 ∨ kd e = 2) && (al (4 * e) (4 * m + 1) && al (4 * e + 1) (4 * m))))
theorem oI_inj {a b : Option Nat} (ha : ∀ k, a = some k → k < 2147483648) (hb : ∀ k, b = some k → k < 2147483648) : oI a = oI b ↔ a = b := by
  refine ⟨fun h => ?_, fun h => by rw [h]⟩
  cases a with
  | none =>
    cases b with
    | none => rfl
    | some k => exact (((pI_neg (hb k rfl)).mp h.symm)).elim
  | some j =>
    cases b with
    | none => exact (((pI_neg (ha j rfl)).mp h)).elim
    | some k => rw [(pI_eq (ha j rfl) (hb k rfl)).mp h]
/-! the reference's source and amount -/
theorem ps_srcM {σ : pv_S} {n i : Nat} {fr sd : Nat → Option Nat} (hn : n ≤ 24) (hi : i < 4 * n) (hf : σ.1 11 i = oI (fr i)) (hl : ∀ k, fr i = some k → k < n) (hs : ∀ k, fr i = some k → σ.1 15 k = oI (sd k)) : f_Md_source σ (pI i) = some (oI (ps_s fr sd i), σ) := by
  unfold f_Md_source f_Md_source_0 ps_s
  rw [pI_nat (by omega), hf, if_pos ((pI_in (by omega)).mpr (by omega)), if_pos ((pI_in (by omega)).mpr (by omega))]
  cases e : fr i with
  | none =>
    rw [if_neg (by decide)]
    rfl
  | some s =>
    have h1 := hl s e
    rw [show oI (some s) = pI s from rfl, if_pos (show (0 : Int32) ≤ pI s from (nle_0 (by omega)).mpr (by omega)), if_pos ((pI_in (show s < 2147483648 by omega)).mpr (show s < 24 by omega)), pI_nat (by omega), hs s e]
theorem ps_amtM {σ : pv_S} {n i : Nat} {fr sd : Nat → Option Nat} {nu sn : Nat → Int32} (hn : n ≤ 24) (hi : i < 4 * n) (hf : σ.1 11 i = oI (fr i)) (hu : σ.1 12 i = nu i) (hl : ∀ k, fr i = some k → k < n) (hs : ∀ k, fr i = some k → σ.1 15 k = oI (sd k) ∧ (∀ t, sd k = some t → t < n) ∧ (sd k = none → σ.1 16 k = sn k)) : f_Md_amount σ (pI i) = some (ps_a fr nu sd sn i, σ) := by
  unfold f_Md_amount f_Md_amount_0 ps_a
  rw [pI_nat (by omega), hf, hu, if_pos ((pI_in (by omega)).mpr (by omega)), if_pos ((pI_in (by omega)).mpr (by omega)), if_pos ((pI_in (by omega)).mpr (by omega)), if_pos ((pI_in (by omega)).mpr (by omega))]
  cases e : fr i with
  | none =>
    rw [if_neg (by decide)]
  | some s =>
    have h1 := hl s e
    obtain ⟨h2, h3, h4⟩ := hs s e
    rw [show oI (some s) = pI s from rfl, if_pos (show (0 : Int32) ≤ pI s from (nle_0 (by omega)).mpr (by omega)), if_pos ((pI_in (show s < 2147483648 by omega)).mpr (show s < 24 by omega)), if_pos ((pI_in (show s < 2147483648 by omega)).mpr (show s < 24 by omega)), pI_nat (by omega), h2]
    cases e2 : sd s with
    | none =>
      rw [if_neg (by decide), h4 e2]
      simp only [e2]
    | some t =>
      have := h3 t e2
      rw [if_pos (show (0 : Int32) ≤ oI (some t) from (nle_0 (by omega)).mpr (by omega))]
      simp only [e2]
