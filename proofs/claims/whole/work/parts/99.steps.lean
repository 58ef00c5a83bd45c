/-! Steps, on both sides. -/
theorem pI_mod : ∀ k n, k < 48 → 1 ≤ n → n ≤ 24 → pI k - pI k / pI n * pI n = pI (k % n) := by
  have h : ∀ (k : Fin 48) (n : Fin 25), n.1 ≠ 0 → pI k.1 - pI k.1 / pI n.1 * pI n.1 = pI (k.1 % n.1) := by decide +kernel
  exact fun k n hk h1 h2 => h ⟨k, hk⟩ ⟨n, by omega⟩ (by show n ≠ 0; omega)
/-- how many of the first k places of the order are kept -/
def ph_kc (K : Nat → Bool) (od : Nat → Nat) (k : Nat) : Nat := pcnt (fun k => K (od k)) k
theorem ph_kc1 (K : Nat → Bool) (od : Nat → Nat) (k : Nat) : ph_kc K od (k + 1) = ph_kc K od k + (if K (od k) = true then 1 else 0) := rfl
def ph_dc (K : Nat → Bool) (kd od : Nat → Nat) (k : Nat) : Nat := pcnt (fun k => K (od k) && decide (kd (od k) = 18)) k
theorem ph_dc1 (K : Nat → Bool) (kd od : Nat → Nat) (k : Nat) : ph_dc K kd od (k + 1) = ph_dc K kd od k + (if (K (od k) && decide (kd (od k) = 18)) = true then 1 else 0) := rfl
theorem ph_up (p : Nat → Bool) : ∀ {a b : Nat}, a ≤ b → pcnt p a ≤ pcnt p b := by
  intro a b h
  induction b with
  | zero => have : a = 0 := by omega
            subst this
            exact Nat.le_refl _
  | succ b ih =>
    by_cases e : a = b + 1
    · subst e; exact Nat.le_refl _
    · have := ih (by omega)
      show pcnt p a ≤ pcnt p b + (if p b = true then 1 else 0)
      omega
/-- the steps, by the order: what module each one has -/
def ph_S (n : Nat) (kd : Nat → Nat) (K : Nat → Bool) (od sm : Nat → Nat) (k d : Nat) : Prop := (∀ k', k' < k → K (od k') = true → sm (ph_kc K od k') = od k') ∧ ∀ k', k' < d → (K (od k') && decide (kd (od k') = 18)) = true → sm (ph_kc K od n + ph_dc K kd od k') = od k'
/-- every count below has its place -/
theorem ph_ex {p : Nat → Bool} : ∀ {n t : Nat}, t < pcnt p n → ∃ k, k < n ∧ p k = true ∧ pcnt p k = t := by
  intro n
  induction n with
  | zero => intro t h; cases h
  | succ n ih =>
    intro t h
    have h : t < pcnt p n + (if p n = true then 1 else 0) := h
    by_cases h1 : t < pcnt p n
    · obtain ⟨k, k1, k2, k3⟩ := ih h1
      exact ⟨k, by omega, k2, k3⟩
    · by_cases hp : p n = true
      · rw [if_pos hp] at h
        exact ⟨n, by omega, hp, by omega⟩
      · rw [if_neg hp] at h
        omega
theorem ph_inj {p : Nat → Bool} {a b : Nat} (ha : p a = true) (hb : p b = true) (h : pcnt p a = pcnt p b) : a = b := by
  by_cases h1 : a < b
  · have := ph_up p (show a + 1 ≤ b by omega)
    have e : pcnt p (a + 1) = pcnt p a + (if p a = true then 1 else 0) := rfl
    rw [if_pos ha] at e
    omega
  · by_cases h2 : b < a
    · have := ph_up p (show b + 1 ≤ a by omega)
      have e : pcnt p (b + 1) = pcnt p b + (if p b = true then 1 else 0) := rfl
      rw [if_pos hb] at e
      omega
    · omega
/-- the first steps: both sides -/
theorem ph_first {n : Nat} {kd : Nat → Nat} {K : Nat → Bool} {od : Nat → Nat} (n1 : 1 ≤ n) (n2 : n ≤ 24) (ho : ∀ k, k < n → od k < n) {τx τm : pv_S} (x12 : τx.1 12 0 = pI n) (x16 : ∀ k, k < n → τx.1 16 k = pI (od k)) (x17 : pe_row (τx.1 17) n K) (m18 : τm.1 0 18 = pI n) (m13 : ∀ k, k < n → τm.1 13 k = pI (od k)) (m17 : pe_row (τm.1 17) n K) (Kx : pv_S → Int32 → Option pv_S) (Q : pv_S → pv_S → Prop) (fm : Nat) (hfm : n + n < fm) (rest : ∀ (σx σm : pv_S) (sm : Nat → Nat), (∀ c, c ≠ 11 → c ≠ 20 → σx.1 c = τx.1 c) → σx.2 = τx.2 → (∀ k, k ≠ 1 → k ≠ 2 → σx.1 11 k = τx.1 11 k) → (∀ c, c ≠ 0 → c ≠ 18 → c ≠ 19 → σm.1 c = τm.1 c) → σm.2 = τm.2 → (∀ k, k ≠ 28 → σm.1 0 k = τm.1 0 k) → σx.1 11 1 = pI (ph_kc K od n) → σm.1 0 28 = pI (ph_kc K od n) → (∀ t, t < ph_kc K od n → σx.1 20 t = pI (sm t) ∧ σm.1 18 t = pI (sm t) ∧ σm.1 19 t = 0) → ph_S n kd K od sm n 0 → pj (f_Pg_listSteps_82 pv_fu (pv_uI σx 11 2 (σx.1 11 1)) 0) (f_Md_layOut_7 (fm - n) σm (pI n)) Q) : pj (f_Pg_listSteps τx) (f_Md_layOut_7 fm (pv_uI τm 0 28 0) 0) Q := by
  have key : ∀ (d k fx fm : Nat) (σx σm : pv_S) (sm : Nat → Nat), k + d = n → d < fx → fm = fm → (∀ c, c ≠ 11 → c ≠ 20 → σx.1 c = τx.1 c) → σx.2 = τx.2 → (∀ k, k ≠ 1 → k ≠ 2 → σx.1 11 k = τx.1 11 k) → (∀ c, c ≠ 0 → c ≠ 18 → c ≠ 19 → σm.1 c = τm.1 c) → σm.2 = τm.2 → (∀ k, k ≠ 28 → σm.1 0 k = τm.1 0 k) → σx.1 11 1 = pI (ph_kc K od k) → σm.1 0 28 = pI (ph_kc K od k) → (∀ t, t < ph_kc K od k → σx.1 20 t = pI (sm t) ∧ σm.1 18 t = pI (sm t) ∧ σm.1 19 t = 0) → ph_S n kd K od sm k 0 → (∀ (σx σm : pv_S) (sm : Nat → Nat), (∀ c, c ≠ 11 → c ≠ 20 → σx.1 c = τx.1 c) → σx.2 = τx.2 → (∀ k, k ≠ 1 → k ≠ 2 → σx.1 11 k = τx.1 11 k) → (∀ c, c ≠ 0 → c ≠ 18 → c ≠ 19 → σm.1 c = τm.1 c) → σm.2 = τm.2 → (∀ k, k ≠ 28 → σm.1 0 k = τm.1 0 k) → σx.1 11 1 = pI (ph_kc K od n) → σm.1 0 28 = pI (ph_kc K od n) → (∀ t, t < ph_kc K od n → σx.1 20 t = pI (sm t) ∧ σm.1 18 t = pI (sm t) ∧ σm.1 19 t = 0) → ph_S n kd K od sm n 0 → pj (f_Pg_listSteps_82 pv_fu (pv_uI σx 11 2 (σx.1 11 1)) 0) (f_Md_layOut_7 (fm - d) σm (pI n)) Q) → d < fm → pj (f_Pg_listSteps_7 fx σx (pI k)) (f_Md_layOut_7 fm σm (pI k)) Q := by
    intro d
    induction d with
    | zero =>
      intro k fx fm σx σm sm e hf _ a1 a2 a3 a4 a5 a6 a7 a8 a9 a10 rest _
      obtain ⟨fx, rfl⟩ : ∃ k, fx = k + 1 := ⟨fx - 1, by omega⟩
      have : k = n := by omega
      subst this
      have e12 : σx.1 12 0 = pI k := by rw [a1 12 (by decide) (by decide)]; exact x12
      show pj (f_Pg_listSteps_7b _ _ _) _ _
      unfold f_Pg_listSteps_7b
      rw [e12, if_pos ((pI_le (by omega) (by omega)).mpr (by omega))]
      exact rest σx σm sm a1 a2 a3 a4 a5 a6 a7 a8 a9 a10
    | succ d ih =>
      intro k fx fm σx σm sm e hf _ a1 a2 a3 a4 a5 a6 a7 a8 a9 a10 rest hfm
      obtain ⟨fx, rfl⟩ : ∃ k, fx = k + 1 := ⟨fx - 1, by omega⟩
      obtain ⟨fm, rfl⟩ : ∃ k, fm = k + 1 := ⟨fm - 1, by omega⟩
      have hk : k < n := by omega
      have hok := ho k hk
      have hkc : ph_kc K od k ≤ k := pcnt_le _ k
      have e12 : σx.1 12 0 = pI n := by rw [a1 12 (by decide) (by decide)]; exact x12
      have e16 : σx.1 16 k = pI (od k) := by rw [a1 16 (by decide) (by decide)]; exact x16 k hk
      have e17 : σx.1 17 (od k) = b2i (K (od k)) := by rw [a1 17 (by decide) (by decide)]; exact x17 _ hok
      have f18 : σm.1 0 18 = pI n := by rw [a6 18 (by decide)]; exact m18
      have f13 : σm.1 13 k = pI (od k) := by rw [a4 13 (by decide) (by decide) (by decide)]; exact m13 k hk
      have f17 : σm.1 17 (od k) = b2i (K (od k)) := by rw [a4 17 (by decide) (by decide) (by decide)]; exact m17 _ hok
      have rest' : ∀ (σx σm : pv_S) (sm : Nat → Nat), (∀ c, c ≠ 11 → c ≠ 20 → σx.1 c = τx.1 c) → σx.2 = τx.2 → (∀ k, k ≠ 1 → k ≠ 2 → σx.1 11 k = τx.1 11 k) → (∀ c, c ≠ 0 → c ≠ 18 → c ≠ 19 → σm.1 c = τm.1 c) → σm.2 = τm.2 → (∀ k, k ≠ 28 → σm.1 0 k = τm.1 0 k) → σx.1 11 1 = pI (ph_kc K od n) → σm.1 0 28 = pI (ph_kc K od n) → (∀ t, t < ph_kc K od n → σx.1 20 t = pI (sm t) ∧ σm.1 18 t = pI (sm t) ∧ σm.1 19 t = 0) → ph_S n kd K od sm n 0 → pj (f_Pg_listSteps_82 pv_fu (pv_uI σx 11 2 (σx.1 11 1)) 0) (f_Md_layOut_7 (fm - d) σm (pI n)) Q := by
        have : fm + 1 - (d + 1) = fm - d := by omega
        rw [this] at rest
        exact rest
      have emod : pI k - pI k / pI n * pI n = pI k := by rw [pI_mod k n (by omega) n1 n2, Nat.mod_eq_of_lt hk]
      show pj (f_Pg_listSteps_7b _ _ _) (f_Md_layOut_7b _ _ _) Q
      unfold f_Pg_listSteps_7b f_Md_layOut_7b f_Pg_listSteps_66 f_Md_layOut_57 f_Md_layOut_88 f_Md_layOut_99
      have nl : ¬ pI n ≤ pI k := fun z => by have := (pI_le (by omega) (by omega)).mp z; omega
      have nl2 : ¬ pI (2 * n) ≤ pI k := fun z => by have := (pI_le (by omega) (by omega)).mp z; omega
      rw [e12, if_neg nl, pI_nat (by omega), e16, pI_nat (by omega), e17, if_pos ((pI_in (by omega)).mpr (by omega)), if_pos ((pI_in (by omega)).mpr (by omega)), nadd_1, f18, nmul_2, if_neg nl2, if_pos (show ¬ pI n = 0 from fun z => by have := (neq_0 (by omega)).mp z; omega), emod, pI_nat (by omega), f13, pI_nat (by omega), f17, if_pos ((pI_lt (by omega) (by omega)).mpr hk)]
      simp only [if_pos ((pI_in (show k < 2147483648 by omega)).mpr (show k < 24 by omega)), if_pos ((pI_in (show od k < 2147483648 by omega)).mpr (show od k < 24 by omega)), b2i_0]
      cases eK : K (od k) with
      | false =>
        have ek : ph_kc K od (k + 1) = ph_kc K od k := by rw [ph_kc1, eK, if_neg (by decide), Nat.add_zero]
        rw [if_pos rfl, if_pos rfl]
        refine ih (k + 1) fx fm σx σm sm (by omega) (by omega) rfl a1 a2 a3 a4 a5 a6 (by rw [ek]; exact a7) (by rw [ek]; exact a8) (by rw [ek]; exact a9) ⟨fun k' hk' hK => ?_, fun k' hk' => absurd hk' (by omega)⟩ rest' (by omega)
        by_cases e : k' = k
        · subst e; rw [eK] at hK; cases hK
        · exact a10.1 k' (by omega) hK
      | true =>
        have ek : ph_kc K od (k + 1) = ph_kc K od k + 1 := by rw [ph_kc1, eK, if_pos rfl]
        have g28 : ∀ a b, (pv_uI σm 18 a b).1 0 28 = pI (ph_kc K od k) := fun _ _ => a8
        have g18 : ∀ a b, (pv_uI σm 18 a b).1 0 18 = pI n := fun _ _ => f18
        have g28' : ∀ a b c d, (pv_uI (pv_uI σm 18 a b) 19 c d).1 0 28 = pI (ph_kc K od k) := fun _ _ _ _ => a8
        have h11 : ∀ a b, (pv_uI σx 20 a b).1 11 1 = pI (ph_kc K od k) := fun _ _ => a7
        rw [if_neg (by decide), a7, if_pos ((pI_in (by omega)).mpr (by omega)), pI_nat (by omega), h11, nadd_1, if_neg (by decide), a8, if_pos ((pI_in (by omega)).mpr (by omega)), pI_nat (by omega), g18, if_pos ((pI_lt (by omega) (by omega)).mpr hk), g28, if_pos ((pI_in (by omega)).mpr (by omega)), pI_nat (by omega), g28', nadd_1]
        refine ih (k + 1) fx fm _ _ (fun t => if t = ph_kc K od k then od k else sm t) (by omega) (by omega) rfl (fun c h1 h2 => ?_) a2 (fun j h1 h2 => ?_) (fun c h1 h2 h3 => ?_) a5 (fun j h1 => ?_) ?_ ?_ (fun t ht => ?_) ⟨fun k' hk' hK => ?_, fun k' hk' => absurd hk' (by omega)⟩ rest' (by omega)
        · rw [← a1 c h1 h2]; funext j; rw [uI1n h1, uI1n h2]
        · rw [← a3 j h1 h2, uI1c, if_neg h1, uI1n (by decide)]
        · rw [← a4 c h1 h2 h3]; funext j; rw [uI1n h1, uI1n h3, uI1n h2]
        · rw [← a6 j h1, uI1c, if_neg h1, uI1n (by decide), uI1n (by decide)]
        · rw [uI1c, if_pos rfl, ek]
        · rw [uI1c, if_pos rfl, ek]
        · rw [ek] at ht
          rw [uI1n (by decide), uI1c, uI1n (by decide), uI1n (by decide), uI1c, uI1n (by decide), uI1c]
          by_cases e : t = ph_kc K od k
          · simp only [if_pos e]
            exact ⟨trivial, trivial, rfl⟩
          · simp only [if_neg e]
            obtain ⟨b1, b2, b3⟩ := a9 t (by omega)
            refine ⟨b1, b2, ?_⟩
            rw [uI1n (by decide)]
            exact b3
        · by_cases e : k' = k
          · subst e; exact if_pos rfl
          · have lt : ph_kc K od k' < ph_kc K od k := by
              have := ph_up (fun k => K (od k)) (show k' + 1 ≤ k by omega)
              have e2 : ph_kc K od (k' + 1) = ph_kc K od k' + 1 := by rw [ph_kc1, hK, if_pos rfl]
              unfold ph_kc at *
              omega
            refine (if_neg (by omega)).trans ?_
            exact a10.1 k' (by omega) hK
  unfold f_Pg_listSteps f_Pg_listSteps_0
  refine key n 0 pv_fu fm _ _ (fun _ => 0) (by omega) (by unfold pv_fu; omega) rfl (fun c h1 _ => ?_) rfl (fun j h1 _ => ?_) (fun c h1 _ _ => ?_) rfl (fun j h1 => ?_) ?_ ?_ (fun t ht => absurd ht (by show ¬ t < 0; omega)) ⟨fun k' hk' => absurd hk' (by omega), fun k' hk' => absurd hk' (by omega)⟩ rest (by omega)
  · funext j; rw [uI1n h1]
  · rw [uI1c, if_neg h1]
  · funext j; rw [uI1n h1]
  · rw [uI1c, if_neg h1]
  · rw [uI1c, if_pos rfl]; rfl
  · rw [uI1c, if_pos rfl]; rfl
