/-! Steps: the puts, on both sides. -/
/-- the program's steps, as both sides hold them -/
def ph_P (n : Nat) (kd : Nat → Nat) (K : Nat → Bool) (od sm : Nat → Nat) (fp sc : Nat) : Prop := fp = ph_kc K od n ∧ sc = fp + ph_dc K kd od n ∧ ph_S n kd K od sm n n
theorem ph_rest {n : Nat} {kd : Nat → Nat} {K : Nat → Bool} {od : Nat → Nat} (n1 : 1 ≤ n) (n2 : n ≤ 24) (ho : ∀ k, k < n → od k < n) (k20 : ∀ m, m < n → kd m < 20) {τx τm : pv_S} (x13 : ∀ m, m < n → τx.1 13 m = pI (kd m)) (m18 : τm.1 0 18 = pI n) (m9 : ∀ m, m < n → τm.1 9 m = pI (kd m)) (m13 : ∀ k, k < n → τm.1 13 k = pI (od k)) (m17 : pe_row (τm.1 17) n K) (Q : pv_S → pv_S → Prop) {σx0 σm0 : pv_S} {sm0 : Nat → Nat} (a1 : ∀ c, c ≠ 11 → c ≠ 20 → σx0.1 c = τx.1 c) (a2 : σx0.2 = τx.2) (a3 : ∀ k, k ≠ 1 → k ≠ 2 → σx0.1 11 k = τx.1 11 k) (a4 : ∀ c, c ≠ 0 → c ≠ 18 → c ≠ 19 → σm0.1 c = τm.1 c) (a5 : σm0.2 = τm.2) (a6 : ∀ k, k ≠ 28 → σm0.1 0 k = τm.1 0 k) (a7 : σx0.1 11 1 = pI (ph_kc K od n)) (a7b : σx0.1 11 2 = pI (ph_kc K od n)) (a8 : σm0.1 0 28 = pI (ph_kc K od n)) (a9 : ∀ t, t < ph_kc K od n → σx0.1 20 t = pI (sm0 t) ∧ σm0.1 18 t = pI (sm0 t) ∧ σm0.1 19 t = 0) (a10 : ph_S n kd K od sm0 n 0) (fx fm : Nat) (hfx : n < fx) (hfm : n < fm) (fin : ∀ (σx σm : pv_S) (sm : Nat → Nat) (fp sc : Nat), (∀ c, c ≠ 11 → c ≠ 20 → σx.1 c = τx.1 c) → σx.2 = τx.2 → (∀ k, k ≠ 1 → k ≠ 2 → σx.1 11 k = τx.1 11 k) → (∀ c, c ≠ 0 → c ≠ 18 → c ≠ 19 → σm.1 c = τm.1 c) → σm.2 = τm.2 → (∀ k, k ≠ 28 → σm.1 0 k = τm.1 0 k) → ph_P n kd K od sm fp sc → σx.1 11 1 = pI sc → σx.1 11 2 = pI fp → σm.1 0 28 = pI sc → (∀ t, t < sc → σx.1 20 t = pI (sm t) ∧ σm.1 18 t = pI (sm t) ∧ σm.1 19 t = b2i (decide (fp ≤ t))) → pj (some σx) (f_Md_layOut_107 pv_fu σm 0) Q) : pj (f_Pg_listSteps_82 fx σx0 0) (f_Md_layOut_7 fm σm0 (pI n)) Q := by
  have hkn : ph_kc K od n ≤ n := pcnt_le _ n
  have key : ∀ (d k fx fm : Nat) (σx σm : pv_S) (sm : Nat → Nat), k + d = n → d < fx → d < fm → (∀ c, c ≠ 11 → c ≠ 20 → σx.1 c = τx.1 c) → σx.2 = τx.2 → (∀ k, k ≠ 1 → k ≠ 2 → σx.1 11 k = τx.1 11 k) → (∀ c, c ≠ 0 → c ≠ 18 → c ≠ 19 → σm.1 c = τm.1 c) → σm.2 = τm.2 → (∀ k, k ≠ 28 → σm.1 0 k = τm.1 0 k) → σx.1 11 1 = pI (ph_kc K od n + ph_dc K kd od k) → σx.1 11 2 = pI (ph_kc K od n) → σm.1 0 28 = pI (ph_kc K od n + ph_dc K kd od k) → (∀ t, t < ph_kc K od n + ph_dc K kd od k → σx.1 20 t = pI (sm t) ∧ σm.1 18 t = pI (sm t) ∧ σm.1 19 t = b2i (decide (ph_kc K od n ≤ t))) → ph_S n kd K od sm n k → pj (f_Pg_listSteps_82 fx σx (pI (ph_kc K od k))) (f_Md_layOut_7 fm σm (pI (n + k))) Q := by
    intro d
    induction d with
    | zero =>
      intro k fx fm σx σm sm e hf hf2 a1 a2 a3 a4 a5 a6 a7 a7b a8 a9 a10
      obtain ⟨fx, rfl⟩ : ∃ k, fx = k + 1 := ⟨fx - 1, by omega⟩
      obtain ⟨fm, rfl⟩ : ∃ k, fm = k + 1 := ⟨fm - 1, by omega⟩
      have : k = n := by omega
      subst this
      have f18 : σm.1 0 18 = pI k := by rw [a6 18 (by decide)]; exact m18
      show pj (f_Pg_listSteps_82b _ _ _) (f_Md_layOut_7b _ _ _) Q
      unfold f_Pg_listSteps_82b f_Md_layOut_7b
      rw [a7b, if_pos ((pI_le (by omega) (by omega)).mpr (by omega)), f18, nmul_2, if_pos ((pI_le (by omega) (by omega)).mpr (by omega))]
      exact fin σx σm sm _ _ a1 a2 a3 a4 a5 a6 ⟨rfl, rfl, a10⟩ a7 a7b a8 a9
    | succ d ih =>
      intro k fx fm σx σm sm e hf hf2 a1 a2 a3 a4 a5 a6 a7 a7b a8 a9 a10
      obtain ⟨fx, rfl⟩ : ∃ k, fx = k + 1 := ⟨fx - 1, by omega⟩
      obtain ⟨fm, rfl⟩ : ∃ k, fm = k + 1 := ⟨fm - 1, by omega⟩
      have hk : k < n := by omega
      have hok := ho k hk
      have h20 := k20 _ hok
      have hkc : ph_kc K od k ≤ k := pcnt_le _ k
      have hdc : ph_dc K kd od k ≤ k := pcnt_le _ k
      have f18 : σm.1 0 18 = pI n := by rw [a6 18 (by decide)]; exact m18
      have f13 : σm.1 13 k = pI (od k) := by rw [a4 13 (by decide) (by decide) (by decide)]; exact m13 k hk
      have f17 : σm.1 17 (od k) = b2i (K (od k)) := by rw [a4 17 (by decide) (by decide) (by decide)]; exact m17 _ hok
      have f9 : σm.1 9 (od k) = pI (kd (od k)) := by rw [a4 9 (by decide) (by decide) (by decide)]; exact m9 _ hok
      have emod : pI (n + k) - pI (n + k) / pI n * pI n = pI k := by
        rw [pI_mod (n + k) n (by omega) n1 n2, Nat.add_mod_left, Nat.mod_eq_of_lt hk]
      have nl2 : ¬ pI (2 * n) ≤ pI (n + k) := fun z => by have := (pI_le (by omega) (by omega)).mp z; omega
      have nlt : ¬ pI (n + k) < pI n := fun z => by have := (pI_lt (by omega) (by omega)).mp z; omega
      have em : f_Md_layOut_7 (fm + 1) σm (pI (n + k)) = if (K (od k) && decide (kd (od k) = 18)) = true then f_Md_layOut_7 fm (pv_uI (pv_uI (pv_uI σm 18 (ph_kc K od n + ph_dc K kd od k) (pI (od k))) 19 (ph_kc K od n + ph_dc K kd od k) 1) 0 28 (pI (ph_kc K od n + ph_dc K kd od k + 1))) (pI (n + (k + 1))) else f_Md_layOut_7 fm σm (pI (n + (k + 1))) := by
        have g28 : ∀ a b, (pv_uI σm 18 a b).1 0 28 = pI (ph_kc K od n + ph_dc K kd od k) := fun _ _ => a8
        have g18 : ∀ a b, (pv_uI σm 18 a b).1 0 18 = pI n := fun _ _ => f18
        have g28' : ∀ a b c d, (pv_uI (pv_uI σm 18 a b) 19 c d).1 0 28 = pI (ph_kc K od n + ph_dc K kd od k) := fun _ _ _ _ => a8
        show f_Md_layOut_7b _ _ _ = _
        unfold f_Md_layOut_7b f_Md_layOut_57 f_Md_layOut_88 f_Md_layOut_99
        rw [f18, nmul_2, if_neg nl2, if_pos (show ¬ pI n = 0 from fun z => by have := (neq_0 (by omega)).mp z; omega), emod, pI_nat (by omega), f13, pI_nat (by omega), f17, f9, nadd_1]
        simp only [if_pos ((pI_in (show k < 2147483648 by omega)).mpr (show k < 24 by omega)), if_pos ((pI_in (show od k < 2147483648 by omega)).mpr (show od k < 24 by omega)), b2i_0, if_neg nlt]
        cases eK : K (od k) with
        | false =>
          rw [if_pos rfl, Bool.false_and, if_neg (by decide)]
          rfl
        | true =>
          rw [if_neg (by decide), Bool.true_and]
          by_cases h18 : kd (od k) = 18
          · rw [if_pos (show pI (kd (od k)) = 18 by rw [h18]; rfl), a8, if_pos ((pI_in (by omega)).mpr (by omega)), pI_nat (by omega), g18, if_neg nlt, g28, if_pos ((pI_in (by omega)).mpr (by omega)), pI_nat (by omega), g28', nadd_1, decide_eq_true h18, if_pos rfl]
            rfl
          · rw [if_neg (show ¬ pI (kd (od k)) = 18 from fun z => h18 ((neq_18 (by omega)).mp z)), decide_eq_false h18, if_neg (by decide)]
            rfl
      rw [em]
      have dc1 := ph_dc1 K kd od k
      cases eK : K (od k) with
      | false =>
        rw [eK, Bool.false_and, if_neg (by decide), Nat.add_zero] at dc1
        have ek : ph_kc K od (k + 1) = ph_kc K od k := by rw [ph_kc1, eK, if_neg (by decide), Nat.add_zero]
        rw [Bool.false_and, if_neg (by decide), ← ek]
        refine ih (k + 1) (fx + 1) fm σx σm sm (by omega) (by omega) (by omega) a1 a2 a3 a4 a5 a6 (by rw [dc1]; exact a7) a7b (by rw [dc1]; exact a8) (by rw [dc1]; exact a9) ⟨a10.1, fun k' hk' hK => ?_⟩
        by_cases e : k' = k
        · subst e; rw [eK, Bool.false_and] at hK; cases hK
        · exact a10.2 k' (by omega) hK
      | true =>
        have ek : ph_kc K od (k + 1) = ph_kc K od k + 1 := by rw [ph_kc1, eK, if_pos rfl]
        have hlt : ph_kc K od k < ph_kc K od n := by
          have := ph_up (fun k => K (od k)) (show k + 1 ≤ n by omega)
          unfold ph_kc at *
          omega
        have s0 := a10.1 k hk eK
        have c20 : σx.1 20 (ph_kc K od k) = pI (od k) := by rw [(a9 (ph_kc K od k) (by omega)).1, s0]
        have c13 : σx.1 13 (od k) = pI (kd (od k)) := by rw [a1 13 (by decide) (by decide)]; exact x13 _ hok
        show pj (f_Pg_listSteps_82b _ _ _) _ Q
        unfold f_Pg_listSteps_82b f_Pg_listSteps_134
        rw [a7b, if_neg (fun z => by have := (pI_le (by omega) (by omega)).mp z; omega), pI_nat (by omega), c20, pI_nat (by omega), c13, if_pos ((pI_in (by omega)).mpr (by omega)), if_pos ((pI_in (by omega)).mpr (by omega)), nadd_1, Bool.true_and, ← ek]
        by_cases h18 : kd (od k) = 18
        · rw [eK, Bool.true_and, decide_eq_true h18, if_pos rfl] at dc1
          have h11 : ∀ a b, (pv_uI σx 20 a b).1 11 1 = pI (ph_kc K od n + ph_dc K kd od k) := fun _ _ => a7
          rw [if_pos (show pI (kd (od k)) = 18 by rw [h18]; rfl), if_pos ((pI_in (by omega)).mpr (by omega)), a7, if_pos ((pI_in (by omega)).mpr (by omega)), pI_nat (by omega), h11, nadd_1, decide_eq_true h18, if_pos rfl]
          refine ih (k + 1) fx fm _ _ (fun t => if t = ph_kc K od n + ph_dc K kd od k then od k else sm t) (by omega) (by omega) (by omega) (fun c h1 h2 => ?_) a2 (fun j h1 h2 => ?_) (fun c h1 h2 h3 => ?_) a5 (fun j h1 => ?_) ?_ ?_ ?_ (fun t ht => ?_) ⟨fun k' hk' hK => ?_, fun k' hk' hK => ?_⟩
          · rw [← a1 c h1 h2]; funext j; rw [uI1n h1, uI1n h2]
          · rw [← a3 j h1 h2, uI1c, if_neg h1, uI1n (by decide)]
          · rw [← a4 c h1 h2 h3]; funext j; rw [uI1n h1, uI1n h3, uI1n h2]
          · rw [← a6 j h1, uI1c, if_neg h1, uI1n (by decide), uI1n (by decide)]
          · rw [uI1c, if_pos rfl, dc1]; rfl
          · rw [uI1c, if_neg (by decide), uI1n (by decide)]; exact a7b
          · rw [uI1c, if_pos rfl, dc1]; rfl
          · rw [dc1] at ht
            rw [uI1n (by decide), uI1c, uI1n (by decide), uI1n (by decide), uI1c, uI1n (by decide), uI1c]
            by_cases e : t = ph_kc K od n + ph_dc K kd od k
            · simp only [if_pos e]
              rw [decide_eq_true (by omega)]
              exact ⟨trivial, trivial, rfl⟩
            · simp only [if_neg e]
              obtain ⟨b1, b2, b3⟩ := a9 t (by omega)
              refine ⟨b1, b2, ?_⟩
              rw [uI1n (by decide)]
              exact b3
          · have l2 : ph_kc K od k' < ph_kc K od n := by
              have := ph_up (fun k => K (od k)) (show k' + 1 ≤ n by omega)
              have e2 : ph_kc K od (k' + 1) = ph_kc K od k' + 1 := by rw [ph_kc1, hK, if_pos rfl]
              unfold ph_kc at *
              omega
            exact (if_neg (by omega)).trans (a10.1 k' hk' hK)
          · by_cases e : k' = k
            · subst e; exact if_pos rfl
            · have l2 : ph_dc K kd od k' < ph_dc K kd od k := by
                have := ph_up (fun k => K (od k) && decide (kd (od k) = 18)) (show k' + 1 ≤ k by omega)
                have e2 : ph_dc K kd od (k' + 1) = ph_dc K kd od k' + 1 := by rw [ph_dc1, hK, if_pos rfl]
                unfold ph_dc at *
                omega
              exact (if_neg (by omega)).trans (a10.2 k' (by omega) hK)
        · rw [eK, Bool.true_and, decide_eq_false h18, if_neg (by decide), Nat.add_zero] at dc1
          rw [if_neg (show ¬ pI (kd (od k)) = 18 from fun z => h18 ((neq_18 (by omega)).mp z)), decide_eq_false h18, if_neg (by decide)]
          refine ih (k + 1) fx fm σx σm sm (by omega) (by omega) (by omega) a1 a2 a3 a4 a5 a6 (by rw [dc1]; exact a7) a7b (by rw [dc1]; exact a8) (by rw [dc1]; exact a9) ⟨a10.1, fun k' hk' hK => ?_⟩
          by_cases e : k' = k
          · subst e
            rw [decide_eq_false h18, Bool.and_false] at hK
            cases hK
          · exact a10.2 k' (by omega) hK
  have := key n 0 fx fm σx0 σm0 sm0 (by omega) hfx hfm a1 a2 a3 a4 a5 a6 a7 a7b a8 (fun t ht => by
    have ht : t < ph_kc K od n := ht
    obtain ⟨b1, b2, b3⟩ := a9 t ht
    refine ⟨b1, b2, ?_⟩
    rw [b3, decide_eq_false (by omega)]
    rfl) a10
  exact this
