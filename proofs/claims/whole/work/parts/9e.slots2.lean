/-! Slots: both sides in step. -/
theorem pr_occ (sl : Nat → Nat) : ∀ (i N : Nat), pcnt (fun s => pany (fun e => decide (sl e = s)) i) N ≤ i := by
  intro i
  induction i with
  | zero =>
    intro N
    induction N with
    | zero => exact Nat.le_refl _
    | succ N ih =>
      show pcnt _ N + (if false = true then 1 else 0) ≤ 0
      rw [if_neg (by decide)]
      exact ih
  | succ i ih =>
    intro N
    have := ih N
    have st : ∀ N, pcnt (fun s => pany (fun e => decide (sl e = s)) (i + 1)) N ≤ pcnt (fun s => pany (fun e => decide (sl e = s)) i) N + (if sl i < N then 1 else 0) := by
      intro N
      induction N with
      | zero => exact Nat.zero_le _
      | succ N ih2 =>
        show pcnt (fun s => pany (fun e => decide (sl e = s)) (i + 1)) N + (if (pany (fun e => decide (sl e = N)) i || decide (sl i = N)) = true then 1 else 0) ≤ pcnt (fun s => pany (fun e => decide (sl e = s)) i) N + (if pany (fun e => decide (sl e = N)) i = true then 1 else 0) + (if sl i < N + 1 then 1 else 0)
        by_cases h : pany (fun e => decide (sl e = N)) i = true
        · rw [h, Bool.true_or, if_pos rfl]
          by_cases h2 : sl i < N
          · rw [if_pos h2] at ih2
            rw [if_pos (show sl i < N + 1 by omega)]
            omega
          · rw [if_neg h2] at ih2
            omega
        · have h : pany (fun e => decide (sl e = N)) i = false := by simpa using h
          rw [h, Bool.false_or]
          by_cases h2 : sl i = N
          · rw [decide_eq_true h2, if_pos rfl, if_pos (show sl i < N + 1 by omega)]
            rw [if_neg (show ¬ sl i < N by omega)] at ih2
            simp
            omega
          · rw [decide_eq_false h2]
            by_cases h3 : sl i < N
            · rw [if_pos h3] at ih2
              rw [if_pos (show sl i < N + 1 by omega)]
              simp
              omega
            · rw [if_neg h3] at ih2
              rw [if_neg (show ¬ sl i < N + 1 by omega)]
              simp
              omega
    have := st N
    by_cases h : sl i < N
    · rw [if_pos h] at this; omega
    · rw [if_neg h] at this; omega
theorem pr_free {fp : Nat} {kd : Nat → Nat} {S : Nat → Option Nat} {sm : Nat → Nat} {sc : Nat} {o : Option Nat} {sl : Nat → Nat} {i : Nat} (hi : i < 24) : ∃ s, pfst (fun s => !pr_full fp kd S sm sc o sl i s) 24 = some s ∧ s ≤ i := by
  obtain ⟨s, hs, h⟩ : ∃ s, s < i + 1 ∧ pr_full fp kd S sm sc o sl i s = false := by
    refine Classical.byContradiction fun z => ?_
    have all : ∀ s, s < i + 1 → pany (fun e => decide (sl e = s)) i = true := by
      intro s hs
      cases e : pr_full fp kd S sm sc o sl i s with
      | false => exact absurd ⟨s, hs, e⟩ z
      | true =>
        obtain ⟨e, he, h⟩ := pany_true.mp e
        rw [Bool.and_eq_true] at h
        exact pany_true.mpr ⟨e, he, h.1⟩
    have h1 := pcnt_all (p := fun s => pany (fun e => decide (sl e = s)) i) all
    have h2 := pr_occ sl i (i + 1)
    omega
  cases e : pfst (fun s => !pr_full fp kd S sm sc o sl i s) 24 with
  | none =>
    have := pfst_none.mp e s (by omega)
    rw [h] at this
    cases this
  | some k =>
    refine ⟨k, rfl, ?_⟩
    obtain ⟨_, _, k3⟩ := pfst_some.mp e
    refine Classical.byContradiction fun z => ?_
    have := k3 s (by omega)
    rw [h] at this
    cases this
theorem pr_least {σ : pv_S} {F : Nat → Bool} {i s : Nat} (h24 : ∀ s, s < 24 → (pI i < σ.1 24 s ↔ F s = true)) (hs : pfst (fun s => !F s) 24 = some s) : f_Pg_leastFreeSlot σ (pI i) = some (pI s, σ) := by
  obtain ⟨k1, k2, k3⟩ := pfst_some.mp hs
  have e23 : (24 : Int32) - (1 : Int32) = pI 23 := by decide
  have key := up_0 (N := 23) (P := fun fu t => t ≤ s → f_Pg_leastFreeSlot_2 fu σ (pI i) (pI t) = some (pI s, σ)) ?_ ?_ (i := 0) (by omega) (by omega)
  · exact key (by omega)
  · intro fu ht
    have : s = 23 := by omega
    subst this
    show f_Pg_leastFreeSlot_2b _ _ _ _ = _
    unfold f_Pg_leastFreeSlot_2b
    rw [e23, if_pos ((pI_le (by omega) (by omega)).mpr (by omega))]
  · intro fu t ht ih hts
    show f_Pg_leastFreeSlot_2b _ _ _ _ = _
    unfold f_Pg_leastFreeSlot_2b
    rw [e23, if_neg (fun z => by have := (pI_le (by omega) (by omega)).mp z; omega), pI_nat (by omega), if_pos ((pI_in (by omega)).mpr (by omega)), nadd_1]
    by_cases e : t = s
    · subst e
      rw [if_neg (fun z => by rw [h24 t (by omega)] at z; rw [z] at k2; cases k2)]
    · have := k3 t (by omega)
      rw [if_pos ((h24 t (by omega)).mpr (by simpa using this))]
      exact ih (by omega)
def pr_mx (sl : Nat → Nat) : Nat → Nat
  | 0 => 0
  | i + 1 => if pr_mx sl i < sl i + 1 then sl i + 1 else pr_mx sl i
theorem pr_mxb {sl : Nat → Nat} : ∀ {i : Nat}, (∀ e, e < i → sl e < 24) → pr_mx sl i ≤ 24 := by
  intro i
  induction i with
  | zero => intro _; exact Nat.zero_le _
  | succ i ih =>
    intro h
    have h1 := ih (fun e he => h e (by omega))
    have h2 := h i (by omega)
    show (if pr_mx sl i < sl i + 1 then sl i + 1 else pr_mx sl i) ≤ 24
    by_cases c : pr_mx sl i < sl i + 1
    · rw [if_pos c]; omega
    · rw [if_neg c]; exact h1
/-- the puts have no slots -/
theorem pr_tail {σ : pv_S} {n : Nat} {kd cn : Nat → Nat} {S : Nat → Option Nat} {fp sc : Nat} {sm : Nat → Nat} {o : Option Nat} (B : pr_B n kd cn S fp sc sm) (M : pr_M σ n kd S fp sc sm o) : ∀ (d i fu : Nat) (g : Nat → Int32), i + d = sc → d < fu → fp ≤ i → (∀ t, fp ≤ t → t < i → g t = -1) → ∃ g', f_Md_layOut_107 fu (pv_rI σ 20 g) (pI i) = some (pv_rI σ 20 g') ∧ (∀ t, t < fp → g' t = g t) ∧ ∀ t, fp ≤ t → t < sc → g' t = -1 := by
  obtain ⟨b1, b2, b2', b3, b4, b5, b6, b7, b8⟩ := id B
  obtain ⟨m1, m2, m3, m4, m5, m6⟩ := id M
  intro d
  induction d with
  | zero =>
    intro i fu g e hf h1 hg
    obtain ⟨fu, rfl⟩ : ∃ k, fu = k + 1 := ⟨fu - 1, by omega⟩
    have e28 : (pv_rI σ 20 g).1 0 28 = pI sc := m4
    refine ⟨g, ?_, fun _ _ => rfl, fun t h2 h3 => hg t h2 (by omega)⟩
    show f_Md_layOut_107b _ _ _ = _
    unfold f_Md_layOut_107b
    rw [e28, if_pos ((pI_le (by omega) (by omega)).mpr (by omega))]
  | succ d ih =>
    intro i fu g e hf h1 hg
    obtain ⟨fu, rfl⟩ : ∃ k, fu = k + 1 := ⟨fu - 1, by omega⟩
    have e28 : (pv_rI σ 20 g).1 0 28 = pI sc := m4
    have e19 : (pv_rI σ 20 g).1 19 i = 1 := by
      show σ.1 19 i = 1
      rw [(m5 i (by omega)).2, decide_eq_true h1]
      rfl
    have nl : ¬ pI sc ≤ pI i := fun z => by have := (pI_le (by omega) (by omega)).mp z; omega
    have go : f_Md_layOut_107 (fu + 1) (pv_rI σ 20 g) (pI i) = f_Md_layOut_107 fu (pv_rI σ 20 (upd g i (-1))) (pI (i + 1)) := by
      show f_Md_layOut_107b _ _ _ = _
      unfold f_Md_layOut_107b
      rw [e28, if_neg nl]
      show f_Md_layOut_117b _ _ _ _ _ = _
      unfold f_Md_layOut_117b f_Md_layOut_141 f_Md_layOut_160
      rw [pI_nat (by omega), e19, if_neg (show ¬ (1 : Int32) = 0 by decide), if_neg (show ¬ (1 : Int32) = 0 by decide), if_pos ((pI_in (by omega)).mpr (by omega)), if_pos ((pI_in (by omega)).mpr (by omega)), if_pos ((pI_in (by omega)).mpr (by omega)), rIu, nadd_1]
    rw [go]
    obtain ⟨g', g1, g2, g3⟩ := ih (i + 1) fu (upd g i (-1)) (by omega) (by omega) (by omega) (fun t h2 h3 => by
      unfold upd
      by_cases e : t = i
      · rw [if_pos e]
      · rw [if_neg e]; exact hg t h2 (by omega))
    refine ⟨g', g1, fun t ht => ?_, g3⟩
    rw [g2 t ht]
    unfold upd
    rw [if_neg (by omega)]
theorem pr_slots {σx σm : pv_S} {n : Nat} {kd cn : Nat → Nat} {S : Nat → Option Nat} {fp sc : Nat} {sm : Nat → Nat} {o : Option Nat} (n1 : 1 ≤ n) (B : pr_B n kd cn S fp sc sm) (X : pr_X σx n kd S fp sc sm) (M : pr_M σm n kd S fp sc sm o) (Ms : ∀ g, pr_M (pv_rI σm 20 g) n kd S fp sc sm o) (ho : ∀ t, o = some t → t < n) (inj : ∀ t t', t < fp → t' < fp → sm t = sm t' → t = t') (x23 : ∀ m, m < n → σx.1 23 m = oI (pr_L fp kd S sm sc o m)) : pj (f_Pg_giveSlots σx) (f_Md_layOut_107 pv_fu σm 0) (fun a b => (∀ c, c ≠ 11 → c ≠ 22 → c ≠ 24 → a.1 c = σx.1 c) ∧ (∀ k, k ≠ 4 → a.1 11 k = σx.1 11 k) ∧ a.2 = σx.2 ∧ ∃ g sl, b = pv_rI σm 20 g ∧ (∀ t, t < fp → sl t < 24 ∧ a.1 22 (sm t) = pI (sl t) ∧ g t = pI (sl t)) ∧ (∀ t, fp ≤ t → t < sc → g t = -1) ∧ a.1 11 4 = pI (pr_mx sl fp)) := by
  obtain ⟨b1, b2, b2', b3, b4, b5, b6, b7, b8⟩ := id B
  obtain ⟨x1, x2, x3, x4, x5⟩ := id X
  have key : ∀ (d i fu : Nat) (σ : pv_S) (g : Nat → Int32) (sl : Nat → Nat), i + d = fp → d + (sc - fp) < fu → (∀ c, c ≠ 11 → c ≠ 22 → c ≠ 24 → σ.1 c = σx.1 c) → (∀ k, k ≠ 4 → σ.1 11 k = σx.1 11 k) → σ.2 = σx.2 → (∀ t, t < i → sl t < 24 ∧ σ.1 22 (sm t) = pI (sl t) ∧ g t = pI (sl t)) → (∀ s i', s < 24 → i ≤ i' → i' < sc → (pI i' < σ.1 24 s ↔ pany (fun e => decide (sl e = s) && pr_w fp kd S sm sc o (sm e) i') i = true)) → σ.1 11 4 = pI (pr_mx sl i) → pj (f_Pg_giveSlots_15 fu σ (pI i)) (f_Md_layOut_107 fu (pv_rI σm 20 g) (pI i)) (fun a b => (∀ c, c ≠ 11 → c ≠ 22 → c ≠ 24 → a.1 c = σx.1 c) ∧ (∀ k, k ≠ 4 → a.1 11 k = σx.1 11 k) ∧ a.2 = σx.2 ∧ ∃ g sl, b = pv_rI σm 20 g ∧ (∀ t, t < fp → sl t < 24 ∧ a.1 22 (sm t) = pI (sl t) ∧ g t = pI (sl t)) ∧ (∀ t, fp ≤ t → t < sc → g t = -1) ∧ a.1 11 4 = pI (pr_mx sl fp)) := by
    intro d
    induction d with
    | zero =>
      intro i fu σ g sl e hf a1 a2 a3 a4 a5 a6
      have : i = fp := by omega
      subst this
      obtain ⟨g', g1, g2, g3⟩ := pr_tail B M (sc - i) i fu g (by omega) (by omega) (by omega) (fun t h1 h2 => absurd h2 (by omega))
      obtain ⟨fu, rfl⟩ : ∃ k, fu = k + 1 := ⟨fu - 1, by omega⟩
      refine ⟨σ, _, ?_, g1, a1, a2, a3, g', sl, rfl, fun t ht => ?_, g3, a6⟩
      · show f_Pg_giveSlots_15b _ _ _ = _
        unfold f_Pg_giveSlots_15b
        rw [a2 2 (by decide), x4, if_pos ((pI_le (by omega) (by omega)).mpr (by omega))]
      · rw [g2 t ht]; exact a4 t ht
    | succ d ih =>
      intro i fu σ g sl e hf a1 a2 a3 a4 a5 a6
      obtain ⟨fu, rfl⟩ : ∃ k, fu = k + 1 := ⟨fu - 1, by omega⟩
      have hifp : i < fp := by omega
      have hn := b4 i (by omega)
      obtain ⟨s, hs, hsi⟩ := pr_free (fp := fp) (kd := kd) (S := S) (sm := sm) (sc := sc) (o := o) (sl := sl) (i := i) (by omega)
      obtain ⟨k1, k2, k3⟩ := pfst_some.mp hs
      have L := pr_least (σ := σ) (F := pr_full fp kd S sm sc o sl i) (fun s hs => a5 s i hs (Nat.le_refl _) (by omega)) hs
      -- the reference
      have em : f_Md_layOut_107 (fu + 1) (pv_rI σm 20 g) (pI i) = f_Md_layOut_107 fu (pv_rI σm 20 (upd g i (pI s))) (pI (i + 1)) := by
        have M' := Ms g
        have nl : ¬ pI sc ≤ pI i := fun z => by have := (pI_le (by omega) (by omega)).mp z; omega
        have e19 : (pv_rI σm 20 g).1 19 i = 0 := by
          rw [(M'.2.2.2.2.1 i (by omega)).2, decide_eq_false (by omega)]
          rfl
        show f_Md_layOut_107b _ _ _ = _
        unfold f_Md_layOut_107b
        rw [M'.2.2.2.1, if_neg nl]
        have key3 := up_0 (N := s) (P := fun fu' t => f_Md_layOut_117 (f_Md_layOut_107 fu) fu' (pv_rI σm 20 g) (pI i) (pI t) = f_Md_layOut_107 fu (pv_rI σm 20 (upd g i (pI s))) (pI (i + 1))) ?_ ?_ (i := 0) (by omega) (by omega)
        · exact key3
        · intro fu'
          have F := pr_isFull (s := s) n1 B M' ho hifp (by omega) (fun e he => ⟨(a4 e he).2.2, (a4 e he).1⟩)
          show f_Md_layOut_117b _ _ _ _ _ = _
          unfold f_Md_layOut_117b f_Md_layOut_141 f_Md_layOut_160
          rw [pI_nat (by omega), e19, if_pos ((pI_in (by omega)).mpr (by omega)), if_pos rfl, F, Option.bind_some]
          simp only [b2i_0]
          rw [if_pos (by simpa using k2), if_pos ((pI_in (by omega)).mpr (by omega)), e19, if_pos rfl, if_pos ((pI_in (by omega)).mpr (by omega)), rIu, nadd_1]
        · intro fu' t ht ih3
          have F := pr_isFull (s := t) n1 B M' ho hifp (by omega) (fun e he => ⟨(a4 e he).2.2, (a4 e he).1⟩)
          have kt := k3 t ht
          show f_Md_layOut_117b _ _ _ _ _ = _
          unfold f_Md_layOut_117b
          rw [pI_nat (by omega), e19, if_pos ((pI_in (by omega)).mpr (by omega)), if_pos rfl, F, Option.bind_some, nadd_1]
          simp only [b2i_0]
          rw [if_neg (by simp at kt; rw [kt]; decide)]
          exact ih3
      rw [em]
      show pj (f_Pg_giveSlots_15b _ _ _) _ _
      unfold f_Pg_giveSlots_15b
      have nl : ¬ pI fp ≤ pI i := fun z => by have := (pI_le (by omega) (by omega)).mp z; omega
      have e20 : σ.1 20 i = pI (sm i) := by rw [a1 20 (by decide) (by decide) (by decide)]; exact x5 i (by omega)
      have e23 : ∀ x, (pv_uI σ 22 (sm i) x).1 23 (sm i) = oI (pr_L fp kd S sm sc o (sm i)) := fun x => by
        show σ.1 23 (sm i) = _
        rw [a1 23 (by decide) (by decide) (by decide)]
        exact x23 _ hn
      have e22 : (pv_uI σ 22 (sm i) (pI s)).1 22 (sm i) = pI s := by rw [uI1c, if_pos rfl]
      have e22' : ∀ y, (pv_uI (pv_uI σ 22 (sm i) (pI s)) 24 s y).1 22 (sm i) = pI s := fun y => by rw [uI1n (by decide), e22]
      have e114 : ∀ y, (pv_uI (pv_uI σ 22 (sm i) (pI s)) 24 s y).1 11 4 = pI (pr_mx sl i) := fun y => a6
      have hmx := pr_mxb (sl := sl) (i := i) (fun e he => (a4 e he).1)
      rw [a2 2 (by decide), x4, if_neg nl, if_pos ((pI_in (by omega)).mpr (by omega)), L, Option.bind_some]
      simp only []
      rw [pI_nat (by omega), e20, pI_nat (by omega), e22, pI_nat (by omega), e23, e22', e114, nadd_1, nadd_1, if_pos ((pI_in (by omega)).mpr (by omega)), if_pos ((pI_in (by omega)).mpr (by omega)), if_pos ((pI_in (by omega)).mpr (by omega)), if_pos ((pI_in (by omega)).mpr (by omega)), if_pos ((pI_in (by omega)).mpr (by omega))]
      have nosl : ∀ e, e < i → sm e ≠ sm i := fun e he z => by have := inj e i (by omega) hifp z; omega
      refine ih (i + 1) fu _ _ (fun t => if t = i then s else sl t) (by omega) (by omega) (fun c h1 h2 h3 => ?_) (fun k hk => ?_) a3 (fun t ht => ?_) (fun s' i' hs' hi' hi2 => ?_) ?_
      · rw [← a1 c h1 h2 h3]; funext j; rw [uI1n h1, uI1n h3, uI1n h2]
      · rw [← a2 k hk, uI1c, if_neg hk, uI1n (by decide), uI1n (by decide)]
      · rw [uI1n (by decide), uI1n (by decide), uI1c]
        unfold upd
        by_cases et : t = i
        · subst et
          simp only [if_true]
          exact ⟨k1, trivial, trivial⟩
        · simp only [if_neg et, if_neg (nosl t (by omega))]
          exact a4 t (by omega)
      · rw [uI1n (by decide), uI1c]
        have split : pany (fun e => decide ((if e = i then s else sl e) = s') && pr_w fp kd S sm sc o (sm e) i') (i + 1) = (pany (fun e => decide (sl e = s') && pr_w fp kd S sm sc o (sm e) i') i || (decide (s = s') && pr_w fp kd S sm sc o (sm i) i')) := by
          show (pany (fun e => decide ((if e = i then s else sl e) = s') && pr_w fp kd S sm sc o (sm e) i') i || (decide ((if i = i then s else sl i) = s') && pr_w fp kd S sm sc o (sm i) i')) = _
          rw [if_pos rfl, pany_congr (q := fun e => decide (sl e = s') && pr_w fp kd S sm sc o (sm e) i') (fun e he => by rw [if_neg (by omega)])]
        rw [split, Bool.or_eq_true]
        by_cases es : s' = s
        · subst es
          rw [if_pos rfl, decide_eq_true rfl, Bool.true_and, pr_wanted hi2 b3]
          constructor
          · exact Or.inr
          · rintro (z | z)
            · -- an elder one in this slot is not wanted any more
              obtain ⟨e, he, z⟩ := pany_true.mp z
              rw [Bool.and_eq_true] at z
              have w := pr_wmono (show i ≤ i' by omega) z.2
              have : pr_full fp kd S sm sc o sl i s' = true := pany_true.mpr ⟨e, he, by rw [z.1, w]; rfl⟩
              rw [this] at k2
              cases k2
            · exact z
        · rw [if_neg es, decide_eq_false (fun z => es z.symm), Bool.false_and]
          rw [uI1n (by decide), a5 s' i' hs' (by omega) hi2]
          constructor
          · exact Or.inl
          · rintro (z | z)
            · exact z
            · cases z
      · rw [uI1c, if_pos rfl]
        show (if pI (pr_mx sl i) < pI (s + 1) then pI (s + 1) else pI (pr_mx sl i)) = pI (if pr_mx (fun t => if t = i then s else sl t) i < (if i = i then s else sl i) + 1 then (if i = i then s else sl i) + 1 else pr_mx (fun t => if t = i then s else sl t) i)
        have emx : ∀ k, k ≤ i → pr_mx (fun t => if t = i then s else sl t) k = pr_mx sl k := by
          intro k
          induction k with
          | zero => intro _; rfl
          | succ k ihk =>
            intro hk
            show (if pr_mx (fun t => if t = i then s else sl t) k < (if k = i then s else sl k) + 1 then (if k = i then s else sl k) + 1 else pr_mx (fun t => if t = i then s else sl t) k) = (if pr_mx sl k < sl k + 1 then sl k + 1 else pr_mx sl k)
            rw [ihk (by omega), if_neg (show ¬ k = i by omega)]
        rw [emx i (Nat.le_refl _), if_pos rfl]
        by_cases c : pr_mx sl i < s + 1
        · rw [if_pos ((pI_lt (by omega) (by omega)).mpr c), if_pos c]
        · rw [if_neg (fun z => c ((pI_lt (by omega) (by omega)).mp z)), if_neg c]
  unfold f_Pg_giveSlots f_Pg_giveSlots_0
  rw [pf_24, Option.bind_some]
  have k0 := key fp 0 pv_fu (pv_uI (pv_rI σx 24 (fun k => if k < 24 then -1 else σx.1 24 k)) 11 4 0) (σm.1 20) (fun _ => 0) (by omega) (by unfold pv_fu; omega) (fun c h1 h2 h3 => by
    funext j
    rw [uI1n h1, rI1, if_neg h3]) (fun k hk => by rw [uI1c, if_neg hk, rI1, if_neg (by decide)]) rfl (fun t ht => absurd ht (by omega)) (fun s i' hs _ hi2 => by
    rw [uI1n (by decide), rI1, if_pos rfl, if_pos hs]
    constructor
    · intro z
      rw [Int32.lt_iff_toInt_lt, pI_toInt (by omega)] at z
      have e1 : (-1 : Int32).toInt = -1 := rfl
      omega
    · intro z; cases z) (by rw [uI1c, if_pos rfl]; rfl)
  rw [rI0] at k0
  exact k0
