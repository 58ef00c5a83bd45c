/-! The order of modules: both sides in step. -/
theorem rIu (σ : pv_S) (c : Nat) (f : Nat → Int32) (k : Nat) (x : Int32) : pv_uI (pv_rI σ c f) c k x = pv_rI σ c (upd f k x) := by
  refine Prod.ext ?_ rfl
  funext d
  unfold pv_uI pv_rI
  by_cases h : d = c <;> simp [h]
theorem rI0 (σ : pv_S) (c : Nat) : pv_rI σ c (σ.1 c) = σ := by
  refine Prod.ext ?_ rfl
  funext d
  unfold pv_rI
  by_cases h : d = c <;> simp [h]
theorem pcnt_all {p : Nat → Bool} : ∀ {n : Nat}, (∀ m, m < n → p m = true) → pcnt p n = n := by
  intro n
  induction n with
  | zero => intro _; rfl
  | succ n ih =>
    intro h
    show pcnt p n + (if p n = true then 1 else 0) = n + 1
    rw [ih (fun m hm => h m (by omega)), if_pos (h n (by omega))]
theorem pcnt_ex {p : Nat → Bool} {n : Nat} (h : pcnt p n < n) : ∃ m, m < n ∧ p m = false := by
  refine Classical.byContradiction fun z => ?_
  have := pcnt_all (p := p) (n := n) (fun m hm => by
    cases e : p m with
    | true => rfl
    | false => exact absurd ⟨m, hm, e⟩ z)
  omega
theorem pcnt_full {p : Nat → Bool} : ∀ {n : Nat}, pcnt p n = n → ∀ m, m < n → p m = true := by
  intro n
  induction n with
  | zero => intro _ m hm; omega
  | succ n ih =>
    intro h m hm
    have h : pcnt p n + (if p n = true then 1 else 0) = n + 1 := h
    have := pcnt_le p n
    by_cases hp : p n = true
    · rw [if_pos hp] at h
      by_cases e : m = n
      · subst e; exact hp
      · exact ih (by omega) m (by omega)
    · rw [if_neg hp] at h
      omega
theorem pcnt_add {p q : Nat → Bool} {k : Nat} : ∀ {n : Nat}, (∀ t, t < n → q t = (p t || decide (t = k))) → p k = false → pcnt q n = pcnt p n + (if k < n then 1 else 0) := by
  intro n
  induction n with
  | zero => intro _ _; rfl
  | succ n ih =>
    intro h hk
    have e := ih (fun t ht => h t (by omega)) hk
    show pcnt q n + (if q n = true then 1 else 0) = pcnt p n + (if p n = true then 1 else 0) + (if k < n + 1 then 1 else 0)
    rw [e, h n (by omega)]
    by_cases hkn : n = k
    · subst hkn
      rw [hk, if_neg (show ¬ n < n by omega), if_pos (show n < n + 1 by omega)]
      simp
    · rw [decide_eq_false hkn, Bool.or_false]
      by_cases h2 : k < n
      · rw [if_pos h2, if_pos (show k < n + 1 by omega)]; omega
      · rw [if_neg h2, if_neg (show ¬ k < n + 1 by omega)]; omega
/-- the first i places of the order -/
def po_I (n : Nat) (kd cn : Nat → Nat) (fr : Nat → Option Nat) (od : Nat → Nat) (i : Nat) (x : Int32) : Prop := (∀ k, k < i → od k < n) ∧ (∀ k k', k < i → k' < i → od k = od k' → k = k') ∧ (∀ t, t < 32 → (bI x t = true ↔ ∃ k, k < i ∧ od k = t)) ∧ (∀ k, k < i → kd (od k) ≠ 18 → ∀ j s, j < cn (od k) → fr (4 * od k + j) = some s → ∃ k', k' < k ∧ od k' = s) ∧ pcnt (bI x) n = i
theorem po_next {n : Nat} {kd cn : Nat → Nat} {fr : Nat → Option Nat} {nu : Nat → Int32} (wf : pq_WF n kd cn fr nu) {od : Nat → Nat} {i : Nat} {x : Int32} (I : po_I n kd cn fr od i x) (hi : i < n) : ∃ m, pfst (fun m => !bI x m && po_rdy kd cn fr x m) n = some m ∧ po_I n kd cn fr (fun k => if k = i then m else od k) (i + 1) (x ||| ((1 : Int32) <<< (pI m &&& 31))) := by
  obtain ⟨n1, n2, w1, w2, w3, w4, w5, w6, w7⟩ := id wf
  obtain ⟨i1, i2, i3, i4, i5⟩ := I
  obtain ⟨m0, hm0, u0⟩ := pcnt_ex (p := bI x) (n := n) (by omega)
  obtain ⟨m1, hm1, u1, r1⟩ := pg_ready (E := pt_E kd cn fr) (n := n) w7 (U := fun t => !bI x t) _ m0 (Nat.le_refl _) hm0 (by rw [u0]; rfl)
  have r1' : po_rdy kd cn fr x m1 = true := by
    unfold po_rdy
    by_cases h18 : kd m1 = 18
    · simp [h18]
    · rw [Bool.or_eq_true]
      refine Or.inr ?_
      rw [Bool.not_eq_true']
      refine pany_false.mpr (fun j hj => ?_)
      have c4 := pq_inp wf hm1
      cases e : fr (4 * m1 + j) with
      | none => rfl
      | some s =>
        have hs := (w2 (4 * m1 + j) s (by omega) e).1
        have := r1 s hs (by
          unfold pt_E
          rw [Bool.and_eq_true, decide_eq_true_eq]
          exact ⟨h18, pany_true.mpr ⟨j, hj, decide_eq_true e⟩⟩)
        simpa using this
  cases e : pfst (fun m => !bI x m && po_rdy kd cn fr x m) n with
  | none =>
    have := pfst_none.mp e m1 hm1
    rw [r1', u1] at this
    cases this
  | some m =>
    obtain ⟨k1, k2, k3⟩ := pfst_some.mp e
    rw [Bool.and_eq_true, Bool.not_eq_true'] at k2
    have o1 : ∀ k, k ≠ i → (fun k => if k = i then m else od k) k = od k := fun k h => if_neg h
    have o2 : (fun k => if k = i then m else od k) i = m := if_pos rfl
    refine ⟨m, rfl, fun k hk => ?_, fun k k' hk hk' => ?_, fun t ht => ?_, fun k hk => ?_, ?_⟩
    · by_cases h : k = i
      · simp only [h, if_true]; exact k1
      · simp only [h, if_false]; exact i1 k (by omega)
    · have nn : ∀ k, k < i → od k ≠ m := fun k hk z => by
        have := (i3 m (by omega)).mpr ⟨k, hk, z⟩
        rw [k2.1] at this
        cases this
      by_cases h : k = i <;> by_cases h' : k' = i
      · intro _; omega
      · simp only [h, h', if_true, if_false]
        intro z
        exact absurd z.symm (nn k' (by omega))
      · simp only [h, h', if_true, if_false]
        intro z
        exact absurd z (nn k (by omega))
      · simp only [h, h', if_false]
        exact i2 k k' (by omega) (by omega)
    · rw [bI_or, Bool.or_eq_true, bI_one m t (by omega) ht, decide_eq_true_eq, i3 t ht]
      constructor
      · rintro (⟨k, hk, z⟩ | z)
        · exact ⟨k, by omega, (o1 k (by omega)).trans z⟩
        · exact ⟨i, by omega, o2.trans z.symm⟩
      · rintro ⟨k, hk, z⟩
        by_cases h : k = i
        · subst h; exact Or.inr (z.symm.trans o2)
        · exact Or.inl ⟨k, by omega, (o1 k h).symm.trans z⟩
    · by_cases h : k = i
      · simp only [h, if_true]
        intro h18 j s hj hf
        have k22 := k2.2
        unfold po_rdy at k22
        rw [Bool.or_eq_true, decide_eq_true_eq, Bool.not_eq_true'] at k22
        rcases k22 with z | z
        · exact absurd z h18
        · have := pany_false.mp z j hj
          rw [hf] at this
          have hs := (w2 (4 * m + j) s (by have := pq_inp wf k1; omega) hf).1
          obtain ⟨k', hk', e'⟩ := (i3 s (by omega)).mp (by simpa using this)
          exact ⟨k', hk', (o1 k' (by omega)).trans e'⟩
      · simp only [h, if_false]
        intro h18 j s hj hf
        obtain ⟨k', hk', e'⟩ := i4 k (by omega) h18 j s hj hf
        exact ⟨k', hk', (o1 k' (by omega)).trans e'⟩
    · rw [pcnt_add (p := bI x) (q := bI (x ||| ((1 : Int32) <<< (pI m &&& 31)))) (k := m) (fun t ht => by rw [bI_or, bI_one m t (by omega) (by omega)]) k2.1, i5, if_pos k1]
theorem po_both {σx σm : pv_S} {n : Nat} {kd cn : Nat → Nat} {fr : Nat → Option Nat} {nu : Nat → Int32} (wf : pq_WF n kd cn fr nu) (hx : pq_X σx n kd) (hf : ∀ i, i < 4 * n → σx.1 14 i = oI (fr i)) (hm : pq_M σm n kd cn fr nu) : pj (f_Wr_putInOrder σx) (f_Md_arrange σm) (fun a b => ∃ od x f g, a = pv_rI σx 16 f ∧ b = pv_rI σm 13 g ∧ po_I n kd cn fr od n x ∧ ∀ k, k < n → f k = pI (od k) ∧ g k = pI (od k)) := by
  obtain ⟨n1, n2, _⟩ := id wf
  have key := up_0 (N := n) (P := fun fu i => ∀ od x f g, po_I n kd cn fr od i x → (∀ k, k < i → f k = pI (od k) ∧ g k = pI (od k)) → pj (f_Wr_putInOrder_4 fu (pv_rI σx 16 f) x (pI i)) (f_Md_arrange_4 fu (pv_rI σm 13 g) x (pI i)) (fun a b => ∃ od x f g, a = pv_rI σx 16 f ∧ b = pv_rI σm 13 g ∧ po_I n kd cn fr od n x ∧ ∀ k, k < n → f k = pI (od k) ∧ g k = pI (od k))) ?_ ?_ (i := 0) (by omega) (by omega)
  · have := key (fun _ => 0) 0 (σx.1 16) (σm.1 13) ⟨fun k hk => absurd hk (by omega), fun k k' hk => absurd hk (by omega), fun t _ => ⟨fun z => (by rw [bI_0] at z; cases z), fun ⟨k, hk, _⟩ => absurd hk (by omega)⟩, fun k hk => absurd hk (by omega), by
      have : ∀ n, pcnt (bI 0) n = 0 := by
        intro n
        induction n with
        | zero => rfl
        | succ n ih =>
          show pcnt (bI 0) n + (if bI 0 n = true then 1 else 0) = 0
          rw [ih, bI_0]
          rfl
      exact this n⟩ (fun k hk => absurd hk (by omega))
    rw [rI0, rI0] at this
    exact this
  · intro fu od x f g I hfg
    have e12 : (pv_rI σx 16 f).1 12 0 = pI n := hx.1
    have e18 : (pv_rI σm 13 g).1 0 18 = pI n := hm.1
    show pj (f_Wr_putInOrder_4b _ _ _ _) (f_Md_arrange_4b _ _ _ _) _
    unfold f_Wr_putInOrder_4b f_Md_arrange_4b
    rw [e12, e18, if_pos ((pI_le (by omega) (by omega)).mpr (by omega)), if_pos ((pI_le (by omega) (by omega)).mpr (by omega))]
    exact pj_some ⟨od, x, f, g, rfl, rfl, I, hfg⟩
  · intro fu i hi ih od x f g I hfg
    have e12 : (pv_rI σx 16 f).1 12 0 = pI n := hx.1
    have e18 : (pv_rI σm 13 g).1 0 18 = pI n := hm.1
    obtain ⟨m, hm1, I'⟩ := po_next wf I hi
    have hx' : pq_X (pv_rI σx 16 f) n kd := hx
    have hm' : pq_M (pv_rI σm 13 g) n kd cn fr nu := hm
    show pj (f_Wr_putInOrder_4b _ _ _ _) (f_Md_arrange_4b _ _ _ _) _
    unfold f_Wr_putInOrder_4b f_Md_arrange_4b
    rw [e12, e18, if_neg (fun z => by have := (pI_le (by omega) (by omega)).mp z; omega), if_neg (fun z => by have := (pI_le (by omega) (by omega)).mp z; omega), po_leastX wf hx' hf x hm1, Option.bind_some, po_leastM wf hm' x (by omega) hm1]
    simp only []
    rw [if_pos ((pI_in (by omega)).mpr (by omega)), if_pos ((pI_in (by omega)).mpr (by omega)), pI_nat (by omega), nadd_1, uI1c, if_pos rfl, rIu, rIu]
    refine ih _ _ _ _ I' (fun k hk => ?_)
    unfold upd
    by_cases h : k = i
    · simp only [h, if_true]; exact ⟨trivial, trivial⟩
    · simp only [h, if_false]; exact hfg k (by omega)
