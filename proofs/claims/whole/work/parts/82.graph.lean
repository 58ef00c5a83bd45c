/-! Ways along cords; sets that grow. -/
def pg_W (E : Nat → Nat → Bool) : Nat → Nat → Nat → Bool
  | 0, s, m => E s m
  | k + 1, s, m => pg_W E k s m || (pg_W E k s k && pg_W E k k m)
theorem pg_W1 {E : Nat → Nat → Bool} {k s m : Nat} : pg_W E (k + 1) s m = true ↔ pg_W E k s m = true ∨ (pg_W E k s k = true ∧ pg_W E k k m = true) := by
  show (pg_W E k s m || (pg_W E k s k && pg_W E k k m)) = true ↔ _
  rw [Bool.or_eq_true, Bool.and_eq_true]
theorem pg_WE {E : Nat → Nat → Bool} {s m : Nat} (h : E s m = true) : ∀ k, pg_W E k s m = true := by
  intro k
  induction k with
  | zero => exact h
  | succ k ih => exact pg_W1.mpr (Or.inl ih)
theorem pg_Wt {E : Nat → Nat → Bool} : ∀ {k s t m : Nat}, t < k → pg_W E k s t = true → pg_W E k t m = true → pg_W E k s m = true := by
  intro k
  induction k with
  | zero => intro s t m h; omega
  | succ k ih =>
    intro s t m ht h1 h2
    rw [pg_W1] at *
    by_cases e : t = k
    · subst e
      have a : pg_W E t s t = true := by rcases h1 with h | h; exact h; exact h.1
      have b : pg_W E t t m = true := by rcases h2 with h | h; exact h; exact h.2
      exact Or.inr ⟨a, b⟩
    · have ht : t < k := by omega
      rcases h1 with h1 | ⟨h1, h1'⟩ <;> rcases h2 with h2 | ⟨h2, h2'⟩
      · exact Or.inl (ih ht h1 h2)
      · exact Or.inr ⟨ih ht h1 h2, h2'⟩
      · exact Or.inr ⟨h1, ih ht h1' h2⟩
      · exact Or.inr ⟨h1, h2'⟩
/-- what ways along cords are: anything that holds along cords and goes on along cords -/
theorem pg_Ws {E : Nat → Nat → Bool} {n : Nat} {P : Nat → Nat → Prop} (h0 : ∀ s m, s < n → m < n → E s m = true → P s m) (ht : ∀ s t m, s < n → t < n → m < n → P s t → P t m → P s m) : ∀ {k s m : Nat}, k ≤ n → s < n → m < n → pg_W E k s m = true → P s m := by
  intro k
  induction k with
  | zero => intro s m _ hs hm h; exact h0 s m hs hm h
  | succ k ih =>
    intro s m hk hs hm h
    rcases pg_W1.mp h with h | ⟨h1, h2⟩
    · exact ih (by omega) hs hm h
    · exact ht s k m hs (by omega) hm (ih (by omega) hs (by omega) h1) (ih (by omega) (by omega) hm h2)
def pcnt (p : Nat → Bool) : Nat → Nat
  | 0 => 0
  | n + 1 => pcnt p n + (if p n = true then 1 else 0)
theorem pcnt_le (p : Nat → Bool) : ∀ n, pcnt p n ≤ n := by
  intro n
  induction n with
  | zero => exact Nat.le_refl _
  | succ n ih =>
    show pcnt p n + (if p n = true then 1 else 0) ≤ n + 1
    by_cases h : p n = true
    · rw [if_pos h]; omega
    · rw [if_neg h]; omega
theorem pcnt_mono {p q : Nat → Bool} : ∀ {n : Nat}, (∀ i, i < n → p i = true → q i = true) → pcnt p n ≤ pcnt q n := by
  intro n
  induction n with
  | zero => intro _; exact Nat.le_refl _
  | succ n ih =>
    intro h
    have := ih (fun i hi => h i (by omega))
    show pcnt p n + (if p n = true then 1 else 0) ≤ pcnt q n + (if q n = true then 1 else 0)
    by_cases hp : p n = true
    · rw [if_pos hp, if_pos (h n (by omega) hp)]; omega
    · rw [if_neg hp]; omega
theorem pcnt_lt {p q : Nat → Bool} : ∀ {n : Nat}, (∀ i, i < n → p i = true → q i = true) → (∃ i, i < n ∧ q i = true ∧ p i = false) → pcnt p n < pcnt q n := by
  intro n
  induction n with
  | zero => rintro _ ⟨i, hi, _⟩; omega
  | succ n ih =>
    rintro h ⟨i, hi, h1, h2⟩
    show pcnt p n + (if p n = true then 1 else 0) < pcnt q n + (if q n = true then 1 else 0)
    by_cases e : i = n
    · subst e
      have := pcnt_mono (fun j hj => h j (Nat.lt_succ_of_lt hj))
      rw [if_pos h1, if_neg (by rw [h2]; decide)]
      omega
    · have := ih (fun j hj => h j (by omega)) ⟨i, by omega, h1, h2⟩
      by_cases hp : p n = true
      · rw [if_pos hp, if_pos (h n (by omega) hp)]; omega
      · rw [if_neg hp]; omega
theorem pcnt_pos {p : Nat → Bool} {n i : Nat} (hi : i < n) (h : p i = true) : 1 ≤ pcnt p n := by
  have := pcnt_lt (p := fun _ => false) (q := p) (n := n) (fun _ _ h => by cases h) ⟨i, hi, h, rfl⟩
  omega
/-- a chain of growing sets stands still in time -/
theorem pg_stab {n : Nat} {S : Nat → Nat → Bool} (hm : ∀ k i, i < n → S k i = true → S (k + 1) i = true) (hd : ∀ k, (∀ i, i < n → S (k + 1) i = S k i) → ∀ i, i < n → S (k + 2) i = S (k + 1) i) {k : Nat} (hk : n ≤ pcnt (S 0) n + k) : ∀ i, i < n → S (k + 1) i = S k i := by
  have st : ∀ k, (∀ i, i < n → S (k + 1) i = S k i) ∨ pcnt (S k) n < pcnt (S (k + 1)) n := by
    intro k
    by_cases h : ∀ i, i < n → S (k + 1) i = S k i
    · exact Or.inl h
    · refine Or.inr (pcnt_lt (hm k) ?_)
      refine Classical.byContradiction fun z => h (fun i hi => ?_)
      cases a : S k i with
      | true => exact hm k i hi a
      | false =>
        cases b : S (k + 1) i with
        | false => rfl
        | true => exact absurd ⟨i, hi, b, a⟩ z
  have key : ∀ k, (∀ i, i < n → S (k + 1) i = S k i) ∨ pcnt (S 0) n + k + 1 ≤ pcnt (S (k + 1)) n := by
    intro k
    induction k with
    | zero =>
      rcases st 0 with h | h
      · exact Or.inl h
      · exact Or.inr (by omega)
    | succ k ih =>
      rcases ih with h | h
      · exact Or.inl (hd k h)
      · rcases st (k + 1) with g | g
        · exact Or.inl g
        · exact Or.inr (by omega)
  rcases key k with h | h
  · exact h
  · have := pcnt_le (S (k + 1)) n
    omega
/-- without loops one of those that wait has none that it waits for -/
theorem pg_ready {E : Nat → Nat → Bool} {n : Nat} (ac : ∀ m, m < n → pg_W E n m m = false) {U : Nat → Bool} : ∀ (c m : Nat), pcnt (fun s => pg_W E n s m) n ≤ c → m < n → U m = true → ∃ m, m < n ∧ U m = true ∧ ∀ s, s < n → E s m = true → U s = false := by
  intro c
  induction c with
  | zero =>
    intro m hc hm hU
    refine ⟨m, hm, hU, fun s hs he => ?_⟩
    have := pcnt_pos (p := fun s => pg_W E n s m) hs (pg_WE he n)
    omega
  | succ c ih =>
    intro m hc hm hU
    by_cases h : ∀ s, s < n → E s m = true → U s = false
    · exact ⟨m, hm, hU, h⟩
    · obtain ⟨s, hs, he, hu⟩ : ∃ s, s < n ∧ E s m = true ∧ U s = true := by
        refine Classical.byContradiction fun z => h (fun s hs he => ?_)
        cases a : U s with
        | false => rfl
        | true => exact absurd ⟨s, hs, he, a⟩ z
      refine ih s ?_ hs hu
      have := pcnt_lt (p := fun t => pg_W E n t s) (q := fun t => pg_W E n t m) (n := n) (fun t ht h => pg_Wt hs h (pg_WE he n)) ⟨s, hs, pg_WE he n, ac s hs⟩
      omega
/-- who is met from m, step by step, is who lies behind a way from m -/
theorem pg_meet {E : Nat → Nat → Bool} {n : Nat} {m : Nat} (hm : m < n) {S : Nat → Nat → Bool} (h0 : ∀ t, t < n → S 0 t = E m t) (h1 : ∀ k t, t < n → (S (k + 1) t = true ↔ S k t = true ∨ ∃ s, s < n ∧ S k s = true ∧ E s t = true)) {k : Nat} (hk : n ≤ k) : ∀ t, t < n → (S k t = true ↔ pg_W E n m t = true) := by
  have up : ∀ k i, i < n → S k i = true → S (k + 1) i = true := fun k i hi h => (h1 k i hi).mpr (Or.inl h)
  have st := pg_stab (S := S) (n := n) up (fun k h i hi => by
    have e : ∀ (a b : Bool), (a = true ↔ b = true) → a = b := by intro a b; cases a <;> cases b <;> simp
    refine e _ _ ⟨fun z => ?_, fun z => up (k + 1) i hi z⟩
    rcases (h1 (k + 1) i hi).mp z with z | ⟨s, hs, z, z2⟩
    · exact z
    · rw [h s hs] at z
      exact (h1 k i hi).mpr (Or.inr ⟨s, hs, z, z2⟩)) (k := k) (by omega)
  have sound : ∀ k t, t < n → S k t = true → pg_W E n m t = true := by
    intro k
    induction k with
    | zero => intro t ht h; rw [h0 t ht] at h; exact pg_WE h n
    | succ k ih =>
      intro t ht h
      rcases (h1 k t ht).mp h with z | ⟨s, hs, z, z2⟩
      · exact ih t ht z
      · exact pg_Wt hs (ih s hs z) (pg_WE z2 n)
  have base : ∀ k t, t < n → E m t = true → S k t = true := by
    intro k
    induction k with
    | zero => intro t ht h; rw [h0 t ht]; exact h
    | succ k ih => intro t ht h; exact up k t ht (ih t ht h)
  have closed : ∀ s t, s < n → t < n → S k s = true → E s t = true → S k t = true := by
    intro s t hs ht a b
    rw [← st t ht]
    exact (h1 k t ht).mpr (Or.inr ⟨s, hs, a, b⟩)
  intro t ht
  refine ⟨sound k t ht, fun h => ?_⟩
  have := pg_Ws (E := E) (n := n) (P := fun s t => (s = m → S k t = true) ∧ (S k s = true → S k t = true)) (fun s t hs ht he => ⟨fun e => base k t ht (by rw [← e]; exact he), fun a => closed s t hs ht a he⟩) (fun s t u hs ht hu a b => ⟨fun e => b.2 (a.1 e), fun z => b.2 (a.2 z)⟩) (Nat.le_refl n) hm ht h
  exact this.1 rfl
