/-! The words of the kinds, on both sides. -/
def pk_kw (p : Nat) (c : Int32) : Int32 := (List.range 20).foldl (fun x k => if pv_WORDS (3 * k + p) = c then x ||| ((1 : Int32) <<< (pI k &&& 31)) else x) 0
def pk_WD (k : Nat) : Int32 := ([6382692, 7566690, 7173484, 7170424, 7104877, 6516080, 7562604, 7040623, 7367028, 6775156, 7759212, 7561591, 7565682, 7631465, 6451063, 7237481, 6647414, 7106423, 6579564, 6843492] : List Int32).getD k 0
theorem pk_m0 : ∀ k, k < 20 → pv_m0.1 2 k = pk_WD k := by
  have h : ∀ k : Fin 20, pv_m0.1 2 k.1 = pk_WD k.1 := by decide +kernel
  exact fun k hk => h ⟨k, hk⟩
theorem pk_m0n : ∀ k, k < 20 → pv_m0.1 3 k = pv_INPUTS k := by
  have h : ∀ k : Fin 20, pv_m0.1 3 k.1 = pv_INPUTS k.1 := by decide +kernel
  exact fun k hk => h ⟨k, hk⟩
/-- withLetter in closed form -/
theorem pk_with (σ : pv_S) (p : Nat) (hp : p < 3) (c : Int32) : f_Kd_withLetter σ (pI p) c = some (pk_kw p c, σ) := by
  have key : ∀ (d i fu : Nat) (x : Int32), i + d = 20 → d < fu → f_Kd_withLetter_4 fu σ (pI p) c x (pI i) = some ((List.range' i d).foldl (fun x k => if pv_WORDS (3 * k + p) = c then x ||| ((1 : Int32) <<< (pI k &&& 31)) else x) x, σ) := by
    intro d
    induction d with
    | zero =>
      intro i fu x e hf
      obtain ⟨fu, rfl⟩ : ∃ k, fu = k + 1 := ⟨fu - 1, by omega⟩
      show f_Kd_withLetter_4b _ _ _ _ _ _ = _
      unfold f_Kd_withLetter_4b
      rw [if_pos (by rw [show (20 : Int32) = pI 20 from rfl, pI_le (by omega) (by omega)]; omega)]
      rfl
    | succ d ih =>
      intro i fu x e hf
      obtain ⟨fu, rfl⟩ : ∃ k, fu = k + 1 := ⟨fu - 1, by omega⟩
      show f_Kd_withLetter_4b _ _ _ _ _ _ = _
      unfold f_Kd_withLetter_4b f_Kd_withLetter_30
      have e3 : (3 : Int32) * pI i + pI p = pI (3 * i + p) := by rw [l_3, pI_mul, pI_add]
      rw [if_neg (by rw [show (20 : Int32) = pI 20 from rfl, pI_le (by omega) (by omega)]; omega), e3, if_pos ((pI_in (by omega)).mpr (by omega)), pI_nat (by omega), show pI i + 1 = pI (i + 1) from pI_add i 1]
      rw [List.range'_succ, List.foldl_cons]
      by_cases h : pv_WORDS (3 * i + p) = c
      · rw [if_pos h, ih _ _ _ (by omega) (by omega), if_pos h]
      · rw [if_neg h, ih _ _ _ (by omega) (by omega), if_neg h]
  unfold f_Kd_withLetter f_Kd_withLetter_0
  rw [show (0 : Int32) = pI 0 from rfl, key 20 0 pv_fu _ (by omega) (by unfold pv_fu; omega)]
  rfl
/-- is there a word that begins so? -/
def pk_is (l : Nat) (made : Int32) : Bool := (List.range 20).any fun k => decide (pk_WD k >>> (((24 : Int32) - ((8 : Int32) * pI l)) &&& 31) = made)
theorem pk_isWord (σ : pv_S) (hw : ∀ k, k < 20 → σ.1 2 k = pk_WD k) (l : Nat) (h1 : 1 ≤ l) (hl : l ≤ 3) (el : σ.1 0 12 = pI l) (x : Int32) (hx : x = 0 ∨ l = 3) : f_Md_isWord σ x = some (if pk_is l (σ.1 0 13) = true then 1 else 0, σ) := by
  have key : ∀ (d i fu : Nat) (b : Bool), i + d = 20 → d < fu → f_Md_isWord_4 fu σ x (if b = true then 1 else 0) (pI i) = some (if (b || (List.range' i d).any fun k => decide (pk_WD k >>> (((24 : Int32) - ((8 : Int32) * pI l)) &&& 31) = σ.1 0 13)) = true then 1 else 0, σ) := by
    intro d
    induction d with
    | zero =>
      intro i fu b e hf
      obtain ⟨fu, rfl⟩ : ∃ k, fu = k + 1 := ⟨fu - 1, by omega⟩
      show f_Md_isWord_4b _ _ _ _ _ = _
      unfold f_Md_isWord_4b
      rw [if_pos (by rw [show (20 : Int32) = pI 20 from rfl, pI_le (by omega) (by omega)]; omega)]
      rw [if_pos (by cases b <;> decide)]
      simp
    | succ d ih =>
      intro i fu b e hf
      obtain ⟨fu, rfl⟩ : ∃ k, fu = k + 1 := ⟨fu - 1, by omega⟩
      show f_Md_isWord_4b _ _ _ _ _ = _
      unfold f_Md_isWord_4b f_Md_isWord_58 f_Md_isWord_62 f_Md_isWord_63
      rw [if_neg (by rw [show (20 : Int32) = pI 20 from rfl, pI_le (by omega) (by omega)]; omega), el, if_neg (by rw [l_3, pI_lt (by omega) (by omega)]; omega)]
      rw [List.range'_succ, List.any_cons, pI_nat (by omega), hw i (by omega), if_pos ((pI_in (by omega)).mpr (by omega)), show pI i + 1 = pI (i + 1) from pI_add i 1]
      have hx' : ∀ (u w : Option (Int32 × pv_S)), (if x = 0 then u else if pI l = (3 : Int32) then u else w) = u := by
        intro u w
        rcases hx with h | h
        · rw [if_pos h]
        · subst h
          by_cases h0 : x = 0
          · rw [if_pos h0]
          · rw [if_neg h0, if_pos (show pI 3 = 3 from rfl)]
      rw [hx']
      have t := ih (i + 1) fu true (by omega) (by omega)
      have f := ih (i + 1) fu false (by omega) (by omega)
      cases b with
      | true =>
        have n : ¬ ((if true = true then 1 else 0 : Int32) = 0) := by decide
        rw [if_neg n]
        simpa using t
      | false =>
        have n : ((if false = true then 1 else 0 : Int32) = 0) := by decide
        rw [if_pos n]
        by_cases h : pk_WD i >>> ((24 - 8 * pI l) &&& 31) = σ.1 0 13
        · rw [if_pos h]
          rw [decide_eq_true h, Bool.false_or]
          exact t
        · rw [if_neg h]
          rw [decide_eq_false h, Bool.false_or, Bool.false_or]
          rw [Bool.false_or] at f
          exact f
  unfold f_Md_isWord f_Md_isWord_0
  have := key 20 0 pv_fu false (by omega) (by unfold pv_fu; omega)
  exact this
/-- the letters of word k -/
def pk_l (k p : Nat) : Int32 := pv_WORDS (3 * k + p)
theorem pk_F1 : ∀ c, 97 ≤ c → c ≤ 122 → (pk_is 1 (pI c) = true ↔ ¬ ((1048575 : Int32) &&& pk_kw 0 (pI c) = 0)) := by
  have h : ∀ c : Fin 26, decide (pk_is 1 (pI (97 + c.1)) = true ↔ ¬ ((1048575 : Int32) &&& pk_kw 0 (pI (97 + c.1)) = 0)) = true := by decide +kernel
  intro c h1 h2
  have := of_decide_eq_true (h ⟨c - 97, by omega⟩)
  rwa [show 97 + (c - 97) = c by omega] at this
theorem pk_F2 : ∀ c d, 97 ≤ c → c ≤ 122 → 97 ≤ d → d ≤ 122 → (pk_is 2 ((pI c <<< ((8 : Int32) &&& 31)) ||| pI d) = true ↔ ¬ (((1048575 : Int32) &&& pk_kw 0 (pI c)) &&& pk_kw 1 (pI d) = 0)) ∧ (pk_is 2 ((pI c <<< ((8 : Int32) &&& 31)) ||| pI d) = true → ∃ k, k < 20 ∧ pI c = pk_l k 0 ∧ pI d = pk_l k 1) := by
  have h : ∀ c d : Fin 26, (pk_is 2 ((pI (97 + c.1) <<< ((8 : Int32) &&& 31)) ||| pI (97 + d.1)) == !(decide (((1048575 : Int32) &&& pk_kw 0 (pI (97 + c.1))) &&& pk_kw 1 (pI (97 + d.1)) = 0)) && (!(pk_is 2 ((pI (97 + c.1) <<< ((8 : Int32) &&& 31)) ||| pI (97 + d.1))) || (List.range 20).any fun k => decide (pI (97 + c.1) = pk_l k 0) && decide (pI (97 + d.1) = pk_l k 1))) = true := by decide +kernel
  intro c d h1 h2 h3 h4
  have := h ⟨c - 97, by omega⟩ ⟨d - 97, by omega⟩
  simp only [show 97 + (c - 97) = c by omega, show 97 + (d - 97) = d by omega] at this
  generalize pk_is 2 ((pI c <<< ((8 : Int32) &&& 31)) ||| pI d) = b at this
  rw [Bool.and_eq_true] at this
  obtain ⟨t1, t2⟩ := this
  refine ⟨?_, ?_⟩
  · have := eq_of_beq t1
    rw [this]
    simp
  · intro hb
    rw [hb] at t2
    simp only [Bool.not_true, Bool.false_or, List.any_eq_true, Bool.and_eq_true, decide_eq_true_eq, List.mem_range] at t2
    obtain ⟨k, hk, e⟩ := t2
    exact ⟨k, hk, e⟩
theorem pk_F3 : ∀ k c, k < 20 → 97 ≤ c → c ≤ 122 → (pk_is 3 ((((pk_l k 0 <<< ((8 : Int32) &&& 31)) ||| pk_l k 1) <<< ((8 : Int32) &&& 31)) ||| pI c) = true ↔ ¬ ((((1048575 : Int32) &&& pk_kw 0 (pk_l k 0)) &&& pk_kw 1 (pk_l k 1)) &&& pk_kw 2 (pI c) = 0)) ∧ (pk_is 3 ((((pk_l k 0 <<< ((8 : Int32) &&& 31)) ||| pk_l k 1) <<< ((8 : Int32) &&& 31)) ||| pI c) = true → (((pk_l k 0 <<< ((8 : Int32) &&& 31)) ||| pk_l k 1) <<< ((8 : Int32) &&& 31)) ||| pI c = pk_WD k ∧ (((1048575 : Int32) &&& pk_kw 0 (pk_l k 0)) &&& pk_kw 1 (pk_l k 1)) &&& pk_kw 2 (pI c) = (1 : Int32) <<< pI k) := by
  have h : ∀ (k : Fin 20) (c : Fin 26), (pk_is 3 ((((pk_l k.1 0 <<< ((8 : Int32) &&& 31)) ||| pk_l k.1 1) <<< ((8 : Int32) &&& 31)) ||| pI (97 + c.1)) == !(decide ((((1048575 : Int32) &&& pk_kw 0 (pk_l k.1 0)) &&& pk_kw 1 (pk_l k.1 1)) &&& pk_kw 2 (pI (97 + c.1)) = 0)) && (!(pk_is 3 ((((pk_l k.1 0 <<< ((8 : Int32) &&& 31)) ||| pk_l k.1 1) <<< ((8 : Int32) &&& 31)) ||| pI (97 + c.1))) || (decide ((((pk_l k.1 0 <<< ((8 : Int32) &&& 31)) ||| pk_l k.1 1) <<< ((8 : Int32) &&& 31)) ||| pI (97 + c.1) = pk_WD k.1) && decide ((((1048575 : Int32) &&& pk_kw 0 (pk_l k.1 0)) &&& pk_kw 1 (pk_l k.1 1)) &&& pk_kw 2 (pI (97 + c.1)) = (1 : Int32) <<< pI k.1)))) = true := by decide +kernel
  intro k c hk h1 h2
  have := h ⟨k, hk⟩ ⟨c - 97, by omega⟩
  simp only [show 97 + (c - 97) = c by omega] at this
  generalize pk_is 3 ((((pk_l k 0 <<< ((8 : Int32) &&& 31)) ||| pk_l k 1) <<< ((8 : Int32) &&& 31)) ||| pI c) = b at this
  rw [Bool.and_eq_true] at this
  obtain ⟨t1, t2⟩ := this
  refine ⟨?_, ?_⟩
  · have := eq_of_beq t1
    rw [this]
    simp
  · intro hb
    rw [hb] at t2
    simp only [Bool.not_true, Bool.false_or, Bool.and_eq_true, decide_eq_true_eq] at t2
    exact t2
theorem pk_zeros (σ : pv_S) : ∀ k, k < 20 → f_In_numberOfTrailingZeros σ ((1 : Int32) <<< pI k) = some (pI k, σ) := by
  intro k hk
  have h : k = 0 ∨ k = 1 ∨ k = 2 ∨ k = 3 ∨ k = 4 ∨ k = 5 ∨ k = 6 ∨ k = 7 ∨ k = 8 ∨ k = 9 ∨ k = 10 ∨ k = 11 ∨ k = 12 ∨ k = 13 ∨ k = 14 ∨ k = 15 ∨ k = 16 ∨ k = 17 ∨ k = 18 ∨ k = 19 := by omega
  rcases h with rfl | rfl | rfl | rfl | rfl | rfl | rfl | rfl | rfl | rfl | rfl | rfl | rfl | rfl | rfl | rfl | rfl | rfl | rfl | rfl <;> rfl
theorem pk_W3 : ∀ k, k < 20 → pk_is 3 (pk_WD k) = true := by
  have h : ∀ k : Fin 20, pk_is 3 (pk_WD k.1) = true := by decide +kernel
  exact fun k hk => h ⟨k, hk⟩
theorem pk_Winj : ∀ j k, j < 20 → k < 20 → pk_WD j = pk_WD k → j = k := by
  have h : ∀ j k : Fin 20, pk_WD j.1 = pk_WD k.1 → j.1 = k.1 := by decide +kernel
  exact fun j k hj hk e => h ⟨j, hj⟩ ⟨k, hk⟩ e
/-- endWord in closed form -/
theorem pk_endWord (σ : pv_S) (hw : ∀ k, k < 20 → σ.1 2 k = pk_WD k) (k r : Nat) (hk : k < 20) (hr : r < 40) (er : σ.1 0 5 = pI r) (em : σ.1 0 13 = pk_WD k) : f_Md_endWord σ = some (pv_uI (pv_uI σ 5 r (pI k)) 0 11 5) := by
  have uu : ∀ (τ : pv_S) (x y : Int32), pv_uI (pv_uI τ 5 r x) 5 r y = pv_uI τ 5 r y := by
    intro τ x y
    unfold pv_uI pv_rI upd
    refine Prod.ext ?_ rfl
    funext c j
    by_cases hc : c = 5 <;> by_cases hj : j = r <;> simp [hc, hj]
  have us : ∀ (τ : pv_S), pv_uI τ 5 r (τ.1 5 r) = τ := by
    intro τ
    refine Prod.ext ?_ rfl
    funext c j
    rw [uI1]
    by_cases h : c = 5 ∧ j = r
    · rw [if_pos h, h.1, h.2]
    · rw [if_neg h]
  have key : ∀ (d i fu : Nat) (x : Int32), i + d = 20 → d < fu → f_Md_endWord_2 fu (pv_uI σ 5 r x) (pI i) = some (pv_uI (pv_uI σ 5 r (if i ≤ k then pI k else x)) 0 11 5) := by
    intro d
    induction d with
    | zero =>
      intro i fu x e hf
      obtain ⟨fu, rfl⟩ : ∃ k, fu = k + 1 := ⟨fu - 1, by omega⟩
      show f_Md_endWord_2b _ _ _ = _
      unfold f_Md_endWord_2b
      rw [if_pos (by rw [show (20 : Int32) = pI 20 from rfl, pI_le (by omega) (by omega)]; omega), if_neg (by omega)]
    | succ d ih =>
      intro i fu x e hf
      obtain ⟨fu, rfl⟩ : ∃ k, fu = k + 1 := ⟨fu - 1, by omega⟩
      show f_Md_endWord_2b _ _ _ = _
      unfold f_Md_endWord_2b f_Md_endWord_42
      have e1 : (pv_uI σ 5 r x).1 0 5 = pI r := er
      have e2 : (pv_uI σ 5 r x).1 0 13 = pk_WD k := em
      have e3 : (pv_uI σ 5 r x).1 2 i = pk_WD i := hw i (by omega)
      have e4 : (pv_uI σ 5 r x).1 5 r = x := by rw [uI1]; simp
      rw [if_neg (by rw [show (20 : Int32) = pI 20 from rfl, pI_le (by omega) (by omega)]; omega), if_pos ((pI_in (by omega)).mpr (by omega)), pI_nat (by omega), e3, e2, e1, if_pos ((pI_in (by omega)).mpr (by omega)), if_pos ((pI_in (by omega)).mpr (by omega)), pI_nat (by omega), e4, uu, uu, show pI i + 1 = pI (i + 1) from pI_add i 1, ih _ _ _ (by omega) (by omega), ih _ _ _ (by omega) (by omega), if_pos ((pI_in (by omega)).mpr (by omega))]
      by_cases h : pk_WD i = pk_WD k
      · have := pk_Winj i k (by omega) hk h
        subst this
        rw [if_pos h, if_neg (by omega), if_pos (by omega)]
      · rw [if_neg h]
        by_cases h2 : i + 1 ≤ k
        · rw [if_pos h2, if_pos (by omega)]
        · have : i ≠ k := fun z => h (by rw [z])
          rw [if_neg h2, if_neg (by omega)]
  unfold f_Md_endWord f_Md_endWord_0
  have := key 20 0 pv_fu (σ.1 5 r) (by omega) (by unfold pv_fu; omega)
  rw [us, if_pos (by omega)] at this
  exact this
