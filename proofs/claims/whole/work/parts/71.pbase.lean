/-! Reading a text: what both readers share at every place. -/
theorem pk_isWord0 (σ : pv_S) (hw : ∀ k, k < 20 → σ.1 2 k = pk_WD k) (l : Nat) (hl : l < 3) (el : σ.1 0 12 = pI l) : f_Md_isWord σ 1 = some (0, σ) := by
  have key : ∀ (d i fu : Nat), i + d = 20 → d < fu → f_Md_isWord_4 fu σ 1 0 (pI i) = some (0, σ) := by
    intro d
    induction d with
    | zero =>
      intro i fu e hf
      obtain ⟨fu, rfl⟩ : ∃ k, fu = k + 1 := ⟨fu - 1, by omega⟩
      show f_Md_isWord_4b _ _ _ _ _ = _
      unfold f_Md_isWord_4b
      rw [if_pos (by rw [show (20 : Int32) = pI 20 from rfl, pI_le (by omega) (by omega)]; omega)]
      rw [if_pos (by decide)]
    | succ d ih =>
      intro i fu e hf
      obtain ⟨fu, rfl⟩ : ∃ k, fu = k + 1 := ⟨fu - 1, by omega⟩
      show f_Md_isWord_4b _ _ _ _ _ = _
      unfold f_Md_isWord_4b f_Md_isWord_58 f_Md_isWord_62 f_Md_isWord_63
      rw [if_neg (by rw [show (20 : Int32) = pI 20 from rfl, pI_le (by omega) (by omega)]; omega), el, if_neg (by rw [l_3, pI_lt (by omega) (by omega)]; omega)]
      rw [if_pos rfl, if_pos ((pI_in (by omega)).mpr (by omega)), show pI i + 1 = pI (i + 1) from pI_add i 1, ih _ _ (by omega) (by omega)]
      rw [if_neg (show ¬ (1 : Int32) = 0 by decide), if_neg (show ¬ pI l = 3 by rw [l_3, pI_eq (by omega) (by omega)]; omega)]
      simp
  exact key 20 0 pv_fu (by omega) (by unfold pv_fu; omega)
def pp_okx (r c k : Nat) : Prop := c = 2 ∨ ((c = 4 ∨ c = 7 ∨ c = 8) ∧ k = r) ∨ ((c = 6 ∨ c = 9) ∧ 4 * r ≤ k ∧ k < 4 * r + 4)
def pp_okm (r c k : Nat) : Prop := (c = 0 ∧ 11 ≤ k ∧ k ≤ 14) ∨ ((c = 4 ∨ c = 5 ∨ c = 6) ∧ k = r) ∨ ((c = 7 ∨ c = 8) ∧ 4 * r ≤ k ∧ k < 4 * r + 4)
def pp_Ux (r : Nat) (σ σ' : pv_S) : Prop := (∀ c k, ¬ pp_okx r c k → σ'.1 c k = σ.1 c k) ∧ σ'.2 = σ.2
def pp_Um (r : Nat) (σ σ' : pv_S) : Prop := (∀ c k, ¬ pp_okm r c k → σ'.1 c k = σ.1 c k) ∧ σ'.2 = σ.2
theorem pp_Ux0 (r : Nat) (σ : pv_S) : pp_Ux r σ σ := ⟨fun _ _ _ => rfl, rfl⟩
theorem pp_Um0 (r : Nat) (σ : pv_S) : pp_Um r σ σ := ⟨fun _ _ _ => rfl, rfl⟩
theorem pp_Ux1 {r : Nat} {σ τ : pv_S} {c k : Nat} {x : Int32} (h : pp_Ux r σ τ) (o : pp_okx r c k) : pp_Ux r σ (pv_uI τ c k x) := ⟨fun c' k' n => by
  rw [uI1, if_neg (fun e => n (by rw [e.1, e.2]; exact o))]
  exact h.1 c' k' n, h.2⟩
theorem pp_Um1 {r : Nat} {σ τ : pv_S} {c k : Nat} {x : Int32} (h : pp_Um r σ τ) (o : pp_okm r c k) : pp_Um r σ (pv_uI τ c k x) := ⟨fun c' k' n => by
  rw [uI1, if_neg (fun e => n (by rw [e.1, e.2]; exact o))]
  exact h.1 c' k' n, h.2⟩
/-- what reading may change -/
def pp_FX (sx σ : pv_S) : Prop := (∀ c k, ¬ (c = 2 ∨ c = 3 ∨ c = 4 ∨ c = 6 ∨ c = 7 ∨ c = 8 ∨ c = 9) → σ.1 c k = sx.1 c k) ∧ σ.2 = sx.2
def pp_FM (sm σ : pv_S) : Prop := (∀ c k, ¬ ((c = 0 ∧ (k = 5 ∨ (11 ≤ k ∧ k ≤ 14))) ∨ (4 ≤ c ∧ c ≤ 8)) → σ.1 c k = sm.1 c k) ∧ σ.2 = sm.2
theorem pp_FXu {r : Nat} {sx σ τ : pv_S} (h : pp_FX sx σ) (u : pp_Ux r σ τ) : pp_FX sx τ := ⟨fun c k n => by
  rw [u.1 c k (fun o => n (by unfold pp_okx at o; omega))]
  exact h.1 c k n, u.2.trans h.2⟩
theorem pp_FMu {r : Nat} {sm σ τ : pv_S} (h : pp_FM sm σ) (u : pp_Um r σ τ) : pp_FM sm τ := ⟨fun c k n => by
  rw [u.1 c k (fun o => n (by unfold pp_okm at o; omega))]
  exact h.1 c k n, u.2.trans h.2⟩
def pp_inp (σx σm : pv_S) (i : Nat) : Prop := σx.1 9 i = σm.1 7 i ∧ ((σx.1 9 i = 0 ∧ σx.1 6 i = σm.1 8 i) ∨ (σx.1 9 i ≠ 0 ∧ σx.1 6 i = 0))
def pp_zero (σx : pv_S) (i : Nat) : Prop := σx.1 9 i = 0 ∧ σx.1 6 i = 0
def pp_in (σx σm : pv_S) (r cx cm : Nat) : Prop := σx.1 8 r = pI cx ∧ σm.1 6 r = pI cm ∧ (∀ j, j < cm → pp_inp σx σm (4 * r + j)) ∧ ∀ j, cx ≤ j → j < 4 → pp_zero σx (4 * r + j)
def pp_kd (σx σm : pv_S) (r : Nat) : Prop := ∃ k, k < 20 ∧ σx.1 4 r = pI k ∧ σm.1 5 r = pI k
def pp_nm (σx σm : pv_S) (r : Nat) : Prop := σx.1 7 r = σm.1 4 r
def pp_mod (σx σm : pv_S) (m : Nat) : Prop := pp_nm σx σm m ∧ pp_kd σx σm m ∧ ∃ c, c ≤ 4 ∧ pp_in σx σm m c c
def pp_fr (σx : pv_S) (m : Nat) : Prop := σx.1 7 m = 0 ∧ σx.1 8 m = 0 ∧ ∀ j, j < 4 → pp_zero σx (4 * m + j)
theorem pp_inp_u {σx σm τx τm : pv_S} {i : Nat} (e1 : τx.1 9 i = σx.1 9 i) (e2 : τx.1 6 i = σx.1 6 i) (e3 : τm.1 7 i = σm.1 7 i) (e4 : τm.1 8 i = σm.1 8 i) (h : pp_inp σx σm i) : pp_inp τx τm i := by
  unfold pp_inp
  rw [e1, e2, e3, e4]
  exact h
theorem pp_zero_u {σx τx : pv_S} {i : Nat} (e1 : τx.1 9 i = σx.1 9 i) (e2 : τx.1 6 i = σx.1 6 i) (h : pp_zero σx i) : pp_zero τx i := by
  unfold pp_zero
  rw [e1, e2]
  exact h
theorem pp_mod_u {r m : Nat} {σx σm τx τm : pv_S} (hm : m < r) (ux : pp_Ux r σx τx) (um : pp_Um r σm τm) (h : pp_mod σx σm m) : pp_mod τx τm m := by
  have x1 : ∀ c, c ≠ 2 → c ≠ 6 → c ≠ 9 → τx.1 c m = σx.1 c m := fun c _ _ _ => ux.1 c m (by unfold pp_okx; omega)
  have x2 : ∀ c i, c ≠ 2 → c ≠ 4 → c ≠ 7 → c ≠ 8 → i < 4 * r → τx.1 c i = σx.1 c i := fun c i _ _ _ _ _ => ux.1 c i (by unfold pp_okx; omega)
  have m1 : ∀ c, c ≠ 0 → c ≠ 7 → c ≠ 8 → τm.1 c m = σm.1 c m := fun c _ _ _ => um.1 c m (by unfold pp_okm; omega)
  have m2 : ∀ c i, c ≠ 0 → c ≠ 4 → c ≠ 5 → c ≠ 6 → i < 4 * r → τm.1 c i = σm.1 c i := fun c i _ _ _ _ _ => um.1 c i (by unfold pp_okm; omega)
  obtain ⟨h1, ⟨k, hk, k1, k2⟩, c, hc, c1, c2, c3, c4⟩ := h
  refine ⟨?_, ⟨k, hk, ?_, ?_⟩, c, hc, ?_, ?_, ?_, ?_⟩
  · unfold pp_nm
    rw [x1 7 (by decide) (by decide) (by decide), m1 4 (by decide) (by decide) (by decide)]
    exact h1
  · rw [x1 4 (by decide) (by decide) (by decide)]; exact k1
  · rw [m1 5 (by decide) (by decide) (by decide)]; exact k2
  · rw [x1 8 (by decide) (by decide) (by decide)]; exact c1
  · rw [m1 6 (by decide) (by decide) (by decide)]; exact c2
  · intro j hj
    exact pp_inp_u (x2 _ _ (by decide) (by decide) (by decide) (by decide) (by omega)) (x2 _ _ (by decide) (by decide) (by decide) (by decide) (by omega)) (m2 _ _ (by decide) (by decide) (by decide) (by decide) (by omega)) (m2 _ _ (by decide) (by decide) (by decide) (by decide) (by omega)) (c3 j hj)
  · intro j hj hj2
    exact pp_zero_u (x2 _ _ (by decide) (by decide) (by decide) (by decide) (by omega)) (x2 _ _ (by decide) (by decide) (by decide) (by decide) (by omega)) (c4 j hj hj2)
/-- within module r: what stands behind it all -/
def pp_B (sx sm σx σm : pv_S) (r : Nat) : Prop := pp_FX sx σx ∧ pp_FM sm σm ∧ σm.1 0 5 = pI r ∧ (∀ m, m < r → pp_mod σx σm m) ∧ r ≤ 37 ∧ σx.1 3 0 = pI (r + 1) ∧ (∀ m, r + 1 ≤ m → m < 38 → pp_fr σx m) ∧ ∀ k, k < 20 → σm.1 2 k = pk_WD k
theorem pp_Bu {sx sm σx σm τx τm : pv_S} {r : Nat} (h : pp_B sx sm σx σm r) (ux : pp_Ux r σx τx) (um : pp_Um r σm τm) : pp_B sx sm τx τm r := by
  obtain ⟨h1, h2, h3, h4, h5, h6, h7, h8⟩ := h
  refine ⟨pp_FXu h1 ux, pp_FMu h2 um, ?_, fun m hm => pp_mod_u hm ux um (h4 m hm), h5, ?_, fun m hm hm2 => ?_, fun k hk => ?_⟩
  · rw [um.1 0 5 (by unfold pp_okm; omega)]; exact h3
  · rw [ux.1 3 0 (by unfold pp_okx; omega)]; exact h6
  · obtain ⟨f1, f2, f3⟩ := h7 m hm hm2
    refine ⟨?_, ?_, fun j hj => ?_⟩
    · rw [ux.1 7 m (by unfold pp_okx; omega)]; exact f1
    · rw [ux.1 8 m (by unfold pp_okx; omega)]; exact f2
    · exact pp_zero_u (ux.1 _ _ (by unfold pp_okx; omega)) (ux.1 _ _ (by unfold pp_okx; omega)) (f3 j hj)
  · rw [um.1 2 k (by unfold pp_okm; omega)]; exact h8 k hk
/-- where the readers stand within module r -/
def pp_loc (σx σm : pv_S) (r p : Nat) : Prop :=
  (∃ z, 1 ≤ z ∧ z ≤ 3 ∧ σx.1 2 1 = 1 ∧ σm.1 0 11 = 1 ∧ σx.1 2 2 = pI z ∧ σm.1 0 12 = pI z ∧ σm.1 0 13 = σx.1 7 r ∧ σx.1 8 r = 0 ∧ (∀ j, j < 4 → pp_zero σx (4 * r + j)) ∧ 8 * r + 1 ≤ p) ∨
  (σx.1 2 1 = 2 ∧ σm.1 0 11 = 1 ∧ σm.1 0 12 = 4 ∧ σm.1 0 13 = σx.1 7 r ∧ σx.1 8 r = 0 ∧ (∀ j, j < 4 → pp_zero σx (4 * r + j)) ∧ 8 * r + 1 ≤ p) ∨
  (σx.1 2 1 = 2 ∧ σm.1 0 11 = 2 ∧ pp_nm σx σm r ∧ pp_in σx σm r 0 0 ∧ 8 * r + 1 ≤ p) ∨
  (σx.1 2 1 = 3 ∧ σm.1 0 11 = 3 ∧ pp_nm σx σm r ∧ pp_in σx σm r 0 0 ∧ 8 * r + 2 ≤ p) ∨
  (∃ c, 97 ≤ c ∧ c ≤ 122 ∧ σx.1 2 1 = 4 ∧ σm.1 0 11 = 4 ∧ σx.1 2 2 = 1 ∧ σm.1 0 12 = 1 ∧ σm.1 0 13 = pI c ∧ σx.1 2 3 = (1048575 : Int32) &&& pk_kw 0 (pI c) ∧ pp_nm σx σm r ∧ pp_in σx σm r 0 0 ∧ 8 * r + 3 ≤ p) ∨
  (∃ k, k < 20 ∧ σx.1 2 1 = 4 ∧ σm.1 0 11 = 4 ∧ σx.1 2 2 = 2 ∧ σm.1 0 12 = 2 ∧ σm.1 0 13 = (pk_l k 0 <<< ((8 : Int32) &&& 31)) ||| pk_l k 1 ∧ σx.1 2 3 = ((1048575 : Int32) &&& pk_kw 0 (pk_l k 0)) &&& pk_kw 1 (pk_l k 1) ∧ pp_nm σx σm r ∧ pp_in σx σm r 0 0 ∧ 8 * r + 4 ≤ p) ∨
  (∃ k, k < 20 ∧ σx.1 2 1 = 5 ∧ σm.1 0 11 = 4 ∧ σm.1 0 12 = 3 ∧ σm.1 0 13 = pk_WD k ∧ σx.1 4 r = pI k ∧ pp_nm σx σm r ∧ pp_in σx σm r 0 0 ∧ 8 * r + 5 ≤ p) ∨
  (σx.1 2 1 = 5 ∧ σm.1 0 11 = 5 ∧ pp_kd σx σm r ∧ pp_nm σx σm r ∧ pp_in σx σm r 0 0 ∧ 8 * r + 5 ≤ p) ∨
  (pp_nm σx σm r ∧ pp_kd σx σm r ∧ 8 * r + 6 ≤ p ∧ (
    (σx.1 2 1 = 6 ∧ σm.1 0 11 = 6 ∧ pp_in σx σm r 0 0) ∨
    (∃ c, c ≤ 3 ∧ σx.1 2 1 = 7 ∧ σm.1 0 11 = 11 ∧ pp_in σx σm r c c) ∨
    (∃ c z, c ≤ 3 ∧ 1 ≤ z ∧ z ≤ 3 ∧ σx.1 2 1 = 8 ∧ σm.1 0 11 = 7 ∧ σx.1 2 2 = pI z ∧ σm.1 0 12 = pI z ∧ σm.1 0 13 = σx.1 9 (4 * r + c) ∧ σx.1 9 (4 * r + c) ≠ 0 ∧ σx.1 6 (4 * r + c) = 0 ∧ pp_in σx σm r (c + 1) c) ∨
    (∃ c, c ≤ 3 ∧ σx.1 2 1 = 9 ∧ σm.1 0 11 = 9 ∧ σm.1 0 14 = 1 ∧ σx.1 2 4 = -1 ∧ σx.1 2 2 = 0 ∧ pp_zero σx (4 * r + c) ∧ pp_in σx σm r (c + 1) c) ∨
    (∃ c z, c ≤ 3 ∧ 1 ≤ z ∧ z ≤ 8 ∧ σx.1 2 1 = 10 ∧ σm.1 0 11 = 10 ∧ σx.1 2 2 = pI z ∧ σm.1 0 12 = pI z ∧ σx.1 9 (4 * r + c) = 0 ∧ ((σm.1 0 14 = 0 ∧ σx.1 2 4 = 1 ∧ σx.1 6 (4 * r + c) = σm.1 0 13) ∨ (σm.1 0 14 = 1 ∧ σx.1 2 4 = -1 ∧ σx.1 6 (4 * r + c) = -(σm.1 0 13))) ∧ pp_in σx σm r (c + 1) c) ∨
    (∃ c, c ≤ 3 ∧ σx.1 2 1 = 11 ∧ σm.1 0 11 = 7 ∧ σm.1 0 12 = 4 ∧ σm.1 0 13 = σx.1 9 (4 * r + c) ∧ σx.1 9 (4 * r + c) ≠ 0 ∧ σx.1 6 (4 * r + c) = 0 ∧ pp_in σx σm r (c + 1) c) ∨
    (∃ c, c ≤ 3 ∧ σx.1 2 1 = 11 ∧ σm.1 0 11 = 10 ∧ σm.1 0 12 = 9 ∧ σx.1 9 (4 * r + c) = 0 ∧ ((σm.1 0 14 = 0 ∧ σx.1 6 (4 * r + c) = σm.1 0 13) ∨ (σm.1 0 14 = 1 ∧ σx.1 6 (4 * r + c) = -(σm.1 0 13))) ∧ pp_in σx σm r (c + 1) c) ∨
    (∃ c, c ≤ 3 ∧ σx.1 2 1 = 11 ∧ σm.1 0 11 = 8 ∧ pp_in σx σm r (c + 1) (c + 1)) ∨
    (∃ c, c ≤ 4 ∧ σx.1 2 1 = 12 ∧ σm.1 0 11 = 12 ∧ pp_in σx σm r c c ∧ 8 * r + 7 ≤ p)))
def pp_J (sx sm σx σm : pv_S) (p : Nat) : Prop := (∃ r, pp_FX sx σx ∧ pp_FM sm σm ∧ σm.1 0 5 = pI r ∧ (∀ m, m < r → pp_mod σx σm m) ∧ 8 * r ≤ p ∧ σx.1 3 0 = pI r ∧ (∀ m, r ≤ m → m < 38 → pp_fr σx m) ∧ (∀ k, k < 20 → σm.1 2 k = pk_WD k) ∧ σx.1 2 1 = 0 ∧ σm.1 0 11 = 0) ∨ ∃ r, pp_B sx sm σx σm r ∧ pp_loc σx σm r p
def pp_out (sx sm : pv_S) (p : Nat) (a b : Int32 × pv_S) : Prop := (a.1 = -1 ∧ b.1 = 0 ∧ pp_FX sx a.2 ∧ pp_FM sm b.2) ∨ (a.1 ≠ -1 ∧ b.1 = 1 ∧ pp_J sx sm (pv_uI a.2 2 1 a.1) b.2 (p + 1))
