/-! The wiring of both sides, with what stands for the modules. -/
def pz_WX (n : Nat) (kd : Nat → Nat) (fr : Nat → Option Nat) (nu : Nat → Int32) (od : Nat → Nat) (sd : Nat → Option Nat) (sn : Nat → Int32) (τx : pv_S) : Prop := pq_X τx n kd ∧ (∀ k, k < n → τx.1 16 k = pI (od k)) ∧ (∀ m, m < n → τx.1 18 m = oI (sd m) ∧ τx.1 19 m = if sd m = none then sn m else 0) ∧ ∀ i, i < 4 * n → τx.1 14 i = oI (ps_s fr sd i) ∧ τx.1 15 i = ps_a fr nu sd sn i
def pz_WM (n : Nat) (kd cn : Nat → Nat) (fr : Nat → Option Nat) (nu : Nat → Int32) (od : Nat → Nat) (sd : Nat → Option Nat) (sn : Nat → Int32) (τm : pv_S) : Prop := pq_M τm n kd cn fr nu ∧ (∀ k, k < n → τm.1 13 k = pI (od k)) ∧ ∀ m, m < n → τm.1 15 m = oI (sd m) ∧ (sd m = none → τm.1 16 m = sn m)
/-- the order has all modules -/
theorem po_all {n : Nat} {kd cn : Nat → Nat} {fr : Nat → Option Nat} {od : Nat → Nat} {x : Int32} (hn : n ≤ 24) (O : po_I n kd cn fr od n x) {m : Nat} (hm : m < n) : ∃ k, k < n ∧ od k = m := (O.2.2.1 m (by omega)).mp (pcnt_full O.2.2.2.2 m hm)
theorem pz_dels {n : Nat} {kd cn : Nat → Nat} {fr : Nat → Option Nat} {nu : Nat → Int32} (wf : pq_WF n kd cn fr nu) {od : Nat → Nat} {sx : pv_S} {sd : Nat → Option Nat} {sn : Nat → Int32} {τ : pv_S} (x1 : pq_FX sx τ) (x2 : τ.1 17 = sx.1 17) (x3 : pq_X τ n kd) (x4 : ∀ k, k < n → τ.1 16 k = pI (od k)) (x5 : ∀ m, m < n → τ.1 18 m = oI (sd m) ∧ τ.1 19 m = if sd m = none then sn m else 0) (x6 : ∀ m, m < n → ∀ j, j < 4 → τ.1 14 (4 * m + j) = oI (if kd m ≠ 18 then ps_s fr sd (4 * m + j) else fr (4 * m + j)) ∧ τ.1 15 (4 * m + j) = if kd m ≠ 18 then ps_a fr nu sd sn (4 * m + j) else nu (4 * m + j)) : pw (f_Wr_findStands_46 pv_fu τ 0) (fun τ' => pq_FX sx τ' ∧ τ'.1 17 = sx.1 17 ∧ pz_WX n kd fr nu od sd sn τ') := by
  obtain ⟨n1, n2, w1, w2, w3, _⟩ := id wf
  have key := up_0 (N := n) (P := fun fu m => ∀ τ : pv_S, pq_FX sx τ → τ.1 17 = sx.1 17 → pq_X τ n kd → (∀ k, k < n → τ.1 16 k = pI (od k)) → (∀ m, m < n → τ.1 18 m = oI (sd m) ∧ τ.1 19 m = if sd m = none then sn m else 0) → (∀ m', m' < n → ∀ j, j < 4 → τ.1 14 (4 * m' + j) = oI (if kd m' ≠ 18 ∨ m' < m then ps_s fr sd (4 * m' + j) else fr (4 * m' + j)) ∧ τ.1 15 (4 * m' + j) = if kd m' ≠ 18 ∨ m' < m then ps_a fr nu sd sn (4 * m' + j) else nu (4 * m' + j)) → pw (f_Wr_findStands_46 fu τ (pI m)) (fun τ' => pq_FX sx τ' ∧ τ'.1 17 = sx.1 17 ∧ pz_WX n kd fr nu od sd sn τ')) ?_ ?_ (i := 0) (by omega) (by omega)
  · refine key τ x1 x2 x3 x4 x5 (fun m hm j hj => ?_)
    have := x6 m hm j hj
    by_cases h : kd m ≠ 18
    · rw [if_pos h, if_pos h] at this
      rw [if_pos (Or.inl h), if_pos (Or.inl h)]
      exact this
    · rw [if_neg h, if_neg h] at this
      rw [if_neg (by omega), if_neg (by omega)]
      exact this
  · intro fu τ x1 x2 x3 x4 x5 x6
    show pw (f_Wr_findStands_46b _ _ _) _
    unfold f_Wr_findStands_46b
    rw [x3.1, if_pos ((pI_le (by omega) (by omega)).mpr (by omega))]
    refine pw_some.mpr ⟨x1, x2, x3, x4, x5, fun i hi => ?_⟩
    have := x6 (i / 4) (by omega) (i % 4) (by omega)
    rw [if_pos (Or.inr (by omega)), if_pos (Or.inr (by omega)), show 4 * (i / 4) + i % 4 = i by omega] at this
    exact this
  · intro fu m hm ih τ x1 x2 x3 x4 x5 x6
    show pw (f_Wr_findStands_46b _ _ _) _
    unfold f_Wr_findStands_46b f_Wr_findStands_70
    rw [x3.1, if_neg (fun z => by have := (pI_le (by omega) (by omega)).mp z; omega), pI_nat (by omega), x3.2 m hm, if_pos ((pI_in (by omega)).mpr (by omega)), nadd_1]
    have k20 := (w1 m hm).1
    by_cases h18 : kd m = 18
    · rw [if_pos (show pI (kd m) = 18 by rw [h18]; rfl)]
      obtain ⟨f, g, r1, r2, r3⟩ := pz_read (σ := τ) wf x3 (sd := sd) (sn := sn) hm (fun j hj => by
        have := x6 m hm j hj
        rw [if_neg (by omega), if_neg (by omega)] at this
        exact this) x5
      rw [r1, Option.bind_some]
      refine ih (pv_rI (pv_rI τ 14 f) 15 g) (pq_FXr (pq_FXr x1 (by omega)) (by omega)) x2 x3 x4 x5 (fun m' hm' j hj => ?_)
      show f (4 * m' + j) = _ ∧ g (4 * m' + j) = _
      by_cases e : m' = m
      · subst e
        rw [if_pos (Or.inr (by omega)), if_pos (Or.inr (by omega))]
        exact r2 j hj
      · obtain ⟨q1, q2⟩ := r3 (4 * m' + j) (by omega)
        rw [q1, q2]
        have := x6 m' hm' j hj
        by_cases h : kd m' ≠ 18 ∨ m' < m
        · rw [if_pos h, if_pos h] at this
          rw [if_pos (by omega), if_pos (by omega)]
          exact this
        · rw [if_neg h, if_neg h] at this
          rw [if_neg (by omega), if_neg (by omega)]
          exact this
    · rw [if_neg (show ¬ pI (kd m) = 18 from fun z => h18 ((neq_18 (by omega)).mp z))]
      refine ih τ x1 x2 x3 x4 x5 (fun m' hm' j hj => ?_)
      have := x6 m' hm' j hj
      by_cases e : m' = m
      · subst e
        rw [if_pos (Or.inl h18), if_pos (Or.inl h18)] at this
        rw [if_pos (Or.inl h18), if_pos (Or.inl h18)]
        exact this
      · by_cases h : kd m' ≠ 18 ∨ m' < m
        · rw [if_pos h, if_pos h] at this
          rw [if_pos (by omega), if_pos (by omega)]
          exact this
        · rw [if_neg h, if_neg h] at this
          rw [if_neg (by omega), if_neg (by omega)]
          exact this
/-- optimised: both sides find the same stands -/
theorem pz_stands {n : Nat} {kd cn : Nat → Nat} {fr : Nat → Option Nat} {nu : Nat → Int32} (wf : pq_WF n kd cn fr nu) {od : Nat → Nat} {x : Int32} (O : po_I n kd cn fr od n x) {sx sm : pv_S} (o17 : sm.1 0 17 = 1) {sd0 : Nat → Option Nat} {sn0 : Nat → Int32} {τx τm : pv_S} (I : pz_I n kd cn fr nu od sx sm 0 sd0 sn0 τx τm) : pj (f_Wr_findStands τx) (f_Md_settle_25 pv_fu τm 0) (fun a b => (pq_FX sx a ∧ a.1 17 = sx.1 17) ∧ (pq_FM sm b ∧ b.1 14 = sm.1 14 ∧ b.1 0 = sm.1 0) ∧ ∃ sd sn, pz_WX n kd fr nu od sd sn a ∧ pz_WM n kd cn fr nu od sd sn b ∧ (∀ m t, m < n → sd m = some t → t < n) ∧ ∀ k, k < n → ps_SO kd cn fr nu od sd sn k) := by
  obtain ⟨n1, n2, w1, w2, w3, _⟩ := id wf
  have key := up_0 (N := n) (P := fun fu i => ∀ sd sn τx τm, pz_I n kd cn fr nu od sx sm i sd sn τx τm → pj (f_Wr_findStands_2 fu τx (pI i)) (f_Md_settle_25 fu τm (pI i)) (fun a b => (pq_FX sx a ∧ a.1 17 = sx.1 17) ∧ (pq_FM sm b ∧ b.1 14 = sm.1 14 ∧ b.1 0 = sm.1 0) ∧ ∃ sd sn, pz_WX n kd fr nu od sd sn a ∧ pz_WM n kd cn fr nu od sd sn b ∧ (∀ m t, m < n → sd m = some t → t < n) ∧ ∀ k, k < n → ps_SO kd cn fr nu od sd sn k)) ?_ ?_ (i := 0) (by omega) (by omega)
  · exact key sd0 sn0 τx τm I
  · intro fu sd sn τx τm I
    obtain ⟨⟨x1, x2, x3, x4, x5, x6⟩, ⟨m1, m2, m3, m4, m5, m6⟩, b1, b2, b3⟩ := I
    show pj (f_Wr_findStands_2b _ _ _) (f_Md_settle_25b _ _ _) _
    unfold f_Wr_findStands_2b f_Md_settle_25b
    rw [x3.1, m4.1, if_pos ((pI_le (by omega) (by omega)).mpr (by omega)), if_pos ((pI_le (by omega) (by omega)).mpr (by omega))]
    obtain ⟨τ', e1, e2, e3, e4⟩ := pz_dels (sx := sx) (sn := sn) wf x1 x2 x3 x4 x5 (fun m hm j hj => by
      obtain ⟨k, hk, rfl⟩ := po_all n2 O hm
      have := x6 k hk j hj
      by_cases h : kd (od k) ≠ 18
      · rw [if_pos ⟨hk, h⟩, if_pos ⟨hk, h⟩] at this
        rw [if_pos h, if_pos h]
        exact this
      · rw [if_neg (fun z => h z.2), if_neg (fun z => h z.2)] at this
        rw [if_neg h, if_neg h]
        exact this)
    exact ⟨τ', τm, e1, rfl, ⟨e2, e3⟩, ⟨m1, m2, m3⟩, sd, sn, e4, ⟨m4, m5, m6⟩, b1, b3⟩
  · intro fu i hi ih sd sn τx τm I
    obtain ⟨τx', τm', sd', sn', h1, h2, I'⟩ := pz_place wf O hi I
    obtain ⟨⟨x1, x2, x3, x4, x5, x6⟩, ⟨m1, m2, m3, m4, m5, m6⟩, b1, b2, b3⟩ := I
    have hoi := O.1 i hi
    show pj (f_Wr_findStands_2b _ _ _) (f_Md_settle_25b _ _ _) _
    unfold f_Wr_findStands_2b f_Md_settle_25b f_Wr_findStands_38
    have e17 : τm.1 0 17 = 1 := by rw [m3]; exact o17
    have nl : ¬ pI n ≤ pI i := fun z => by have := (pI_le (by omega) (by omega)).mp z; omega
    rw [x3.1, m4.1, if_neg nl, if_neg nl, pI_nat (by omega), x4 i hi, pI_nat (by omega), if_pos ((pI_in (by omega)).mpr (by omega)), if_pos ((pI_in (by omega)).mpr (by omega)), nadd_1, e17, if_neg (show ¬ (1 : Int32) = 0 by decide), h2, Option.bind_some]
    by_cases h13 : τx.1 13 (od i) = 18
    · rw [if_pos h13] at h1
      rw [if_pos h13]
      cases h1
      exact ih sd' sn' τx τm' I'
    · rw [if_neg h13] at h1
      rw [if_neg h13]
      have : ((f_Wr_readStands τx (pI (od i))).bind fun q1 => (f_Wr_findStand q1 (pI i)).bind fun q2 => f_Wr_findStands_2 fu q2 (pI (i + 1))) = (((f_Wr_readStands τx (pI (od i))).bind fun q1 => f_Wr_findStand q1 (pI i)).bind fun q2 => f_Wr_findStands_2 fu q2 (pI (i + 1))) := by
        cases f_Wr_readStands τx (pI (od i)) <;> rfl
      rw [this, h1, Option.bind_some]
      exact ih sd' sn' τx' τm' I'
/-- the reference's stands before any is found -/
theorem pz_settle0 {σ : pv_S} {n : Nat} (h18 : σ.1 0 18 = pI n) (hn : n ≤ 24) : f_Md_settle σ = f_Md_settle_25 pv_fu (pv_rI σ 15 (fun m => if m < n then pI m else σ.1 15 m)) 0 := by
  have key := up_0 (N := n) (P := fun fu m => f_Md_settle_2 fu (pv_rI σ 15 (fun k => if k < m then pI k else σ.1 15 k)) (pI m) = f_Md_settle_25 pv_fu (pv_rI σ 15 (fun m => if m < n then pI m else σ.1 15 m)) 0) ?_ ?_ (i := 0) (by omega) (by omega)
  · have e0 : pv_rI σ 15 (fun k => if k < 0 then pI k else σ.1 15 k) = σ := by
      have : (fun k => if k < 0 then pI k else σ.1 15 k) = σ.1 15 := by
        funext k
        rw [if_neg (by omega)]
      rw [this, rI0]
    rw [e0] at key
    exact key
  · intro fu
    show f_Md_settle_2b _ _ _ = _
    unfold f_Md_settle_2b
    have e : ∀ f, (pv_rI σ 15 f).1 0 18 = pI n := fun _ => h18
    rw [e, if_pos ((pI_le (by omega) (by omega)).mpr (by omega))]
  · intro fu m hm ih
    show f_Md_settle_2b _ _ _ = _
    unfold f_Md_settle_2b
    have e : ∀ f, (pv_rI σ 15 f).1 0 18 = pI n := fun _ => h18
    rw [e, if_neg (fun z => by have := (pI_le (by omega) (by omega)).mp z; omega), if_pos ((pI_in (by omega)).mpr (by omega)), pI_nat (by omega), nadd_1, rIu]
    have : upd (fun k => if k < m then pI k else σ.1 15 k) m (pI m) = fun k => if k < m + 1 then pI k else σ.1 15 k := by
      funext k
      unfold upd
      by_cases e : k = m
      · rw [if_pos e, if_pos (by omega), e]
      · rw [if_neg e]
        show (if k < m then pI k else σ.1 15 k) = _
        by_cases h : k < m
        · rw [if_pos h, if_pos (by omega)]
        · rw [if_neg h, if_neg (by omega)]
    rw [this]
    exact ih
