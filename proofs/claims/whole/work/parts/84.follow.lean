/-! Cords followed, in the class. -/
def pt_E (kd cn : Nat → Nat) (fr : Nat → Option Nat) (s m : Nat) : Bool := decide (kd m ≠ 18) && pany (fun j => decide (fr (4 * m + j) = some s)) (cn m)
theorem pv_rLu (σ : pv_S) (g : Nat → Int64) (m : Nat) (x : Int64) : pv_uL (pv_rL σ 10 g) 10 m x = pv_rL σ 10 (vp_updL g m x) := by
  refine Prod.ext rfl ?_
  funext c
  unfold pv_uL pv_rL
  by_cases h : c = 10 <;> simp [h]
theorem pv_rL2 (σ : pv_S) (g : Nat → Int64) (m : Nat) : (pv_rL σ 10 g).2 10 m = g m := by
  unfold pv_rL
  simp
theorem pv_rL0 (σ : pv_S) : pv_rL σ 10 (σ.2 10) = σ := by
  refine Prod.ext rfl ?_
  funext c
  unfold pv_rL
  by_cases h : c = 10 <;> simp [h]
theorem pt_behind {σ : pv_S} {s m : Nat} (hs : s < 64) (hm : m < 38) : f_Pt_isBehind σ (pI s) (pI m) = some (b2i (bL (σ.2 10 m) s), σ) := by
  unfold f_Pt_isBehind f_Pt_isBehind_0
  rw [pI_nat (by omega), if_pos ((pI_in (by omega)).mpr hm)]
  cases h : bL (σ.2 10 m) s with
  | false => rw [if_pos ((bL_test _ _ hs).mpr h)]; rfl
  | true => rw [if_neg (fun z => by rw [bL_test _ _ hs, h] at z; cases z)]; rfl
theorem pt_warsh {σ : pv_S} {r : Nat} {E : Nat → Nat → Bool} (h3 : σ.1 3 0 = pI r) (hr : r ≤ 37) {g : Nat → Int64} (hg : ∀ m s, m < r → s < r → bL (g m) s = E s m) : pw (f_Pt_followCords_86 pv_fu (pv_rL σ 10 g) 0) (fun σ' => ∃ g', σ' = pv_rL σ 10 g' ∧ ∀ m s, m < r → s < r → bL (g' m) s = pg_W E r s m) := by
  have e3 : ∀ g, (pv_rL σ 10 g).1 3 0 = pI r := fun g => h3
  have key := up_0 (N := r) (P := fun fu t => ∀ g, (∀ m s, m < r → s < r → bL (g m) s = pg_W E t s m) → pw (f_Pt_followCords_86 fu (pv_rL σ 10 g) (pI t)) (fun σ' => ∃ g', σ' = pv_rL σ 10 g' ∧ ∀ m s, m < r → s < r → bL (g' m) s = pg_W E r s m)) ?_ ?_ (i := 0) (by omega) (by omega)
  · exact key g hg
  · intro fu g hg
    show pw (f_Pt_followCords_86b _ _ _) _
    unfold f_Pt_followCords_86b
    rw [e3, if_pos ((pI_le (by omega) (by omega)).mpr (by omega))]
    exact pw_some.mpr ⟨g, rfl, hg⟩
  · intro fu t ht ih g hg
    show pw (f_Pt_followCords_86b _ _ _) _
    unfold f_Pt_followCords_86b
    rw [e3, if_neg (fun z => by have := (pI_le (by omega) (by omega)).mp z; omega)]
    have key2 := up_0 (N := r) (P := fun fu' m => ∀ g, (∀ k s, k < r → s < r → bL (g k) s = pg_W E (if k < m then t + 1 else t) s k) → pw (f_Pt_followCords_96 (f_Pt_followCords_86 fu) fu' (pv_rL σ 10 g) (pI t) (pI m)) (fun σ' => ∃ g', σ' = pv_rL σ 10 g' ∧ ∀ m s, m < r → s < r → bL (g' m) s = pg_W E r s m)) ?_ ?_ (i := 0) (by omega) (by omega)
    · exact key2 g (fun k s hk hs => by rw [if_neg (by omega)]; exact hg k s hk hs)
    · intro fu' g hg
      show pw (f_Pt_followCords_96b _ _ _ _ _) _
      unfold f_Pt_followCords_96b
      rw [e3, if_pos ((pI_le (by omega) (by omega)).mpr (by omega)), nadd_1]
      exact ih g (fun k s hk hs => by have := hg k s hk hs; rwa [if_pos hk] at this)
    · intro fu' m hm ih2 g hg
      show pw (f_Pt_followCords_96b _ _ _ _ _) _
      unfold f_Pt_followCords_96b f_Pt_followCords_128
      have em : bL (g m) t = pg_W E t t m := by have := hg m t hm ht; rwa [if_neg (by omega)] at this
      have et : ∀ s, s < r → bL (g t) s = pg_W E t s t := by
        intro s hs
        have := hg t s ht hs
        by_cases h : t < m
        · rw [if_pos h] at this
          rw [this]
          show (pg_W E t s t || (pg_W E t s t && pg_W E t t t)) = _
          cases pg_W E t s t <;> simp
        · rwa [if_neg h] at this
      rw [e3, if_neg (fun z => by have := (pI_le (by omega) (by omega)).mp z; omega), pt_behind (by omega) (by omega), pv_rL2, em, nadd_1]
      simp only [Option.bind_some, b2i_0]
      have wm : ∀ s, pg_W E (t + 1) s m = (pg_W E t s m || (pg_W E t s t && pg_W E t t m)) := fun s => rfl
      by_cases h : pg_W E t t m = false
      · rw [if_pos h]
        refine ih2 g (fun k s hk hs => ?_)
        by_cases hkm : k = m
        · subst hkm
          rw [if_pos (by omega), wm, h, hg k s hk hs, if_neg (by omega)]
          simp
        · rw [hg k s hk hs]
          by_cases h1 : k < m
          · rw [if_pos h1, if_pos (by omega)]
          · rw [if_neg h1, if_neg (by omega)]
      · rw [if_neg h, if_pos ((pI_in (by omega)).mpr (by omega)), if_pos ((pI_in (by omega)).mpr (by omega)), if_pos ((pI_in (by omega)).mpr (by omega)), pI_nat (by omega), pI_nat (by omega), pv_rLu, pv_rL2, pv_rL2]
        have h' : pg_W E t t m = true := by simpa using h
        refine ih2 _ (fun k s hk hs => ?_)
        by_cases hkm : k = m
        · subst hkm
          rw [show vp_updL g k (g k ||| g t) k = g k ||| g t by unfold vp_updL; simp, if_pos (by omega), bL_or, wm, et s hs, hg k s hk hs, if_neg (by omega), h']
          simp
        · rw [show vp_updL g m (g m ||| g t) k = g k by unfold vp_updL; simp [hkm], hg k s hk hs]
          by_cases h1 : k < m
          · rw [if_pos h1, if_pos (by omega)]
          · rw [if_neg h1, if_neg (by omega)]
theorem pt_follow {σ : pv_S} {r : Nat} {kd cn : Nat → Nat} {fr : Nat → Option Nat} (h3 : σ.1 3 0 = pI r) (hr : r ≤ 37) (hm : ∀ m, m < r → σ.1 4 m = pI (kd m) ∧ σ.1 8 m = pI (cn m) ∧ kd m < 20 ∧ cn m ≤ 4) (hf : ∀ i, i < 4 * r → σ.1 5 i = oI (fr i)) (hl : ∀ i k, i < 4 * r → fr i = some k → k < r) : pw (f_Pt_followCords σ) (fun σ' => ∃ g', σ' = pv_rL σ 10 g' ∧ ∀ m s, m < r → s < r → bL (g' m) s = pg_W (pt_E kd cn fr) r s m) := by
  have e3 : ∀ g, (pv_rL σ 10 g).1 3 0 = pI r := fun g => h3
  have key := up_0 (N := r) (P := fun fu m => ∀ g, (∀ k s, k < m → s < r → bL (g k) s = pt_E kd cn fr s k) → pw (f_Pt_followCords_2 fu (pv_rL σ 10 g) (pI m)) (fun σ' => ∃ g', σ' = pv_rL σ 10 g' ∧ ∀ m s, m < r → s < r → bL (g' m) s = pg_W (pt_E kd cn fr) r s m)) ?_ ?_ (i := 0) (by omega) (by omega)
  · have := key (σ.2 10) (fun k s hk => absurd hk (by omega))
    rw [pv_rL0] at this
    exact this
  · intro fu g hg
    show pw (f_Pt_followCords_2b _ _ _) _
    unfold f_Pt_followCords_2b
    rw [e3, if_pos ((pI_le (by omega) (by omega)).mpr (by omega))]
    exact pt_warsh h3 hr hg
  · intro fu m hmr ih g hg
    obtain ⟨k4, k8, k20, c4⟩ := hm m hmr
    have e4 : ∀ g, (pv_rL σ 10 g).1 4 m = pI (kd m) := fun g => k4
    have e8 : ∀ g, (pv_rL σ 10 g).1 8 m = pI (cn m) := fun g => k8
    show pw (f_Pt_followCords_2b _ _ _) _
    unfold f_Pt_followCords_2b
    rw [e3, if_neg (fun z => by have := (pI_le (by omega) (by omega)).mp z; omega), if_pos ((pI_in (by omega)).mpr (by omega)), pI_nat (by omega), pv_rLu]
    have next : ∀ g, (∀ k s, k < m + 1 → s < r → bL (g k) s = pt_E kd cn fr s k) → pw (f_Pt_followCords_78 (f_Pt_followCords_2 fu) (pv_rL σ 10 g) (pI m)) (fun σ' => ∃ g', σ' = pv_rL σ 10 g' ∧ ∀ m s, m < r → s < r → bL (g' m) s = pg_W (pt_E kd cn fr) r s m) := by
      intro g hg
      unfold f_Pt_followCords_78
      rw [nadd_1]
      exact ih g hg
    by_cases h18 : kd m = 18
    · show pw (f_Pt_followCords_19b _ _ _ _ _) _
      unfold f_Pt_followCords_19b
      rw [pI_nat (by omega), e4, e8, h18, if_pos ((pI_in (by omega)).mpr (by omega)), if_pos ((pI_in (by omega)).mpr (by omega)), if_pos (show pI 18 = (18 : Int32) from rfl)]
      have nx := next (vp_updL g m 0) (fun k s hk hs => by
        by_cases hkm : k = m
        · subst hkm
          rw [show vp_updL g k 0 k = 0 by unfold vp_updL; simp, bL_0]
          unfold pt_E
          rw [h18]
          rfl
        · rw [show vp_updL g m 0 k = g k by unfold vp_updL; simp [hkm]]
          exact hg k s (by omega) hs)
      by_cases hc : pI (cn m) ≤ 0
      · rw [if_pos hc]; exact nx
      · rw [if_neg hc]; exact nx
    · have key2 := up_0 (N := cn m) (P := fun fu' j => ∀ g, (∀ k s, k < m → s < r → bL (g k) s = pt_E kd cn fr s k) → (∀ s, s < r → bL (g m) s = pany (fun j => decide (fr (4 * m + j) = some s)) j) → pw (f_Pt_followCords_19 (f_Pt_followCords_2 fu) fu' (pv_rL σ 10 g) (pI m) (pI j)) (fun σ' => ∃ g', σ' = pv_rL σ 10 g' ∧ ∀ m s, m < r → s < r → bL (g' m) s = pg_W (pt_E kd cn fr) r s m)) ?_ ?_ (i := 0) (by omega) (by omega)
      · refine key2 _ (fun k s hk hs => ?_) (fun s hs => ?_)
        · rw [show vp_updL g m 0 k = g k by unfold vp_updL; simp [show k ≠ m by omega]]
          exact hg k s hk hs
        · rw [show vp_updL g m 0 m = 0 by unfold vp_updL; simp, bL_0]
          rfl
      · intro fu' g hg hgm
        show pw (f_Pt_followCords_19b _ _ _ _ _) _
        unfold f_Pt_followCords_19b
        rw [pI_nat (by omega), e8, if_pos ((pI_in (by omega)).mpr (by omega)), if_pos ((pI_le (by omega) (by omega)).mpr (by omega))]
        refine next g (fun k s hk hs => ?_)
        by_cases hkm : k = m
        · subst hkm
          rw [hgm s hs]
          unfold pt_E
          simp [h18]
        · exact hg k s (by omega) hs
      · intro fu' j hj ih2 g hg hgm
        show pw (f_Pt_followCords_19b _ _ _ _ _) _
        unfold f_Pt_followCords_19b f_Pt_followCords_70
        have e5 : ∀ g, (pv_rL σ 10 g).1 5 (4 * m + j) = oI (fr (4 * m + j)) := fun g => hf _ (by omega)
        have ei : (4 : Int32) * pI m + pI j = pI (4 * m + j) := by rw [nmul_4, pI_add]
        rw [ei, pI_nat (by omega), pI_nat (by omega), e4, e8, e5, pv_rL2, if_pos ((pI_in (by omega)).mpr (by omega)), if_neg (fun z => by have := (pI_le (by omega) (by omega)).mp z; omega), if_pos ((pI_in (by omega)).mpr (by omega)), if_neg (show ¬ pI (kd m) = 18 from fun z => h18 ((neq_18 (by omega)).mp z)), if_pos ((pI_in (by omega)).mpr (by omega)), if_pos ((pI_in (by omega)).mpr (by omega)), nadd_1, pv_rLu, pv_rLu]
        have st : ∀ y, (∀ s, s < r → bL y s = decide (fr (4 * m + j) = some s)) → pw (f_Pt_followCords_19 (f_Pt_followCords_2 fu) fu' (pv_rL σ 10 (vp_updL g m (g m ||| y))) (pI m) (pI (j + 1))) (fun σ' => ∃ g', σ' = pv_rL σ 10 g' ∧ ∀ m s, m < r → s < r → bL (g' m) s = pg_W (pt_E kd cn fr) r s m) := by
          intro y hy
          refine ih2 _ (fun k s hk hs => ?_) (fun s hs => ?_)
          · rw [show vp_updL g m (g m ||| y) k = g k by unfold vp_updL; simp [show k ≠ m by omega]]
            exact hg k s hk hs
          · rw [show vp_updL g m (g m ||| y) m = g m ||| y by unfold vp_updL; simp, bL_or, hgm s hs, hy s hs]
            rfl
        cases e : fr (4 * m + j) with
        | none =>
          rw [if_pos (show oI none = -1 from rfl), if_pos ((pI_in (by omega)).mpr (by omega))]
          exact st 0 (fun s hs => by rw [bL_0, e]; rfl)
        | some k =>
          have hk := hl _ k (by omega) e
          rw [if_neg (show ¬ oI (some k) = -1 from fun z => (pI_neg (by omega)).mp z), if_pos ((pI_in (by omega)).mpr (by omega))]
          refine st _ (fun s hs => ?_)
          show bL ((1 : Int64) <<< ((pI k).toInt64 &&& 63)) s = _
          rw [bL_one k s (by omega) (by omega), e]
          simp [eq_comm]
