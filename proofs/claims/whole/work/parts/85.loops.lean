/-! Loops of cords, in the reference. -/
theorem bool_ext {a b : Bool} (h : a = true ↔ b = true) : a = b := by cases a <;> cases b <;> simp_all
theorem pt_onward {σ : pv_S} {r : Nat} {nm : Nat → Int32} {kd cn : Nat → Nat} {cd nu : Nat → Int32} (h : pt_M σ r nm kd cn cd nu) (wf : pt_WF r kd cn cd nu) (hr : r ≤ 24) (nl : ∀ m j, m < r → j < cn m → cd (4 * m + j) ≠ 0 → pt_mo nm r (cd (4 * m + j)) ≠ none) (x : Int32) : pw (f_Md_onward σ x) (fun a => a.2 = σ ∧ ∀ t, t < 32 → bI a.1 t = (decide (t < r) && pany (fun s => bI x s && pt_E kd cn (pt_fr nm r cd) s t) r)) := by
  obtain ⟨h5, hm, hi⟩ := h
  obtain ⟨w1, w2, wf⟩ := wf
  have key := up_0 (N := r) (P := fun fu m => ∀ y, (∀ t, t < 32 → bI y t = (decide (t < m) && pany (fun s => bI x s && pt_E kd cn (pt_fr nm r cd) s t) r)) → pw (f_Md_onward_4 fu σ x y (pI m)) (fun a => a.2 = σ ∧ ∀ t, t < 32 → bI a.1 t = (decide (t < r) && pany (fun s => bI x s && pt_E kd cn (pt_fr nm r cd) s t) r))) ?_ ?_ (i := 0) (by omega) (by omega)
  · exact key 0 (fun t _ => by rw [bI_0]; simp)
  · intro fu y hy
    show pw (f_Md_onward_4b _ _ _ _ _) _
    unfold f_Md_onward_4b
    rw [h5, if_pos ((pI_le (by omega) (by omega)).mpr (by omega))]
    exact pw_some.mpr ⟨rfl, hy⟩
  · intro fu m hmr ih y hy
    obtain ⟨k4, k5, k6⟩ := hm m hmr
    obtain ⟨k20, c4, _, _⟩ := wf m hmr
    show pw (f_Md_onward_4b _ _ _ _ _) _
    unfold f_Md_onward_4b
    rw [h5, if_neg (fun z => by have := (pI_le (by omega) (by omega)).mp z; omega), nmul_4]
    have Qm : pany (fun s => bI x s && pt_E kd cn (pt_fr nm r cd) s m) r = (decide (kd m ≠ 18) && pany (fun j => match pt_fr nm r cd (4 * m + j) with | some s => bI x s | none => false) (cn m)) := by
      apply bool_ext
      rw [pany_true, Bool.and_eq_true, decide_eq_true_eq, pany_true]
      constructor
      · rintro ⟨s, hs, z⟩
        rw [Bool.and_eq_true] at z
        unfold pt_E at z
        rw [Bool.and_eq_true, decide_eq_true_eq, pany_true] at z
        obtain ⟨z1, z2, j, hj, z3⟩ := z
        refine ⟨z2, j, hj, ?_⟩
        rw [of_decide_eq_true z3]
        exact z1
      · rintro ⟨z2, j, hj, z3⟩
        cases e : pt_fr nm r cd (4 * m + j) with
        | none => rw [e] at z3; cases z3
        | some s =>
          rw [e] at z3
          refine ⟨s, pt_fr_lt e, ?_⟩
          rw [Bool.and_eq_true]
          refine ⟨z3, ?_⟩
          unfold pt_E
          rw [Bool.and_eq_true, decide_eq_true_eq, pany_true]
          exact ⟨z2, j, hj, decide_eq_true e⟩
    have next : ∀ y, (∀ t, t < 32 → bI y t = (decide (t < m + 1) && pany (fun s => bI x s && pt_E kd cn (pt_fr nm r cd) s t) r)) → pw (f_Md_onward_88 (f_Md_onward_4 fu) σ x y (pI m)) (fun a => a.2 = σ ∧ ∀ t, t < 32 → bI a.1 t = (decide (t < r) && pany (fun s => bI x s && pt_E kd cn (pt_fr nm r cd) s t) r)) := by
      intro y hy
      unfold f_Md_onward_88
      rw [nadd_1]
      exact ih y hy
    by_cases h18 : kd m = 18
    · have nx := next y (fun t ht => by
        rw [hy t ht]
        by_cases e : t = m
        · subst e
          rw [Qm, h18]
          simp
        · by_cases e2 : t < m
          · rw [decide_eq_true e2, decide_eq_true (show t < m + 1 by omega)]
          · rw [decide_eq_false e2, decide_eq_false (show ¬ t < m + 1 by omega)])
      show pw (f_Md_onward_17b _ _ _ _ _ _ _) _
      unfold f_Md_onward_17b
      rw [pI_nat (by omega), k5, h18, if_pos ((pI_in (by omega)).mpr (by omega)), if_pos ((pI_in (by omega)).mpr (by omega)), if_pos (show pI 18 = (18 : Int32) from rfl)]
      by_cases hc : (4 : Int32) * pI m + σ.1 6 m ≤ pI (4 * m)
      · rw [if_pos hc]; exact nx
      · rw [if_neg hc]; exact nx
    · have key2 := up_0 (N := cn m) (P := fun fu' j => ∀ y, (∀ t, t < 32 → bI y t = ((decide (t < m) && pany (fun s => bI x s && pt_E kd cn (pt_fr nm r cd) s t) r) || (decide (t = m) && pany (fun j => match pt_fr nm r cd (4 * m + j) with | some s => bI x s | none => false) j))) → pw (f_Md_onward_17 (f_Md_onward_4 fu) fu' σ x y (pI m) (pI (4 * m + j))) (fun a => a.2 = σ ∧ ∀ t, t < 32 → bI a.1 t = (decide (t < r) && pany (fun s => bI x s && pt_E kd cn (pt_fr nm r cd) s t) r))) ?_ ?_ (i := 0) (by omega) (by omega)
      · exact key2 y (fun t ht => by rw [hy t ht]; simp [pany])
      · intro fu' y hy
        show pw (f_Md_onward_17b _ _ _ _ _ _ _) _
        unfold f_Md_onward_17b
        rw [pI_nat (by omega), k6, nmul_4, pI_add, if_pos ((pI_in (by omega)).mpr (by omega)), if_pos ((pI_le (by omega) (by omega)).mpr (by omega))]
        refine next y (fun t ht => ?_)
        rw [hy t ht]
        by_cases e : t = m
        · subst e
          rw [Qm]
          simp [h18]
        · by_cases e2 : t < m
          · simp [e, e2, show t < m + 1 by omega]
          · simp [e, e2, show ¬ t < m + 1 by omega]
      · intro fu' j hj ih2 y hy
        have e7 := (hi m j hmr hj).1
        show pw (f_Md_onward_17b _ _ _ _ _ _ _) _
        unfold f_Md_onward_17b f_Md_onward_80 f_Md_onward_81
        rw [pI_nat (by omega), pI_nat (by omega), k5, k6, nmul_4, pI_add, e7, if_pos ((pI_in (by omega)).mpr (by omega)), if_neg (fun z => by have := (pI_le (by omega) (by omega)).mp z; omega), if_pos ((pI_in (by omega)).mpr (by omega)), if_neg (show ¬ pI (kd m) = 18 from fun z => h18 ((neq_18 (by omega)).mp z)), if_pos ((pI_in (by omega)).mpr (by omega)), nadd_1, if_pos ((pI_in (by omega)).mpr (by omega)), pt_moduleOf h5 w1 (by omega) (fun m hm2 => (hm m hm2).1)]
        have st : ∀ y', (∀ t, t < 32 → bI y' t = (bI y t || (decide (t = m) && (match pt_fr nm r cd (4 * m + j) with | some s => bI x s | none => false)))) → pw (f_Md_onward_17 (f_Md_onward_4 fu) fu' σ x y' (pI m) (pI (4 * m + j + 1))) (fun a => a.2 = σ ∧ ∀ t, t < 32 → bI a.1 t = (decide (t < r) && pany (fun s => bI x s && pt_E kd cn (pt_fr nm r cd) s t) r)) := by
          intro y' hy'
          refine ih2 y' (fun t ht => ?_)
          rw [hy' t ht, hy t ht]
          show _ = ((decide (t < m) && pany (fun s => bI x s && pt_E kd cn (pt_fr nm r cd) s t) r) || (decide (t = m) && (pany (fun j => match pt_fr nm r cd (4 * m + j) with | some s => bI x s | none => false) j || (match pt_fr nm r cd (4 * m + j) with | some s => bI x s | none => false))))
          by_cases e : t = m
          · subst e
            simp
          · simp [e]
        by_cases h0 : cd (4 * m + j) = 0
        · rw [if_pos h0]
          refine st y (fun t ht => ?_)
          rw [show pt_fr nm r cd (4 * m + j) = none by unfold pt_fr; rw [if_pos h0]]
          simp
        · rw [if_neg h0]
          cases e : pt_mo nm r (cd (4 * m + j)) with
          | none => exact absurd e (nl m j hmr hj h0)
          | some s =>
            have hs := pt_mo_lt e
            have ef : pt_fr nm r cd (4 * m + j) = some s := by unfold pt_fr; rw [if_neg h0]; exact e
            simp only [Option.bind_some]
            rw [show oI (some s) = pI s from rfl]
            by_cases hb : bI x s = true
            · rw [if_pos ((bI_test1 x s (by omega)).mpr hb)]
              refine st _ (fun t ht => ?_)
              rw [bI_or, bI_one m t (by omega) ht, ef]
              simp [hb]
            · rw [if_neg (fun z => hb ((bI_test1 x s (by omega)).mp z))]
              refine st _ (fun t ht => ?_)
              rw [ef]
              simp [hb]
def pt_it (ow : Int32 → Int32) (x : Int32) : Nat → Int32
  | 0 => x
  | k + 1 => pt_it ow x k ||| ow (pt_it ow x k)
theorem pt_looped {σ : pv_S} {r : Nat} {nm : Nat → Int32} {kd cn : Nat → Nat} {cd nu : Nat → Int32} (h : pt_M σ r nm kd cn cd nu) (wf : pt_WF r kd cn cd nu) (hr : r ≤ 24) (nl : ∀ m j, m < r → j < cn m → cd (4 * m + j) ≠ 0 → pt_mo nm r (cd (4 * m + j)) ≠ none) {m : Nat} (hm : m < r) : f_Md_isLooped σ (pI m) = some (b2i (pg_W (pt_E kd cn (pt_fr nm r cd)) r m m), σ) := by
  have H := fun x => pt_onward h wf hr nl x
  obtain ⟨ow, hw⟩ : ∃ ow : Int32 → Int32, ∀ x, f_Md_onward σ x = some (ow x, σ) ∧ ∀ t, t < 32 → bI (ow x) t = (decide (t < r) && pany (fun s => bI x s && pt_E kd cn (pt_fr nm r cd) s t) r) := by
    refine ⟨fun x => (H x).choose.1, fun x => ?_⟩
    obtain ⟨e1, e2, e3⟩ := (H x).choose_spec
    refine ⟨?_, e3⟩
    rw [e1]
    congr 1
    exact Prod.ext rfl e2
  have key := up_0 (N := 24) (P := fun fu k => f_Md_isLooped_10 fu σ (pI m) (pt_it ow (ow ((1 : Int32) <<< (pI m &&& 31))) k) (pI k) = some (b2i (bI (pt_it ow (ow ((1 : Int32) <<< (pI m &&& 31))) 24) m), σ)) ?_ ?_ (i := 0) (by omega) (by omega)
  · have key' : f_Md_isLooped σ (pI m) = some (b2i (bI (pt_it ow (ow ((1 : Int32) <<< (pI m &&& 31))) 24) m), σ) := by
      unfold f_Md_isLooped f_Md_isLooped_0
      rw [(hw _).1, Option.bind_some]
      exact key
    rw [key']
    congr 3
    apply bool_ext
    refine pg_meet (E := pt_E kd cn (pt_fr nm r cd)) (n := r) hm (S := fun k t => bI (pt_it ow (ow ((1 : Int32) <<< (pI m &&& 31))) k) t) (fun t ht => ?_) (fun k t ht => ?_) (k := 24) (by omega) m hm
    · show bI (ow _) t = _
      rw [(hw _).2 t (by omega), decide_eq_true ht, Bool.true_and]
      apply bool_ext
      rw [pany_true]
      constructor
      · rintro ⟨s, hs, z⟩
        rw [Bool.and_eq_true, bI_one m s (by omega) (by omega), decide_eq_true_eq] at z
        rw [← z.1]
        exact z.2
      · intro z
        refine ⟨m, hm, ?_⟩
        rw [Bool.and_eq_true, bI_one m m (by omega) (by omega)]
        exact ⟨decide_eq_true rfl, z⟩
    · show bI (pt_it ow _ k ||| ow (pt_it ow _ k)) t = true ↔ _
      rw [bI_or, Bool.or_eq_true, (hw _).2 t (by omega), decide_eq_true ht, Bool.true_and, pany_true]
      constructor
      · rintro (z | ⟨s, hs, z⟩)
        · exact Or.inl z
        · rw [Bool.and_eq_true] at z
          exact Or.inr ⟨s, hs, z.1, z.2⟩
      · rintro (z | ⟨s, hs, z, z2⟩)
        · exact Or.inl z
        · exact Or.inr ⟨s, hs, by rw [Bool.and_eq_true]; exact ⟨z, z2⟩⟩
  · intro fu
    show f_Md_isLooped_10b _ _ _ _ _ = _
    unfold f_Md_isLooped_10b
    rw [if_pos (show (24 : Int32) ≤ pI 24 by decide)]
    cases hb : bI (pt_it ow (ow ((1 : Int32) <<< (pI m &&& 31))) 24) m with
    | true => rw [if_pos ((bI_test1 _ _ (by omega)).mpr hb)]; rfl
    | false => rw [if_neg (fun z => by rw [bI_test1 _ _ (by omega), hb] at z; cases z)]; rfl
  · intro fu k hk ih
    show f_Md_isLooped_10b _ _ _ _ _ = _
    unfold f_Md_isLooped_10b
    rw [if_neg (fun z => by rw [nle_24 (by omega)] at z; omega), (hw _).1, nadd_1, Option.bind_some]
    exact ih
