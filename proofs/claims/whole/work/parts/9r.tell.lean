/-! step: what is told of a step, on both sides. -/
/-- the slot of a module that is kept -/
theorem tell_slot {d : PD} (W : PW d) {σx σm : pv_S} (X : PX d σx) (M : PM d σm) {s : Nat} (hs : s < d_n d) (hK : d_K d s = true) : f_Md_slotOf σm (pI s) = some (σx.1 22 s, σm) := by
  obtain ⟨wf, ⟨x, O⟩, b1, so, closed, outK, P, sl24, l128⟩ := id W
  obtain ⟨p1, p2, p3, p4, p5, p6, p7⟩ := ph_of P
  have n24 : d_n d ≤ 24 := W.1.2.1
  obtain ⟨m1, m17, m14, m28, m1819, m20, m20'⟩ := id M
  obtain ⟨k, hk, ek⟩ := po_all n24 O hs
  obtain ⟨q1, q2⟩ := p6 k hk (by rw [ek]; exact hK)
  rw [ek] at q2
  generalize ph_kc (d_K d) (d_od d) k = t0 at q1 q2
  have key := up_0 (N := d_sc d) (P := fun fu i => ∀ x : Int32, (t0 < i → x = σx.1 22 s) → f_Md_slotOf_4 fu σm (pI s) x (pI i) = some (σx.1 22 s, σm)) (i := 0) ?_ ?_ (by omega) (by omega)
  · exact key (-1) (fun h => absurd h (by omega))
  · intro fu x hx
    show f_Md_slotOf_4b _ _ _ _ _ = _
    unfold f_Md_slotOf_4b
    rw [m28, if_pos ((pI_le (by omega) (by omega)).mpr (by omega)), hx (by omega)]
  · intro fu i hi ih x hx
    show f_Md_slotOf_4b _ _ _ _ _ = _
    unfold f_Md_slotOf_4b f_Md_slotOf_40 f_Md_slotOf_41
    have i48 : pv_in (pI i) 48 = true := (pI_in (by omega)).mpr (by omega)
    have smi : d_sm d i < d_n d := by
      by_cases h : i < d_fp d
      · obtain ⟨k, k1, _, _, k4⟩ := p4 i h
        rw [k4]; exact O.1 k k1
      · obtain ⟨k, k1, _, _, _, k4⟩ := p5 i (by omega) hi
        rw [k4]; exact O.1 k k1
    rw [m28, if_neg (by rw [pI_le (by omega) (by omega)]; omega), if_pos i48, if_pos i48, if_pos i48, pI_nat (by omega), (m1819 i hi).1, (m1819 i hi).2, nadd_1]
    by_cases hf : i < d_fp d
    · rw [if_pos (by rw [b2i_0]; exact decide_eq_false (by omega))]
      by_cases e : d_sm d i = s
      · rw [if_pos (by rw [e]), m20 i hf, ← X.2.2.2.2.2.2.1 i hf, e]
        exact ih _ (fun _ => rfl)
      · rw [if_neg (by rw [pI_eq (by omega) (by omega)]; exact e)]
        refine ih x (fun h => hx ?_)
        have : t0 ≠ i := fun z => e (by rw [← z]; exact q2)
        omega
    · rw [if_neg (by rw [b2i_0, decide_eq_false_iff_not]; omega)]
      exact ih x (fun h => hx (by omega))
theorem tell_step {d : PD} (W : PW d) {σx σm : pv_S} (X : PX d σx) (M : PM d σm) {t p : Nat} (ht : t < d_sc d) (hp : p ≤ 10) (r0 : σm.1 0 0 = 0) (r00 : pv_uI σm 0 0 0 = σm) : ∃ y, f_Pg_tell σx (pI t) (pI p) = some (y, σx) ∧ f_Md_step_39 σm (pI t) (pI p) 0 = some (y, σm) := by
  obtain ⟨wf, ⟨x, O⟩, b1, so, closed, outK, P, sl24, l128⟩ := id W
  obtain ⟨n1, n2, w1, w2, w3, w4, w5, w6, w7⟩ := id wf
  obtain ⟨p1, p2, p3, p4, p5, p6, p7⟩ := ph_of P
  obtain ⟨⟨⟨m18, m9, m11⟩, m13, m15⟩, m17, m14, m28, m1819, m20, m20'⟩ := id M
  have smn : ∀ t, t < d_sc d → d_sm d t < d_n d ∧ d_K d (d_sm d t) = true ∧ (d_fp d ≤ t → d_kd d (d_sm d t) = 18) := by
    intro t ht
    by_cases h : t < d_fp d
    · obtain ⟨k, k1, k2, _, k4⟩ := p4 t h
      rw [k4]; exact ⟨O.1 k k1, k2, fun z => absurd h (by omega)⟩
    · obtain ⟨k, k1, k2, k3, _, k4⟩ := p5 t (by omega) ht
      rw [k4]; exact ⟨O.1 k k1, k2, fun _ => k3⟩
  have sS : ∀ i k, i < 4 * d_n d → d_S d i = some k → k < d_n d := by
    intro i t hi h
    unfold d_S ps_s at h
    cases e : d_fr d i with
    | none => rw [e] at h; cases h
    | some s =>
      rw [e] at h
      exact b1 s t (w2 i s hi e).1 h
  have B : pr_B (d_n d) (d_kd d) (d_cn d) (d_S d) (d_fp d) (d_sc d) (d_sm d) := ⟨n2, p1, p3, by omega, fun t ht => (smn t ht).1, sS, fun m hm => ⟨(w1 m hm).1, (w1 m hm).2, pq_inp wf hm⟩, fun m j hm h1 h2 => by unfold d_S ps_s; rw [(w3 m j hm h1 h2).1], fun m hm h => by unfold d_S ps_s; rw [(w4 m hm h).1]⟩
  have X' : pr_X σx (d_n d) (d_kd d) (d_S d) (d_fp d) (d_sc d) (d_sm d) := ⟨X.1.1, fun i hi => (X.1.2.2.2 i hi).1, X.2.2.1, X.2.2.2.1, X.2.2.2.2.1⟩
  have src : ∀ i, i < 4 * d_n d → f_Md_source σm (pI i) = some (oI (d_S d i), σm) := fun i hi => ps_srcM n2 hi (m11 i hi).1 (fun k hk => (w2 i k hi hk).1) (fun k hk => (m15 k (w2 i k hi hk).1).1)
  have amt : ∀ i, i < 4 * d_n d → f_Md_amount σm (pI i) = some (d_A d i, σm) := fun i hi => ps_amtM n2 hi (m11 i hi).1 (m11 i hi).2 (fun k hk => (w2 i k hi hk).1) (fun k hk => ⟨(m15 k (w2 i k hi hk).1).1, fun t h => b1 k t (w2 i k hi hk).1 h, (m15 k (w2 i k hi hk).1).2⟩)
  obtain ⟨hm, hmK, hm18⟩ := smn t ht
  have x20 := X'.2.2.2.2 t ht
  have i48 : pv_in (pI t) 48 = true := (pI_in (by omega)).mpr (by omega)
  have i24 : pv_in (pI (d_sm d t)) 24 = true := (pI_in (by omega)).mpr (by omega)
  have e18 : σm.1 18 t = pI (d_sm d t) := (m1819 t ht).1
  have e19 : σm.1 19 t = b2i (decide (d_fp d ≤ t)) := (m1819 t ht).2
  have e9 : σm.1 9 (d_sm d t) = pI (d_kd d (d_sm d t)) := (m9 _ hm).1
  have tn : (pI t).toNatClampNeg = t := pI_nat (by omega)
  have mn : (pI (d_sm d t)).toNatClampNeg = d_sm d t := pI_nat (by omega)
  have hkd := (w1 _ hm).1
  generalize em : d_sm d t = m at *
  unfold f_Pg_tell f_Pg_tell_0 f_Md_step_39
  rw [r00, r0, if_pos (show (0 : Int32) ≤ 0 by decide), tn, e18]
  simp only [if_pos i48]
  by_cases hp3 : p < 3
  · have n3 : ¬ (3 : Int32) ≤ pI p := by rw [l_3, pI_le (by omega) (by omega)]; omega
    rw [if_neg n3]
    have c3 : p = 0 ∨ p = 1 ∨ p = 2 := by omega
    rcases c3 with rfl | rfl | rfl
    · simp only [if_pos (show pI 0 = 0 from rfl)]
      rw [pr_kind B X' ht, Option.bind_some, e19, if_pos i24, mn, e9, em]
      by_cases h : t < d_fp d
      · rw [if_pos h, decide_eq_false (by omega), if_pos (show b2i false = 0 from rfl)]; exact ⟨_, rfl, rfl⟩
      · rw [if_neg h, decide_eq_true (by omega), if_neg (show ¬ b2i true = 0 by decide)]; exact ⟨_, rfl, rfl⟩
    · simp only [if_neg (show ¬ pI 1 = 0 by decide), if_pos (show pI 1 = 1 from rfl)]
      rw [x20]; exact ⟨_, rfl, rfl⟩
    · simp only [if_neg (show ¬ pI 2 = 0 by decide), if_neg (show ¬ pI 2 = 1 by decide), if_pos (show pI 2 = 2 from rfl)]
      rw [x20, if_pos i24, mn, X'.2.2.2.1]
      by_cases h : t < d_fp d
      · rw [if_pos ((pI_lt (by omega) (by omega)).mpr h), m20 t h, ← em, X.2.2.2.2.2.2.1 t h]; exact ⟨_, rfl, rfl⟩
      · rw [if_neg (by rw [pI_lt (by omega) (by omega)]; exact h), m20' t (by omega) ht]; exact ⟨_, rfl, rfl⟩
  · have n3 : (3 : Int32) ≤ pI p := by rw [l_3, pI_le (by omega) (by omega)]; omega
    have q0 : ¬ pI p = 0 := by rw [l_0, pI_eq (by omega) (by omega)]; omega
    have q1 : ¬ pI p = 1 := by rw [l_1, pI_eq (by omega) (by omega)]; omega
    have q2 : ¬ pI p = 2 := by rw [l_2, pI_eq (by omega) (by omega)]; omega
    rw [if_pos n3, if_neg q0, if_neg q1, if_neg q2]
    by_cases hp7 : p < 7
    · have n7 : ¬ (7 : Int32) ≤ pI p := by rw [show (7 : Int32) = pI 7 from rfl, pI_le (by omega) (by omega)]; omega
      have ei : pI p - 3 = pI (p - 3) := by rw [l_3, pI_sub (by omega)]
      generalize hj : p - 3 = j at ei
      have hj4 : j < 4 := by omega
      rw [if_neg n7, if_neg n7, ei]
      have i4m : (4 : Int32) * pI m + pI j = pI (4 * m + j) := by rw [l_4, pI_mul, pI_add]
      have hsl : ∀ o : Option Nat, (∀ s, o = some s → s < 24) → f_Pg_sourceOf σx (pI t) (pI j) = some (oI o, σx) → f_Pg_slotRead σx (pI t) (pI j) = some (match o with | none => -1 | some s => σx.1 22 s, σx) := by
        intro o ho h
        unfold f_Pg_slotRead f_Pg_slotRead_0
        rw [h, Option.bind_some]
        cases o with
        | none => rfl
        | some s =>
          have := ho s rfl
          show (if pI s = -1 then _ else (if pv_in (pI s) 24 = true then some (σx.1 22 (pI s).toNatClampNeg, σx) else none)) = _
          rw [if_neg (fun y => (pI_neg (by omega)).mp y), if_pos ((pI_in (by omega)).mpr this), pI_nat (by omega)]
      have e162 : ∀ z, f_Md_step_162 σm (pI t) (pI p) (pI m) (pI j) z = if z = 0 then some (-1, σm) else some (match d_S d (4 * m + j) with | none => -1 | some s => σx.1 22 s, σm) := by
        intro z
        unfold f_Md_step_162
        rw [if_neg n7, i4m, src _ (by omega), Option.bind_some]
        by_cases hz : z = 0
        · rw [if_pos hz, if_pos hz]
        · rw [if_neg hz, if_neg hz]
          cases e : d_S d (4 * m + j) with
          | none => rfl
          | some s =>
            have hs := sS _ s (by omega) e
            have hK := closed m j s hm hj4 hmK e
            show (if pI s < 0 then _ else ((f_Md_source σm (pI (4 * m + j))).bind _)) = _
            rw [if_neg (by rw [pI_lt0 (by omega)]; exact id), src _ (by omega), Option.bind_some, e]
            show (f_Md_slotOf σm (pI s)).bind _ = _
            rw [tell_slot W X M hs hK]
            rfl
      have so24 : ∀ s, pr_so (d_fp d) (d_kd d) (d_S d) (d_sm d) t j = some s → s < 24 := by
        intro s h
        unfold pr_so at h
        rw [em] at h
        by_cases h1 : t < d_fp d
        · rw [if_pos h1] at h
          by_cases h2 : d_kd d m = 18
          · rw [if_pos h2] at h; cases h
          · rw [if_neg h2] at h
            have := sS _ s (by omega) h
            omega
        · rw [if_neg h1] at h
          by_cases h2 : j = 0
          · rw [if_pos h2] at h
            have := sS _ s (by omega) h
            omega
          · rw [if_neg h2] at h; cases h
      rw [hsl _ so24 (pr_source B X' ht hj4), Option.bind_some]
      unfold f_Md_step_122
      rw [if_pos i48, tn, e19, if_pos i24, mn, e9, e162, e162]
      refine ⟨_, rfl, ?_⟩
      unfold pr_so
      rw [em]
      by_cases h : t < d_fp d
      · rw [decide_eq_false (show ¬ d_fp d ≤ t by omega), if_pos (show b2i false = 0 from rfl), if_pos h]
        by_cases k18 : d_kd d m = 18
        · rw [if_pos k18, if_pos (show pI (d_kd d m) = 18 by rw [k18]; rfl), if_pos rfl]
        · rw [if_neg k18, if_neg (show ¬ pI (d_kd d m) = 18 by rw [show (18 : Int32) = pI 18 from rfl, pI_eq (by omega) (by omega)]; exact k18), if_neg (by decide)]
      · rw [decide_eq_true (show d_fp d ≤ t by omega), if_neg (show ¬ b2i true = 0 by decide), if_neg h]
        by_cases j0 : j = 0
        · subst j0
          rw [if_pos rfl, if_pos (show pI 0 = 0 from rfl), if_neg (by decide)]
          rfl
        · rw [if_neg j0, if_neg (show ¬ pI j = 0 by rw [l_0, pI_eq (by omega) (by omega)]; exact j0), if_pos rfl]
    · have n7 : (7 : Int32) ≤ pI p := by rw [show (7 : Int32) = pI 7 from rfl, pI_le (by omega) (by omega)]; omega
      have ei : pI p - 7 = pI (p - 7) := by rw [show (7 : Int32) = pI 7 from rfl, pI_sub (by omega)]
      generalize hj : p - 7 = j at ei
      have hj4 : j < 4 := by omega
      rw [if_pos n7, if_pos n7, ei]
      have i4m : (4 : Int32) * pI m + pI j = pI (4 * m + j) := by rw [l_4, pI_mul, pI_add]
      have hx : f_Pg_numberRead σx (pI t) (pI j) = some (if pr_rs (d_fp d) (d_kd d) (d_cn d) (d_sm d) t j = true then d_A d (4 * m + j) else 0, σx) := by
        unfold f_Pg_numberRead f_Pg_numberRead_0 f_Pg_numberRead_23 f_Pg_numberRead_24
        rw [pr_reads B X' ht hj4, Option.bind_some, pr_source B X' ht hj4, Option.bind_some, if_pos i48, tn, x20, i4m, if_pos ((pI_in (by omega)).mpr (by omega)), pI_nat (by omega), (X.1.2.2.2 (4 * m + j) (by omega)).2]
        cases er : pr_rs (d_fp d) (d_kd d) (d_cn d) (d_sm d) t j with
        | false => rw [if_pos (by rfl)]; rfl
        | true =>
          rw [if_neg (show ¬ b2i true = 0 by decide)]
          have eso : pr_so (d_fp d) (d_kd d) (d_S d) (d_sm d) t j = d_S d (4 * m + j) := by
            unfold pr_rs at er
            unfold pr_so
            rw [em] at er ⊢
            by_cases h : t < d_fp d
            · rw [if_pos h] at er ⊢
              by_cases k18 : d_kd d m = 18
              · rw [if_pos k18] at er ⊢
                rw [of_decide_eq_true er]
                exact (B.2.2.2.2.2.2.2.2 m hm k18).symm
              · rw [if_neg k18]
            · rw [if_neg h] at er ⊢
              have := of_decide_eq_true er
              rw [if_pos this, this, Nat.add_zero]
          rw [eso]
          cases e : d_S d (4 * m + j) with
          | none => rw [if_pos (show oI none = -1 from rfl), if_neg (by decide)]; rfl
          | some s =>
            have hs := sS _ s (by omega) e
            rw [if_neg (show ¬ oI (some s) = -1 from fun y => (pI_neg (by omega)).mp y), if_pos rfl, if_pos rfl]
            have : d_A d (4 * m + j) = 0 := by
              unfold d_S ps_s at e
              unfold d_A ps_a
              cases e2 : d_fr d (4 * m + j) with
              | none => rw [e2] at e; cases e
              | some k =>
                rw [e2] at e
                have e : d_sd d k = some s := e
                show (match d_sd d k with | none => d_sn d k | some _ => 0) = 0
                rw [e]
            rw [this]
      rw [hx, Option.bind_some]
      have e250 : f_Md_step_250 σm (pI m) (pI j) = some (d_A d (4 * m + j), σm) := by
        unfold f_Md_step_250
        rw [i4m, amt _ (by omega)]; rfl
      have e162 : ∀ z, f_Md_step_162 σm (pI t) (pI p) (pI m) (pI j) z = some (if pr_rs (d_fp d) (d_kd d) (d_cn d) (d_sm d) t j = true then d_A d (4 * m + j) else 0, σm) := by
        intro z
        unfold f_Md_step_162 f_Md_step_221
        rw [if_pos n7, tn, e19, if_pos i24, mn, e9, e250]
        simp only [if_pos i48]
        unfold pr_rs
        rw [em]
        by_cases h : t < d_fp d
        · rw [decide_eq_false (show ¬ d_fp d ≤ t by omega), if_pos (show b2i false = 0 from rfl), if_pos (show b2i false = 0 from rfl), if_pos h]
          by_cases k18 : d_kd d m = 18
          · rw [if_pos k18, if_pos (show pI (d_kd d m) = 18 by rw [k18]; rfl)]
            by_cases j0 : j = 0
            · subst j0
              rw [if_pos (show pI 0 = 0 from rfl)]; rfl
            · rw [if_neg (show ¬ pI j = 0 by rw [l_0, pI_eq (by omega) (by omega)]; exact j0)]
              by_cases j1 : j = 1
              · rw [decide_eq_true j1, if_pos rfl]
              · rw [decide_eq_false j1, if_neg (by decide)]
                have c2 : d_cn d m = 2 := by rw [(w1 m hm).2, k18]; rfl
                obtain ⟨f1, f2⟩ := w3 m j hm (by omega) hj4
                unfold d_A ps_a
                rw [f1]
                show some (d_nu d (4 * m + j), σm) = _
                rw [f2]
          · rw [if_neg k18, if_neg (show ¬ pI (d_kd d m) = 18 by rw [show (18 : Int32) = pI 18 from rfl, pI_eq (by omega) (by omega)]; exact k18)]
            by_cases jc : j < d_cn d m
            · rw [decide_eq_true jc, if_pos rfl]
            · rw [decide_eq_false jc, if_neg (by decide)]
              obtain ⟨f1, f2⟩ := w3 m j hm (by omega) hj4
              unfold d_A ps_a
              rw [f1]
              show some (d_nu d (4 * m + j), σm) = _
              rw [f2]
        · rw [decide_eq_true (show d_fp d ≤ t by omega), if_neg (show ¬ b2i true = 0 by decide), if_neg (show ¬ b2i true = 0 by decide), if_neg h]
          by_cases j0 : j = 0
          · subst j0
            rw [if_neg (by decide)]; rfl
          · rw [if_pos (by rw [l_0, pI_lt (by omega) (by omega)]; omega), decide_eq_false j0]; rfl
      unfold f_Md_step_122
      rw [if_pos i48, tn, e19, if_pos i24, mn, e9, e162, e162]
      refine ⟨_, rfl, ?_⟩
      by_cases h : b2i (decide (d_fp d ≤ t)) = 0
      · rw [if_pos h]
        by_cases h2 : pI (d_kd d m) = 18
        · rw [if_pos h2]
        · rw [if_neg h2]
      · rw [if_neg h]
        by_cases h2 : pI j = 0
        · rw [if_pos h2]
        · rw [if_neg h2]
theorem Rel_step {j : Nat} {σx σm : pv_S} (R : Rel j σx σm) (x1 x2 : Int32) : sim_h (Rel (j + 1)) [0, 1] cod_step (f_PV_step σx x1 x2) (f_Md_step σm x1 x2) := by
  obtain ⟨_, _, _, V, ns, nt, b, od, v, s, _, g, rv⟩ := id R
  have r0 : ∀ z, (pv_uI σm 0 0 z).1 0 0 = z := fun _ => rfl
  have r00 : ∀ y z, pv_uI (pv_uI σm 0 0 y) 0 0 z = pv_uI σm 0 0 z := fun y z => pp_uIuI _ _ _ _ _
  have b20 : f_Md_step_20 σm x1 x2 = some (0, pv_uI σm 0 0 1) := by
    unfold f_Md_step_20 f_Md_step_39
    rw [r0, if_neg (by decide)]
  have b34 : f_Md_step_34 σm x1 x2 = some (0, pv_uI σm 0 0 2) := by
    unfold f_Md_step_34 f_Md_step_39
    rw [r0, if_neg (by decide)]
  have bad1 : f_PV_step σx x1 x2 = some (.inr (0, σx)) → f_Md_step σm x1 x2 = some (0, pv_uI σm 0 0 1) → sim_h (Rel (j + 1)) [0, 1] cod_step (f_PV_step σx x1 x2) (f_Md_step σm x1 x2) := fun h1 h2 => ⟨_, _, _, h1, List.mem_cons_self, h2, rfl, rfl, fun r hr => (by cases hr), Rel_thrown 1 R⟩
  have bad2 : f_PV_step σx x1 x2 = some (.inr (1, σx)) → f_Md_step σm x1 x2 = some (0, pv_uI σm 0 0 2) → sim_h (Rel (j + 1)) [0, 1] cod_step (f_PV_step σx x1 x2) (f_Md_step σm x1 x2) := fun h1 h2 => ⟨_, _, _, h1, List.mem_cons_of_mem _ List.mem_cons_self, h2, rfl, rfl, fun r hr => (by cases hr), Rel_thrown 2 R⟩
  cases od with
  | none =>
    obtain ⟨g1, g2, g3, g4⟩ := g
    refine bad1 ?_ ?_
    · unfold f_PV_step f_PV_step_0
      rw [g3]
      by_cases h : x1 < 0
      · rw [if_pos h]
      · rw [if_neg h, if_neg h]
    · unfold f_Md_step f_Md_step_0
      rw [if_pos g1]; exact b20
  | some d =>
    obtain ⟨g1, W, X, M⟩ := g
    have g16 : ¬ σm.1 0 16 = 0 := by rw [g1]; decide
    have x111 : σx.1 11 1 = pI (d_sc d) := X.2.2.1
    have m28 : σm.1 0 28 = pI (d_sc d) := M.2.2.2.1
    have sc48 : d_sc d ≤ 48 := by
      obtain ⟨p1, p2, p3, _⟩ := ph_of W.2.2.2.2.2.2.1
      have := W.1.2.1
      omega
    by_cases h : x1 < 0
    · refine bad1 ?_ ?_
      · unfold f_PV_step f_PV_step_0; rw [if_pos h]
      · unfold f_Md_step f_Md_step_0; rw [if_neg g16, if_pos h]; exact b20
    · obtain ⟨e1, l1⟩ := pI_of h
      generalize x1.toNatClampNeg = t at e1 l1
      by_cases ht : t < d_sc d
      · have lt : x1 < pI (d_sc d) := by rw [e1]; exact (pI_lt (by omega) (by omega)).mpr ht
        by_cases h2 : x2 < 0
        · refine bad2 ?_ ?_
          · unfold f_PV_step f_PV_step_0; rw [if_neg h, x111, if_pos lt, if_pos h2]
          · unfold f_Md_step f_Md_step_0; rw [if_neg g16, if_neg h, m28, if_pos lt, if_pos h2]; exact b34
        · by_cases h10 : x2 ≤ 10
          · obtain ⟨e2, l2⟩ := pI_of h2
            generalize x2.toNatClampNeg = p at e2 l2
            have hp : p ≤ 10 := by
              rw [e2, show (10 : Int32) = pI 10 from rfl, pI_le (by omega) (by omega)] at h10
              exact h10
            have M' : PM d (pv_uI σm 0 0 0) := PM_congr (fun c h1 h2 => by funext i; rw [uI1n (by omega)]) (by rw [uI1c, if_neg (by decide)]) (by rw [uI1c, if_neg (by decide)]) M
            obtain ⟨y, y1, y2⟩ := tell_step W X M' ht hp (r0 0) (r00 0 0)
            rw [← e1, ← e2] at y1 y2
            have hm : f_Md_step_39 σm x1 x2 0 = some (y, pv_uI σm 0 0 0) := by
              rw [← y2]
              unfold f_Md_step_39
              rw [r00]
            refine ⟨.inl (y, σx), (y, pv_uI σm 0 0 0), _, ?_, trivial, ?_, rfl, rfl, fun r hr => ?_, Rel_thrown 0 R⟩
            · unfold f_PV_step f_PV_step_0; rw [if_neg h, x111, if_pos lt, if_neg h2, if_pos h10, y1]; rfl
            · unfold f_Md_step f_Md_step_0; rw [if_neg g16, if_neg h, m28, if_pos lt, if_neg h2, if_pos h10]; exact hm
            · cases hr; rfl
          · refine bad2 ?_ ?_
            · unfold f_PV_step f_PV_step_0; rw [if_neg h, x111, if_pos lt, if_neg h2, if_neg h10]
            · unfold f_Md_step f_Md_step_0; rw [if_neg g16, if_neg h, m28, if_pos lt, if_neg h2, if_neg h10]; exact b34
      · have nlt : ¬ x1 < pI (d_sc d) := by rw [e1, pI_lt (by omega) (by omega)]; exact ht
        refine bad1 ?_ ?_
        · unfold f_PV_step f_PV_step_0; rw [if_neg h, x111, if_neg nlt]
        · unfold f_Md_step f_Md_step_0; rw [if_neg g16, if_neg h, m28, if_neg nlt]; exact b20
