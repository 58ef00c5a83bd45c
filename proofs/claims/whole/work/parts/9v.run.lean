/-! run, on both sides. -/
theorem clamp64 (x : Int64) : (if 0 ≤ lg_cmp x (-32768) then (if lg_cmp x 32767 ≤ 0 then x.toInt32 else 32767) else -32768 : Int32) = (if (if x < 32767 then x else 32767) < (-32768 : Int64) then (-32768 : Int64) else (if x < 32767 then x else 32767)).toInt32 := by
  have hl : ∀ y z : Int64, y < z ↔ y.toInt < z.toInt := fun y z => Int64.lt_iff_toInt_lt
  have hle : ∀ y z : Int64, y ≤ z ↔ y.toInt ≤ z.toInt := fun y z => Int64.le_iff_toInt_le
  have c1 : (32767 : Int64).toInt = 32767 := rfl
  have c2 : (-32768 : Int64).toInt = -32768 := rfl
  by_cases h1 : x < 32767
  · rw [if_pos h1]
    have h1' := (hl _ _).mp h1
    rw [c1] at h1'
    by_cases h2 : x < -32768
    · have h2' := (hl _ _).mp h2
      rw [c2] at h2'
      rw [if_pos h2, if_neg (fun z => by have := (hle _ _).mp ((lg_ge _ _).mp z); rw [c2] at this; omega)]
      rfl
    · have h2' : ¬ x.toInt < -32768 := fun z => h2 ((hl _ _).mpr (by rw [c2]; exact z))
      rw [if_neg h2, if_pos ((lg_ge _ _).mpr ((hle _ _).mpr (by rw [c2]; omega))), if_pos ((lg_le _ _).mpr ((hle _ _).mpr (by rw [c1]; omega)))]
  · rw [if_neg h1]
    have h1' : ¬ x.toInt < 32767 := fun z => h1 ((hl _ _).mpr (by rw [c1]; exact z))
    rw [if_neg (show ¬ (32767 : Int64) < -32768 by decide), if_pos ((lg_ge _ _).mpr ((hle _ _).mpr (by rw [c2]; omega)))]
    by_cases h3 : x ≤ 32767
    · have h3' := (hle _ _).mp h3
      rw [c1] at h3'
      have : x = 32767 := Int64.toInt_inj.mp (by rw [c1]; omega)
      rw [if_pos ((lg_le _ _).mpr h3), this]
    · rw [if_neg (fun z => h3 ((lg_le _ _).mp z))]
      rfl
theorem RV_untaken {od od' : Option PD} {v s s' nt nt' b b' : Nat} {σx σm : pv_S} (h : σm.1 22 v = 0) (R : RV od v s nt b σx σm) : RV od' v s' nt' b' σx σm := by
  rcases R with r | ⟨_, r, _⟩
  · exact Or.inl r
  · rw [h] at r; exact absurd r (by decide)
/-- one sample of all voices -/
theorem run_voices {d : PD} (W : PW d) {sx sm : pv_S} (X : PX d sx) (M : PM d sm) {V s nt b : Nat} (hV : V ≤ 4) (x7 : sx.1 0 7 = pI V) (m32 : sm.1 0 32 = pI V) (h48 : sm.1 0 48 = pI s) (hs : s < 1000000) (hkn : ∀ k, k < 4 → sx.1 26 k = sm.1 21 k) (s3 : ∀ v, V ≤ v → v < 4 → sm.1 22 v = 0) (rv : ∀ v, v < 4 → RV (some d) v s nt b sx sm) (k40 : pv_S → Int32 → Int32 → Option pv_S) (x1 x2 : Int32) : ∃ (y : Int32) (σx σm : pv_S), f_PV_nextSample sx = some (y, σx) ∧ f_Md_run_50 k40 pv_fu sm x1 x2 0 0 = f_Md_run_124 k40 σm x1 x2 y x2 ∧ (∀ c, c < 28 → σx.1 c = sx.1 c) ∧ σx.2 = sx.2 ∧ (∀ c, ¬ (c = 26 ∨ c = 27 ∨ c = 28 ∨ (30 ≤ c ∧ c ≤ 34)) → σm.1 c = sm.1 c) ∧ σm.2 = sm.2 ∧ ∀ v, v < 4 → RV (some d) v (s + 1) nt b σx σm := by
  unfold f_PV_nextSample f_PV_nextSample_0
  have key := up_0 (N := V) (P := fun fu i => ∀ (τx τm : pv_S) (acc : Int64), (∀ c, c < 28 → τx.1 c = sx.1 c) → τx.2 = sx.2 → (∀ c, ¬ (c = 26 ∨ c = 27 ∨ c = 28 ∨ (30 ≤ c ∧ c ≤ 34)) → τm.1 c = sm.1 c) → τm.2 = sm.2 → (∀ v, v < 4 → (v < i → RV (some d) v (s + 1) nt b τx τm) ∧ (i ≤ v → RV (some d) v s nt b τx τm)) → ∃ (y : Int32) (σx σm : pv_S), f_PV_nextSample_4 fu τx acc (pI i) = some (y, σx) ∧ f_Md_run_50 k40 fu τm x1 x2 acc (pI i) = f_Md_run_124 k40 σm x1 x2 y x2 ∧ (∀ c, c < 28 → σx.1 c = sx.1 c) ∧ σx.2 = sx.2 ∧ (∀ c, ¬ (c = 26 ∨ c = 27 ∨ c = 28 ∨ (30 ≤ c ∧ c ≤ 34)) → σm.1 c = sm.1 c) ∧ σm.2 = sm.2 ∧ ∀ v, v < 4 → RV (some d) v (s + 1) nt b σx σm) (i := 0) ?_ ?_ (by omega) (by omega)
  · exact key sx sm 0 (fun _ _ => rfl) rfl (fun _ _ => rfl) rfl (fun v hv => ⟨fun h => absurd h (by omega), fun _ => rv v hv⟩)
  · intro fu τx τm acc a1 a2 a3 a4 a5
    have le : pI V ≤ pI V := (pI_le (by omega) (by omega)).mpr (by omega)
    refine ⟨(if (if acc < 32767 then acc else 32767) < (-32768 : Int64) then (-32768 : Int64) else (if acc < 32767 then acc else 32767)).toInt32, τx, τm, ?_, ?_, a1, a2, a3, a4, fun v hv => ?_⟩
    · show f_PV_nextSample_4b _ _ _ _ = _
      unfold f_PV_nextSample_4b
      rw [a1 0 (by decide), x7, if_pos le]
    · show f_Md_run_50b _ _ _ _ _ _ _ = _
      unfold f_Md_run_50b
      rw [a3 0 (by decide), m32, if_pos le, ← clamp64]
      by_cases h1 : 0 ≤ lg_cmp acc (-32768)
      · rw [if_pos h1, if_pos h1]
        by_cases h2 : lg_cmp acc 32767 ≤ 0
        · rw [if_pos h2, if_pos h2]
        · rw [if_neg h2, if_neg h2]
      · rw [if_neg h1, if_neg h1]
    · by_cases h : v < V
      · exact (a5 v hv).1 h
      · exact RV_untaken (by rw [a3 22 (by decide)]; exact s3 v (by omega) hv) ((a5 v hv).2 (by omega))
  · intro fu i hi ih τx τm acc a1 a2 a3 a4 a5
    have i4 : pv_in (pI i) 4 = true := (pI_in (by omega)).mpr (by omega)
    have ni : ¬ pI V ≤ pI i := by rw [pI_le (by omega) (by omega)]; omega
    have ex : f_PV_nextSample_4 (fu + 1) τx acc (pI i) = f_PV_nextSample_4b (f_PV_nextSample_4 fu) τx acc (pI i) := rfl
    have em : f_Md_run_50 k40 (fu + 1) τm x1 x2 acc (pI i) = f_Md_run_50b k40 (f_Md_run_50 k40 fu) τm x1 x2 acc (pI i) := rfl
    unfold f_PV_nextSample_4b f_PV_nextSample_45 at ex
    unfold f_Md_run_50b f_Md_run_82 at em
    rw [a1 0 (by decide), x7, if_neg ni, pI_nat (by omega), nadd_1] at ex
    rw [a3 0 (by decide), m32, if_neg ni, if_pos i4, pI_nat (by omega), nadd_1] at em
    simp only [if_pos i4] at ex
    have W' : ∀ e, some d = some e → PW e := fun e he => by cases he; exact W
    rcases (a5 i (by omega)).2 (by omega) with ⟨q1, q2, q3, q4, q5, q6⟩ | ⟨q1, q2, q3, q4, q5, q6, q7, ⟨t, u1, u2, u3⟩, a, b1, b2, b3, b4, b5⟩
    · rw [q1, if_pos rfl] at ex
      rw [q2, if_pos rfl] at em
      rw [ex, em]
      refine ih τx τm acc a1 a2 a3 a4 (fun v hv => ⟨fun h => ?_, fun h => (a5 v hv).2 (by omega)⟩)
      by_cases hv' : v = i
      · subst hv'; exact Or.inl ⟨q1, q2, q3, q4, q5, q6⟩
      · exact (a5 v hv).1 (by omega)
    · rw [q1, if_neg (by decide)] at ex
      rw [q2, if_neg (by decide)] at em
      obtain ⟨vm, kv⟩ := b5 d rfl
      have Xt : PX d τx := PX_congr (fun c h1 h2 => a1 c (by omega)) X
      have Mt : PM d τm := PM_congr (fun c h1 h2 => a3 c (by omega)) (by rw [a3 0 (by decide)]) (by rw [a3 0 (by decide)]) M
      obtain ⟨p, r, e1, e2, ⟨z1, z2, z3, z4, z5, z6, z7, z8, z9⟩, y1, y2, y3, y4, y5⟩ := voice_sample W Xt Mt (v := i) (a := a) (s := s) (by omega) (by omega) (by omega) b2 (by rw [a3 0 (by decide)]; exact h48) (fun k hk => by rw [a1 26 (by decide), a3 21 (by decide)]; exact hkn k hk) q5 q4 q6 vm q7
      rw [e1, Option.bind_some] at ex
      rw [e2, Option.bind_some] at em
      rw [ex, em, z1]
      refine ih p.2 r.2 _ (fun c hc => by rw [z2 c (by omega), a1 c hc]) (by rw [z3, a2]) (fun c hc => by rw [z5 c (by omega), a3 c hc]) (by rw [z9, a4]) (fun v hv => ?_)
      by_cases hv' : v = i
      · subst hv'
        refine ⟨fun _ => Or.inr ⟨?_, ?_, ?_, ?_, ?_, ?_, y4, ⟨t, u1, ?_, ?_⟩, a + 1, by omega, y2, ?_, fun h => (by cases h), fun e he => ?_⟩, fun h => absurd h (by omega)⟩
        · rw [z4 0 (by decide)]; exact q1
        · rw [z5 22 (by decide)]; exact q2
        · rw [z5 25 (by decide)]; exact q3
        · rw [z4 1 (by decide), z5 25 (by decide)]; exact q4
        · rw [z4 7 (by decide), z5 23 (by decide)]; exact q5
        · rw [z4 8 (by decide), z5 24 (by decide)]; exact q6
        · rw [z3]; exact u2
        · rw [z5 29 (by decide)]; exact u3
        · rw [if_neg (by omega)]; exact y1
        · cases he; exact ⟨y3, fun _ => y5⟩
      · have cg : ∀ s', RV (some d) v s' nt b τx τm → RV (some d) v s' nt b p.2 r.2 := fun s' h => RV_congr (σx := τx) (σm := τm) W' (fun c h1 h2 => z2 c (by omega)) (by rw [z3]) (fun c h1 h2 => by
          by_cases hc : c = 26 ∨ c = 27 ∨ c = 28 ∨ c = 30
          · exact z6 c v hc hv'
          · rw [z5 c (by omega)]) (fun c j h1 h2 h3 h4 => z7 c j (by omega) (by omega)) (fun j h1 h2 => z8 j (by omega)) h
        exact ⟨fun h => cg _ ((a5 v hv).1 (by omega)), fun h => cg _ ((a5 v hv).2 (by omega))⟩
theorem Rel_run {j : Nat} (hj : j < 512) {σx σm : pv_S} (R : Rel j σx σm) (x1 : Int32) : sim_w (Rel (j + 1)) [1, 2] cod_run (f_PV_run σx x1) (f_Md_run σm x1) := by
  have r0 : ∀ z, (pv_uI σm 0 0 z).1 0 0 = z := fun _ => rfl
  have b11 : f_Md_run_11 σm x1 = some (pv_uI σm 0 0 1) := by
    unfold f_Md_run_11 f_Md_run_27
    rw [r0, if_neg (by decide)]
  have bad : f_PV_run σx x1 = some (.inr (1, σx)) → f_Md_run σm x1 = some (pv_uI σm 0 0 1) → sim_w (Rel (j + 1)) [1, 2] cod_run (f_PV_run σx x1) (f_Md_run σm x1) := fun h1 h2 => ⟨_, _, _, h1, List.mem_cons_self, h2, rfl, rfl, Rel_thrown 1 R⟩
  by_cases h1 : x1 < 0
  · refine bad ?_ ?_
    · unfold f_PV_run f_PV_run_0; rw [if_pos h1]
    · unfold f_Md_run f_Md_run_0; rw [if_pos h1]; exact b11
  · by_cases h64 : x1 ≤ 64
    · obtain ⟨⟨L, l1, l2, l3, l4⟩, ⟨f1, f2, f3, f4, f5, f6⟩, ⟨n0, o1, o2, o3, o4⟩, V, ns, nt, b, od, ⟨v1, v4, x7, m32⟩, ⟨s1, s2, s3⟩, ⟨t1, t2, t3⟩, g, rv⟩ := id R
      cases od with
      | none =>
        obtain ⟨g1, g2, _, _⟩ := g
        refine ⟨.inr (2, σx), pv_uI σm 0 0 2, (2, pv_uI σm 0 0 2), ?_, List.mem_cons_of_mem _ List.mem_cons_self, ?_, rfl, rfl, Rel_thrown 2 R⟩
        · unfold f_PV_run f_PV_run_0 f_Pg_isNone f_Pg_isNone_0
          rw [if_neg h1, if_pos h64, if_pos g2]
          rfl
        · unfold f_Md_run f_Md_run_0 f_Md_run_27
          rw [if_neg h1, if_pos h64, if_pos g1, r0, if_neg (by decide)]
      | some d =>
        obtain ⟨g1, W, X, M⟩ := g
        obtain ⟨e1, l⟩ := pI_of h1
        generalize x1.toNatClampNeg = N at e1 l
        have hN : N ≤ 64 := by
          rw [e1, l_64, pI_le (by omega) (by omega)] at h64
          exact h64
        have W' : ∀ e, some d = some e → PW e := fun e he => by cases he; exact W
        have key := up_0 (N := N) (P := fun fu i => ∀ (τx τm : pv_S), (∀ c, c < 27 → τx.1 c = σx.1 c) → τx.2 = σx.2 → (∀ c, ¬ (c = 0 ∨ c = 26 ∨ c = 27 ∨ c = 28 ∨ (30 ≤ c ∧ c ≤ 35)) → τm.1 c = σm.1 c) → (∀ k, k ≠ 0 → k ≠ 48 → τm.1 0 k = σm.1 0 k) → τm.1 0 0 = 0 → τm.1 0 48 = pI (ns + i) → (∀ k, k < i → τx.1 27 k = τm.1 35 k) → (∀ v, v < 4 → RV (some d) v (ns + i) nt b τx τm) → ∃ ρx ρm : pv_S, f_PV_run_42 fu τx (pI N) (pI i) = some (.inl (0, ρx)) ∧ f_Md_run_40 fu τm (pI N) (pI i) = some ρm ∧ ρm.1 0 0 = 0 ∧ Rel (j + 1) ρx ρm) (i := 0) ?_ ?_ (by omega) (by omega)
        · have rv' : ∀ v, v < 4 → RV (some d) v (ns + 0) nt b σx (pv_uI σm 0 0 0) := fun v hv => RV_congr (σx := σx) (σm := σm) W' (fun _ _ _ => rfl) rfl (fun c h1 h2 => by rw [uI1n (by omega)]) (fun c i h1 h2 _ _ => by rw [uI1n (by omega)]) (fun i _ _ => by rw [uI1n (by decide)]) (rv v hv)
          obtain ⟨ρx, ρm, c1, c2, c3, c4⟩ := key σx (pv_uI σm 0 0 0) (fun _ _ => rfl) rfl (fun c hc => by funext i; rw [uI1n (by omega)]) (fun k h1 h2 => by rw [uI1c, if_neg h1]) rfl s2 (fun k hk => absurd hk (by omega)) rv'
          refine ⟨.inl (0, ρx), ρm, (ρm.1 0 0, ρm), ?_, trivial, ?_, rfl, c3, c4⟩
          · have n12 : ¬ σx.1 12 0 = 0 := by
              rw [X.1.1.1, neq_0 (by have := W.1.2.1; omega)]
              have := W.1.1
              omega
            unfold f_PV_run f_PV_run_0 f_Pg_isNone f_Pg_isNone_0
            rw [if_neg h1, if_pos h64, if_neg n12, Option.bind_some, if_pos rfl, e1]
            exact c1
          · unfold f_Md_run f_Md_run_0 f_Md_run_27
            rw [if_neg h1, if_pos h64, if_neg (show ¬ σm.1 0 16 = 0 by rw [g1]; decide), r0, if_pos (by decide), e1]
            exact c2
        · intro fu τx τm a1 a2 a3 a4 a5 a6 a7 a8
          have le : pI N ≤ pI N := (pI_le (by omega) (by omega)).mpr (by omega)
          refine ⟨pv_uI τx 0 11 (pI N), pv_uI τm 0 50 (pI N), ?_, ?_, ?_, ?_⟩
          · show f_PV_run_42b _ _ _ _ = _
            unfold f_PV_run_42b
            rw [if_pos le]
          · show f_Md_run_40b _ _ _ _ = _
            unfold f_Md_run_40b
            rw [if_pos le]
          · rw [uI1c, if_neg (by decide)]; exact a5
          · have xc : ∀ c, c ≠ 0 → c < 27 → (pv_uI τx 0 11 (pI N)).1 c = σx.1 c := fun c h0 hc => by rw [← a1 c hc]; funext i; rw [uI1n h0]
            have x0 : ∀ k, k ≠ 11 → (pv_uI τx 0 11 (pI N)).1 0 k = σx.1 0 k := fun k hk => by rw [uI1c, if_neg hk, a1 0 (by decide)]
            have mc : ∀ c, ¬ (c = 0 ∨ c = 26 ∨ c = 27 ∨ c = 28 ∨ (30 ≤ c ∧ c ≤ 35)) → (pv_uI τm 0 50 (pI N)).1 c = σm.1 c := fun c hc => by rw [← a3 c hc]; funext i; rw [uI1n (by omega)]
            have m0 : ∀ k, k ≠ 0 → k ≠ 48 → k ≠ 50 → (pv_uI τm 0 50 (pI N)).1 0 k = σm.1 0 k := fun k h1 h2 h3 => by rw [uI1c, if_neg h3]; exact a4 k h1 h2
            refine ⟨⟨L, l1, by rw [x0 1 (by decide)]; exact l2, by rw [m0 2 (by decide) (by decide) (by decide)]; exact l3, fun k hk => by rw [xc 1 (by decide) (by decide), mc 1 (by decide)]; exact l4 k hk⟩, ⟨by rw [x0 5 (by decide), m0 15 (by decide) (by decide) (by decide)]; exact f1, by rw [x0 4 (by decide), m0 17 (by decide) (by decide) (by decide)]; exact f2, by rw [m0 17 (by decide) (by decide) (by decide)]; exact f3, by rw [mc 2 (by decide)]; exact f4, by rw [mc 3 (by decide)]; exact f5, by rw [xc 26 (by decide) (by decide), mc 21 (by decide)]; exact f6⟩, ⟨N, hN, by rw [uI1c, if_pos rfl], by rw [uI1c, if_pos rfl], fun k hk => by rw [uI1n (by decide), uI1n (by decide)]; exact a7 k hk⟩, V, ns + N, nt, b, some d, ⟨v1, v4, by rw [x0 7 (by decide)]; exact x7, by rw [m0 32 (by decide) (by decide) (by decide)]; exact m32⟩, ⟨by omega, by rw [uI1c, if_neg (by decide)]; exact a6, by rw [mc 22 (by decide)]; exact s3⟩, ⟨by omega, by rw [m0 47 (by decide) (by decide) (by decide)]; exact t2, by rw [uI2, a2]; exact t3⟩, ⟨by rw [m0 16 (by decide) (by decide) (by decide)]; exact g1, W, PX_congr (fun c h1 h2 => xc c (by omega) (by omega)) X, PM_congr (fun c h1 h2 => mc c (by omega)) (m0 18 (by decide) (by decide) (by decide)) (m0 28 (by decide) (by decide) (by decide)) M⟩, fun v hv => ?_⟩
            exact RV_congr (σx := τx) (σm := τm) W' (fun c h1 h2 => by funext i; rw [uI1n (by omega)]) rfl (fun c h1 h2 => by rw [uI1n (by omega)]) (fun c i h1 h2 _ _ => by rw [uI1n (by omega)]) (fun i _ _ => by rw [uI1n (by decide)]) (a8 v hv)
        · intro fu i hi ih τx τm a1 a2 a3 a4 a5 a6 a7 a8
          have ni : ¬ pI N ≤ pI i := by rw [pI_le (by omega) (by omega)]; omega
          have i64 : pv_in (pI i) 64 = true := (pI_in (by omega)).mpr (by omega)
          have Xt : PX d τx := PX_congr (fun c h1 h2 => a1 c (by omega)) X
          have Mt : PM d τm := PM_congr (fun c h1 h2 => a3 c (by omega)) (a4 18 (by decide) (by decide)) (a4 28 (by decide) (by decide)) M
          obtain ⟨y, px, pm, e1, e2, c1, c2, c3, c4, c5⟩ := run_voices W Xt Mt (V := V) (s := ns + i) (nt := nt) (b := b) v4 (by rw [a1 0 (by decide)]; exact x7) (by rw [a4 32 (by decide) (by decide)]; exact m32) a6 (by omega) (fun k hk => by rw [a1 26 (by decide), a3 21 (by decide)]; exact f6 k hk) (by rw [a3 22 (by decide)]; exact s3) a8 (f_Md_run_40 fu) (pI N) (pI i)
          have ex : f_PV_run_42 (fu + 1) τx (pI N) (pI i) = f_PV_run_42 fu (pv_uI px 27 i y) (pI N) (pI (i + 1)) := by
            show f_PV_run_42b _ _ _ _ = _
            unfold f_PV_run_42b
            rw [if_neg ni, e1, Option.bind_some, if_pos i64, pI_nat (by omega), nadd_1]
          have p48 : (pv_uI pm 35 i y).1 0 48 = pI (ns + i) := by rw [uI1n (by decide), c3 0 (by decide)]; exact a6
          have em : f_Md_run_40 (fu + 1) τm (pI N) (pI i) = f_Md_run_40 fu (pv_uI (pv_uI pm 35 i y) 0 48 (pI (ns + i + 1))) (pI N) (pI (i + 1)) := by
            show f_Md_run_40b _ _ _ _ = _
            unfold f_Md_run_40b
            rw [if_neg ni, e2]
            unfold f_Md_run_124
            rw [if_pos i64, pI_nat (by omega), p48, nadd_1, nadd_1]
          rw [ex, em]
          refine ih _ _ (fun c hc => ?_) (by rw [uI2, c2, a2]) (fun c hc => ?_) (fun k h1 h2 => ?_) ?_ ?_ (fun k hk => ?_) (fun v hv => ?_)
          · rw [← a1 c hc, ← c1 c (by omega)]; funext q; rw [uI1n (by omega)]
          · rw [← a3 c hc, ← c3 c (by omega)]; funext q; rw [uI1n (by omega), uI1n (by omega)]
          · rw [uI1c, if_neg h2, uI1n (by decide), c3 0 (by decide)]; exact a4 k h1 h2
          · rw [uI1c, if_neg (by decide), uI1n (by decide), c3 0 (by decide)]; exact a5
          · rw [uI1c, if_pos rfl]; rfl
          · rw [uI1c, uI1n (by decide), uI1c]
            by_cases h : k = i
            · rw [if_pos h, if_pos h]
            · rw [if_neg h, if_neg h, c1 27 (by decide), c3 35 (by decide)]; exact a7 k (by omega)
          · exact RV_congr (σx := px) (σm := pm) W' (fun c h1 h2 => by funext q; rw [uI1n (by omega)]) rfl (fun c h1 h2 => by rw [uI1n (by omega), uI1n (by omega)]) (fun c q h1 h2 _ _ => by rw [uI1n (by omega), uI1n (by omega)]) (fun q _ _ => by rw [uI1n (by decide), uI1n (by decide)]) (c5 v hv)
    · refine bad ?_ ?_
      · unfold f_PV_run f_PV_run_0; rw [if_neg h1, if_neg h64]
      · unfold f_Md_run f_Md_run_0; rw [if_neg h1, if_neg h64]; exact b11
