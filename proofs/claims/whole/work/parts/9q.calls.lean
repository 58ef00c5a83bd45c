/-! compile, off, active, tap, slots keep the relation. -/
theorem Rel_compile {j : Nat} {σx σm : pv_S} (R : Rel j σx σm) : sim_i (Rel (j + 1)) (f_PV_compile σx) (f_Md_compile σm) := by
  obtain ⟨T, ⟨f1, f2, f3, f4, f5, f6⟩, ⟨n0, o1, o2, o3, o4⟩, V, ns, nt, b, od, p⟩ := R
  obtain ⟨a, c, h1, h2, e, z0, h⟩ := any_compile T f4 f5 f3 f2 rfl
  refine ⟨a, c, h1, h2, e, ?_⟩
  obtain ⟨L, t1, t2, t3, t4⟩ := T
  rcases h with ⟨⟨x1, x2, x3⟩, ⟨m1, m2, m3⟩, e5, x4, m4, m5, m6⟩ | ⟨τx, τm, d, s1, s2, ⟨x1, x2, x3⟩, ⟨m1, m2, m3⟩, x5, m15, W, X, M⟩
  · have mm : ∀ k, k = 16 ∨ k = 18 ∨ k = 28 ∨ k = 32 ∨ k = 47 ∨ k = 48 → c.2.1 0 k = σm.1 0 k := by
      intro k hk
      rcases hk with rfl | rfl | rfl | rfl | rfl | rfl
      · exact m2 16 (by omega)
      · exact m5
      · exact m6
      · exact m2 32 (by omega)
      · exact m2 47 (by omega)
      · exact m2 48 (by omega)
    refine ⟨⟨L, t1, ?_, ?_, ?_⟩, ⟨e5, ?_, ?_, ?_, ?_, ?_⟩, ⟨n0, o1, ?_, ?_, ?_⟩, V, ns, nt, b, od, RP_congr (σx := σx) (σm := σm) (Nat.le_succ j) (fun k hk => ?_) (x2 7 (by decide)) (by rw [x3 0 (by decide)]) (fun k hk => x3 k (by omega)) (fun k hk => ?_) mm p⟩
    · rw [x2 1 (by decide)]; exact t2
    · rw [m2 2 (by omega)]; exact t3
    · rw [x1 1 (by decide), m1 1 (by decide)]; exact t4
    · rw [x2 4 (by decide), m2 17 (by omega)]; exact f2
    · rw [m2 17 (by omega)]; exact f3
    · rw [m1 2 (by decide)]; exact f4
    · rw [m1 3 (by decide)]; exact f5
    · rw [x1 26 (by decide), m1 21 (by decide)]; exact f6
    · rw [x2 11 (by decide)]; exact o2
    · rw [m2 50 (by omega)]; exact o3
    · rw [x1 27 (by decide), m1 35 (by decide)]; exact o4
    · by_cases h : k ≤ 22
      · exact x4 k (by omega) (by omega)
      · exact x1 k (by omega)
    · by_cases h : k ≤ 20
      · exact m4 k (by omega) (by omega)
      · exact m1 k (by omega)
  · obtain ⟨⟨v1, v2, v3, v4⟩, _, ⟨b1, b2, b3⟩, _, _⟩ := p
    obtain ⟨a', c', g1, g2, g3, _⟩ := Rel_silent (j := j) (V := V) (nb := b + nt) (od := some d) (τx := τx) (τm := pv_uI τm 0 16 1) ⟨L, t1, by rw [x2 1 (by decide)]; exact t2, by rw [uI1c, if_neg (by decide), m2 2 (by omega)]; exact t3, fun k hk => by rw [x1 1 (by decide), uI1n (by decide), m1 1 (by decide)]; exact t4 k hk⟩ ⟨by rw [x5, uI1c, if_neg (by decide), m15], by rw [x2 4 (by decide), uI1c, if_neg (by decide), m2 17 (by omega)]; exact f2, by rw [uI1c, if_neg (by decide), m2 17 (by omega)]; exact f3, fun k hk => by rw [uI1n (by decide), m1 2 (by decide)]; exact f4 k hk, fun k hk => by rw [uI1n (by decide), m1 3 (by decide)]; exact f5 k hk, fun k hk => by rw [uI1n (by decide), x1 26 (by decide), m1 21 (by decide)]; exact f6 k hk⟩ ⟨v1, v2, by rw [x2 7 (by decide)]; exact v3, by rw [uI1c, if_neg (by decide), m2 32 (by omega)]; exact v4⟩ ⟨b1, by rw [x3 0 (by decide)]; exact b3⟩ ⟨by rw [uI1c, if_pos rfl], W, X, PM_congr (fun c h1 h2 => by funext i; rw [uI1n (by omega)]) (by rw [uI1c, if_neg (by decide)]) (by rw [uI1c, if_neg (by decide)]) M⟩
    rw [s1] at g1
    rw [s2] at g2
    cases g1
    cases g2
    exact g3
/-- is there such a voice? both sides -/
theorem voice_or {σx σm : pv_S} {V : Nat} (hV : V ≤ 4) (x7 : σx.1 0 7 = pI V) (m32 : σm.1 0 32 = pI V) (x1 : Int32) : (∃ v, v < V ∧ x1 = pI v ∧ f_PV_isNoVoice σx x1 = some (0, σx) ∧ f_Md_isVoice σm x1 = some (1, σm)) ∨ (f_PV_isNoVoice σx x1 = some (1, σx) ∧ f_Md_isVoice σm x1 = some (0, σm)) := by
  unfold f_PV_isNoVoice f_PV_isNoVoice_0 f_Md_isVoice f_Md_isVoice_0
  by_cases h : x1 < 0
  · rw [if_pos h, if_pos h]; exact Or.inr ⟨rfl, rfl⟩
  · obtain ⟨e, l⟩ := pI_of h
    rw [if_neg h, if_neg h, x7, m32]
    by_cases h2 : x1.toNatClampNeg < V
    · rw [if_pos (by rw [e, pI_lt l (by omega)]; exact h2), if_neg (by rw [e, pI_le (by omega) l]; omega)]
      exact Or.inl ⟨_, h2, e, rfl, rfl⟩
    · rw [if_neg (by rw [e, pI_lt l (by omega)]; exact h2), if_pos (by rw [e, pI_le (by omega) l]; omega)]
      exact Or.inr ⟨rfl, rfl⟩
theorem Rel_active {j : Nat} {σx σm : pv_S} (R : Rel j σx σm) (x1 : Int32) : sim_h (Rel (j + 1)) [0] cod_active (f_PV_active σx x1) (f_Md_active σm x1) := by
  obtain ⟨_, _, _, V, ns, nt, b, od, v, _, _, _, rv⟩ := id R
  have r0 : ∀ z, (pv_uI σm 0 0 z).1 0 0 = z := fun _ => rfl
  have r22 : ∀ z i, (pv_uI σm 0 0 z).1 22 i = σm.1 22 i := fun _ _ => rfl
  have r26 : ∀ z i, (pv_uI σm 0 0 z).1 26 i = σm.1 26 i := fun _ _ => rfl
  unfold f_PV_active f_PV_active_0 f_Md_active f_Md_active_0 f_Md_active_14
  rcases voice_or v.2.1 v.2.2.1 v.2.2.2 x1 with ⟨w, hw, e, h1, h2⟩ | ⟨h1, h2⟩
  · have i4 : pv_in x1 4 = true := by rw [e]; exact (pI_in (by omega)).mpr (by omega)
    have en : x1.toNatClampNeg = w := by rw [e]; exact pI_nat (by omega)
    rw [h1, h2, Option.bind_some, Option.bind_some, if_pos rfl, if_pos i4, if_neg (show ¬ (1 : Int32) = 0 by decide), en]
    simp only [r0, r22, r26, if_pos i4]
    rw [if_pos trivial]
    rcases rv w (by omega) with ⟨q1, q2, q3, q4, q5, q6⟩ | ⟨q1, q2, q3, q4, q5, q6, q7, _⟩
    · rw [q5, if_pos (by decide), q2, if_pos rfl]
      exact ⟨_, _, _, rfl, trivial, rfl, rfl, rfl, fun r hr => by cases hr; rfl, Rel_thrown 0 R⟩
    · rw [q2, if_neg (show ¬ (1 : Int32) = 0 by decide)]
      rcases q7 with ⟨g1, g2, _⟩ | ⟨g1, g2, _⟩
      · rw [g1, g2, if_pos (by decide), if_pos rfl]
        exact ⟨_, _, _, rfl, trivial, rfl, rfl, rfl, fun r hr => by cases hr; rfl, Rel_thrown 0 R⟩
      · rw [g1, g2, if_pos (by decide), if_neg (by decide)]
        exact ⟨_, _, _, rfl, trivial, rfl, rfl, rfl, fun r hr => by cases hr; rfl, Rel_thrown 0 R⟩
  · rw [h1, h2, Option.bind_some, Option.bind_some, if_neg (show ¬ (1 : Int32) = 0 by decide), if_pos rfl]
    simp only [r0]
    rw [if_neg (by decide)]
    exact ⟨_, _, _, rfl, List.mem_cons_self, rfl, rfl, rfl, fun r hr => (by cases hr), Rel_thrown 1 R⟩
theorem Rel_off {j : Nat} {σx σm : pv_S} (R : Rel j σx σm) (x1 : Int32) : sim_w (Rel (j + 1)) [0, 2] cod_off (f_PV_off σx x1) (f_Md_off σm x1) := by
  obtain ⟨T, f, o, V, ns, nt, b, od, v, s, t, g, rv⟩ := id R
  have r0 : ∀ z, (pv_uI σm 0 0 z).1 0 0 = z := fun _ => rfl
  unfold f_PV_off f_PV_off_0 f_Md_off f_Md_off_0 f_Md_off_27
  rcases voice_or v.2.1 v.2.2.1 v.2.2.2 x1 with ⟨w, hw, e, h1, h2⟩ | ⟨h1, h2⟩
  · have i4 : pv_in x1 4 = true := by rw [e]; exact (pI_in (by omega)).mpr (by omega)
    have en : x1.toNatClampNeg = w := by rw [e]; exact pI_nat (by omega)
    rw [h1, h2, Option.bind_some, Option.bind_some, if_pos rfl, if_pos i4, if_neg (show ¬ (1 : Int32) = 0 by decide), en]
    simp only [r0, if_pos i4]
    have eg : σx.1 (28 + 6 * w) 1 = σm.1 25 w := by
      rcases rv w (by omega) with ⟨q1, q2, q3, q4, q5, q6⟩ | ⟨q1, q2, q3, q4, _⟩
      · rw [q3, q4]
      · exact q4
    rw [eg]
    by_cases g0 : σm.1 25 w = 0
    · rw [if_pos g0, if_pos g0, if_neg (by decide)]
      exact ⟨_, _, _, rfl, List.mem_cons_of_mem _ List.mem_cons_self, rfl, rfl, rfl, Rel_thrown 2 R⟩
    · rw [if_neg g0, if_neg g0, if_pos trivial]
      refine ⟨_, _, _, rfl, trivial, rfl, rfl, rfl, ?_⟩
      show Rel (j + 1) (pv_uI σx (28 + 6 * w) 1 0) (pv_uI (pv_uI σm 0 0 0) 25 w (vp_nar .boolean 0))
      have x0 : ∀ c, c < 28 → (pv_uI σx (28 + 6 * w) 1 0).1 c = σx.1 c := fun c hc => by funext i; rw [uI1n (by omega)]
      have m0 : ∀ c, c ≠ 0 → c ≠ 25 → (pv_uI (pv_uI σm 0 0 0) 25 w (vp_nar .boolean 0)).1 c = σm.1 c := fun c hc h => by funext i; rw [uI1n h, uI1n hc]
      have mz : ∀ k, k ≠ 0 → (pv_uI (pv_uI σm 0 0 0) 25 w (vp_nar .boolean 0)).1 0 k = σm.1 0 k := fun k hk => by rw [uI1n (by decide), uI1c, if_neg hk]
      obtain ⟨L, t1, t2, t3, t4⟩ := T
      obtain ⟨n0, o1, o2, o3, o4⟩ := o
      obtain ⟨f1, f2, f3, f4, f5, f6⟩ := f
      refine ⟨⟨L, t1, by rw [x0 0 (by decide)]; exact t2, t3, fun k hk => by rw [x0 1 (by decide)]; exact t4 k hk⟩, ⟨by rw [x0 0 (by decide)]; exact f1, by rw [x0 0 (by decide)]; exact f2, f3, f4, f5, fun k hk => by rw [x0 26 (by decide)]; exact f6 k hk⟩, ⟨n0, o1, by rw [x0 0 (by decide)]; exact o2, o3, fun k hk => by rw [x0 27 (by decide)]; exact o4 k hk⟩, V, ns, nt, b, od, ⟨v.1, v.2.1, by rw [x0 0 (by decide)]; exact v.2.2.1, by rw [mz 32 (by decide)]; exact v.2.2.2⟩, ⟨by omega, by rw [mz 48 (by decide)]; exact s.2.1, by rw [m0 22 (by decide) (by decide)]; exact s.2.2⟩, ⟨by omega, by rw [mz 47 (by decide)]; exact t.2.1, t.2.2⟩, RG_congr (fun c h1 h2 => x0 c (by omega)) (fun c h1 h2 => m0 c (by omega) (by omega)) (fun k hk => mz k (by omega)) g, fun u hu => ?_⟩
      by_cases hu' : u = w
      · subst hu'
        have xn : ∀ k, k ≠ 1 → (pv_uI σx (28 + 6 * u) 1 0).1 (28 + 6 * u) k = σx.1 (28 + 6 * u) k := fun k hk => by rw [uI1c, if_neg hk]
        have xc : ∀ c, c ≠ 28 + 6 * u → (pv_uI σx (28 + 6 * u) 1 0).1 c = σx.1 c := fun c hc => by funext i; rw [uI1n hc]
        rcases rv u hu with ⟨q1, q2, q3, q4, q5, q6⟩ | ⟨q1, q2, q3, q4, q5, q6, q7, q8, a, a1, a2, a3, a4, a5⟩
        · exact absurd q4 g0
        · refine Or.inr ⟨by rw [xn 0 (by decide)]; exact q1, by rw [m0 22 (by decide) (by decide)]; exact q2, Or.inl ?_, ?_, by rw [xn 7 (by decide), m0 23 (by decide) (by decide)]; exact q5, by rw [xn 8 (by decide), m0 24 (by decide) (by decide)]; exact q6, RVs_congr ⟨xn 2 (by decide), xn 4 (by decide), xn 9 (by decide)⟩ (fun c hc => by rw [m0 c (by omega) (by omega)]) q7, by rw [m0 29 (by decide) (by decide)]; exact q8, a, a1, by rw [m0 30 (by decide) (by decide)]; exact a2, by rw [xn 3 (by decide)]; exact a3, a4, fun d hd => ?_⟩
          · rw [uI1c, if_pos rfl]; decide
          · rw [uI1c, if_pos rfl, uI1c, if_pos rfl]; decide
          · obtain ⟨b1, b2⟩ := a5 d hd
            refine ⟨VM_congr (RG_W g d hd) (fun c hc => xc c (by omega)) (fun c i hc _ _ => by rw [m0 c (by omega) (by omega)]) (fun i _ _ => by rw [m0 34 (by decide) (by decide)]) b1, fun h m h1 h2 => ?_⟩
            rw [xc _ (by omega), m0 33 (by decide) (by decide)]
            exact b2 h m h1 h2
      · exact RV_congr (σx := σx) (σm := σm) (RG_W g) (fun c h1 h2 => by funext i; rw [uI1n (by omega)]) rfl (fun c h1 h2 => by rw [uI1, if_neg (by omega), uI1n (by omega)]) (fun c i h1 h2 _ _ => by rw [m0 c (by omega) (by omega)]) (fun i _ _ => by rw [m0 34 (by decide) (by decide)]) (rv u hu)
  · rw [h1, h2, Option.bind_some, Option.bind_some, if_neg (show ¬ (1 : Int32) = 0 by decide), if_pos rfl]
    simp only [r0]
    rw [if_neg (by decide)]
    exact ⟨_, _, _, rfl, List.mem_cons_self, rfl, rfl, rfl, Rel_thrown 1 R⟩
theorem Rel_tap {j : Nat} (hj512 : j < 512) {σx σm : pv_S} (R : Rel j σx σm) (x1 x2 : Int32) : sim_h (Rel (j + 1)) [0, 3] cod_tap (f_PV_tap σx x1 x2) (f_Md_tap σm x1 x2) := by
  obtain ⟨_, _, _, V, ns, nt, b, od, v, s, _, g, rv⟩ := id R
  have r0 : ∀ z, (pv_uI σm 0 0 z).1 0 0 = z := fun _ => rfl
  have r00 : ∀ y z, pv_uI (pv_uI σm 0 0 y) 0 0 z = pv_uI σm 0 0 z := fun y z => pp_uIuI _ _ _ _ _
  have b28 : f_Md_tap_28 σm x1 x2 = some (0, pv_uI σm 0 0 1) := by
    unfold f_Md_tap_28 f_Md_tap_33
    rw [r0, if_neg (by decide)]
  have b77 : f_Md_tap_77 (pv_uI σm 0 0 0) x1 x2 = some (0, pv_uI σm 0 0 2) := by
    unfold f_Md_tap_77 f_Md_tap_78
    rw [r00, r0, if_neg (by decide)]
  have bad1 : f_PV_tap σx x1 x2 = some (.inr (0, σx)) → f_Md_tap σm x1 x2 = some (0, pv_uI σm 0 0 1) → sim_h (Rel (j + 1)) [0, 3] cod_tap (f_PV_tap σx x1 x2) (f_Md_tap σm x1 x2) := fun h1 h2 => ⟨_, _, _, h1, List.mem_cons_self, h2, rfl, rfl, fun r hr => (by cases hr), Rel_thrown 1 R⟩
  have bad2 : f_PV_tap σx x1 x2 = some (.inr (3, σx)) → f_Md_tap σm x1 x2 = some (0, pv_uI σm 0 0 2) → sim_h (Rel (j + 1)) [0, 3] cod_tap (f_PV_tap σx x1 x2) (f_Md_tap σm x1 x2) := fun h1 h2 => ⟨_, _, _, h1, List.mem_cons_of_mem _ List.mem_cons_self, h2, rfl, rfl, fun r hr => (by cases hr), Rel_thrown 2 R⟩
  rcases voice_or v.2.1 v.2.2.1 v.2.2.2 x1 with ⟨w, hw, e, h1, h2⟩ | ⟨h1, h2⟩
  · have i4 : pv_in x1 4 = true := by rw [e]; exact (pI_in (by omega)).mpr (by omega)
    have en : x1.toNatClampNeg = w := by rw [e]; exact pI_nat (by omega)
    cases od with
    | none =>
      obtain ⟨g1, g2, _, _⟩ := g
      refine bad1 ?_ ?_
      · unfold f_PV_tap f_PV_tap_0
        rw [h1, Option.bind_some, if_pos rfl, g2]
        by_cases h : x2 < 0
        · rw [if_pos h]
        · rw [if_neg h, if_neg h]
      · unfold f_Md_tap f_Md_tap_0
        rw [h2, Option.bind_some, if_neg (show ¬ (1 : Int32) = 0 by decide), if_pos g1]
        exact b28
    | some d =>
      obtain ⟨g1, W, X, M⟩ := g
      have n24 : d_n d ≤ 24 := W.1.2.1
      have x12 : σx.1 12 0 = pI (d_n d) := X.1.1.1
      have m18 : σm.1 0 18 = pI (d_n d) := M.1.1.1
      have g16 : ¬ σm.1 0 16 = 0 := by rw [g1]; decide
      by_cases h : x2 < 0
      · refine bad1 ?_ ?_
        · unfold f_PV_tap f_PV_tap_0
          rw [h1, Option.bind_some, if_pos rfl, if_pos h]
        · unfold f_Md_tap f_Md_tap_0
          rw [h2, Option.bind_some, if_neg (show ¬ (1 : Int32) = 0 by decide), if_neg g16, if_pos h]
          exact b28
      · obtain ⟨e2, l2⟩ := pI_of h
        generalize x2.toNatClampNeg = m at e2 l2
        by_cases hm : m < d_n d
        · have i24 : pv_in x2 24 = true := by rw [e2]; exact (pI_in (by omega)).mpr (by omega)
          have em : x2.toNatClampNeg = m := by rw [e2]; exact pI_nat (by omega)
          have lt : x2 < pI (d_n d) := by rw [e2]; exact (pI_lt (by omega) (by omega)).mpr hm
          have x17 := X.2.1 m hm
          have m17 := M.2.1 m hm
          have px : f_PV_tap σx x1 x2 = if b2i (d_K d m) = 0 then some (.inr (3, σx)) else if σx.1 (28 + 6 * w) 3 = 0 then some (.inr (3, σx)) else some (.inl (σx.1 (28 + 6 * w + 1) m, σx)) := by
            unfold f_PV_tap f_PV_tap_0
            rw [h1, Option.bind_some, if_pos rfl, if_neg h, x12, if_pos lt, if_pos i24, em, x17, if_pos i4, en, if_pos i4, if_pos i24]
          have r17 : (pv_uI σm 0 0 0).1 17 m = b2i (d_K d m) := m17
          have r22 : (pv_uI σm 0 0 0).1 22 w = σm.1 22 w := rfl
          have r30 : (pv_uI σm 0 0 0).1 30 w = σm.1 30 w := rfl
          have r33 : (pv_uI σm 0 0 0).1 33 (24 * w + m) = σm.1 33 (24 * w + m) := rfl
          have i96 : (24 : Int32) * x1 + x2 = pI (24 * w + m) := by rw [e, e2, nmul_24, pI_add]
          have pm : f_Md_tap σm x1 x2 = if b2i (d_K d m) = 0 then some (0, pv_uI σm 0 0 2) else if σm.1 22 w = 0 then some (0, pv_uI σm 0 0 2) else if σm.1 30 w ≤ 0 then some (0, pv_uI σm 0 0 2) else some (σm.1 33 (24 * w + m), pv_uI σm 0 0 0) := by
            unfold f_Md_tap f_Md_tap_0
            rw [h2, Option.bind_some, if_neg (show ¬ (1 : Int32) = 0 by decide), if_neg g16, if_neg h, m18, if_pos lt]
            unfold f_Md_tap_33
            rw [r0, if_pos (by decide), if_pos i24, em, r17, b77, if_pos i4, en, r22, if_pos i4, r30]
            unfold f_Md_tap_78
            rw [r00, r0, if_pos (show (0 : Int32) ≤ 0 by decide), i96, if_pos ((pI_in (by omega)).mpr (by omega)), pI_nat (by omega), r33]
          cases eK : d_K d m with
          | false =>
            rw [eK] at px pm
            exact bad2 (by rw [px]; rfl) (by rw [pm]; rfl)
          | true =>
            rw [eK, if_neg (by decide)] at px pm
            rcases rv w (by omega) with ⟨q1, q2, q3, q4, q5, q6⟩ | ⟨q1, q2, q3, q4, q5, q6, q7, q8, a, a1, a2, a3, a4, a5⟩
            · exact bad2 (by rw [px, if_pos q6]) (by rw [pm, if_pos q2])
            · rw [q2, if_neg (by decide)] at pm
              by_cases a0 : a = 0
              · subst a0
                rw [if_pos rfl] at a3
                exact bad2 (by rw [px, if_pos a3]) (by rw [pm, if_pos (by rw [a2]; decide)])
              · rw [if_neg a0] at a3
                have hj : a < 2147483648 := by omega
                rw [a3, if_neg (by decide)] at px
                rw [a2, if_neg (by rw [l_0, pI_le hj (by omega)]; omega)] at pm
                refine ⟨_, _, _, px, trivial, pm, rfl, rfl, fun r hr => ?_, Rel_thrown 0 R⟩
                cases hr
                exact (a5 d rfl).2 a0 m hm eK
        · have nlt : ¬ x2 < pI (d_n d) := by rw [e2, pI_lt (by omega) (by omega)]; exact hm
          refine bad1 ?_ ?_
          · unfold f_PV_tap f_PV_tap_0
            rw [h1, Option.bind_some, if_pos rfl, if_neg h, x12, if_neg nlt]
          · unfold f_Md_tap f_Md_tap_0
            rw [h2, Option.bind_some, if_neg (show ¬ (1 : Int32) = 0 by decide), if_neg g16, if_neg h, m18, if_neg nlt]
            exact b28
  · refine bad1 ?_ ?_
    · unfold f_PV_tap f_PV_tap_0
      rw [h1, Option.bind_some, if_neg (show ¬ (1 : Int32) = 0 by decide)]
    · unfold f_Md_tap f_Md_tap_0
      rw [h2, Option.bind_some, if_pos rfl]
      exact b28
theorem Rel_slots {j : Nat} {σx σm : pv_S} (R : Rel j σx σm) : sim_i (Rel (j + 1)) (f_PV_slots σx) (f_Md_slots σm) := by
  obtain ⟨_, _, _, V, ns, nt, b, od, v, _, _, g, rv⟩ := id R
  have r16 : (pv_uI σm 0 0 0).1 0 16 = σm.1 0 16 := rfl
  have r28 : (pv_uI σm 0 0 0).1 0 28 = σm.1 0 28 := rfl
  have r20 : (pv_uI σm 0 0 0).1 20 = σm.1 20 := rfl
  have hm : f_Md_slots σm = some (σx.1 11 4, pv_uI σm 0 0 0) := by
    unfold f_Md_slots f_Md_slots_0
    cases od with
    | none =>
      obtain ⟨g1, g2, g3, g4⟩ := g
      rw [g4]
      show f_Md_slots_9b _ _ _ _ = _
      unfold f_Md_slots_9b
      rw [r16, g1]
      by_cases h : (pv_uI σm 0 0 0).1 0 28 ≤ 0
      · rw [if_pos h]
      · rw [if_neg h, if_pos rfl]
    | some d =>
      obtain ⟨g1, W, X, M⟩ := g
      obtain ⟨wf, ⟨x, O⟩, b1, so, closed, outK, P, sl24, l128⟩ := id W
      obtain ⟨p1, p2, p3, p4, p5, p6, p7⟩ := ph_of P
      have n24 : d_n d ≤ 24 := W.1.2.1
      obtain ⟨m1, m17, m14, m28, m1819, m20, m20'⟩ := id M
      rw [X.2.2.2.2.2.2.2]
      have g16 : ¬ σm.1 0 16 = 0 := by rw [g1]; decide
      have mx : ∀ i, i ≤ d_fp d → pr_mx (d_sl d) i ≤ 24 := fun i hi => pr_mxb (fun e he => sl24 e (by omega))
      have key := up_0 (N := d_sc d) (P := fun fu i => f_Md_slots_9 fu (pv_uI σm 0 0 0) (pI (pr_mx (d_sl d) (min i (d_fp d)))) (pI i) = some (pI (pr_mx (d_sl d) (d_fp d)), pv_uI σm 0 0 0)) (i := 0) ?_ ?_ (by omega) (by omega)
      · rw [Nat.zero_min] at key
        exact key
      · intro fu
        show f_Md_slots_9b _ _ _ _ = _
        unfold f_Md_slots_9b
        rw [r28, m28, if_pos ((pI_le (by omega) (by omega)).mpr (by omega)), Nat.min_eq_right p3]
      · intro fu i hi ih
        show f_Md_slots_9b _ _ _ _ = _
        unfold f_Md_slots_9b f_Md_slots_46
        have i48 : pv_in (pI i) 48 = true := (pI_in (by omega)).mpr (by omega)
        rw [r28, m28, if_neg (by rw [pI_le (by omega) (by omega)]; omega), r16, if_neg g16, if_pos i48, if_pos i48, pI_nat (by omega), r20, nadd_1]
        by_cases hf : i < d_fp d
        · have hs := sl24 i hf
          have hmx := mx i (by omega)
          rw [m20 i hf, Nat.min_eq_left (by omega)]
          rw [Nat.min_eq_left (show i + 1 ≤ d_fp d by omega)] at ih
          have e : pr_mx (d_sl d) (i + 1) = if pr_mx (d_sl d) i < d_sl d i + 1 then d_sl d i + 1 else pr_mx (d_sl d) i := rfl
          by_cases hl : d_sl d i < pr_mx (d_sl d) i
          · rw [if_neg (by omega)] at e
            rw [if_pos ((pI_lt (by omega) (by omega)).mpr hl), ← e]
            exact ih
          · rw [if_pos (by omega)] at e
            rw [if_neg (by rw [pI_lt (by omega) (by omega)]; exact hl), nadd_1, ← e]
            exact ih
        · rw [m20' i (by omega) hi, Nat.min_eq_right (by omega)]
          rw [Nat.min_eq_right (show d_fp d ≤ i + 1 by omega)] at ih
          have hmx := mx (d_fp d) (by omega)
          have n1 : (-1 : Int32) < pI (pr_mx (d_sl d) (d_fp d)) := by
            rw [Int32.lt_iff_toInt_lt, pI_toInt (by omega)]
            show (-1 : Int) < _
            omega
          rw [if_pos n1]
          exact ih
  exact ⟨_, _, rfl, hm, rfl, Rel_thrown 0 R⟩
