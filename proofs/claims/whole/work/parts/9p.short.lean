/-! The short calls keep the relation. -/
theorem Rel_type {j : Nat} {σx σm : pv_S} (R : Rel j σx σm) (w : Int64) (n : Int32) : sim_i (Rel (j + 1)) (f_PV_type σx w n) (f_Md_type σm w n) := by
  obtain ⟨T, f, ⟨n0, o1, o2, o3, o4⟩, V, ns, nt, b, od, p⟩ := R
  obtain ⟨a, c, h1, h2, e, T2, x1, x2, x3, m1, m2, m3⟩ := any_type σx σm T w n
  have m0 : ∀ k, k ≠ 0 → k ≠ 2 → c.2.1 0 k = σm.1 0 k := fun k h h' => by rw [m2 k h', uI1c, if_neg h]
  have mc : ∀ k, k ≠ 0 → k ≠ 1 → c.2.1 k = σm.1 k := fun k h h' => by rw [m1 k h h']; funext i; rw [uI1n h]
  obtain ⟨f1, f2, f3, f4, f5, f6⟩ := f
  refine ⟨a, c, h1, h2, e, T2, ⟨?_, ?_, ?_, ?_, ?_, ?_⟩, ⟨n0, o1, ?_, ?_, ?_⟩, V, ns, nt, b, od, RP_congr (σx := σx) (σm := σm) (Nat.le_succ j) (fun k hk => x1 k (by omega) (by omega)) (x2 7 (by decide)) (by rw [x3]) (fun k hk => by rw [x3]) (fun k hk => mc k (by omega) (by omega)) (fun k hk => m0 k (by omega) (by omega)) p⟩
  · rw [x2 5 (by decide), m0 15 (by decide) (by decide)]; exact f1
  · rw [x2 4 (by decide), m0 17 (by decide) (by decide)]; exact f2
  · rw [m0 17 (by decide) (by decide)]; exact f3
  · rw [mc 2 (by decide) (by decide)]; exact f4
  · rw [mc 3 (by decide) (by decide)]; exact f5
  · rw [mc 21 (by decide) (by decide), x1 26 (by decide) (by decide)]; exact f6
  · rw [x2 11 (by decide)]; exact o2
  · rw [m0 50 (by decide) (by decide)]; exact o3
  · rw [mc 35 (by decide) (by decide), x1 27 (by decide) (by decide)]; exact o4
theorem Rel_erase {j : Nat} {σx σm : pv_S} (R : Rel j σx σm) : sim_i (Rel (j + 1)) (f_PV_erase σx) (f_Md_erase σm) := by
  obtain ⟨h1, h2⟩ := any_erase σx σm
  obtain ⟨⟨L, t1, t2, t3, t4⟩, f, ⟨n0, o1, o2, o3, o4⟩, V, ns, nt, b, od, p⟩ := R
  refine ⟨_, _, h1, h2, t2.trans t3.symm, ⟨0, by omega, rfl, rfl, fun k hk => absurd hk (by omega)⟩, f, ⟨n0, o1, o2, o3, o4⟩, V, ns, nt, b, od, RP_congr (σx := σx) (σm := σm) (Nat.le_succ j) (fun k hk => ?_) rfl rfl (fun k hk => rfl) (fun k hk => ?_) (fun k hk => ?_) p⟩
  · funext i; rw [uI1n (by omega)]
  · funext i; rw [uI1n (by omega), uI1n (by omega)]
  · rw [uI1c, if_neg (by omega), uI1c, if_neg (by omega)]
theorem Rel_named {j : Nat} {σx σm : pv_S} (R : Rel j σx σm) : sim_i (Rel (j + 1)) (f_PV_named σx) (f_Md_named σm) := ⟨_, _, (any_named σx σm).1, (any_named σx σm).2, R.2.1.1, Rel_thrown 0 R⟩
theorem Rel_optimise {j : Nat} {σx σm : pv_S} (R : Rel j σx σm) (z : Int32) (hz : z = 0 ∨ z = 1) : sim_v (Rel (j + 1)) (f_PV_optimise σx z) (f_Md_optimise σm z) := by
  obtain ⟨h1, h2⟩ := any_optimise σx σm z hz
  obtain ⟨T, ⟨f1, f2, f3, f4, f5, f6⟩, ⟨n0, o1, o2, o3, o4⟩, V, ns, nt, b, od, p⟩ := R
  refine ⟨_, _, h1, h2, T, ⟨f1, rfl, hz, f4, f5, f6⟩, ⟨n0, o1, o2, o3, o4⟩, V, ns, nt, b, od, RP_congr (σx := σx) (σm := σm) (Nat.le_succ j) (fun k hk => ?_) rfl rfl (fun k hk => rfl) (fun k hk => ?_) (fun k hk => ?_) p⟩
  · funext i; rw [uI1n (by omega)]
  · funext i; rw [uI1n (by omega), uI1n (by omega)]
  · rw [uI1c, if_neg (by omega), uI1c, if_neg (by omega)]
theorem Rel_steps {j : Nat} {σx σm : pv_S} (R : Rel j σx σm) : sim_i (Rel (j + 1)) (f_PV_steps σx) (f_Md_steps σm) := by
  have h : σx.1 11 1 = if σm.1 0 16 = 0 then 0 else σm.1 0 28 := by
    obtain ⟨_, _, _, V, ns, nt, b, od, _, _, _, g, _⟩ := R
    cases od with
    | none => rw [g.1, if_pos rfl]; exact g.2.2.1
    | some d => rw [g.1, if_neg (by decide), g.2.2.1.2.2.1, g.2.2.2.2.2.2.1]
  exact ⟨_, _, (any_steps σx σm h).1, (any_steps σx σm h).2, rfl, Rel_thrown 0 R⟩
theorem Rel_knob {j : Nat} {σx σm : pv_S} (R : Rel j σx σm) (x1 x2 : Int32) : sim_w (Rel (j + 1)) [0] cod_knob (f_PV_knob σx x1 x2) (f_Md_knob σm x1 x2) := by
  rcases any_knob σx σm x1 x2 with ⟨k, hk, h1, h2⟩ | ⟨h1, h2⟩
  · obtain ⟨T, ⟨f1, f2, f3, f4, f5, f6⟩, ⟨n0, o1, o2, o3, o4⟩, V, ns, nt, b, od, p⟩ := R
    refine ⟨_, _, _, h1, trivial, h2, rfl, rfl, T, ⟨f1, f2, f3, f4, f5, fun i hi => ?_⟩, ⟨n0, o1, o2, o3, o4⟩, V, ns, nt, b, od, RP_congr (σx := σx) (σm := σm) (Nat.le_succ j) (fun c hc => ?_) rfl rfl (fun c hc => rfl) (fun c hc => ?_) (fun c hc => ?_) p⟩
    · show (pv_uI σx 26 k x2).1 26 i = (pv_uI (pv_uI σm 0 0 0) 21 k x2).1 21 i
      rw [uI1c, uI1c, uI1n (by decide), f6 i hi]
    · show (pv_uI σx 26 k x2).1 c = _
      funext i; rw [uI1n (by omega)]
    · show (pv_uI (pv_uI σm 0 0 0) 21 k x2).1 c = _
      funext i; rw [uI1n (by omega), uI1n (by omega)]
    · show (pv_uI (pv_uI σm 0 0 0) 21 k x2).1 0 c = _
      rw [uI1n (by decide), uI1c, if_neg (by omega)]
  · exact ⟨_, _, _, h1, List.mem_cons_self, h2, rfl, rfl, Rel_thrown 1 R⟩
theorem Rel_out {j : Nat} {σx σm : pv_S} (R : Rel j σx σm) (x1 : Int32) : sim_h (Rel (j + 1)) [0] cod_out (f_PV_out σx x1) (f_Md_out σm x1) := by
  obtain ⟨n0, o1, o2, o3, o4⟩ := R.2.2.1
  rcases any_out σx σm x1 (by rw [o2, o3]) (by rw [o2, pI_toInt (by omega)]; omega) with ⟨g1, g2, h1, h2⟩ | ⟨h1, h2⟩
  · refine ⟨_, _, _, h1, trivial, h2, rfl, rfl, fun r hr => ?_, Rel_thrown 0 R⟩
    cases hr
    have ⟨e, l⟩ := pI_of g1
    rw [o2, e, pI_lt l (by omega)] at g2
    exact o4 _ g2
  · exact ⟨_, _, _, h1, List.mem_cons_self, h2, rfl, rfl, fun r hr => (by cases hr), Rel_thrown 1 R⟩
/-! silence -/
theorem sil_both (τx τm : pv_S) : pj (f_PV_fallSilent τx) (f_Md_silence τm) (fun a b => (∀ c, c ≠ 0 → ¬ (∃ v, v < 4 ∧ c = 28 + 6 * v) → a.1 c = τx.1 c) ∧ (∀ k, k ≠ 11 → a.1 0 k = τx.1 0 k) ∧ a.1 0 11 = 0 ∧ (∀ v, v < 4 → ∀ k, k < 4 → a.1 (28 + 6 * v) k = 0) ∧ a.2 = τx.2 ∧ (∀ c, c ≠ 0 → c ≠ 22 → c ≠ 25 → b.1 c = τm.1 c) ∧ (∀ k, k ≠ 47 → k ≠ 48 → k ≠ 50 → b.1 0 k = τm.1 0 k) ∧ b.1 0 47 = 0 ∧ b.1 0 48 = 0 ∧ b.1 0 50 = 0 ∧ (∀ v, v < 4 → b.1 22 v = 0 ∧ b.1 25 v = 0) ∧ b.2 = τm.2) := by
  refine ⟨_, _, ps_X τx, ps_M τm, fun c h h2 => ?_, fun k hk => ?_, rfl, fun v hv k hk => ?_, rfl, fun c h1 h2 h3 => ?_, fun k h1 h2 h3 => ?_, rfl, rfl, rfl, fun v hv => ?_, rfl⟩
  · have n0 : c ≠ 28 + 6 * 0 := fun e => h2 ⟨0, by omega, e⟩
    have n1 : c ≠ 28 + 6 * 1 := fun e => h2 ⟨1, by omega, e⟩
    have n2 : c ≠ 28 + 6 * 2 := fun e => h2 ⟨2, by omega, e⟩
    have n3 : c ≠ 28 + 6 * 3 := fun e => h2 ⟨3, by omega, e⟩
    funext i
    unfold ps_x
    simp only [uI1n h, uI1n n0, uI1n n1, uI1n n2, uI1n n3]
  · unfold ps_x
    rw [uI1c, if_neg hk]
    simp only [uI1n (show (0 : Nat) ≠ 28 + 6 * 0 by decide), uI1n (show (0 : Nat) ≠ 28 + 6 * 1 by decide), uI1n (show (0 : Nat) ≠ 28 + 6 * 2 by decide), uI1n (show (0 : Nat) ≠ 28 + 6 * 3 by decide)]
  · match v, hv, k, hk with
    | 0, _, 0, _ => rfl
    | 0, _, 1, _ => rfl
    | 0, _, 2, _ => rfl
    | 0, _, 3, _ => rfl
    | 1, _, 0, _ => rfl
    | 1, _, 1, _ => rfl
    | 1, _, 2, _ => rfl
    | 1, _, 3, _ => rfl
    | 2, _, 0, _ => rfl
    | 2, _, 1, _ => rfl
    | 2, _, 2, _ => rfl
    | 2, _, 3, _ => rfl
    | 3, _, 0, _ => rfl
    | 3, _, 1, _ => rfl
    | 3, _, 2, _ => rfl
    | 3, _, 3, _ => rfl
  · funext i
    unfold ps_m
    simp only [uI1n h1, uI1n h2, uI1n h3]
  · unfold ps_m
    rw [uI1c, if_neg h3, uI1c, if_neg h1, uI1c, if_neg h2]
    simp only [uI1n (show (0 : Nat) ≠ 22 by decide), uI1n (show (0 : Nat) ≠ 25 by decide)]
  · match v, hv with
    | 0, _ => exact ⟨rfl, rfl⟩
    | 1, _ => exact ⟨rfl, rfl⟩
    | 2, _ => exact ⟨rfl, rfl⟩
    | 3, _ => exact ⟨rfl, rfl⟩
/-- behind a silence: nothing is played, nothing was made -/
theorem Rel_silent {j V nb : Nat} {od : Option PD} {τx τm : pv_S} (T : R_text τx τm) (f : RF τx τm) (hV : 1 ≤ V ∧ V ≤ 4 ∧ τx.1 0 7 = pI V ∧ τm.1 0 32 = pI V) (hb : nb ≤ j ∧ τx.2 0 8 = Int64.ofNat nb) (g : RG od τx τm) : pj (f_PV_fallSilent τx) (f_Md_silence τm) (fun a b => Rel (j + 1) a b ∧ b.1 0 0 = τm.1 0 0) := by
  refine pj_mono (sil_both τx τm) ?_
  intro a b ⟨a1, a2, a3, a4, a5, b1, b2, b3, b4, b5, b6, b7⟩
  obtain ⟨L, t1, t2, t3, t4⟩ := T
  obtain ⟨f1, f2, f3, f4, f5, f6⟩ := f
  have ac : ∀ c, c ≠ 0 → c < 28 → a.1 c = τx.1 c := fun c h1 h2 => a1 c h1 (fun ⟨v, _, e⟩ => by omega)
  refine ⟨⟨⟨L, t1, ?_, ?_, ?_⟩, ⟨?_, ?_, ?_, ?_, ?_, ?_⟩, ⟨0, by omega, a3, b5, fun k hk => absurd hk (by omega)⟩, V, 0, 0, nb, od, ⟨hV.1, hV.2.1, ?_, ?_⟩, ⟨by omega, b4, fun v _ hv => (b6 v hv).1⟩, ⟨by omega, b3, by rw [a5]; exact hb.2⟩, ?_, fun v hv => Or.inl ⟨a4 v hv 0 (by decide), (b6 v hv).1, a4 v hv 1 (by decide), (b6 v hv).2, a4 v hv 2 (by decide), a4 v hv 3 (by decide)⟩⟩, b2 0 (by decide) (by decide) (by decide)⟩
  · rw [a2 1 (by decide)]; exact t2
  · rw [b2 2 (by decide) (by decide) (by decide)]; exact t3
  · rw [ac 1 (by decide) (by decide), b1 1 (by decide) (by decide) (by decide)]; exact t4
  · rw [a2 5 (by decide), b2 15 (by decide) (by decide) (by decide)]; exact f1
  · rw [a2 4 (by decide), b2 17 (by decide) (by decide) (by decide)]; exact f2
  · rw [b2 17 (by decide) (by decide) (by decide)]; exact f3
  · rw [b1 2 (by decide) (by decide) (by decide)]; exact f4
  · rw [b1 3 (by decide) (by decide) (by decide)]; exact f5
  · rw [ac 26 (by decide) (by decide), b1 21 (by decide) (by decide) (by decide)]; exact f6
  · rw [a2 7 (by decide)]; exact hV.2.2.1
  · rw [b2 32 (by decide) (by decide) (by decide)]; exact hV.2.2.2
  · exact RG_congr (fun c h1 h2 => ac c (by omega) (by omega)) (fun c h1 h2 => b1 c (by omega) (by omega) (by omega)) (fun k hk => b2 k (by omega) (by omega) (by omega)) g
theorem Rel_reset {j : Nat} {σx σm : pv_S} (R : Rel j σx σm) : sim_v (Rel (j + 1)) (f_PV_reset σx) (f_Md_reset σm) := by
  obtain ⟨T, f, _, V, ns, nt, b, od, v, _, t, g, _⟩ := R
  obtain ⟨a, c, h1, h2, h3⟩ := Rel_silent (τx := σx) (τm := pv_uI σm 0 0 0) (V := V) (nb := b + nt) (j := j) (od := od) T f v ⟨t.1, t.2.2⟩ (RG_congr (fun _ _ _ => rfl) (fun c h1 h2 => by funext i; rw [uI1n (by omega)]) (fun k hk => by rw [uI1c, if_neg (by omega)]) g)
  refine ⟨a, c, ?_, ?_, h3.1⟩
  · unfold f_PV_reset f_PV_reset_0; rw [h1]; rfl
  · unfold f_Md_reset f_Md_reset_0; rw [h2]; rfl
theorem Rel_voices {j : Nat} {σx σm : pv_S} (R : Rel j σx σm) (x1 : Int32) : sim_w (Rel (j + 1)) [1] cod_voices (f_PV_voices σx x1) (f_Md_voices σm x1) := by
  have bad : f_PV_voices σx x1 = some (.inr (1, σx)) → f_Md_voices σm x1 = some (pv_uI σm 0 0 1) → sim_w (Rel (j + 1)) [1] cod_voices (f_PV_voices σx x1) (f_Md_voices σm x1) := fun h1 h2 => ⟨_, _, _, h1, List.mem_cons_self, h2, rfl, rfl, Rel_thrown 1 R⟩
  have r0 : ∀ z, (pv_uI σm 0 0 z).1 0 0 = z := fun _ => rfl
  have b15 : f_Md_voices_15 σm x1 = some (pv_uI σm 0 0 1) := by
    unfold f_Md_voices_15 f_Md_voices_16
    rw [r0, if_neg (by decide)]
  by_cases h : x1 < 1
  · refine bad ?_ ?_
    · unfold f_PV_voices f_PV_voices_0; rw [if_pos h]
    · unfold f_Md_voices f_Md_voices_0; rw [if_pos h]; exact b15
  · obtain ⟨e, l⟩ := pI_of (pI_of1 h)
    generalize hV : x1.toNatClampNeg = V at e l
    by_cases h4 : x1 ≤ 4
    · have h4' : ¬ (4 : Int32) < x1 := Int32.not_lt.mpr h4
      have v1 : 1 ≤ V := by
        rw [e, l_1, pI_lt l (by omega)] at h; omega
      have v4 : V ≤ 4 := by
        rw [e, l_4, pI_le l (by omega)] at h4; omega
      obtain ⟨T, f, _, V0, ns, nt, b, od, v, _, t, g, _⟩ := R
      obtain ⟨a, c, h1, h2, h3⟩ := Rel_silent (τx := pv_uI σx 0 7 x1) (τm := pv_uI (pv_uI σm 0 0 0) 0 32 x1) (V := V) (nb := b + nt) (j := j) (od := od) T f ⟨v1, v4, e, e⟩ ⟨t.1, t.2.2⟩ (RG_congr (fun c h1 h2 => by funext i; rw [uI1n (by omega)]) (fun c h1 h2 => by funext i; rw [uI1n (by omega), uI1n (by omega)]) (fun k hk => by rw [uI1c, if_neg (by omega), uI1c, if_neg (by omega)]) g)
      refine ⟨.inl (0, a), c, (c.1 0 0, c), ?_, trivial, ?_, rfl, h3.2, h3.1⟩
      · unfold f_PV_voices f_PV_voices_0; rw [if_neg h, if_pos h4, h1]; rfl
      · unfold f_Md_voices f_Md_voices_0 f_Md_voices_16; rw [if_neg h, if_neg h4', r0, if_pos rfl, h2]; rfl
    · refine bad ?_ ?_
      · unfold f_PV_voices f_PV_voices_0; rw [if_neg h, if_neg h4]
      · unfold f_Md_voices f_Md_voices_0; rw [if_neg h, if_pos (Int32.not_le.mp h4)]; exact b15
