/-! note keeps the relation. -/
theorem RV_more {od : Option PD} {v ns nt b : Nat} {σx σm : pv_S} (R : RV od v ns nt b σx σm) : RV od v ns (nt + 1) b σx σm := by
  rcases R with h | ⟨r1, r2, r3, r4, r5, r6, r7, ⟨t, t1, t2⟩, r9⟩
  · exact Or.inl h
  · exact Or.inr ⟨r1, r2, r3, r4, r5, r6, r7, ⟨t, by omega, t2⟩, r9⟩
theorem takeX {w n : Nat} (σ : pv_S) (hn : n ≤ 24) (x12 : σ.1 12 0 = pI n) (x1 x2 : Int32) (y : Int64) : pw (f_Vc_take w σ x1 x2 y) (fun a => (∀ c, ¬ (28 + 6 * w ≤ c ∧ c ≤ 28 + 6 * w + 5) → a.1 c = σ.1 c) ∧ (∀ c, c ≠ 28 + 6 * w → a.2 c = σ.2 c) ∧ a.2 (28 + 6 * w) 5 = y ∧ (a.1 (28 + 6 * w) 0 = 1 ∧ a.1 (28 + 6 * w) 1 = 1 ∧ a.1 (28 + 6 * w) 2 = 1 ∧ a.1 (28 + 6 * w) 3 = 0 ∧ a.1 (28 + 6 * w) 4 = 0 ∧ a.1 (28 + 6 * w) 9 = 0 ∧ a.1 (28 + 6 * w) 7 = x1 ∧ a.1 (28 + 6 * w) 8 = x2) ∧ (∀ m, m < n → a.1 (28 + 6 * w + 3) m = if σ.1 13 m = 15 then 1 else 0) ∧ (∀ k, k < 24 → a.1 (28 + 6 * w + 4) k = 0) ∧ ∀ k, k < 128 → a.1 (28 + 6 * w + 5) k = 0) := by
  unfold f_Vc_take f_Vc_take_0
  generalize hs : pv_uL (pv_uI (pv_uI (pv_uI (pv_uI (pv_uI (pv_uI (pv_uI (pv_uI σ (28 + 6 * w) 0 (1 : Int32)) (28 + 6 * w) 1 (1 : Int32)) (28 + 6 * w) 2 (1 : Int32)) (28 + 6 * w) 3 (0 : Int32)) (28 + 6 * w) 4 (0 : Int32)) (28 + 6 * w) 9 (0 : Int32)) (28 + 6 * w) 7 x1) (28 + 6 * w) 8 x2) (28 + 6 * w) 5 y = τ
  have t1 : ∀ c, c ≠ 28 + 6 * w → τ.1 c = σ.1 c := by
    intro c hc
    funext j
    rw [← hs, uL1]
    simp only [uI1n hc]
  have t2 : ∀ c, c ≠ 28 + 6 * w → τ.2 c = σ.2 c := by
    intro c hc
    funext j
    rw [← hs, uL2, if_neg (fun z => hc z.1)]
    rfl
  have t3 : τ.2 (28 + 6 * w) 5 = y := by rw [← hs, uL2, if_pos ⟨rfl, rfl⟩]
  have t4 : τ.1 (28 + 6 * w) 0 = 1 ∧ τ.1 (28 + 6 * w) 1 = 1 ∧ τ.1 (28 + 6 * w) 2 = 1 ∧ τ.1 (28 + 6 * w) 3 = 0 ∧ τ.1 (28 + 6 * w) 4 = 0 ∧ τ.1 (28 + 6 * w) 9 = 0 ∧ τ.1 (28 + 6 * w) 7 = x1 ∧ τ.1 (28 + 6 * w) 8 = x2 := by
    rw [← hs, uL1]
    simp only [uI1c]
    exact ⟨rfl, rfl, rfl, rfl, rfl, rfl, rfl, rfl⟩
  obtain ⟨a, e, a1, a2, a3, a4, a5⟩ := forgetX (v := w) τ hn (by rw [t1 12 (by omega)]; exact x12)
  rw [e, Option.bind_some]
  refine pw_some.mpr ⟨fun c hc => ?_, fun c hc => ?_, ?_, ?_, fun m hm => ?_, a4, a5⟩
  · rw [a1 c (by omega), t1 c (by omega)]
  · rw [a2, t2 c hc]
  · rw [a2, t3]
  · rw [a1 _ (by omega)]; exact t4
  · rw [a3 m hm, t1 13 (by omega)]
theorem Rel_note {j : Nat} (hj : j < 512) {σx σm : pv_S} (R : Rel j σx σm) (x1 x2 : Int32) : sim_h (Rel (j + 1)) [1] cod_note (f_PV_note σx x1 x2) (f_Md_note σm x1 x2) := by
  have r0 : ∀ z, (pv_uI σm 0 0 z).1 0 0 = z := fun _ => rfl
  have b16 : f_Md_note_16 σm x1 x2 = some (0, pv_uI σm 0 0 1) := by
    unfold f_Md_note_16 f_Md_note_17
    rw [r0, if_neg (by decide)]
  have bad : f_PV_note σx x1 x2 = some (.inr (1, σx)) → f_Md_note σm x1 x2 = some (0, pv_uI σm 0 0 1) → sim_h (Rel (j + 1)) [1] cod_note (f_PV_note σx x1 x2) (f_Md_note σm x1 x2) := fun h1 h2 => ⟨_, _, _, h1, List.mem_cons_self, h2, rfl, rfl, fun r hr => (by cases hr), Rel_thrown 1 R⟩
  by_cases h1 : x2 < 1
  · refine bad ?_ ?_
    · unfold f_PV_note f_PV_note_0; rw [if_pos h1]
    · unfold f_Md_note f_Md_note_0; rw [if_pos h1]; exact b16
  · by_cases h127 : x2 ≤ 127
    · have h127' : ¬ (127 : Int32) < x2 := Int32.not_lt.mpr h127
      obtain ⟨⟨L, l1, l2, l3, l4⟩, ⟨f1, f2, f3, f4, f5, f6⟩, ⟨n0, o1, o2, o3, o4⟩, V, ns, nt, b, od, ⟨v1, v4, x7, m32⟩, ⟨s1, s2, s3⟩, ⟨t1, t2, t3⟩, g, rv⟩ := R
      -- which voice
      have rv' : ∀ v, v < 4 → RV od v ns nt b σx (pv_uI σm 0 0 0) := fun v hv => RV_congr (σx := σx) (σm := σm) (RG_W g) (fun _ _ _ => rfl) rfl (fun c h1 h2 => by rw [uI1n (by omega)]) (fun c i h1 h2 _ _ => by rw [uI1n (by omega)]) (fun i _ _ => by rw [uI1n (by decide)]) (rv v hv)
      obtain ⟨w, hw, c1, c2⟩ := choice_both (σx := σx) (σm := pv_uI σm 0 0 0) (V := V) (ns := ns) (nt := nt) (b := b) (od := od) v1 v4 x7 m32 (by omega) (by omega) rv'
      have w4 : w < 4 := by omega
      have i4 : pv_in (pI w) 4 = true := (pI_in (by omega)).mpr w4
      have wn : (pI w).toNatClampNeg = w := pI_nat (by omega)
      -- the program
      obtain ⟨n, hn, x12, m18⟩ : ∃ n, n ≤ 24 ∧ σx.1 12 0 = pI n ∧ (σm.1 0 16 ≠ 0 → σm.1 0 18 = pI n) := by
        cases od with
        | none => exact ⟨0, by omega, g.2.1, fun h => absurd g.1 h⟩
        | some d => exact ⟨d_n d, g.2.1.1.2.1, g.2.2.1.1.1.1, fun _ => g.2.2.2.1.1.1⟩
      -- the class
      obtain ⟨a, ea, a1, a2, a3, a4, a5, a6, a7⟩ := takeX (w := w) σx hn x12 x1 x2 (σx.2 0 8)
      have hx : f_PV_note σx x1 x2 = some (.inl (pI w, pv_uL a 0 8 (a.2 0 8 + 1))) := by
        unfold f_PV_note f_PV_note_0
        rw [if_neg h1, if_pos h127, c1, Option.bind_some, if_pos i4, wn, ea]
        rfl
      -- the reference
      have hm : ∃ τ : pv_S, f_Md_note σm x1 x2 = f_Md_note_106 pv_fu τ (pI w) 0 ∧ (∀ c, ¬ (c = 0 ∨ (22 ≤ c ∧ c ≤ 27) ∨ c = 29 ∨ c = 30) → τ.1 c = σm.1 c) ∧ (∀ c i, c ≠ 0 → i ≠ w → τ.1 c i = σm.1 c i) ∧ (∀ k, k ≠ 0 → k ≠ 47 → τ.1 0 k = σm.1 0 k) ∧ τ.2 = σm.2 ∧ τ.1 0 0 = 0 ∧ τ.1 0 47 = pI (nt + 1) ∧ τ.1 22 w = 1 ∧ τ.1 23 w = x1 ∧ τ.1 24 w = x2 ∧ τ.1 25 w = 1 ∧ τ.1 26 w = 0 ∧ τ.1 27 w = 0 ∧ τ.1 29 w = pI nt ∧ τ.1 30 w = 0 := by
        have e47 : ∀ y1 y2 y3 y4 y5 y6, (pv_uI (pv_uI (pv_uI (pv_uI (pv_uI (pv_uI (pv_uI σm 0 0 0) 22 w y1) 23 w y2) 24 w y3) 25 w y4) 26 w y5) 27 w y6).1 0 47 = pI nt := fun _ _ _ _ _ _ => t2
        have e47' : ∀ y1 y2 y3 y4 y5 y6 y7, (pv_uI (pv_uI (pv_uI (pv_uI (pv_uI (pv_uI (pv_uI (pv_uI σm 0 0 0) 22 w y1) 23 w y2) 24 w y3) 25 w y4) 26 w y5) 27 w y6) 29 w y7).1 0 47 = pI nt := fun _ _ _ _ _ _ _ => t2
        have z0 : vp_nar .boolean (0 : Int32) = 0 := by decide
        have z1 : vp_nar .boolean (1 : Int32) = 1 := by decide
        refine ⟨pv_uI (pv_uI (pv_uI (pv_uI (pv_uI (pv_uI (pv_uI (pv_uI (pv_uI (pv_uI σm 0 0 0) 22 w 1) 23 w x1) 24 w x2) 25 w 1) 26 w 0) 27 w 0) 29 w (pI nt)) 0 47 (pI (nt + 1))) 30 w 0, ?_, fun c hc => ?_, fun c i h1 h2 => ?_, fun k h1 h2 => ?_, rfl, rfl, ?_, ?_, ?_, ?_, ?_, ?_, ?_, ?_, ?_⟩
        · unfold f_Md_note f_Md_note_0 f_Md_note_17
          rw [if_neg h1, if_neg h127', r0, if_pos (by decide), c2, Option.bind_some]
          simp only [if_pos i4, wn, z0, z1, e47, e47', nadd_1]
        · funext i
          rw [uI1n (by omega), uI1n (by omega), uI1n (by omega), uI1n (by omega), uI1n (by omega), uI1n (by omega), uI1n (by omega), uI1n (by omega), uI1n (by omega), uI1n (by omega)]
        · rw [uI1, if_neg (by omega), uI1, if_neg (by omega), uI1, if_neg (by omega), uI1, if_neg (by omega), uI1, if_neg (by omega), uI1, if_neg (by omega), uI1, if_neg (by omega), uI1, if_neg (by omega), uI1, if_neg (by omega), uI1, if_neg (by omega)]
        · rw [uI1n (by omega), uI1c, if_neg h2, uI1n (by omega), uI1n (by omega), uI1n (by omega), uI1n (by omega), uI1n (by omega), uI1n (by omega), uI1n (by omega), uI1c, if_neg h1]
        · rw [uI1n (by decide), uI1c, if_pos rfl]
        · rw [uI1n (by decide), uI1n (by decide), uI1n (by decide), uI1n (by decide), uI1n (by decide), uI1n (by decide), uI1n (by decide), uI1n (by decide), uI1c, if_pos rfl]
        · rw [uI1n (by decide), uI1n (by decide), uI1n (by decide), uI1n (by decide), uI1n (by decide), uI1n (by decide), uI1n (by decide), uI1c, if_pos rfl]
        · rw [uI1n (by decide), uI1n (by decide), uI1n (by decide), uI1n (by decide), uI1n (by decide), uI1n (by decide), uI1c, if_pos rfl]
        · rw [uI1n (by decide), uI1n (by decide), uI1n (by decide), uI1n (by decide), uI1n (by decide), uI1c, if_pos rfl]
        · rw [uI1n (by decide), uI1n (by decide), uI1n (by decide), uI1n (by decide), uI1c, if_pos rfl]
        · rw [uI1n (by decide), uI1n (by decide), uI1n (by decide), uI1c, if_pos rfl]
        · rw [uI1n (by decide), uI1n (by decide), uI1c, if_pos rfl]
        · rw [uI1c, if_pos rfl]
      obtain ⟨τ, hm, q1, q2, q3, q4, q5, q6, q7, q8, q9, q10, q11, q12, q13, q14⟩ := hm
      obtain ⟨⟨om1, om⟩, em, m0, m1, m2, m3, m4, m5, m6, m7⟩ := forgetM (w := w) (n := n) w4 τ hn (by rw [q3 16 (by decide) (by decide), q3 18 (by decide) (by decide)]; exact m18)
      have m0 : om1 = pI w := m0
      subst m0
      rw [← hm] at em
      -- what has changed
      have xc : ∀ c, ¬ (28 + 6 * w ≤ c ∧ c ≤ 28 + 6 * w + 5) → (pv_uL a 0 8 (a.2 0 8 + 1)).1 c = σx.1 c := fun c hc => by rw [uL1]; exact a1 c hc
      have mc : ∀ c, ¬ (c = 0 ∨ (22 ≤ c ∧ c ≤ 27) ∨ (29 ≤ c ∧ c ≤ 32) ∨ c = 34) → om.1 c = σm.1 c := fun c hc => by rw [m1 c (by omega), q1 c (by omega)]
      have mz : ∀ k, k ≠ 0 → k ≠ 47 → om.1 0 k = σm.1 0 k := fun k h1 h2 => by rw [m1 0 (by decide), q3 k h1 h2]
      have x28 : a.2 0 8 = Int64.ofNat (b + nt) := by rw [a2 0 (by omega)]; exact t3
      have m00 : om.1 0 0 = 0 := by rw [m1 0 (by decide)]; exact q5
      have g' : RG od (pv_uL a 0 8 (a.2 0 8 + 1)) om := RG_congr (fun c h1 h2 => xc c (by omega)) (fun c h1 h2 => mc c (by omega)) (fun k hk => mz k (by omega) (by omega)) g
      refine ⟨_, _, _, hx, trivial, em, rfl, m00, fun r hr => (by cases hr; rfl), ⟨L, l1, by rw [← l2]; exact congrFun (xc 0 (by omega)) 1, by rw [← l3]; exact mz 2 (by decide) (by decide), fun k hk => ?_⟩, ⟨?_, ?_, ?_, ?_, ?_, ?_⟩, ⟨n0, o1, ?_, ?_, ?_⟩, V, ns, nt + 1, b, od, ⟨v1, v4, ?_, ?_⟩, ⟨by omega, ?_, fun v h1 h2 => ?_⟩, ⟨by omega, ?_, ?_⟩, g', fun u hu => ?_⟩
      · show (pv_uL a 0 8 (a.2 0 8 + 1)).1 1 k = om.1 1 k
        rw [xc 1 (by omega), mc 1 (by omega)]; exact l4 k hk
      · show (pv_uL a 0 8 (a.2 0 8 + 1)).1 0 5 = om.1 0 15
        rw [xc 0 (by omega), mz 15 (by decide) (by decide)]; exact f1
      · show (pv_uL a 0 8 (a.2 0 8 + 1)).1 0 4 = om.1 0 17
        rw [xc 0 (by omega), mz 17 (by decide) (by decide)]; exact f2
      · show om.1 0 17 = 0 ∨ om.1 0 17 = 1
        rw [mz 17 (by decide) (by decide)]; exact f3
      · show ∀ k, k < 20 → om.1 2 k = _
        rw [mc 2 (by omega)]; exact f4
      · show ∀ k, k < 20 → om.1 3 k = _
        rw [mc 3 (by omega)]; exact f5
      · show ∀ k, k < 4 → (pv_uL a 0 8 (a.2 0 8 + 1)).1 26 k = om.1 21 k
        rw [xc 26 (by omega), mc 21 (by omega)]; exact f6
      · show (pv_uL a 0 8 (a.2 0 8 + 1)).1 0 11 = _
        rw [xc 0 (by omega)]; exact o2
      · show om.1 0 50 = _
        rw [mz 50 (by decide) (by decide)]; exact o3
      · show ∀ k, k < n0 → (pv_uL a 0 8 (a.2 0 8 + 1)).1 27 k = om.1 35 k
        rw [xc 27 (by omega), mc 35 (by omega)]; exact o4
      · show (pv_uL a 0 8 (a.2 0 8 + 1)).1 0 7 = _
        rw [xc 0 (by omega)]; exact x7
      · show om.1 0 32 = _
        rw [mz 32 (by decide) (by decide)]; exact m32
      · show om.1 0 48 = _
        rw [mz 48 (by decide) (by decide)]; exact s2
      · show om.1 22 v = 0
        rw [m1 22 (by decide), q2 22 v (by decide) (by omega)]; exact s3 v h1 h2
      · show om.1 0 47 = _
        rw [m1 0 (by decide)]; exact q6
      · show (pv_uL a 0 8 (a.2 0 8 + 1)).2 0 8 = _
        rw [uL2, if_pos ⟨rfl, rfl⟩, x28, show b + (nt + 1) = b + nt + 1 by omega]
        exact (Int64.ofNat_add _ _).symm
      · show RV od u ns (nt + 1) b (pv_uL a 0 8 (a.2 0 8 + 1)) om
        by_cases hu' : u = w
        · subst hu'
          obtain ⟨p0, p1, p2, p3, p4, p9, p7, p8⟩ := a4
          refine Or.inr ⟨p0, by rw [m1 22 (by decide)]; exact q7, Or.inr (by rw [m1 25 (by decide)]; exact q10), by rw [m1 25 (by decide), q10]; exact p1, by rw [m1 23 (by decide), q8]; exact p7, by rw [m1 24 (by decide), q9]; exact p8, Or.inl ⟨by rw [m1 26 (by decide)]; exact q11, p2, p4, 0, by decide, p9, by rw [m1 27 (by decide)]; exact q12⟩, ⟨nt, by omega, ?_, by rw [m1 29 (by decide)]; exact q13⟩, 0, by omega, by rw [m1 30 (by decide)]; exact q14, p3, fun _ => rfl, fun d hd => ⟨?_, fun h => absurd rfl h⟩⟩
          · rw [uL2, if_neg (by omega), a3]; exact t3
          · subst hd
            obtain ⟨g1, W, X, M⟩ := g
            have en : n = d_n d := by
              have h : pI n = pI (d_n d) := by rw [← x12]; exact X.1.1.1
              have := W.1.2.1
              exact (pI_eq (by omega) (by omega)).mp h
            subst en
            have n16 : τ.1 0 16 ≠ 0 := by rw [q3 16 (by decide) (by decide), g1]; decide
            have k15 : ∀ m, m < d_n d → (pv_uL a 0 8 (a.2 0 8 + 1)).1 (28 + 6 * u + 3) m = (if pI (d_kd d m) = 15 then 1 else 0) ∧ om.1 31 (24 * u + m) = (if pI (d_kd d m) = 15 then 1 else 0) := by
              intro m hm
              refine ⟨?_, ?_⟩
              · rw [uL1, a5 m hm, X.1.1.2 m hm]
              · rw [m5 n16 m hm, q1 9 (by omega), (M.1.1.2.1 m hm).1]
            refine ⟨fun m h1 h2 h3 => ⟨?_, ?_⟩, fun k hk => ⟨?_, fun i hi => ?_⟩⟩
            · rw [(k15 m h1).1, (k15 m h1).2]
            · rw [uL1, a6 m (by omega), m6 m (by omega)]
            · obtain ⟨d1, d2, _⟩ := d_put W hk
              rw [(k15 _ d1).1, d2, if_neg (by decide), Nat.zero_mod]
              rfl
            · obtain ⟨d1, d2, _⟩ := d_put W hk
              have := d_of_128 W d1 d2
              have l128 : pl_L (d_fp d) (d_sm d) (pl_N (d_nu d)) (d_sc d - d_fp d) ≤ 128 := W.2.2.2.2.2.2.2.2
              have lup := pl_Lup (fp := d_fp d) (sm := d_sm d) (w := pl_N (d_nu d)) (d := k) (d' := d_sc d - d_fp d) (by omega)
              have eL : d_L d k = pl_L (d_fp d) (d_sm d) (pl_N (d_nu d)) k := rfl
              rw [uL1, a7 _ (by omega), show 128 * u + d_of d (d_sm d (d_fp d + k)) + i = 128 * u + (d_of d (d_sm d (d_fp d + k)) + i) by omega, m7 _ (by omega)]
        · refine RV_more (RV_congr (σx := σx) (σm := σm) (RG_W g) (fun c h1 h2 => xc c (by omega)) ?_ (fun c h1 h2 => ?_) (fun c i h1 h2 h3 h4 => ?_) (fun i h1 h2 => ?_) (rv u hu))
          · funext i
            rw [uL2, if_neg (by omega), a2 _ (by omega)]
          · rw [m1 c (by omega), q2 c u (by omega) hu']
          · by_cases hc : c = 33
            · rw [hc, mc 33 (by omega)]
            · rw [m3 c i (by omega) (by omega), q1 c (by omega)]
          · rw [m4 i (by omega), q1 34 (by omega)]
    · refine bad ?_ ?_
      · unfold f_PV_note f_PV_note_0; rw [if_neg h1, if_neg h127]
      · unfold f_Md_note f_Md_note_0; rw [if_neg h1, if_pos (Int32.not_le.mp h127)]; exact b16
