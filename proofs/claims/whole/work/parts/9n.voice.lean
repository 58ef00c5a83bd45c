/-! One sample of one voice, on both sides. -/
/-- whether a voice sounds, and since when it does not -/
def RVs (v s : Nat) (σx σm : pv_S) : Prop := (σm.1 26 v = 0 ∧ σx.1 (28 + 6 * v) 2 = 1 ∧ σx.1 (28 + 6 * v) 4 = 0 ∧ ∃ z, z < 16 ∧ σx.1 (28 + 6 * v) 9 = pI z ∧ σm.1 27 v = pI z) ∨ (σm.1 26 v = 1 ∧ σx.1 (28 + 6 * v) 2 = 0 ∧ ∃ ia q, ia + q + 1 = s ∧ σx.1 (28 + 6 * v) 4 = pI q ∧ σm.1 28 v = pI ia)
def VoA (v : Nat) (sx sm : pv_S) (a b : Int32 × pv_S) : Prop := a.1 = b.1 ∧ (∀ c, ¬ (28 + 6 * v ≤ c ∧ c ≤ 28 + 6 * v + 5) → a.2.1 c = sx.1 c) ∧ a.2.2 = sx.2 ∧ (∀ k, ¬ (k = 2 ∨ k = 3 ∨ k = 4 ∨ k = 9) → a.2.1 (28 + 6 * v) k = sx.1 (28 + 6 * v) k) ∧ (∀ c, ¬ (c = 26 ∨ c = 27 ∨ c = 28 ∨ (30 ≤ c ∧ c ≤ 34)) → b.2.1 c = sm.1 c) ∧ (∀ c j, c = 26 ∨ c = 27 ∨ c = 28 ∨ c = 30 → j ≠ v → b.2.1 c j = sm.1 c j) ∧ (∀ c j, c = 31 ∨ c = 32 ∨ c = 33 → ¬ (24 * v ≤ j ∧ j < 24 * v + 24) → b.2.1 c j = sm.1 c j) ∧ (∀ j, ¬ (128 * v ≤ j ∧ j < 128 * v + 128) → b.2.1 34 j = sm.1 34 j) ∧ b.2.2 = sm.2
theorem voice_sample {d : PD} (W : PW d) {sx sm : pv_S} (X : PX d sx) (M : PM d sm) {v a s : Nat} (hv : v < 4) (ha : a < 1073741824) (hs0 : s < 1073741824) (h30 : sm.1 30 v = pI a) (h48 : sm.1 0 48 = pI s) (hkn : ∀ k, k < 4 → sx.1 26 k = sm.1 21 k) (hp : sx.1 (28 + 6 * v) 7 = sm.1 23 v) (hg : sx.1 (28 + 6 * v) 1 = sm.1 25 v) (hs : sx.1 (28 + 6 * v) 8 = sm.1 24 v) (V : VM d v a sx sm) (R : RVs v s sx sm) : pj (f_Vc_play v sx) (f_Md_sample sm (pI v)) (fun x y => VoA v sx sm x y ∧ x.2.1 (28 + 6 * v) 3 = 1 ∧ y.2.1 30 v = pI (a + 1) ∧ VM d v (a + 1) x.2 y.2 ∧ RVs v (s + 1) x.2 y.2 ∧ ∀ m, m < d_n d → d_K d m = true → x.2.1 (28 + 6 * v + 1) m = y.2.1 33 (24 * v + m)) := by
  obtain ⟨wf, ⟨x, O⟩, b1, so, closed, outK, P, sl24, l128⟩ := id W
  obtain ⟨n1, n2, w1, w2, w3, w4, w5, w6, w7⟩ := id wf
  obtain ⟨o1, o2, o3, o4, o5⟩ := id O
  obtain ⟨p1, p2, p3, p4, p5, p6, p7⟩ := ph_of P
  -- behind the last module: puts, and the end of the sample
  have tail : ∀ (σx σm : pv_S), SI d v a sx sm (d_n d) σx σm → pj (f_Vc_play_108 v pv_fu σx (pI (d_fp d))) (f_Md_sample_42 pv_fu σm (pI v) 0) (fun x y => VoA v sx sm x y ∧ x.2.1 (28 + 6 * v) 3 = 1 ∧ y.2.1 30 v = pI (a + 1) ∧ VM d v (a + 1) x.2 y.2 ∧ RVs v (s + 1) x.2 y.2 ∧ ∀ m, m < d_n d → d_K d m = true → x.2.1 (28 + 6 * v + 1) m = y.2.1 33 (24 * v + m)) := by
    intro σx σm I
    obtain ⟨i1, i2, i3, i4, i5, iv, g1, g2, g3⟩ := I
    have Xx : PX d σx := PX_congr (fun c h1 h2 => i1 c (by omega) (by omega) (by omega) (by omega)) X
    have Mm : PM d σm := PM_congr (fun c h1 h2 => i3 c (by omega) (by omega) (by omega)) (by rw [i3 0 (by decide) (by decide) (by decide)]) (by rw [i3 0 (by decide) (by decide) (by decide)]) M
    have m30 : σm.1 30 v = pI a := by rw [i3 30 (by decide) (by decide) (by decide)]; exact h30
    have vals : ∀ m, m < d_n d → d_K d m = true → σx.1 (28 + 6 * v + 1) m = σm.1 33 (24 * v + m) := by
      intro m hm hK
      obtain ⟨k, hk, rfl⟩ := po_all n2 O hm
      exact g3 k hk hK
    refine px_puts (a := a) W hv Xx (fun k hk => (iv.2 k hk).1) (fun o => pj o _ _) ?_
    intro τx fux a1 a2 a3 a4
    refine pm_puts (a := a) W hv Mm (by omega) m30 g1 (fun o => pj _ o _) ?_
    intro τm fum c1 c2 c3 c4
    have X2 : PX d τx := PX_congr (fun c h1 h2 => a1 c (by omega) (by omega)) Xx
    have eo : τx.1 (28 + 6 * v) = sx.1 (28 + 6 * v) := by rw [a1 _ (by omega) (by omega), i1 _ (by omega) (by omega) (by omega) (by omega)]
    have mc : ∀ c, c ≠ 31 → c ≠ 32 → c ≠ 33 → c ≠ 34 → τm.1 c = sm.1 c := fun c h1 h2 h3 h4 => by rw [c1 c h4, i3 c h1 h2 h3]
    -- the output's value
    have vlast := g1
    obtain ⟨kl, hkl, ekl⟩ := po_all n2 O (show d_n d - 1 < d_n d by omega)
    obtain ⟨vl1, vl2⟩ := g1 kl hkl
    rw [ekl] at vl1 vl2
    have out : ∀ ox : Int32, ox = σm.1 33 (24 * v + (d_n d - 1)) → pj (f_Vc_play_166 v (pv_uI τx (28 + 6 * v) 3 1) ox) (f_Md_sample_42 (fum + 1) τm (pI v) (pI (d_n d))) (fun x y => VoA v sx sm x y ∧ x.2.1 (28 + 6 * v) 3 = 1 ∧ y.2.1 30 v = pI (a + 1) ∧ VM d v (a + 1) x.2 y.2 ∧ RVs v (s + 1) x.2 y.2 ∧ ∀ m, m < d_n d → d_K d m = true → x.2.1 (28 + 6 * v + 1) m = y.2.1 33 (24 * v + m)) := by
      intro ox hox
      -- all but what the end of the sample writes
      have fin : ∀ (u w : pv_S), (∀ c, c ≠ 28 + 6 * v → u.1 c = τx.1 c) → u.2 = τx.2 → (∀ k, ¬ (k = 2 ∨ k = 3 ∨ k = 4 ∨ k = 9) → u.1 (28 + 6 * v) k = τx.1 (28 + 6 * v) k) → u.1 (28 + 6 * v) 3 = 1 → (∀ c, c ≠ 26 → c ≠ 27 → c ≠ 28 → c ≠ 30 → w.1 c = τm.1 c) → (∀ c j, j ≠ v → w.1 c j = τm.1 c j) → w.2 = τm.2 → w.1 30 v = pI (a + 1) → RVs v (s + 1) u w → pj (some (ox, u)) (some (ox, w)) (fun x y => VoA v sx sm x y ∧ x.2.1 (28 + 6 * v) 3 = 1 ∧ y.2.1 30 v = pI (a + 1) ∧ VM d v (a + 1) x.2 y.2 ∧ RVs v (s + 1) x.2 y.2 ∧ ∀ m, m < d_n d → d_K d m = true → x.2.1 (28 + 6 * v + 1) m = y.2.1 33 (24 * v + m)) := by
        intro u w u1 u2 u3 u4 q1 q2 q3 q4 q5
        refine pj_some ⟨⟨rfl, fun c hc => ?_, ?_, fun k hk => ?_, fun c hc => ?_, fun c j hc hj => ?_, fun c j hc hj => ?_, fun j hj => ?_, ?_⟩, u4, q4, ⟨fun m hm hK h18 => ?_, fun k hk => ⟨?_, fun i hi => ?_⟩⟩, q5, fun m hm hK => ?_⟩
        · show u.1 c = sx.1 c
          rw [u1 c (by omega), a1 c (by omega) (by omega), i1 c (by omega) (by omega) (by omega) (by omega)]
        · show u.2 = sx.2
          rw [u2, a2, i2]
        · show u.1 (28 + 6 * v) k = sx.1 (28 + 6 * v) k
          rw [u3 k hk, eo]
        · show w.1 c = sm.1 c
          rw [q1 c (by omega) (by omega) (by omega) (by omega), mc c (by omega) (by omega) (by omega) (by omega)]
        · show w.1 c j = sm.1 c j
          rw [q2 c j hj, mc c (by omega) (by omega) (by omega) (by omega)]
        · show w.1 c j = sm.1 c j
          rw [q1 c (by omega) (by omega) (by omega) (by omega), c1 c (by omega), i4 c j hj]
        · show w.1 34 j = sm.1 34 j
          rw [q1 34 (by decide) (by decide) (by decide) (by decide), c3 j hj, i3 34 (by decide) (by decide) (by decide)]
        · show w.2 = sm.2
          rw [q3, c2, i5]
        · show u.1 (28 + 6 * v + 3) m = w.1 31 (24 * v + m) ∧ u.1 (28 + 6 * v + 4) m = w.1 32 (24 * v + m)
          rw [u1 _ (by omega), u1 _ (by omega), q1 31 (by decide) (by decide) (by decide) (by decide), q1 32 (by decide) (by decide) (by decide) (by decide), c1 31 (by decide), c1 32 (by decide), a1 (28 + 6 * v + 4) (by omega) (by omega), a3 m (fun k hk z => by
            obtain ⟨l, _, _, l3, _, l5⟩ := p5 (d_fp d + k) (by omega) hk
            rw [← l5, z] at l3
            exact h18 l3)]
          exact iv.1 m hm hK h18
        · show u.1 (28 + 6 * v + 3) _ = _
          rw [u1 _ (by omega)]; exact (a4 k hk).1
        · show u.1 (28 + 6 * v + 5) _ = w.1 34 _
          obtain ⟨l, l1, l2, l3, l4, l5⟩ := p5 (d_fp d + k) (by omega) hk
          have hmn : d_sm d (d_fp d + k) < d_n d := by rw [l5]; exact o1 l l1
          have hm18 : d_kd d (d_sm d (d_fp d + k)) = 18 := by rw [l5]; exact l3
          have hmK : d_K d (d_sm d (d_fp d + k)) = true := by rw [l5]; exact l2
          rw [u1 _ (by omega), q1 34 (by decide) (by decide) (by decide) (by decide), (a4 k hk).2 i hi, c4 _ hmn hm18 i hi]
          by_cases e : i = a % pl_N (d_nu d) (d_sm d (d_fp d + k))
          · rw [if_pos e, if_pos e]
            unfold CV IV
            cases eS : d_S d (4 * d_sm d (d_fp d + k)) with
            | none => rfl
            | some t =>
              have hKt := closed _ 0 t hmn (by decide) hmK (by rw [Nat.add_zero]; exact eS)
              have htn : t < d_n d := by
                unfold d_S ps_s at eS
                cases e2 : d_fr d (4 * d_sm d (d_fp d + k)) with
                | none => rw [e2] at eS; cases eS
                | some s => rw [e2] at eS; exact b1 s t (w2 _ s (by omega) e2).1 eS
              exact vals t htn hKt
          · rw [if_neg e, if_neg e]; exact (iv.2 k hk).2 i hi
        · show u.1 (28 + 6 * v + 1) m = w.1 33 (24 * v + m)
          rw [u1 _ (by omega), a1 _ (by omega) (by omega), q1 33 (by decide) (by decide) (by decide) (by decide), c1 33 (by decide)]
          exact vals m hm hK
      -- the reference's end
      have i4v : pv_in (pI v) 4 = true := (pI_in (by omega)).mpr hv
      have e18 : τm.1 0 18 = pI (d_n d) := by rw [mc 0 (by decide) (by decide) (by decide) (by decide)]; exact M.1.1.1
      have e30 : τm.1 30 v = pI a := by rw [mc 30 (by decide) (by decide) (by decide) (by decide)]; exact h30
      have e33 : τm.1 33 (24 * v + (d_n d - 1)) = ox := by rw [c1 33 (by decide)]; exact hox.symm
      have e25 : τm.1 25 v = sm.1 25 v := by rw [mc 25 (by decide) (by decide) (by decide) (by decide)]
      have e26 : τm.1 26 v = sm.1 26 v := by rw [mc 26 (by decide) (by decide) (by decide) (by decide)]
      have e27 : τm.1 27 v = sm.1 27 v := by rw [mc 27 (by decide) (by decide) (by decide) (by decide)]
      have e48 : τm.1 0 48 = pI s := by rw [mc 0 (by decide) (by decide) (by decide) (by decide)]; exact h48
      have eix : (24 : Int32) * pI v + pI (d_n d) - 1 = pI (24 * v + (d_n d - 1)) := by
        rw [nmul_24, pI_add, show 24 * v + d_n d = 24 * v + (d_n d - 1) + 1 by omega, nm1]
      have refEnd : f_Md_sample_42 (fum + 1) τm (pI v) (pI (d_n d)) = f_Md_sample_167 (pv_uI τm 30 v (pI (a + 1))) (pI v) ox (if sm.1 25 v = 0 then (if ox = 0 then sm.1 27 v + 1 else 0) else 0) (pI v) := by
        have r18 : ∀ y, (pv_uI τm 30 v y).1 0 18 = pI (d_n d) := fun _ => e18
        have r25 : ∀ y, (pv_uI τm 30 v y).1 25 v = sm.1 25 v := fun _ => e25
        have r27 : ∀ y, (pv_uI τm 30 v y).1 27 v = sm.1 27 v := fun _ => e27
        have r33 : ∀ y, (pv_uI τm 30 v y).1 33 (24 * v + (d_n d - 1)) = ox := fun _ => e33
        show f_Md_sample_42b _ _ _ _ = _
        unfold f_Md_sample_42b f_Md_sample_155
        rw [e18, if_pos ((pI_le (by omega) (by omega)).mpr (by omega))]
        simp only [pI_nat (show v < 2147483648 by omega), if_pos i4v, e30, nadd_1, r18, eix, pI_nat (show 24 * v + (d_n d - 1) < 2147483648 by omega), r25, r27, r33]
        rw [if_pos ((pI_in (by omega)).mpr (by omega))]
        by_cases g0 : sm.1 25 v = 0
        · rw [if_pos g0, if_pos g0]
          by_cases o0 : ox = 0
          · rw [if_pos o0, if_pos o0]
          · rw [if_neg o0, if_neg o0]
        · rw [if_neg g0, if_neg g0]
      rw [refEnd]
      generalize hz : (if sm.1 25 v = 0 then (if ox = 0 then sm.1 27 v + 1 else 0) else 0 : Int32) = zr
      have ref167 : f_Md_sample_167 (pv_uI τm 30 v (pI (a + 1))) (pI v) ox zr (pI v) = if zr = 16 ∧ sm.1 26 v = 0 then some (ox, pv_uI (pv_uI (pv_uI (pv_uI τm 30 v (pI (a + 1))) 27 v zr) 26 v 1) 28 v (pI s)) else some (ox, pv_uI (pv_uI τm 30 v (pI (a + 1))) 27 v zr) := by
        have r26 : ∀ y z, (pv_uI (pv_uI τm 30 v y) 27 v z).1 26 v = sm.1 26 v := fun _ _ => e26
        have r48 : ∀ y z w', (pv_uI (pv_uI (pv_uI τm 30 v y) 27 v z) 26 v w').1 0 48 = pI s := fun _ _ _ => e48
        unfold f_Md_sample_167
        simp only [pI_nat (show v < 2147483648 by omega), if_pos i4v, uI1c, if_true, r26, r48]
        by_cases h16 : zr = 16
        · rw [if_pos h16]
          by_cases h0 : sm.1 26 v = 0
          · rw [if_pos h0, if_pos ⟨h16, h0⟩]; rfl
          · rw [if_neg h0, if_neg (fun z => h0 z.2)]
        · rw [if_neg h16, if_neg (fun z => h16 z.1)]
      rw [ref167]
      -- the class's end
      have d2 : (pv_uI τx (28 + 6 * v) 3 1).1 (28 + 6 * v) 2 = sx.1 (28 + 6 * v) 2 := by rw [uI1c, if_neg (by decide), eo]
      have d1 : (pv_uI τx (28 + 6 * v) 3 1).1 (28 + 6 * v) 1 = sm.1 25 v := by rw [uI1c, if_neg (by decide), eo]; exact hg
      have d4 : (pv_uI τx (28 + 6 * v) 3 1).1 (28 + 6 * v) 4 = sx.1 (28 + 6 * v) 4 := by rw [uI1c, if_neg (by decide), eo]
      have d9 : (pv_uI τx (28 + 6 * v) 3 1).1 (28 + 6 * v) 9 = sx.1 (28 + 6 * v) 9 := by rw [uI1c, if_neg (by decide), eo]
      unfold f_Vc_play_166 f_Vc_listen f_Vc_listen_0 f_Vc_listen_30 f_Vc_listen_40
      rw [d2, d1, d4, d9]
      rcases R with ⟨r1, r2, r3, z, z16, r4, r5⟩ | ⟨r1, r2, ia, q, r3, r4, r5⟩
      · -- it sounds
        rw [r2, if_neg (show ¬ (1 : Int32) = 0 by decide)]
        have cls : (if sm.1 25 v = 0 then (if ox = 0 then (if (16 : Int32) ≤ ((pv_uI (pv_uI τx (28 + 6 * v) 3 1) (28 + 6 * v) 9 (sx.1 (28 + 6 * v) 9 + 1)).1 (28 + 6 * v) 9) then some (pv_uI (pv_uI (pv_uI τx (28 + 6 * v) 3 1) (28 + 6 * v) 9 (sx.1 (28 + 6 * v) 9 + 1)) (28 + 6 * v) 2 0) else some (pv_uI (pv_uI (pv_uI τx (28 + 6 * v) 3 1) (28 + 6 * v) 9 (sx.1 (28 + 6 * v) 9 + 1)) (28 + 6 * v) 2 1)) else (if (16 : Int32) ≤ ((pv_uI (pv_uI τx (28 + 6 * v) 3 1) (28 + 6 * v) 9 0).1 (28 + 6 * v) 9) then some (pv_uI (pv_uI (pv_uI τx (28 + 6 * v) 3 1) (28 + 6 * v) 9 0) (28 + 6 * v) 2 0) else some (pv_uI (pv_uI (pv_uI τx (28 + 6 * v) 3 1) (28 + 6 * v) 9 0) (28 + 6 * v) 2 1))) else (if (16 : Int32) ≤ ((pv_uI (pv_uI τx (28 + 6 * v) 3 1) (28 + 6 * v) 9 0).1 (28 + 6 * v) 9) then some (pv_uI (pv_uI (pv_uI τx (28 + 6 * v) 3 1) (28 + 6 * v) 9 0) (28 + 6 * v) 2 0) else some (pv_uI (pv_uI (pv_uI τx (28 + 6 * v) 3 1) (28 + 6 * v) 9 0) (28 + 6 * v) 2 1))) = if (16 : Int32) ≤ zr then some (pv_uI (pv_uI (pv_uI τx (28 + 6 * v) 3 1) (28 + 6 * v) 9 zr) (28 + 6 * v) 2 0) else some (pv_uI (pv_uI (pv_uI τx (28 + 6 * v) 3 1) (28 + 6 * v) 9 zr) (28 + 6 * v) 2 1) := by
          rw [← hz, r4, r5]
          simp only [uI1c, if_true]
          by_cases g0 : sm.1 25 v = 0
          · simp only [if_pos g0]
            by_cases o0 : ox = 0
            · simp only [if_pos o0]
            · simp only [if_neg o0]
          · simp only [if_neg g0]
        rw [cls]
        obtain ⟨zn, zn1, zn2⟩ : ∃ zn, zn ≤ 16 ∧ zr = pI zn := by
          rw [← hz, r5]
          by_cases g0 : sm.1 25 v = 0
          · rw [if_pos g0]
            by_cases o0 : ox = 0
            · rw [if_pos o0]; exact ⟨z + 1, by omega, by rw [nadd_1]⟩
            · rw [if_neg o0]; exact ⟨0, by omega, rfl⟩
          · rw [if_neg g0]; exact ⟨0, by omega, rfl⟩
        rw [zn2]
        by_cases h16 : zn = 16
        · rw [if_pos ((nle_16 (by omega)).mpr (by omega)), if_pos ⟨(neq_16 (by omega)).mpr h16, r1⟩, Option.bind_some]
          refine fin _ _ (fun c hc => ?_) rfl (fun k hk => ?_) ?_ (fun c h1 h2 h3 h4 => ?_) (fun c j hj => ?_) rfl ?_ (Or.inr ⟨?_, ?_, s, 0, by omega, ?_, ?_⟩)
          · funext j; rw [uI1n hc, uI1n hc, uI1n hc]
          · simp only [not_or] at hk
            rw [uI1c, if_neg hk.1, uI1c, if_neg hk.2.2.2, uI1c, if_neg hk.2.1]
          · rw [uI1c, if_neg (by decide), uI1c, if_neg (by decide), uI1c, if_pos rfl]
          · funext j; rw [uI1n h3, uI1n h1, uI1n h2, uI1n h4]
          · rw [uI1, if_neg (by omega), uI1, if_neg (by omega), uI1, if_neg (by omega), uI1, if_neg (by omega)]
          · rw [uI1n (by decide), uI1n (by decide), uI1n (by decide), uI1c, if_pos rfl]
          · rw [uI1n (by decide), uI1c, if_pos rfl]
          · rw [uI1c, if_pos rfl]
          · rw [uI1c, if_neg (by decide), uI1c, if_neg (by decide), uI1c, if_neg (by decide), eo]; exact r3
          · rw [uI1c, if_pos rfl]
        · rw [if_neg (fun y => by rw [nle_16 (by omega)] at y; omega), if_neg (fun y => h16 ((neq_16 (by omega)).mp y.1)), Option.bind_some]
          refine fin _ _ (fun c hc => ?_) rfl (fun k hk => ?_) ?_ (fun c h1 h2 h3 h4 => ?_) (fun c j hj => ?_) rfl ?_ (Or.inl ⟨?_, ?_, ?_, zn, by omega, ?_, ?_⟩)
          · funext j; rw [uI1n hc, uI1n hc, uI1n hc]
          · simp only [not_or] at hk
            rw [uI1c, if_neg hk.1, uI1c, if_neg hk.2.2.2, uI1c, if_neg hk.2.1]
          · rw [uI1c, if_neg (by decide), uI1c, if_neg (by decide), uI1c, if_pos rfl]
          · funext j; rw [uI1n h2, uI1n h4]
          · rw [uI1, if_neg (by omega), uI1, if_neg (by omega)]
          · rw [uI1n (by decide), uI1c, if_pos rfl]
          · rw [uI1n (by decide), uI1n (by decide), e26]; exact r1
          · rw [uI1c, if_pos rfl]
          · rw [uI1c, if_neg (by decide), uI1c, if_neg (by decide), uI1c, if_neg (by decide), eo]; exact r3
          · rw [uI1c, if_neg (by decide), uI1c, if_pos rfl]
          · rw [uI1c, if_pos rfl]
      · -- it does not
        rw [r2, if_pos rfl, if_neg (fun y => by rw [r1] at y; exact absurd y.2 (by decide)), Option.bind_some]
        refine fin _ _ (fun c hc => ?_) rfl (fun k hk => ?_) ?_ (fun c h1 h2 h3 h4 => ?_) (fun c j hj => ?_) rfl ?_ (Or.inr ⟨?_, ?_, ia, q + 1, by omega, ?_, ?_⟩)
        · funext j; rw [uI1n hc, uI1n hc]
        · simp only [not_or] at hk
          rw [uI1c, if_neg hk.2.2.1, uI1c, if_neg hk.2.1]
        · rw [uI1c, if_neg (by decide), uI1c, if_pos rfl]
        · funext j; rw [uI1n h2, uI1n h4]
        · rw [uI1, if_neg (by omega), uI1, if_neg (by omega)]
        · rw [uI1n (by decide), uI1c, if_pos rfl]
        · rw [uI1n (by decide), uI1n (by decide), e26]; exact r1
        · rw [uI1c, if_neg (by decide), uI1c, if_neg (by decide), eo]; exact r2
        · rw [uI1c, if_pos rfl, r4, nadd_1]
        · rw [uI1n (by decide), uI1n (by decide), mc 28 (by decide) (by decide) (by decide) (by decide)]; exact r5
    -- what the class puts out
    have Xo : PX d (pv_uI τx (28 + 6 * v) 3 1) := PX_congr (fun c h1 h2 => by funext j; rw [uI1n (by omega)]) X2
    have e12 : (pv_uI τx (28 + 6 * v) 3 1).1 12 0 - (1 : Int32) = pI (d_n d - 1) := by
      rw [Xo.1.1.1]
      have : d_n d = d_n d - 1 + 1 := by omega
      rw [this, nm1]
      congr 1
    have eom : f_Wr_outputModule (pv_uI τx (28 + 6 * v) 3 1) = some (oI (d_sd d (d_n d - 1)), pv_uI τx (28 + 6 * v) 3 1) := by
      unfold f_Wr_outputModule f_Wr_outputModule_0
      rw [e12, if_pos ((pI_in (by omega)).mpr (by omega)), pI_nat (by omega), (Xo.1.2.2.1 (d_n d - 1) (by omega)).1]
    have eon : f_Wr_outputNumber (pv_uI τx (28 + 6 * v) 3 1) = some ((if d_sd d (d_n d - 1) = none then d_sn d (d_n d - 1) else 0), pv_uI τx (28 + 6 * v) 3 1) := by
      unfold f_Wr_outputNumber f_Wr_outputNumber_0
      rw [e12, if_pos ((pI_in (by omega)).mpr (by omega)), pI_nat (by omega), (Xo.1.2.2.1 (d_n d - 1) (by omega)).2]
    have clsEnd : f_Vc_play_108 v (fux + 1) τx (pI (d_sc d)) = f_Vc_play_166 v (pv_uI τx (28 + 6 * v) 3 1) (match d_sd d (d_n d - 1) with | none => d_sn d (d_n d - 1) | some t => τx.1 (28 + 6 * v + 1) t) := by
      show f_Vc_play_108b _ _ _ _ = _
      unfold f_Vc_play_108b
      rw [X2.2.2.1, if_pos ((pI_le (by omega) (by omega)).mpr (by omega)), eom, Option.bind_some]
      simp only []
      cases e : d_sd d (d_n d - 1) with
      | none =>
        rw [if_pos (show oI none = -1 from rfl), eon, Option.bind_some, e]
        rfl
      | some t =>
        have := b1 _ t (show d_n d - 1 < d_n d by omega) e
        rw [if_neg (show ¬ oI (some t) = -1 from fun y => (pI_neg (by omega)).mp y), show oI (some t) = pI t from rfl, if_pos ((pI_in (by omega)).mpr (by omega)), pI_nat (by omega), uI1n (by omega)]
    rw [clsEnd]
    refine out _ ?_
    cases e : d_sd d (d_n d - 1) with
    | none => exact (vl2 e).symm
    | some t =>
      have hKt := outK t e
      have ht := b1 _ t (show d_n d - 1 < d_n d by omega) e
      show τx.1 (28 + 6 * v + 1) t = _
      rw [a1 _ (by omega) (by omega), vals t ht hKt]
      exact (vl1 t e).symm
  -- the modules, in step
  have loop : ∀ (c k fx fm : Nat) (σx σm : pv_S), k + c = d_n d → c < fx → c < fm → SI d v a sx sm k σx σm → pj (f_Vc_play_8 v fx σx (pI (ph_kc (d_K d) (d_od d) k))) (f_Md_sample_2 fm σm (pI v) (pI k)) (fun x y => VoA v sx sm x y ∧ x.2.1 (28 + 6 * v) 3 = 1 ∧ y.2.1 30 v = pI (a + 1) ∧ VM d v (a + 1) x.2 y.2 ∧ RVs v (s + 1) x.2 y.2 ∧ ∀ m, m < d_n d → d_K d m = true → x.2.1 (28 + 6 * v + 1) m = y.2.1 33 (24 * v + m)) := by
    intro c
    induction c with
    | zero =>
      intro k fx fm σx σm e hfx hfm I
      obtain ⟨fx, rfl⟩ : ∃ k, fx = k + 1 := ⟨fx - 1, by omega⟩
      obtain ⟨fm, rfl⟩ : ∃ k, fm = k + 1 := ⟨fm - 1, by omega⟩
      have ek : k = d_n d := by omega
      rw [ek] at I ⊢
      have x112 : σx.1 11 2 = pI (d_fp d) := by rw [I.1 11 (by omega) (by omega) (by omega) (by omega)]; exact X.2.2.2.1
      have m18 : σm.1 0 18 = pI (d_n d) := by rw [I.2.2.1 0 (by decide) (by decide) (by decide)]; exact M.1.1.1
      have efp : ph_kc (d_K d) (d_od d) (d_n d) = d_fp d := P.1.symm
      show pj (f_Vc_play_8b _ _ _ _) (f_Md_sample_2b _ _ _ _) _
      unfold f_Vc_play_8b f_Md_sample_2b
      rw [x112, m18, efp, if_pos ((pI_le (by omega) (by omega)).mpr (by omega)), if_pos ((pI_le (by omega) (by omega)).mpr (by omega))]
      exact tail σx σm I
    | succ c ih =>
      intro k fx fm σx σm e hfx hfm I
      obtain ⟨fm, rfl⟩ : ∃ k, fm = k + 1 := ⟨fm - 1, by omega⟩
      obtain ⟨σm', h1, h2, h3⟩ := SI_step W X M hv (by omega) h30 hkn hp hg hs (show k < d_n d by omega) I
      rw [h1 fm]
      have kc1 := ph_kc1 (d_K d) (d_od d) k
      cases eK : d_K d (d_od d k) with
      | false =>
        have kc1' : ph_kc (d_K d) (d_od d) (k + 1) = ph_kc (d_K d) (d_od d) k := by rw [kc1, eK]; rfl
        rw [← kc1']
        exact ih (k + 1) fx fm σx σm' (by omega) (by omega) (by omega) (h2 eK)
      | true =>
        obtain ⟨fx, rfl⟩ : ∃ k, fx = k + 1 := ⟨fx - 1, by omega⟩
        rw [eK, if_pos rfl] at kc1
        obtain ⟨σx', h4, h5⟩ := h3 eK
        rw [h4 fx, ← kc1]
        exact ih (k + 1) fx fm σx' σm' (by omega) (by omega) (by omega) h5
  exact loop (d_n d) 0 pv_fu pv_fu sx sm (by omega) (by unfold pv_fu; omega) (by unfold pv_fu; omega) ⟨fun _ _ _ _ _ => rfl, rfl, fun _ _ _ _ => rfl, fun _ _ _ => rfl, rfl, V, fun k' hk' => absurd hk' (by omega), fun k' hk' => absurd hk' (by omega), fun k' hk' => absurd hk' (by omega)⟩
