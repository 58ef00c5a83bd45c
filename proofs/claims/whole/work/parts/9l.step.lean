/-! One place of the order in a sample, on both sides. -/
theorem SI_step {d : PD} (W : PW d) {sx sm : pv_S} (X : PX d sx) (M : PM d sm) {v a : Nat} (hv : v < 4) (ha : a < 2147483648) (h30 : sm.1 30 v = pI a) (hkn : ∀ k, k < 4 → sx.1 26 k = sm.1 21 k) (hp : sx.1 (28 + 6 * v) 7 = sm.1 23 v) (hg : sx.1 (28 + 6 * v) 1 = sm.1 25 v) (hs : sx.1 (28 + 6 * v) 8 = sm.1 24 v) {k : Nat} (hk : k < d_n d) {σx σm : pv_S} (I : SI d v a sx sm k σx σm) : ∃ σm', (∀ fu, f_Md_sample_2 (fu + 1) σm (pI v) (pI k) = f_Md_sample_2 fu σm' (pI v) (pI (k + 1))) ∧ (d_K d (d_od d k) = false → SI d v a sx sm (k + 1) σx σm') ∧ (d_K d (d_od d k) = true → ∃ σx', (∀ fu, f_Vc_play_8 v (fu + 1) σx (pI (ph_kc (d_K d) (d_od d) k)) = f_Vc_play_8 v fu σx' (pI (ph_kc (d_K d) (d_od d) k + 1))) ∧ SI d v a sx sm (k + 1) σx' σm') := by
  obtain ⟨wf, ⟨x, O⟩, b1, so, closed, outK, P, sl24, l128⟩ := id W
  obtain ⟨i1, i2, i3, i4, i5, iv, g1, g2, g3⟩ := I
  obtain ⟨n1, n2, w1, w2, w3, w4, w5, w6, w7⟩ := id wf
  obtain ⟨o1, o2, o3, o4, o5⟩ := id O
  obtain ⟨⟨⟨x12, x13⟩, x16, x18, x14⟩, x17, x11, x112, x20, x21, x22, x114⟩ := id X
  obtain ⟨⟨⟨m18, m9, m11⟩, m13, m15⟩, m17, m14, m28, m1819, m20, m20'⟩ := id M
  obtain ⟨p1, p2, p3, p4, p5, p6, p7⟩ := ph_of P
  have hok := o1 k hk
  obtain ⟨k20, kc⟩ := w1 _ hok
  have c4 := pq_inp wf hok
  have inj : ∀ k', k' < k → d_od d k' ≠ d_od d k := fun k' h z => by have := o2 k' k (by omega) hk z; omega
  -- cells of the program, as they are now
  have mc : ∀ c, c ≠ 31 → c ≠ 32 → c ≠ 33 → σm.1 c = sm.1 c := i3
  have xc : ∀ c, c < 28 → σx.1 c = sx.1 c := fun c h => i1 c (by omega) (by omega) (by omega) (by omega)
  have xo : σx.1 (28 + 6 * v) = sx.1 (28 + 6 * v) := i1 _ (by omega) (by omega) (by omega) (by omega)
  have e18 : σm.1 0 18 = pI (d_n d) := by rw [mc 0 (by decide) (by decide) (by decide)]; exact m18
  have e13 : σm.1 13 k = pI (d_od d k) := by rw [mc 13 (by decide) (by decide) (by decide)]; exact m13 k hk
  have e9 : σm.1 9 (d_od d k) = pI (d_kd d (d_od d k)) := by rw [mc 9 (by decide) (by decide) (by decide)]; exact (m9 _ hok).1
  have ein : ∀ j, j < 4 → σm.1 11 (4 * d_od d k + j) = oI (d_fr d (4 * d_od d k + j)) ∧ σm.1 12 (4 * d_od d k + j) = d_nu d (4 * d_od d k + j) := fun j hj => by
    rw [mc 11 (by decide) (by decide) (by decide), mc 12 (by decide) (by decide) (by decide)]
    exact m11 _ (by omega)
  have elt : ∀ j s, j < 4 → d_fr d (4 * d_od d k + j) = some s → s < 24 := fun j s hj h => by have := (w2 _ s (by omega) h).1; omega
  have nl : ¬ pI (d_n d) ≤ pI k := fun z => by have := (pI_le (by omega) (by omega)).mp z; omega
  -- the reference's row
  have ref : ∀ (val : Int32) (q : pv_S), f_Md_reckon σm (pI v) (pI (d_od d k)) = some (val, q) → ∀ fu, f_Md_sample_2 (fu + 1) σm (pI v) (pI k) = f_Md_sample_2 fu (pv_uI q 33 (24 * v + d_od d k) val) (pI v) (pI (k + 1)) := by
    intro val q hq fu
    show f_Md_sample_2b _ _ _ _ = _
    unfold f_Md_sample_2b
    rw [e18, if_neg nl, pI_nat (by omega), e13, if_pos ((pI_in (by omega)).mpr (by omega)), hq, Option.bind_some, nmul_24, pI_add, if_pos ((pI_in (by omega)).mpr (by omega)), pI_nat (by omega), nadd_1]
  -- the class's row
  have kcl : d_K d (d_od d k) = true → ph_kc (d_K d) (d_od d) k < d_fp d ∧ σx.1 20 (ph_kc (d_K d) (d_od d) k) = pI (d_od d k) := fun hK => by
    obtain ⟨q1, q2⟩ := p6 k hk hK
    refine ⟨q1, ?_⟩
    rw [xc 20 (by decide), x20 _ (by omega), q2]
  have e13x : σx.1 13 (d_od d k) = pI (d_kd d (d_od d k)) := by rw [xc 13 (by decide)]; exact x13 _ hok
  -- what holds of the first k places stays when the k-th value is written
  have stay : ∀ (τ : pv_S), (∀ t, t ≠ d_od d k → τ.1 33 (24 * v + t) = σm.1 33 (24 * v + t)) → (∀ k', k' < k → (∀ t, d_sd d (d_od d k') = some t → τ.1 33 (24 * v + d_od d k') = τ.1 33 (24 * v + t)) ∧ (d_sd d (d_od d k') = none → τ.1 33 (24 * v + d_od d k') = d_sn d (d_od d k'))) ∧ (∀ k', k' < k → d_kd d (d_od d k') < 11 → τ.1 33 (24 * v + d_od d k') = (pE (d_kd d (d_od d k')) (IV d v τ (4 * d_od d k')) (IV d v τ (4 * d_od d k' + 1)) (IV d v τ (4 * d_od d k' + 2)) 0 0 0 (sm.1 23 v) (sm.1 25 v) (sm.1 24 v) (sm.1 21)).1) := by
    intro τ h33
    refine ⟨fun k' hk' => ⟨fun t ht => ?_, fun h0 => ?_⟩, fun k' hk' h11 => ?_⟩
    · obtain ⟨k'', h1, h2⟩ := SO_le W (show k' < d_n d by omega) ht
      rw [h33 _ (inj k' hk'), h33 t (by rw [← h2]; exact inj k'' (by omega))]
      exact (g1 k' hk').1 t ht
    · rw [h33 _ (inj k' hk')]
      exact (g1 k' hk').2 h0
    · have far : ∀ j, j < 4 → IV d v τ (4 * d_od d k' + j) = IV d v σm (4 * d_od d k' + j) := fun j hj => IV_far h33 (fun z => by
        obtain ⟨k'', h1, h2⟩ := S_lt W (show k' < d_n d by omega) hj (by omega) z
        exact inj k'' (by omega) h2)
      have f0 := far 0 (by decide)
      rw [Nat.add_zero] at f0
      rw [h33 _ (inj k' hk'), f0, far 1 (by decide), far 2 (by decide)]
      exact g2 k' hk' h11
  by_cases h18 : d_kd d (d_od d k) = 18
  · -- a del
    obtain ⟨N0, N1, N2⟩ := pl_N1 wf hok h18
    have o0 : sm.1 14 (d_od d k) = pI (d_of d (d_od d k)) := by rw [m14 _ hok]; exact (pl_dl wf (by omega)).1
    have oN : d_of d (d_od d k) + pl_N (d_nu d) (d_od d k) ≤ 128 := by
      have h1 := pl_128 wf
      have h2 := psum_up (p := fun m => decide (d_kd d m = 18)) (w := pl_N (d_nu d)) (show d_od d k + 1 ≤ d_n d by omega)
      have h3 : psum (fun m => decide (d_kd d m = 18)) (pl_N (d_nu d)) (d_od d k + 1) = psum (fun m => decide (d_kd d m = 18)) (pl_N (d_nu d)) (d_od d k) + (if decide (d_kd d (d_od d k) = 18) = true then pl_N (d_nu d) (d_od d k) else 0) := rfl
      rw [decide_eq_true h18, if_pos rfl] at h3
      unfold d_of
      omega
    have self : d_sd d (d_od d k) = some (d_od d k) := by
      rcases so k hk with e | ⟨_, e, _⟩ | ⟨k', _, _, _, e, _⟩
      · exact e
      · omega
      · omega
    have hr := pm_del (σ := σm) (fr := d_fr d) (nu := d_nu d) hv (show d_od d k < 24 by omega) (by rw [e9, h18]) ein elt N0 N1 (by rw [mc 14 (by decide) (by decide) (by decide)]; exact o0) oN (by rw [mc 30 (by decide) (by decide) (by decide)]; exact h30) ha
    have h33 : ∀ t, t ≠ d_od d k → (pv_uI σm 33 (24 * v + d_od d k) (σm.1 34 (128 * v + d_of d (d_od d k) + a % pl_N (d_nu d) (d_od d k)))).1 33 (24 * v + t) = σm.1 33 (24 * v + t) := fun t ht => by rw [uI1c, if_neg (by omega)]
    obtain ⟨s1, s2⟩ := stay _ h33
    have nf : ∀ c, c ≠ 31 → c ≠ 32 → c ≠ 33 → (pv_uI σm 33 (24 * v + d_od d k) (σm.1 34 (128 * v + d_of d (d_od d k) + a % pl_N (d_nu d) (d_od d k)))).1 c = sm.1 c := fun c h1 h2 h3 => by rw [← i3 c h1 h2 h3]; funext j; rw [uI1n h3]
    have nf2 : ∀ c j, ¬ (24 * v ≤ j ∧ j < 24 * v + 24) → (pv_uI σm 33 (24 * v + d_od d k) (σm.1 34 (128 * v + d_of d (d_od d k) + a % pl_N (d_nu d) (d_od d k)))).1 c j = sm.1 c j := fun c j h => by rw [uI1, if_neg (by omega)]; exact i4 c j h
    have G1 : ∀ k', k' < k + 1 → (∀ t, d_sd d (d_od d k') = some t → (pv_uI σm 33 (24 * v + d_od d k) (σm.1 34 (128 * v + d_of d (d_od d k) + a % pl_N (d_nu d) (d_od d k)))).1 33 (24 * v + d_od d k') = (pv_uI σm 33 (24 * v + d_od d k) (σm.1 34 (128 * v + d_of d (d_od d k) + a % pl_N (d_nu d) (d_od d k)))).1 33 (24 * v + t)) ∧ (d_sd d (d_od d k') = none → (pv_uI σm 33 (24 * v + d_od d k) (σm.1 34 (128 * v + d_of d (d_od d k) + a % pl_N (d_nu d) (d_od d k)))).1 33 (24 * v + d_od d k') = d_sn d (d_od d k')) := by
      intro k' hk'
      by_cases e : k' = k
      · subst e
        refine ⟨fun t ht => ?_, fun h => ?_⟩
        · rw [self] at ht; cases ht; rfl
        · rw [self] at h; cases h
      · exact s1 k' (by omega)
    have G2 : ∀ k', k' < k + 1 → d_kd d (d_od d k') < 11 → (pv_uI σm 33 (24 * v + d_od d k) (σm.1 34 (128 * v + d_of d (d_od d k) + a % pl_N (d_nu d) (d_od d k)))).1 33 (24 * v + d_od d k') = (pE (d_kd d (d_od d k')) (IV d v (pv_uI σm 33 (24 * v + d_od d k) (σm.1 34 (128 * v + d_of d (d_od d k) + a % pl_N (d_nu d) (d_od d k)))) (4 * d_od d k')) (IV d v (pv_uI σm 33 (24 * v + d_od d k) (σm.1 34 (128 * v + d_of d (d_od d k) + a % pl_N (d_nu d) (d_od d k)))) (4 * d_od d k' + 1)) (IV d v (pv_uI σm 33 (24 * v + d_od d k) (σm.1 34 (128 * v + d_of d (d_od d k) + a % pl_N (d_nu d) (d_od d k)))) (4 * d_od d k' + 2)) 0 0 0 (sm.1 23 v) (sm.1 25 v) (sm.1 24 v) (sm.1 21)).1 := by
      intro k' hk' h11
      by_cases e : k' = k
      · subst e; omega
      · exact s2 k' (by omega) h11
    have VM' : ∀ τ : pv_S, (∀ c, c ≠ 28 + 6 * v + 1 → τ.1 c = σx.1 c) → VM d v a τ (pv_uI σm 33 (24 * v + d_od d k) (σm.1 34 (128 * v + d_of d (d_od d k) + a % pl_N (d_nu d) (d_od d k)))) := by
      intro τ hτ
      refine ⟨fun m hm hK h => ?_, fun kk hkk => ⟨?_, fun i hi => ?_⟩⟩
      · rw [hτ _ (by omega), hτ _ (by omega)]
        exact iv.1 m hm hK h
      · rw [hτ _ (by omega)]; exact (iv.2 kk hkk).1
      · rw [hτ _ (by omega)]; exact (iv.2 kk hkk).2 i hi
    refine ⟨_, ref _ _ hr, fun hK => ⟨i1, i2, nf, nf2, i5, VM' σx (fun _ _ => rfl), G1, G2, fun k' hk' hK' => ?_⟩, fun hK => ⟨pv_uI σx (28 + 6 * v + 1) (d_od d k) (σm.1 34 (128 * v + d_of d (d_od d k) + a % pl_N (d_nu d) (d_od d k))), fun fu => ?_, fun c h1 h2 h3 h4 => ?_, i2, nf, nf2, i5, VM' _ (fun c hc => by funext j; rw [uI1n hc]), G1, G2, fun k' hk' hK' => ?_⟩⟩
    · by_cases e : k' = k
      · subst e; rw [hK] at hK'; cases hK'
      · rw [h33 _ (inj k' (by omega))]; exact g3 k' (by omega) hK'
    · obtain ⟨q1, q2⟩ := kcl hK
      obtain ⟨q3, q4⟩ := p7 k hk hK h18
      have e21 : σx.1 21 (d_od d k) = pI (d_L d (ph_dc (d_K d) (d_kd d) (d_od d) k)) := by
        have := x21 _ q3
        rw [q4] at this
        rw [xc 21 (by decide)]; exact this
      obtain ⟨v1, v2⟩ := iv.2 _ q3
      rw [q4] at v1 v2
      have hmod : a % pl_N (d_nu d) (d_od d k) < pl_N (d_nu d) (d_od d k) := Nat.mod_lt _ (by omega)
      have hL : d_L d (ph_dc (d_K d) (d_kd d) (d_od d) k) + pl_N (d_nu d) (d_od d k) ≤ 128 := by
        have := pl_Lup (fp := d_fp d) (sm := d_sm d) (w := pl_N (d_nu d)) (d := ph_dc (d_K d) (d_kd d) (d_od d) k) (d' := d_sc d - d_fp d) (by omega)
        rw [q4] at this
        unfold d_L
        omega
      have nl2 : ¬ pI (d_fp d) ≤ pI (ph_kc (d_K d) (d_od d) k) := fun z => by have := (pI_le (by omega) (by omega)).mp z; omega
      show f_Vc_play_8b _ _ _ _ = _
      unfold f_Vc_play_8b f_Vc_play_96
      rw [xc 11 (by decide), x112, if_neg nl2, pI_nat (by omega), q2, pI_nat (by omega), e13x, h18, if_pos (show pI 18 = 18 from rfl), e21, v1, pI_add, pI_nat (by omega), v2 _ hmod, nadd_1, if_pos ((pI_in (by omega)).mpr (by omega)), if_pos ((pI_in (by omega)).mpr (by omega)), if_pos ((pI_in (by omega)).mpr (by omega)), if_pos ((pI_in (by omega)).mpr (by omega)), if_pos ((pI_in (by omega)).mpr (by omega)), if_pos ((pI_in (by omega)).mpr (by omega))]
    · rw [← i1 c h1 h2 h3 h4]; funext j; rw [uI1n h1]
    · by_cases e : k' = k
      · subst e
        rw [uI1c, if_pos rfl, uI1c, if_pos rfl]
      · rw [h33 _ (inj k' (by omega)), uI1c, if_neg (inj k' (by omega))]; exact g3 k' (by omega) hK'
  · -- any other
    have rin : ∀ j, j < 4 → pm_rin σm v (d_fr d) (d_nu d) (4 * d_od d k + j) = IV d v σm (4 * d_od d k + j) := fun j hj => rin_IV W hk g1 h18 hj
    have rin0 := rin 0 (by decide)
    rw [Nat.add_zero] at rin0
    have in7 : d_kd d (d_od d k) = 7 → pv_in (IV d v σm (4 * d_od d k)) 4 = true := by
      intro h7
      obtain ⟨q1, q2, q3⟩ := w5 _ hok h7
      have : IV d v σm (4 * d_od d k) = d_nu d (4 * d_od d k) := by
        unfold IV d_S d_A ps_s ps_a
        rw [q1]
      rw [this]
      obtain ⟨e, l⟩ := pI_of q2
      rw [e, pI_in l]
      rw [e, nlt_3 l] at q3
      omega
    have hr := pm_reckon (σ := σm) (fr := d_fr d) (nu := d_nu d) hv (show d_od d k < 24 by omega) k20 h18 e9 ein elt rin0 (rin 1 (by decide)) (rin 2 (by decide)) (rin 3 (by decide)) rfl rfl in7
    rw [mc 23 (by decide) (by decide) (by decide), mc 25 (by decide) (by decide) (by decide), mc 24 (by decide) (by decide) (by decide), mc 21 (by decide) (by decide) (by decide)] at hr
    generalize hE : pE (d_kd d (d_od d k)) (IV d v σm (4 * d_od d k)) (IV d v σm (4 * d_od d k + 1)) (IV d v σm (4 * d_od d k + 2)) (IV d v σm (4 * d_od d k + 3)) (σm.1 31 (24 * v + d_od d k)) (σm.1 32 (24 * v + d_od d k)) (sm.1 23 v) (sm.1 25 v) (sm.1 24 v) (sm.1 21) = E at hr
    generalize hτ : pv_uI (pv_uI (pv_uI σm 31 (24 * v + d_od d k) E.2.1) 32 (24 * v + d_od d k) E.2.2) 33 (24 * v + d_od d k) E.1 = τ
    have r33 : ∀ t, τ.1 33 (24 * v + t) = if t = d_od d k then E.1 else σm.1 33 (24 * v + t) := by
      intro t
      rw [← hτ, uI1c, uI1n (by decide), uI1n (by decide)]
      by_cases e : t = d_od d k
      · rw [if_pos e, if_pos (by omega)]
      · rw [if_neg e, if_neg (by omega)]
    have h33 : ∀ t, t ≠ d_od d k → τ.1 33 (24 * v + t) = σm.1 33 (24 * v + t) := fun t ht => by rw [r33, if_neg ht]
    have r31 : ∀ t, τ.1 31 (24 * v + t) = if t = d_od d k then E.2.1 else σm.1 31 (24 * v + t) := by
      intro t
      rw [← hτ, uI1n (by decide), uI1n (by decide), uI1c]
      by_cases e : t = d_od d k
      · rw [if_pos e, if_pos (by omega)]
      · rw [if_neg e, if_neg (by omega)]
    have r32 : ∀ t, τ.1 32 (24 * v + t) = if t = d_od d k then E.2.2 else σm.1 32 (24 * v + t) := by
      intro t
      rw [← hτ, uI1n (by decide), uI1c, uI1n (by decide)]
      by_cases e : t = d_od d k
      · rw [if_pos e, if_pos (by omega)]
      · rw [if_neg e, if_neg (by omega)]
    obtain ⟨s1, s2⟩ := stay _ h33
    have nf : ∀ c, c ≠ 31 → c ≠ 32 → c ≠ 33 → τ.1 c = sm.1 c := fun c h1 h2 h3 => by rw [← hτ, ← i3 c h1 h2 h3]; funext j; rw [uI1n h3, uI1n h2, uI1n h1]
    have nf2 : ∀ c j, ¬ (24 * v ≤ j ∧ j < 24 * v + 24) → τ.1 c j = sm.1 c j := fun c j h => by rw [← hτ, uI1, if_neg (by omega), uI1, if_neg (by omega), uI1, if_neg (by omega)]; exact i4 c j h
    have far : ∀ j, j < 4 → IV d v τ (4 * d_od d k + j) = IV d v σm (4 * d_od d k + j) := fun j hj => IV_far h33 (fun z => by
      obtain ⟨k'', h1, h2⟩ := S_lt W hk hj h18 z
      exact inj k'' h1 h2)
    have far0 := far 0 (by decide)
    rw [Nat.add_zero] at far0
    have now : d_kd d (d_od d k) < 11 → E.1 = (pE (d_kd d (d_od d k)) (IV d v τ (4 * d_od d k)) (IV d v τ (4 * d_od d k + 1)) (IV d v τ (4 * d_od d k + 2)) 0 0 0 (sm.1 23 v) (sm.1 25 v) (sm.1 24 v) (sm.1 21)).1 := by
      intro h11
      rw [← hE, far0, far 1 (by decide), far 2 (by decide)]
      exact (pE_11 h11 _ _ _ _ _ _ _ _ _ _).1
    have G2 : ∀ k', k' < k + 1 → d_kd d (d_od d k') < 11 → τ.1 33 (24 * v + d_od d k') = (pE (d_kd d (d_od d k')) (IV d v τ (4 * d_od d k')) (IV d v τ (4 * d_od d k' + 1)) (IV d v τ (4 * d_od d k' + 2)) 0 0 0 (sm.1 23 v) (sm.1 25 v) (sm.1 24 v) (sm.1 21)).1 := by
      intro k' hk' h11
      by_cases e : k' = k
      · subst e
        rw [r33, if_pos rfl]; exact now h11
      · exact s2 k' (by omega) h11
    have G1 : ∀ k', k' < k + 1 → (∀ t, d_sd d (d_od d k') = some t → τ.1 33 (24 * v + d_od d k') = τ.1 33 (24 * v + t)) ∧ (d_sd d (d_od d k') = none → τ.1 33 (24 * v + d_od d k') = d_sn d (d_od d k')) := by
      intro k' hk'
      by_cases e : k' = k
      · subst e
        rcases so k' hk with e | ⟨e, e7, e3, e4⟩ | ⟨l, hl, e1, e2, e11, esm⟩
        · exact ⟨fun t ht => by rw [e] at ht; cases ht; rfl, fun h => by rw [e] at h; cases h⟩
        · refine ⟨fun t ht => (by rw [e] at ht; cases ht), fun _ => ?_⟩
          have none : ∀ j, j < 4 → IV d v σm (4 * d_od d k' + j) = d_A d (4 * d_od d k' + j) := by
            intro j hj
            have : d_S d (4 * d_od d k' + j) = none := by
              by_cases hc : j < d_cn d (d_od d k')
              · exact e3 j hc
              · unfold d_S ps_s
                rw [(w3 _ j hok (by omega) hj).1]
            unfold IV
            rw [this]
          have none0 := none 0 (by decide)
          rw [Nat.add_zero] at none0
          rw [r33, if_pos rfl, ← hE, pE_pl e7, none0, none 1 (by decide), none 2 (by decide)]
          exact e4.symm
        · refine ⟨fun t ht => ?_, fun h => by rw [e1] at h; cases h⟩
          rw [e1] at ht
          cases ht
          have hol := o1 l (by omega)
          unfold ps_sm at esm
          rw [Bool.and_eq_true, decide_eq_true_eq] at esm
          obtain ⟨ek, esm⟩ := esm
          have nel := inj l hl
          have hl18 : d_kd d (d_od d l) ≠ 18 := by omega
          have gl := G2 l (by omega) (by omega)
          have gk := G2 k' (by omega) e11
          have ecn : d_cn d (d_od d l) = d_cn d (d_od d k') := by rw [(w1 _ hol).2, (w1 _ hok).2, ek]
          have alIV : ∀ i i', pz_al (ps_s (d_fr d) (d_sd d)) (ps_a (d_fr d) (d_nu d) (d_sd d) (d_sn d)) i i' = true → IV d v τ i = IV d v τ i' := by
            intro i i' h
            unfold pz_al at h
            rw [Bool.and_eq_true, decide_eq_true_eq, decide_eq_true_eq] at h
            unfold IV d_S d_A
            rw [h.1, h.2]
          have out : ∀ m j, m < d_n d → d_cn d m ≤ j → j < 4 → IV d v τ (4 * m + j) = 0 := by
            intro m j hm h1 h2
            unfold IV d_S d_A ps_s ps_a
            rw [(w3 m j hm h1 h2).1]
            exact (w3 m j hm h1 h2).2
          rw [gk, gl, ek]
          rw [Bool.or_eq_true] at esm
          rcases esm with z | z
          · rw [Bool.not_eq_true'] at z
            have al : ∀ j, j < 4 → IV d v τ (4 * d_od d l + j) = IV d v τ (4 * d_od d k' + j) := by
              intro j hj
              by_cases hc : j < d_cn d (d_od d l)
              · have := pany_false.mp z j hc
                rw [Bool.not_eq_false'] at this
                exact alIV _ _ this
              · rw [out _ j hol (by omega) hj, out _ j hok (by omega) hj]
            have al0 := al 0 (by decide)
            simp only [Nat.add_zero] at al0
            rw [al0, al 1 (by decide), al 2 (by decide)]
          · rw [Bool.and_eq_true, Bool.and_eq_true, decide_eq_true_eq] at z
            obtain ⟨z1, z2, z3⟩ := z
            rw [ek] at z1
            have h7 : d_kd d (d_od d k') < 7 := by omega
            rw [pE_pl h7, pE_pl h7, alIV _ _ z2, alIV _ _ z3]
            exact pn_swap z1 _ _ _ _
      · exact s1 k' (by omega)
    have hbm : 4 * d_od d k + 3 < 96 := by omega
    refine ⟨τ, fun fu => by rw [ref _ _ hr fu, hτ], fun hK => ⟨i1, i2, nf, nf2, by rw [← hτ]; exact i5, ⟨fun m hm hKm h => ?_, fun kk hkk => ⟨(iv.2 kk hkk).1, fun i hi => ?_⟩⟩, G1, G2, fun k' hk' hK' => ?_⟩, fun hK => ?_⟩
    · have ne : m ≠ d_od d k := fun z => by rw [z, hK] at hKm; cases hKm
      rw [r31, if_neg ne, r32, if_neg ne]
      exact iv.1 m hm hKm h
    · rw [nf 34 (by decide) (by decide) (by decide), ← i3 34 (by decide) (by decide) (by decide)]
      exact (iv.2 kk hkk).2 i hi
    · by_cases e : k' = k
      · subst e; rw [hK] at hK'; cases hK'
      · rw [h33 _ (inj k' (by omega))]; exact g3 k' (by omega) hK'
    · -- the class makes it too
      obtain ⟨q1, q2⟩ := kcl hK
      have x14' : ∀ j, j < 4 → σx.1 14 (4 * d_od d k + j) = oI (d_S d (4 * d_od d k + j)) ∧ σx.1 15 (4 * d_od d k + j) = d_A d (4 * d_od d k + j) := fun j hj => by
        rw [xc 14 (by decide), xc 15 (by decide)]
        exact x14 _ (by omega)
      have slt : ∀ j t, j < 4 → d_S d (4 * d_od d k + j) = some t → t < 24 := fun j t hj h => by
        obtain ⟨k'', h1, h2⟩ := S_lt W hk hj h18 h
        have := o1 k'' (by omega)
        omega
      obtain ⟨h, hh1, hh2⟩ := pxr (σ := σx) (S := d_S d) (A := d_A d) hv (show d_od d k < 24 by omega) x14' slt
      have hIV : ∀ j, j < 4 → h j = IV d v σm (4 * d_od d k + j) := by
        intro j hj
        rw [hh2 j hj]
        unfold IV
        cases e : d_S d (4 * d_od d k + j) with
        | none => rfl
        | some t =>
          obtain ⟨k'', h1, h2⟩ := S_lt W hk hj h18 e
          have hKt := closed _ j t hok hj hK e
          subst h2
          exact g3 k'' h1 hKt
      have hIV0 := hIV 0 (by decide)
      rw [Nat.add_zero] at hIV0
      have mem := iv.1 _ hok hK h18
      have rd : ∀ c j, c ≠ 28 + 6 * v + 2 → (pv_rI σx (28 + 6 * v + 2) h).1 c j = σx.1 c j := fun c j hc => by rw [rI1, if_neg hc]
      have ri : ∀ j, (pv_rI σx (28 + 6 * v + 2) h).1 (28 + 6 * v + 2) j = h j := fun j => by rw [rI1, if_pos rfl]
      have hv1 := px_value v (pv_rI σx (28 + 6 * v + 2) h) (m := d_od d k) (k := d_kd d (d_od d k)) (show d_od d k < 24 by omega) k20 h18 ((ri 0).trans hIV0) ((ri 1).trans (hIV 1 (by decide))) ((ri 2).trans (hIV 2 (by decide))) ((ri 3).trans (hIV 3 (by decide))) ((rd _ _ (by omega)).trans mem.1) ((rd _ _ (by omega)).trans mem.2) in7
      have eE : pE (d_kd d (d_od d k)) (IV d v σm (4 * d_od d k)) (IV d v σm (4 * d_od d k + 1)) (IV d v σm (4 * d_od d k + 2)) (IV d v σm (4 * d_od d k + 3)) (σm.1 31 (24 * v + d_od d k)) (σm.1 32 (24 * v + d_od d k)) ((pv_rI σx (28 + 6 * v + 2) h).1 (28 + 6 * v) 7) ((pv_rI σx (28 + 6 * v + 2) h).1 (28 + 6 * v) 1) ((pv_rI σx (28 + 6 * v + 2) h).1 (28 + 6 * v) 8) ((pv_rI σx (28 + 6 * v + 2) h).1 26) = E := by
        rw [rd _ 7 (by omega), rd _ 1 (by omega), rd _ 8 (by omega), xo, hp, hg, hs, ← hE]
        refine pE_kn (fun h7 => ?_)
        have i7 := in7 h7
        unfold pv_in at i7
        rw [Bool.and_eq_true, decide_eq_true_eq, decide_eq_true_eq] at i7
        rw [rd 26 _ (by omega), xc 26 (by decide)]
        exact hkn _ i7.2
      rw [eE] at hv1
      have nl2 : ¬ pI (d_fp d) ≤ pI (ph_kc (d_K d) (d_od d) k) := fun z => by have := (pI_le (by omega) (by omega)).mp z; omega
      generalize hu : pv_uI (pv_uI (pv_uI (pv_rI σx (28 + 6 * v + 2) h) (28 + 6 * v + 3) (d_od d k) E.2.1) (28 + 6 * v + 4) (d_od d k) E.2.2) (28 + 6 * v + 1) (d_od d k) E.1 = u
      refine ⟨u, fun fu => ?_, fun c h1 h2 h3 h4 => ?_, ?_, nf, nf2, by rw [← hτ]; exact i5, ⟨fun m hm hKm hm18 => ?_, fun kk hkk => ⟨?_, fun i hi => ?_⟩⟩, G1, G2, fun k' hk' hK' => ?_⟩
      · show f_Vc_play_8b _ _ _ _ = _
        unfold f_Vc_play_8b f_Vc_play_96
        rw [xc 11 (by decide), x112, if_neg nl2, pI_nat (by omega), q2, pI_nat (by omega), e13x, if_neg (show ¬ pI (d_kd d (d_od d k)) = 18 from fun z => h18 ((neq_18 (by omega)).mp z)), hh1, Option.bind_some, rd 13 _ (by omega), e13x, hv1, Option.bind_some, nadd_1]
        simp only [if_pos ((pI_in (show d_od d k < 2147483648 by omega)).mpr (show d_od d k < 24 by omega)), if_pos ((pI_in (show ph_kc (d_K d) (d_od d) k < 2147483648 by omega)).mpr (show ph_kc (d_K d) (d_od d) k < 48 by omega))]
        rw [hu]
      · rw [← i1 c h1 h2 h3 h4, ← hu]
        funext j
        rw [uI1n h1, uI1n h4, uI1n h3, rI1, if_neg h2]
      · rw [← hu]; exact i2
      · rw [← hu, uI1n (by omega), uI1n (by omega), uI1c, uI1n (by omega), uI1c, r31, r32]
        by_cases e : m = d_od d k
        · simp only [if_pos e]; exact ⟨trivial, trivial⟩
        · simp only [if_neg e]
          rw [rd _ _ (by omega), uI1n (by omega), rd _ _ (by omega)]
          exact iv.1 m hm hKm hm18
      · have ne : d_sm d (d_fp d + kk) ≠ d_od d k := fun z => by
          obtain ⟨l, _, _, l3, _, l5⟩ := p5 (d_fp d + kk) (by omega) hkk
          rw [← l5, z] at l3
          exact h18 l3
        rw [← hu, uI1n (by omega), uI1n (by omega), uI1c, if_neg ne, rd _ _ (by omega)]
        exact (iv.2 kk hkk).1
      · rw [nf 34 (by decide) (by decide) (by decide), ← i3 34 (by decide) (by decide) (by decide), ← hu, uI1n (by omega), uI1n (by omega), uI1n (by omega), rd _ _ (by omega)]
        exact (iv.2 kk hkk).2 i hi
      · rw [← hu, uI1c, r33]
        by_cases e : k' = k
        · subst e
          rw [if_pos rfl, if_pos rfl]
        · rw [if_neg (inj k' (by omega)), if_neg (inj k' (by omega)), uI1n (by omega), uI1n (by omega), rd _ _ (by omega)]
          exact g3 k' (by omega) hK'
