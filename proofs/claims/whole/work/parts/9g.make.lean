/-! A patch without faults is made into a program: both sides. -/
theorem pq_FXt {a b c : pv_S} (h : pq_FX a b) (k : pq_FX b c) : pq_FX a c := ⟨fun d n => (k.1 d n).trans (h.1 d n), k.2.trans h.2⟩
theorem pq_FMt {a b c : pv_S} (h : pq_FM a b) (k : pq_FM b c) : pq_FM a c := ⟨fun d n => (k.1 d n).trans (h.1 d n), fun d n => (k.2.1 d n).trans (h.2.1 d n), k.2.2.trans h.2.2⟩
theorem ps_id {fr : Nat → Option Nat} (i : Nat) : ps_s fr some i = fr i := by
  unfold ps_s
  cases fr i <;> rfl
theorem pc_make {σx σm : pv_S} {r : Nat} {nm : Nat → Int32} {kd cn : Nat → Nat} {cd nu : Nat → Int32} (hT : pt_T σx r nm kd cn cd nu) (hM : pt_M σm r nm kd cn cd nu) (wf0 : pt_WF r kd cn cd nu) (ok : pt_ok r nm kd cn cd nu) {z : Int32} (hz : z = 0 ∨ z = 1) (o17 : σm.1 0 17 = z) : pj (f_Pg_make σx z) ((f_Md_take σm).bind fun q3 => (f_Md_arrange q3).bind fun q4 => (f_Md_settle q4).bind fun q5 => (f_Md_keep q5).bind fun q6 => f_Md_layOut q6) (fun a b => pq_FX σx a ∧ pq_FM σm b ∧ ∃ d, PW d ∧ PX d a ∧ PM d b) := by
  have wf := pq_of wf0 ok
  obtain ⟨n1, n2, w1, w2, w3, _⟩ := id wf
  obtain ⟨τ, e1, t1, t2, t3, t4⟩ := pq_make hT n2 z hz
  obtain ⟨τm, m1, m2, m3, m4, m5⟩ := pq_take hM wf0 n2
  obtain ⟨a1, b1, g1, g2, od, x, f, g, rfl, rfl, O, hfg⟩ := po_both (σx := τ) (σm := τm) wf t2 (fun i hi => (t3 i hi).1) m3
  obtain ⟨o1, o2, o3, o4, o5⟩ := id O
  -- what is left to both, once the wiring stands
  have rest : ∀ (sd : Nat → Option Nat) (sn : Nat → Int32) (u v : pv_S), pq_FX τ u → u.1 17 = τ.1 17 → pq_FM τm v → v.1 14 = τm.1 14 → v.1 0 17 = z → pz_WX r kd (pt_fr nm r cd) nu od sd sn u → pz_WM r kd cn (pt_fr nm r cd) nu od sd sn v → (∀ m t, m < r → sd m = some t → t < r) → (∀ k, k < r → ps_SO kd cn (pt_fr nm r cd) nu od sd sn k) → pj ((if z = 0 then some u else f_Wr_keepNeeded u).bind fun q1 => (f_Pg_listSteps q1).bind fun q2 => (f_Pg_layLines q2).bind fun q3 => (f_Pg_findLastReaders q3).bind fun q4 => (f_Pg_giveSlots q4).bind fun q5 => some q5) ((f_Md_keep v).bind fun q6 => f_Md_layOut q6) (fun a b => pq_FX σx a ∧ pq_FM σm b ∧ ∃ d, PW d ∧ PX d a ∧ PM d b) := by
    intro sd sn u v u1 u2 v1 v2 v3 X M bb so
    obtain ⟨f', g', K, k1, k2, k3, k4, k5, k6, _⟩ := pe_both wf X M bb v3 (fun h t ht => by
      rw [u2, (t4 t ht).2.2]
      rcases hz with rfl | rfl
      · exact absurd rfl h
      · rfl) (fun h t ht => by
      rw [u2, (t4 t ht).2.2, h]
      rfl)
    rw [k1, k2, Option.bind_some, Option.bind_some]
    have Q := pc_steps (τx := pv_rI u 17 f') (τm := pv_rI v 17 g') (K := K) wf O bb so k5 k6 X k3 M k4 (fun m hm => by
      show v.1 14 m = _
      rw [v2]; exact m4 m hm)
    refine pj_mono Q ?_
    rintro a b ⟨q1, q2, q3⟩
    exact ⟨pq_FXt (pq_FXt t1 (pq_FXr u1 (by omega))) q1, pq_FMt (pq_FMt m2 (pq_FMr v1 (by omega))) q2, q3⟩
  have v17 : τm.1 0 17 = z := by rw [m2.2.1 17 (by omega)]; exact o17
  unfold f_Pg_make f_Pg_make_0
  rw [e1, g1, m1, Option.bind_some, Option.bind_some, g2, Option.bind_some, pz_settle0 (σ := pv_rI τm 13 g) m3.1 n2]
  rcases hz with rfl | rfl
  · -- not optimised
    rw [if_pos rfl, Option.bind_some]
    have es : f_Md_settle_25 pv_fu (pv_rI (pv_rI τm 13 g) 15 (fun m => if m < r then pI m else (pv_rI τm 13 g).1 15 m)) 0 = some (pv_rI (pv_rI τm 13 g) 15 (fun m => if m < r then pI m else (pv_rI τm 13 g).1 15 m)) := by
      show f_Md_settle_25b _ _ _ = _
      unfold f_Md_settle_25b
      have q18 : (pv_rI (pv_rI τm 13 g) 15 (fun m => if m < r then pI m else (pv_rI τm 13 g).1 15 m)).1 0 18 = pI r := m3.1
      have q17 : (pv_rI (pv_rI τm 13 g) 15 (fun m => if m < r then pI m else (pv_rI τm 13 g).1 15 m)).1 0 17 = 0 := v17
      rw [q18, q17, if_neg (fun z => by rw [nle'_0 (by omega)] at z; omega), if_pos rfl]
    rw [es, Option.bind_some]
    have R := rest some (fun _ => 0) (pv_rI τ 16 f) (pv_rI (pv_rI τm 13 g) 15 (fun m => if m < r then pI m else (pv_rI τm 13 g).1 15 m)) (pq_FXr ⟨fun _ _ => rfl, rfl⟩ (by omega)) rfl (pq_FMr (pq_FMr ⟨fun _ _ => rfl, fun _ _ => rfl, rfl⟩ (by omega)) (by omega)) rfl v17 ⟨t2, fun k hk => (hfg k hk).1, fun m hm => ⟨(t4 m hm).1, by rw [if_neg (by simp)]; exact (t4 m hm).2.1⟩, fun i hi => by
      rw [ps_id]
      refine ⟨(t3 i hi).1, ?_⟩
      show τ.1 15 i = _
      rw [(t3 i hi).2]
      unfold ps_a
      cases e : pt_fr nm r cd i with
      | none => rfl
      | some s => exact (w2 i s hi e).2⟩ ⟨m3, fun k hk => (hfg k hk).2, fun m hm => ⟨if_pos hm, fun h => by cases h⟩⟩ (fun m t hm h => by cases h; exact hm) (fun k hk => Or.inl rfl)
    rw [if_pos rfl, Option.bind_some] at R
    exact R
  · -- optimised
    rw [if_neg (by decide)]
    have I0 : pz_I r kd cn (pt_fr nm r cd) nu od (pv_rI τ 16 f) (pv_rI (pv_rI τm 13 g) 15 (fun m => if m < r then pI m else (pv_rI τm 13 g).1 15 m)) 0 some (fun _ => 0) (pv_rI τ 16 f) (pv_rI (pv_rI τm 13 g) 15 (fun m => if m < r then pI m else (pv_rI τm 13 g).1 15 m)) := by
      refine ⟨⟨⟨fun _ _ => rfl, rfl⟩, rfl, t2, fun k hk => (hfg k hk).1, fun m hm => ⟨(t4 m hm).1, by rw [if_neg (by simp)]; exact (t4 m hm).2.1⟩, fun k hk j hj => ?_⟩, ⟨⟨fun _ _ => rfl, fun _ _ => rfl, rfl⟩, rfl, rfl, m3, fun k hk => (hfg k hk).2, fun m hm => ⟨if_pos hm, fun h => by cases h⟩⟩, fun m t hm h => by cases h; exact hm, fun k _ hk => rfl, fun k hk => absurd hk (by omega)⟩
      rw [if_neg (by omega), if_neg (by omega)]
      have := o1 k hk
      exact t3 (4 * od k + j) (by omega)
    obtain ⟨u, v, s1, s2, ⟨u1, u2⟩, ⟨v1, v2, v3⟩, sd, sn, X, M, bb, so⟩ := pz_stands (sm := pv_rI (pv_rI τm 13 g) 15 (fun m => if m < r then pI m else (pv_rI τm 13 g).1 15 m)) wf O v17 I0
    rw [s1, s2, Option.bind_some, Option.bind_some]
    have R := rest sd sn u v (pq_FXt (pq_FXr ⟨fun _ _ => rfl, rfl⟩ (by omega)) u1) u2 (pq_FMt (pq_FMr (pq_FMr ⟨fun _ _ => rfl, fun _ _ => rfl, rfl⟩ (by omega)) (by omega)) v1) v2 (by rw [v3]; exact v17) X M bb so
    rw [if_neg (by decide)] at R
    have : (((f_Wr_keepNeeded u).bind fun q3 => some q3).bind fun q1 => (f_Pg_listSteps q1).bind fun q2 => (f_Pg_layLines q2).bind fun q3 => (f_Pg_findLastReaders q3).bind fun q4 => (f_Pg_giveSlots q4).bind fun q5 => some q5) = ((f_Wr_keepNeeded u).bind fun q1 => (f_Pg_listSteps q1).bind fun q2 => (f_Pg_layLines q2).bind fun q3 => (f_Pg_findLastReaders q3).bind fun q4 => (f_Pg_giveSlots q4).bind fun q5 => some q5) := by
      cases f_Wr_keepNeeded u <;> rfl
    rw [this]
    exact R
/-- what compile leaves alone -/
def pc_FX (sx σ : pv_S) : Prop := (∀ c, c = 1 ∨ 25 ≤ c → σ.1 c = sx.1 c) ∧ (∀ k, k ≠ 5 → σ.1 0 k = sx.1 0 k) ∧ ∀ c, c ≠ 10 → σ.2 c = sx.2 c
def pc_FM (sm σ : pv_S) : Prop := (∀ c, (1 ≤ c ∧ c ≤ 3) ∨ 21 ≤ c → σ.1 c = sm.1 c) ∧ (∀ k, ¬ (k = 0 ∨ k = 5 ∨ (11 ≤ k ∧ k ≤ 15) ∨ k = 18 ∨ k = 28) → σ.1 0 k = sm.1 0 k) ∧ σ.2 = sm.2
theorem any_compile {σx σm : pv_S} (T : R_text σx σm) (hw : ∀ k, k < 20 → σm.1 2 k = pk_WD k) (hN : ∀ k, k < 20 → σm.1 3 k = pv_INPUTS k) {z : Int32} (hz : z = 0 ∨ z = 1) (x4 : σx.1 0 4 = z) (m17 : σm.1 0 17 = z) : pj (f_PV_compile σx) (f_Md_compile σm) (fun a b => a.1 = b.1 ∧ b.2.1 0 0 = 0 ∧ ((pc_FX σx a.2 ∧ pc_FM σm b.2 ∧ a.2.1 0 5 = b.2.1 0 15 ∧ (∀ c, 11 ≤ c → c ≤ 24 → a.2.1 c = σx.1 c) ∧ (∀ c, 9 ≤ c → c ≤ 20 → b.2.1 c = σm.1 c) ∧ b.2.1 0 18 = σm.1 0 18 ∧ b.2.1 0 28 = σm.1 0 28) ∨ ∃ τx τm d, f_PV_fallSilent τx = some a.2 ∧ f_Md_silence (pv_uI τm 0 16 1) = some b.2 ∧ pc_FX σx τx ∧ pc_FM σm τm ∧ τx.1 0 5 = -1 ∧ τm.1 0 15 = -1 ∧ PW d ∧ PX d τx ∧ PM d τm)) := by
  obtain ⟨L, hL, l1, l2, l3⟩ := T
  have R := pp_read (sx := pv_uI σx 0 5 (-1)) (sm := pv_uI (pv_uI σm 0 0 0) 0 15 (-1)) hL l1 l2 l3 hw
  unfold f_PV_compile f_PV_compile_0 f_Md_compile f_Md_compile_0
  rw [show (pv_uI σx 0 5 (-1)).1 0 1 = pI L from l1]
  refine pj_bind R ?_
  rintro ⟨pa, σa⟩ ⟨pb, σb⟩ ⟨FX, FM, H⟩
  simp only [] at FX FM H
  have fx1 : ∀ c k, ¬ (c = 2 ∨ c = 3 ∨ c = 4 ∨ c = 6 ∨ c = 7 ∨ c = 8 ∨ c = 9) → c ≠ 0 ∨ k ≠ 5 → σa.1 c k = σx.1 c k := by
    intro c k h1 h2
    rw [FX.1 c k h1, uI1, if_neg (by omega)]
  have fx5 : σa.1 0 5 = -1 := by rw [FX.1 0 5 (by omega), uI1c, if_pos rfl]
  have fm1 : ∀ c k, ¬ ((c = 0 ∧ (k = 5 ∨ (11 ≤ k ∧ k ≤ 14))) ∨ (4 ≤ c ∧ c ≤ 8)) → c ≠ 0 ∨ (k ≠ 15 ∧ k ≠ 0) → σb.1 c k = σm.1 c k := by
    intro c k h1 h2
    rw [FM.1 c k h1, uI1, if_neg (by omega), uI1, if_neg (by omega)]
  have fm15 : σb.1 0 15 = -1 := by rw [FM.1 0 15 (by omega), uI1c, if_pos rfl]
  have fm0 : σb.1 0 0 = 0 := by rw [FM.1 0 0 (by omega), uI1c, if_neg (by decide), uI1c, if_pos rfl]
  have PFX : pc_FX σx σa := ⟨fun c hc => by funext k; exact fx1 c k (by omega) (by omega), fun k hk => fx1 0 k (by omega) (by omega), fun c _ => by rw [FX.2]; rfl⟩
  have PFM : pc_FM σm σb := ⟨fun c hc => by funext k; exact fm1 c k (by omega) (by omega), fun k hk => fm1 0 k (by omega) (by omega), FM.2⟩
  rcases H with ⟨p, hp, rfl, rfl⟩ | ⟨rfl, rfl, r, P⟩
  · -- the text is no patch
    simp only []
    rw [if_neg (show ¬ pI p = -1 from fun z => (pI_neg (by omega)).mp z), if_neg (show ¬ pI p < 0 from fun z => (pI_lt0 (by omega)).mp z)]
    exact pj_some ⟨rfl, fm0, Or.inl ⟨PFX, PFM, by rw [fx5, fm15], fun c h1 h2 => by funext k; exact fx1 c k (by omega) (by omega), fun c h1 h2 => by funext k; exact fm1 c k (by omega) (by omega), fm1 0 18 (by omega) (by omega), fm1 0 28 (by omega) (by omega)⟩⟩
  · simp only []
    rw [if_pos trivial, if_pos (show (-1 : Int32) < 0 by decide)]
    obtain ⟨nm, kd, cn, cd, nu, wf, PXt, PMt⟩ := pt_of P
    have w2 := wf.2.1
    rw [pt_tie PXt w2]
    obtain ⟨σt, t1, gg, rfl, t3⟩ := pt_follow (σ := pv_rI σa 5 (fun i => if i < 4 * r then oI (pt_fr nm r cd i) else σa.1 5 i)) (kd := kd) (cn := cn) (fr := pt_fr nm r cd) PXt.1 w2 (fun m hm => ⟨(PXt.2.1 m hm).2.1, (PXt.2.1 m hm).2.2, (wf.2.2 m hm).1, (wf.2.2 m hm).2.1⟩) (fun i hi => if_pos hi) (fun i k hi h => pt_fr_lt h)
    rw [t1, Option.bind_some]
    have T : pt_T (pv_rL (pv_rI σa 5 (fun i => if i < 4 * r then oI (pt_fr nm r cd i) else σa.1 5 i)) 10 gg) r nm kd cn cd nu := ⟨PXt, fun i hi => if_pos hi, fun m s hm hs => by rw [pv_rL2]; exact t3 m s hm hs⟩
    have hN' : ∀ k, k < 20 → σb.1 3 k = pv_INPUTS k := fun k hk => by rw [fm1 3 k (by omega) (by omega)]; exact hN k hk
    have TFX : pc_FX σx (pv_rL (pv_rI σa 5 (fun i => if i < 4 * r then oI (pt_fr nm r cd i) else σa.1 5 i)) 10 gg) := by
      refine ⟨fun c hc => ?_, fun k hk => PFX.2.1 k hk, fun c hc => ?_⟩
      · rw [← PFX.1 c hc]
        funext k
        show (pv_rI σa 5 _).1 c k = _
        rw [rI1, if_neg (by omega)]
      · rw [← PFX.2.2 c hc]
        unfold pv_rL
        simp [hc]
        rfl
    have T11 : ∀ c, 11 ≤ c → c ≤ 24 → (pv_rL (pv_rI σa 5 (fun i => if i < 4 * r then oI (pt_fr nm r cd i) else σa.1 5 i)) 10 gg).1 c = σx.1 c := by
      intro c h1 h2
      funext k
      show (pv_rI σa 5 _).1 c k = _
      rw [rI1, if_neg (by omega)]
      exact fx1 c k (by omega) (by omega)
    rcases pt_faults T PMt wf hN' with ⟨f, m, hm, f0, f1, q1, q2, q3⟩ | ⟨q1, q3, ok⟩
    · rw [q1, Option.bind_some, q3, Option.bind_some]
      simp only []
      rw [if_neg f0, if_neg (Int32.not_le.mpr f1), q2, Option.bind_some]
      refine pj_some ⟨rfl, ?_, Or.inl ⟨⟨fun c hc => ?_, fun k hk => ?_, TFX.2.2⟩, ⟨fun c hc => ?_, fun k hk => ?_, PFM.2.2⟩, ?_, fun c h1 h2 => ?_, fun c h1 h2 => ?_, ?_, ?_⟩⟩
      · rw [uI1c, if_neg (by decide)]; exact fm0
      · rw [← TFX.1 c hc]; funext k; rw [uI1n (by omega)]
      · rw [← TFX.2.1 k hk, uI1c, if_neg hk]
      · rw [← PFM.1 c hc]; funext k; rw [uI1n (by omega)]
      · rw [← PFM.2.1 k hk, uI1c, if_neg (by omega)]
      · rw [uI1c, if_pos rfl, uI1c, if_pos rfl]
      · rw [← T11 c h1 h2]; funext k; rw [uI1n (by omega)]
      · funext k; rw [uI1n (by omega)]; exact fm1 c k (by omega) (by omega)
      · rw [uI1c, if_neg (by decide)]; exact fm1 0 18 (by omega) (by omega)
      · rw [uI1c, if_neg (by decide)]; exact fm1 0 28 (by omega) (by omega)
    · rw [q1, Option.bind_some, q3, Option.bind_some]
      simp only []
      rw [if_pos trivial, if_pos (show (0 : Int32) ≤ 0 by decide)]
      have e4 : (pv_rL (pv_rI σa 5 (fun i => if i < 4 * r then oI (pt_fr nm r cd i) else σa.1 5 i)) 10 gg).1 0 4 = z := by
        rw [TFX.2.1 4 (by decide)]; exact x4
      have e17 : σb.1 0 17 = z := by rw [fm1 0 17 (by omega) (by omega)]; exact m17
      obtain ⟨a, b, k1, k2, k3, k4, d, d1, d2, d3⟩ := pc_make T PMt wf ok hz e17
      rw [e4, k1, Option.bind_some]
      have chain : ((f_Md_take σb).bind fun q3 => (f_Md_arrange q3).bind fun q4 => (f_Md_settle q4).bind fun q5 => (f_Md_keep q5).bind fun q6 => (f_Md_layOut q6).bind fun q7 => (f_Md_silence (pv_uI q7 0 16 1)).bind fun q8 => some ((0 : Int32), q8)) = ((f_Md_take σb).bind fun q3 => (f_Md_arrange q3).bind fun q4 => (f_Md_settle q4).bind fun q5 => (f_Md_keep q5).bind fun q6 => f_Md_layOut q6).bind fun q7 => (f_Md_silence (pv_uI q7 0 16 1)).bind fun q8 => some ((0 : Int32), q8) := by
        simp only [Option.bind_assoc]
      rw [chain, k2, Option.bind_some, ps_X, ps_M, Option.bind_some, Option.bind_some]
      refine pj_some ⟨rfl, ?_, Or.inr ⟨a, b, d, ps_X a, ps_M _, ⟨fun c hc => ?_, fun k hk => ?_, fun c hc => ?_⟩, ⟨fun c hc => ?_, fun k hk => ?_, ?_⟩, ?_, ?_, d1, d2, d3⟩⟩
      · show b.1 0 0 = 0
        rw [k4.2.1 0 (by omega)]; exact fm0
      · rw [k3.1 c (by omega)]; exact TFX.1 c hc
      · rw [k3.1 0 (by omega)]; exact TFX.2.1 k hk
      · rw [k3.2]; exact TFX.2.2 c hc
      · rw [k4.1 c (by omega)]; exact PFM.1 c hc
      · rw [k4.2.1 k (by omega)]; exact PFM.2.1 k hk
      · rw [k4.2.2]; exact PFM.2.2
      · rw [k3.1 0 (by omega)]; exact fx5
      · rw [k4.2.1 15 (by omega)]; exact fm15
