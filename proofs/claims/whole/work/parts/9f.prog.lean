/-! A program as both sides hold it. -/
abbrev PD : Type := (Nat × Nat × Nat) × ((Nat → Nat) × (Nat → Nat) × (Nat → Nat) × (Nat → Nat) × (Nat → Nat)) × ((Nat → Option Nat) × (Nat → Option Nat)) × ((Nat → Int32) × (Nat → Int32)) × (Nat → Bool)
def d_n (d : PD) : Nat := d.1.1
def d_fp (d : PD) : Nat := d.1.2.1
def d_sc (d : PD) : Nat := d.1.2.2
def d_kd (d : PD) : Nat → Nat := d.2.1.1
def d_cn (d : PD) : Nat → Nat := d.2.1.2.1
def d_od (d : PD) : Nat → Nat := d.2.1.2.2.1
def d_sm (d : PD) : Nat → Nat := d.2.1.2.2.2.1
def d_sl (d : PD) : Nat → Nat := d.2.1.2.2.2.2
def d_fr (d : PD) : Nat → Option Nat := d.2.2.1.1
def d_sd (d : PD) : Nat → Option Nat := d.2.2.1.2
def d_nu (d : PD) : Nat → Int32 := d.2.2.2.1.1
def d_sn (d : PD) : Nat → Int32 := d.2.2.2.1.2
def d_K (d : PD) : Nat → Bool := d.2.2.2.2
/-- what stands for an input -/
def d_S (d : PD) : Nat → Option Nat := ps_s (d_fr d) (d_sd d)
def d_A (d : PD) : Nat → Int32 := ps_a (d_fr d) (d_nu d) (d_sd d) (d_sn d)
/-- a right program -/
def PW (d : PD) : Prop := pq_WF (d_n d) (d_kd d) (d_cn d) (d_fr d) (d_nu d) ∧ (∃ x, po_I (d_n d) (d_kd d) (d_cn d) (d_fr d) (d_od d) (d_n d) x) ∧ (∀ m t, m < d_n d → d_sd d m = some t → t < d_n d) ∧ (∀ k, k < d_n d → ps_SO (d_kd d) (d_cn d) (d_fr d) (d_nu d) (d_od d) (d_sd d) (d_sn d) k) ∧ (∀ m j t, m < d_n d → j < 4 → d_K d m = true → d_S d (4 * m + j) = some t → d_K d t = true) ∧ (∀ t, d_sd d (d_n d - 1) = some t → d_K d t = true) ∧ ph_P (d_n d) (d_kd d) (d_K d) (d_od d) (d_sm d) (d_fp d) (d_sc d) ∧ (∀ t, t < d_fp d → d_sl d t < 24) ∧ pl_L (d_fp d) (d_sm d) (pl_N (d_nu d)) (d_sc d - d_fp d) ≤ 128
def PX (d : PD) (σ : pv_S) : Prop := pz_WX (d_n d) (d_kd d) (d_fr d) (d_nu d) (d_od d) (d_sd d) (d_sn d) σ ∧ pe_row (σ.1 17) (d_n d) (d_K d) ∧ σ.1 11 1 = pI (d_sc d) ∧ σ.1 11 2 = pI (d_fp d) ∧ (∀ t, t < d_sc d → σ.1 20 t = pI (d_sm d t)) ∧ (∀ k, d_fp d + k < d_sc d → σ.1 21 (d_sm d (d_fp d + k)) = pI (pl_L (d_fp d) (d_sm d) (pl_N (d_nu d)) k)) ∧ (∀ t, t < d_fp d → σ.1 22 (d_sm d t) = pI (d_sl d t)) ∧ σ.1 11 4 = pI (pr_mx (d_sl d) (d_fp d))
def PM (d : PD) (σ : pv_S) : Prop := pz_WM (d_n d) (d_kd d) (d_cn d) (d_fr d) (d_nu d) (d_od d) (d_sd d) (d_sn d) σ ∧ pe_row (σ.1 17) (d_n d) (d_K d) ∧ (∀ m, m < d_n d → σ.1 14 m = pt_dl (d_kd d) (d_nu d) m) ∧ σ.1 0 28 = pI (d_sc d) ∧ (∀ t, t < d_sc d → σ.1 18 t = pI (d_sm d t) ∧ σ.1 19 t = b2i (decide (d_fp d ≤ t))) ∧ (∀ t, t < d_fp d → σ.1 20 t = pI (d_sl d t)) ∧ ∀ t, d_fp d ≤ t → t < d_sc d → σ.1 20 t = -1
theorem PX_congr {d : PD} {σ τ : pv_S} (h : ∀ c, 11 ≤ c → c ≤ 22 → τ.1 c = σ.1 c) (X : PX d σ) : PX d τ := by
  unfold PX pz_WX pq_X at *
  simp only [h 11 (by decide) (by decide), h 12 (by decide) (by decide), h 13 (by decide) (by decide), h 14 (by decide) (by decide), h 15 (by decide) (by decide), h 16 (by decide) (by decide), h 17 (by decide) (by decide), h 18 (by decide) (by decide), h 19 (by decide) (by decide), h 20 (by decide) (by decide), h 21 (by decide) (by decide), h 22 (by decide) (by decide)]
  exact X
theorem PM_congr {d : PD} {σ τ : pv_S} (h : ∀ c, 9 ≤ c → c ≤ 20 → τ.1 c = σ.1 c) (h18 : τ.1 0 18 = σ.1 0 18) (h28 : τ.1 0 28 = σ.1 0 28) (X : PM d σ) : PM d τ := by
  unfold PM pz_WM pq_M at *
  simp only [h18, h28, h 9 (by decide) (by decide), h 10 (by decide) (by decide), h 11 (by decide) (by decide), h 12 (by decide) (by decide), h 13 (by decide) (by decide), h 14 (by decide) (by decide), h 15 (by decide) (by decide), h 16 (by decide) (by decide), h 17 (by decide) (by decide), h 18 (by decide) (by decide), h 19 (by decide) (by decide), h 20 (by decide) (by decide)]
  exact X
/-- steps, lines, readers and slots, out of the wiring -/
theorem pc_steps {n : Nat} {kd cn : Nat → Nat} {fr : Nat → Option Nat} {nu : Nat → Int32} (wf : pq_WF n kd cn fr nu) {od : Nat → Nat} {x : Int32} (O : po_I n kd cn fr od n x) {sd : Nat → Option Nat} {sn : Nat → Int32} {K : Nat → Bool} (b1 : ∀ m t, m < n → sd m = some t → t < n) (so : ∀ k, k < n → ps_SO kd cn fr nu od sd sn k) (closed : ∀ m j t, m < n → j < 4 → K m = true → ps_s fr sd (4 * m + j) = some t → K t = true) (outK : ∀ t, sd (n - 1) = some t → K t = true) {τx τm : pv_S} (X : pz_WX n kd fr nu od sd sn τx) (kx : pe_row (τx.1 17) n K) (M : pz_WM n kd cn fr nu od sd sn τm) (km : pe_row (τm.1 17) n K) (m14 : ∀ m, m < n → τm.1 14 m = pt_dl kd nu m) : pj ((f_Pg_listSteps τx).bind fun q2 => (f_Pg_layLines q2).bind fun q3 => (f_Pg_findLastReaders q3).bind fun q4 => (f_Pg_giveSlots q4).bind fun q5 => some q5) (f_Md_layOut τm) (fun a b => pq_FX τx a ∧ pq_FM τm b ∧ ∃ d, PW d ∧ PX d a ∧ PM d b) := by
  obtain ⟨n1, n2, w1, w2, w3, w4, _⟩ := id wf
  obtain ⟨o1, o2, o3, o4, o5⟩ := id O
  have sS : ∀ i k, i < 4 * n → ps_s fr sd i = some k → k < n := by
    intro i t hi h
    unfold ps_s at h
    cases e : fr i with
    | none => rw [e] at h; cases h
    | some s =>
      rw [e] at h
      exact b1 s t (w2 i s hi e).1 h
  have Q := ph_first (kd := kd) (Kx := fun _ _ => none) (τx := τx) (τm := τm) (K := K) n1 n2 o1 X.1.1 X.2.1 kx M.1.1 M.2.1 km (fun a b => pj ((f_Pg_layLines a).bind fun q3 => (f_Pg_findLastReaders q3).bind fun q4 => (f_Pg_giveSlots q4).bind fun q5 => some q5) (some b) (fun a b => pq_FX τx a ∧ pq_FM τm b ∧ ∃ d, PW d ∧ PX d a ∧ PM d b)) pv_fu (by unfold pv_fu; omega) (by
    intro σx σm sm a1 a2 a3 a4 a5 a6 a7 a8 a9 a10
    refine ph_rest (kd := kd) (τx := τx) (τm := τm) (K := K) (σx0 := pv_uI σx 11 2 (σx.1 11 1)) (σm0 := σm) (sm0 := sm) n1 n2 o1 (fun m hm => (w1 m hm).1) X.1.2 M.1.1 (fun m hm => (M.1.2.1 m hm).1) M.2.1 km _ (fun c h1 h2 => by rw [← a1 c h1 h2]; funext j; rw [uI1n h1]) a2 (fun k h1 h2 => by rw [← a3 k h1 h2, uI1c, if_neg h2]) a4 a5 a6 (by rw [uI1c, if_neg (by decide)]; exact a7) (by rw [uI1c, if_pos rfl]; exact a7) a8 (fun t ht => ⟨by rw [uI1n (by decide)]; exact (a9 t ht).1, (a9 t ht).2⟩) a10 pv_fu (pv_fu - n) (by unfold pv_fu; omega) (by unfold pv_fu; omega) ?_
    clear a1 a2 a3 a4 a5 a6 a7 a8 a9 a10
    clear σx σm sm
    intro σx σm sm fp sc a1 a2 a3 a4 a5 a6 P a7 a7b a8 a9
    obtain ⟨p1, p2, p3, p4, p5, p6, p7⟩ := ph_of P
    have smn : ∀ t, t < sc → sm t < n := by
      intro t ht
      by_cases h : t < fp
      · obtain ⟨k, k1, _, _, k4⟩ := p4 t h
        rw [k4]; exact o1 k k1
      · obtain ⟨k, k1, _, _, _, k4⟩ := p5 t (by omega) ht
        rw [k4]; exact o1 k k1
    have B : pr_B n kd cn (ps_s fr sd) fp sc sm := ⟨n2, p1, p3, by omega, smn, sS, fun m hm => ⟨(w1 m hm).1, (w1 m hm).2, pq_inp wf hm⟩, fun m j hm h1 h2 => by unfold ps_s; rw [(w3 m j hm h1 h2).1], fun m hm h => by unfold ps_s; rw [(w4 m hm h).1]⟩
    have ho : ∀ t, sd (n - 1) = some t → t < n := fun t h => b1 _ t (by omega) h
    -- lines
    obtain ⟨f1, l1, l2, l3⟩ := pl_lines wf (fp := fp) (sc := sc) (sm := sm) (σ := σx) (by omega) p3 (fun t h1 h2 => by
      obtain ⟨k, k1, _, k3, _, k5⟩ := p5 t h1 h2
      rw [k5]; exact ⟨o1 k k1, k3⟩) (fun t t' h1 h2 h3 h4 e => ph_inj1 P o2 (Or.inr ⟨h1, h2, h3, h4⟩) e) a7 a7b (fun t ht => (a9 t ht).1) (fun m hm h => by
      rw [a1 15 (by decide) (by decide), (X.2.2.2 (4 * m + 1) (by omega)).2]
      unfold ps_a
      rw [(w4 m hm h).1])
    have X1 : pr_X (pv_rI σx 21 f1) n kd (ps_s fr sd) fp sc sm := by
      refine ⟨⟨?_, fun m hm => ?_⟩, fun i hi => ?_, a7, a7b, fun t ht => (a9 t ht).1⟩
      · show σx.1 12 0 = _
        rw [a1 12 (by decide) (by decide)]; exact X.1.1
      · show σx.1 13 m = _
        rw [a1 13 (by decide) (by decide)]; exact X.1.2 m hm
      · show σx.1 14 i = _
        rw [a1 14 (by decide) (by decide)]; exact (X.2.2.2 i hi).1
    obtain ⟨f2, r1, r2⟩ := pr_last (σ := pv_rI σx 21 f1) n1 B X1 (o := sd (n - 1)) (by show σx.1 18 (n - 1) = _; rw [a1 18 (by decide) (by decide)]; exact (X.2.2.1 (n - 1) (by omega)).1) ho
    have X2 : pr_X (pv_rI (pv_rI σx 21 f1) 23 f2) n kd (ps_s fr sd) fp sc sm := X1
    have Ms : ∀ g, pr_M (pv_rI σm 20 g) n kd (ps_s fr sd) fp sc sm (sd (n - 1)) := by
      intro g
      have hM : ∀ c, c = 9 ∨ c = 11 ∨ c = 15 → (pv_rI σm 20 g).1 c = τm.1 c := by
        rintro c (rfl | rfl | rfl)
        · exact a4 9 (by decide) (by decide) (by decide)
        · exact a4 11 (by decide) (by decide) (by decide)
        · exact a4 15 (by decide) (by decide) (by decide)
      refine ⟨?_, fun m hm => ?_, fun i hi => ?_, a8, fun t ht => (a9 t ht).2, ?_⟩
      · show σm.1 0 18 = _
        rw [a6 18 (by decide)]; exact M.1.1
      · rw [hM 9 (by omega)]; exact (M.1.2.1 m hm).1
      · refine ps_srcM (σ := pv_rI σm 20 g) n2 hi ?_ (fun k h => (w2 i k hi h).1) (fun k h => ?_)
        · rw [hM 11 (by omega)]; exact (M.1.2.2 i hi).1
        · rw [hM 15 (by omega)]; exact (M.2.2 k (w2 i k hi h).1).1
      · rw [hM 15 (by omega)]; exact (M.2.2 (n - 1) (by omega)).1
    have M0 : pr_M σm n kd (ps_s fr sd) fp sc sm (sd (n - 1)) := by
      have := Ms (σm.1 20)
      rwa [rI0] at this
    obtain ⟨a, b, g1, g2, s1, s2, s3, g, sl, rfl, s4, s5, s6⟩ := pr_slots n1 B X2 M0 Ms ho (fun t t' h1 h2 e => ph_inj1 P o2 (Or.inl ⟨h1, h2⟩) e) r2
    refine ⟨σx, _, rfl, g2, a, _, ?_, rfl, ?_, ?_, ((n, fp, sc), (kd, cn, od, sm, sl), (fr, sd), (nu, sn), K), ?_, ?_, ?_⟩
    · rw [l1, Option.bind_some, r1, Option.bind_some, g1, Option.bind_some]
    · refine ⟨fun c hc => ?_, ?_⟩
      · rw [s1 c (by omega) (by omega) (by omega)]
        show (pv_rI (pv_rI σx 21 f1) 23 f2).1 c = _
        rw [← a1 c (by omega) (by omega)]
        funext j
        rw [rI1, if_neg (by omega), rI1, if_neg (by omega)]
      · rw [s3]; exact a2
    · refine pq_FMr ⟨fun c hc => ?_, fun k hk => ?_, a5⟩ (by omega)
      · exact a4 c (by omega) (by omega) (by omega)
      · exact a6 k (by omega)
    · exact ⟨wf, ⟨x, O⟩, b1, so, closed, outK, P, fun t ht => (s4 t ht).1, l3⟩
    · have hc : ∀ c, c ≠ 11 → c ≠ 20 → c ≠ 21 → c ≠ 22 → c ≠ 23 → c ≠ 24 → a.1 c = τx.1 c := by
        intro c h1 h2 h3 h4 h5 h6
        rw [s1 c h1 h4 h6, ← a1 c h1 h2]
        funext j
        rw [rI1, if_neg h5, rI1, if_neg h3]
      refine ⟨⟨⟨?_, fun m hm => ?_⟩, fun k hk => ?_, fun m hm => ?_, fun i hi => ?_⟩, ?_, ?_, ?_, fun t ht => ?_, fun k hk => ?_, fun t ht => (s4 t ht).2.1, s6⟩
      · rw [hc 12 (by decide) (by decide) (by decide) (by decide) (by decide) (by decide)]; exact X.1.1
      · rw [hc 13 (by decide) (by decide) (by decide) (by decide) (by decide) (by decide)]; exact X.1.2 m hm
      · rw [hc 16 (by decide) (by decide) (by decide) (by decide) (by decide) (by decide)]; exact X.2.1 k hk
      · rw [hc 18 (by decide) (by decide) (by decide) (by decide) (by decide) (by decide), hc 19 (by decide) (by decide) (by decide) (by decide) (by decide) (by decide)]; exact X.2.2.1 m hm
      · rw [hc 14 (by decide) (by decide) (by decide) (by decide) (by decide) (by decide), hc 15 (by decide) (by decide) (by decide) (by decide) (by decide) (by decide)]; exact X.2.2.2 i hi
      · rw [hc 17 (by decide) (by decide) (by decide) (by decide) (by decide) (by decide)]; exact kx
      · rw [s2 1 (by decide)]; exact a7
      · rw [s2 2 (by decide)]; exact a7b
      · rw [s1 20 (by decide) (by decide) (by decide)]; exact (a9 t ht).1
      · rw [s1 21 (by decide) (by decide) (by decide)]
        exact l2 k hk
    · have hc : ∀ c, c ≠ 0 → c ≠ 18 → c ≠ 19 → c ≠ 20 → (pv_rI σm 20 g).1 c = τm.1 c := by
        intro c h1 h2 h3 h4
        rw [← a4 c h1 h2 h3]
        funext j
        rw [rI1, if_neg h4]
      refine ⟨⟨⟨?_, fun m hm => ?_, fun i hi => ?_⟩, fun k hk => ?_, fun m hm => ?_⟩, ?_, fun m hm => ?_, a8, fun t ht => (a9 t ht).2, fun t ht => (s4 t ht).2.2, s5⟩
      · show σm.1 0 18 = _
        rw [a6 18 (by decide)]; exact M.1.1
      · rw [hc 9 (by decide) (by decide) (by decide) (by decide), hc 10 (by decide) (by decide) (by decide) (by decide)]; exact M.1.2.1 m hm
      · rw [hc 11 (by decide) (by decide) (by decide) (by decide), hc 12 (by decide) (by decide) (by decide) (by decide)]; exact M.1.2.2 i hi
      · rw [hc 13 (by decide) (by decide) (by decide) (by decide)]; exact M.2.1 k hk
      · rw [hc 15 (by decide) (by decide) (by decide) (by decide), hc 16 (by decide) (by decide) (by decide) (by decide)]; exact M.2.2 m hm
      · rw [hc 17 (by decide) (by decide) (by decide) (by decide)]; exact km
      · rw [hc 14 (by decide) (by decide) (by decide) (by decide)]; exact m14 m hm)
  obtain ⟨a, b, e1, e2, q⟩ := Q
  obtain ⟨a', b', e3, e4, q'⟩ := q
  refine ⟨a', b', ?_, ?_, q'⟩
  · rw [e1, Option.bind_some]; exact e3
  · have : f_Md_layOut τm = some b := e2
    rw [this]; exact e4
