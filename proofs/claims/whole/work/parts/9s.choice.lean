/-! Which voice a note takes, on both sides. -/
theorem oN_le {a c : Nat} (ha : a < 1000000) (hc : c < 1000000) : Int64.ofNat a ≤ Int64.ofNat c ↔ a ≤ c := by
  rw [Int64.le_iff_toInt_le, Int64.toInt_ofNat_of_lt (by omega), Int64.toInt_ofNat_of_lt (by omega)]
  omega
/-- the voice that has been idle for longest; ia: since when -/
def pv_bq (V : Nat) (id : Nat → Bool) (ia : Nat → Nat) (w : Nat) : Prop := w < V ∧ id w = true ∧ ∀ u, u < V → id u = true → ia w ≤ ia u ∧ (u < w → ia w < ia u)
theorem pv_bq1 {V : Nat} {id : Nat → Bool} {ia : Nat → Nat} {w w' : Nat} (h : pv_bq V id ia w) (h' : pv_bq V id ia w') : w = w' := by
  obtain ⟨a1, a2, a3⟩ := h
  obtain ⟨b1, b2, b3⟩ := h'
  obtain ⟨c1, c2⟩ := a3 w' b1 b2
  obtain ⟨d1, d2⟩ := b3 w a1 a2
  by_cases h : w < w'
  · have := d2 h; omega
  · by_cases h2 : w' < w
    · have := c2 h2; omega
    · omega
theorem quietX {σ : pv_S} {V ns : Nat} {id : Nat → Bool} {ia q : Nat → Nat} (hV : V ≤ 4) (x7 : σ.1 0 7 = pI V) (hid : ∀ v, v < V → σ.1 (28 + 6 * v) 2 = if id v = true then 0 else 1) (hq : ∀ v, v < V → id v = true → ia v + q v + 1 = ns ∧ σ.1 (28 + 6 * v) 4 = pI (q v)) (hns : ns < 1000000) : (f_PV_longestQuiet σ = some (-1, σ) ∧ ∀ u, u < V → id u = false) ∨ ∃ w, f_PV_longestQuiet σ = some (pI w, σ) ∧ pv_bq V id ia w := by
  unfold f_PV_longestQuiet f_PV_longestQuiet_0
  have key := up_0 (N := V) (P := fun fu i => ∀ y : Int32, ((y = -1 ∧ ∀ u, u < i → id u = false) ∨ ∃ w, y = pI w ∧ pv_bq i id ia w) → (f_PV_longestQuiet_4 fu σ y (pI i) = some (-1, σ) ∧ ∀ u, u < V → id u = false) ∨ ∃ w, f_PV_longestQuiet_4 fu σ y (pI i) = some (pI w, σ) ∧ pv_bq V id ia w) (i := 0) ?_ ?_ (by omega) (by omega)
  · exact key (-1) (Or.inl ⟨rfl, fun u hu => absurd hu (by omega)⟩)
  · intro fu y hy
    have e : f_PV_longestQuiet_4 (fu + 1) σ y (pI V) = some (y, σ) := by
      show f_PV_longestQuiet_4b _ _ _ _ = _
      unfold f_PV_longestQuiet_4b
      rw [x7, if_pos ((pI_le (by omega) (by omega)).mpr (by omega))]
    rw [e]
    rcases hy with ⟨rfl, h⟩ | ⟨w, rfl, h⟩
    · exact Or.inl ⟨rfl, h⟩
    · exact Or.inr ⟨w, rfl, h⟩
  · intro fu i hi ih y hy
    have i4 : pv_in (pI i) 4 = true := (pI_in (by omega)).mpr (by omega)
    have e : f_PV_longestQuiet_4 (fu + 1) σ y (pI i) = f_PV_longestQuiet_4b (f_PV_longestQuiet_4 fu) σ y (pI i) := rfl
    unfold f_PV_longestQuiet_4b f_PV_longestQuiet_50 f_PV_longestQuiet_52 at e
    rw [x7, if_neg (by rw [pI_le (by omega) (by omega)]; omega), pI_nat (by omega), hid i hi, nadd_1] at e
    simp only [if_pos i4] at e
    cases eid : id i with
    | false =>
      rw [eid, if_neg (show ¬ (if false = true then (0 : Int32) else 1) = 0 by decide)] at e
      rw [e]
      refine ih y ?_
      rcases hy with ⟨h1, h2⟩ | ⟨w, h1, h2, h3, h4⟩
      · refine Or.inl ⟨h1, fun u hu => ?_⟩
        by_cases hu' : u = i
        · rw [hu']; exact eid
        · exact h2 u (by omega)
      · refine Or.inr ⟨w, h1, by omega, h3, fun u hu hu2 => h4 u ?_ hu2⟩
        by_cases hu' : u = i
        · rw [hu', eid] at hu2; cases hu2
        · omega
    | true =>
      rw [eid, if_pos (show (if true = true then (0 : Int32) else 1) = 0 by decide)] at e
      obtain ⟨q1, q2⟩ := hq i hi eid
      rcases hy with ⟨rfl, h2⟩ | ⟨w, rfl, h2, h3, h4⟩
      · rw [if_pos rfl] at e
        rw [e]
        refine ih (pI i) (Or.inr ⟨i, rfl, by omega, eid, fun u hu hu2 => ?_⟩)
        by_cases hu' : u = i
        · subst hu'; exact ⟨by omega, fun z => absurd z (by omega)⟩
        · rw [h2 u (by omega)] at hu2; cases hu2
      · obtain ⟨r1, r2⟩ := hq w (by omega) h3
        rw [if_neg (fun z => (pI_neg (by omega)).mp z), if_pos ((pI_in (by omega)).mpr (by omega)), pI_nat (by omega), q2, r2] at e
        by_cases hl : q i ≤ q w
        · rw [if_pos ((pI_le (by omega) (by omega)).mpr hl)] at e
          rw [e]
          refine ih (pI w) (Or.inr ⟨w, rfl, by omega, h3, fun u hu hu2 => ?_⟩)
          by_cases hu' : u = i
          · subst hu'; exact ⟨by omega, fun z => absurd z (by omega)⟩
          · exact h4 u (by omega) hu2
        · rw [if_neg (by rw [pI_le (by omega) (by omega)]; exact hl)] at e
          rw [e]
          refine ih (pI i) (Or.inr ⟨i, rfl, by omega, eid, fun u hu hu2 => ?_⟩)
          by_cases hu' : u = i
          · subst hu'; exact ⟨by omega, fun z => absurd z (by omega)⟩
          · have := h4 u (by omega) hu2
            exact ⟨by omega, fun _ => by omega⟩
/-- the reference looks from above -/
def pv_bd (i V : Nat) (id : Nat → Bool) (ia : Nat → Nat) (w : Nat) : Prop := i ≤ w ∧ w < V ∧ id w = true ∧ ∀ u, i ≤ u → u < V → id u = true → ia w ≤ ia u ∧ (u < w → ia w < ia u)
theorem quietM {σ : pv_S} {V : Nat} {id : Nat → Bool} {ia : Nat → Nat} (hV : V ≤ 4) (hid : ∀ v, v < V → σ.1 26 v = if id v = true then 1 else 0) (hq : ∀ v, v < V → id v = true → ia v < 1000000 ∧ σ.1 28 v = pI (ia v)) : (f_Md_choice_36 pv_fu σ (-1) (pI V - 1) = f_Md_choice_90 pv_fu σ 0 1 ∧ ∀ u, u < V → id u = false) ∨ ∃ w, f_Md_choice_36 pv_fu σ (-1) (pI V - 1) = some (pI w, σ) ∧ pv_bq V id ia w := by
  have key : ∀ (i fu : Nat), i < fu → i ≤ V → ∀ y : Int32, ((y = -1 ∧ ∀ u, i ≤ u → u < V → id u = false) ∨ ∃ w, y = pI w ∧ pv_bd i V id ia w) → (f_Md_choice_36 fu σ y (pI i - 1) = f_Md_choice_90 pv_fu σ 0 1 ∧ ∀ u, u < V → id u = false) ∨ ∃ w, f_Md_choice_36 fu σ y (pI i - 1) = some (pI w, σ) ∧ pv_bq V id ia w := by
    intro i
    induction i with
    | zero =>
      intro fu hf hi y hy
      obtain ⟨fu, rfl⟩ : ∃ k, fu = k + 1 := ⟨fu - 1, by omega⟩
      have e : f_Md_choice_36 (fu + 1) σ y (pI 0 - 1) = f_Md_choice_36b (f_Md_choice_36 fu) σ y (pI 0 - 1) := rfl
      unfold f_Md_choice_36b at e
      rw [if_pos (show pI 0 - 1 < 0 by decide)] at e
      rw [e]
      rcases hy with ⟨rfl, h⟩ | ⟨w, rfl, h1, h2, h3, h4⟩
      · rw [if_pos (by decide)]
        exact Or.inl ⟨rfl, fun u hu => h u (by omega) hu⟩
      · rw [if_neg (by rw [pI_lt0 (by omega)]; exact fun z => z)]
        exact Or.inr ⟨w, rfl, h2, h3, fun u hu hu2 => h4 u (by omega) hu hu2⟩
    | succ i ih =>
      intro fu hf hi y hy
      obtain ⟨fu, rfl⟩ : ∃ k, fu = k + 1 := ⟨fu - 1, by omega⟩
      have i4 : pv_in (pI i) 4 = true := (pI_in (by omega)).mpr (by omega)
      have e : f_Md_choice_36 (fu + 1) σ y (pI (i + 1) - 1) = f_Md_choice_36b (f_Md_choice_36 fu) σ y (pI i) := by rw [nm1]; rfl
      unfold f_Md_choice_36b f_Md_choice_68 f_Md_choice_72 f_Md_choice_73 at e
      rw [if_neg (show ¬ pI i < 0 by rw [pI_lt0 (by omega)]; exact fun z => z), pI_nat (by omega), hid i (by omega), show pI i + -1 = pI i - 1 from (Int32.sub_eq_add_neg _ _).symm] at e
      simp only [if_pos i4] at e
      cases eid : id i with
      | false =>
        rw [eid, if_pos (show (if false = true then (1 : Int32) else 0) = 0 by decide)] at e
        rw [e]
        refine ih fu (by omega) (by omega) y ?_
        rcases hy with ⟨h1, h2⟩ | ⟨w, h1, h2, h3, h4, h5⟩
        · refine Or.inl ⟨h1, fun u hu hu2 => ?_⟩
          by_cases hu' : u = i
          · rw [hu']; exact eid
          · exact h2 u (by omega) hu2
        · refine Or.inr ⟨w, h1, by omega, h3, h4, fun u hu hu2 hu3 => h5 u ?_ hu2 hu3⟩
          by_cases hu' : u = i
          · rw [hu', eid] at hu3; cases hu3
          · omega
      | true =>
        rw [eid, if_neg (show ¬ (if true = true then (1 : Int32) else 0) = 0 by decide)] at e
        obtain ⟨q1, q2⟩ := hq i (by omega) eid
        rcases hy with ⟨rfl, h2⟩ | ⟨w, rfl, h2, h3, h4, h5⟩
        · rw [if_pos (show (-1 : Int32) < 0 by decide)] at e
          rw [e]
          refine ih fu (by omega) (by omega) (pI i) (Or.inr ⟨i, rfl, by omega, by omega, eid, fun u hu hu2 hu3 => ?_⟩)
          by_cases hu' : u = i
          · subst hu'; exact ⟨by omega, fun z => absurd z (by omega)⟩
          · rw [h2 u (by omega) hu2] at hu3; cases hu3
        · obtain ⟨r1, r2⟩ := hq w (by omega) h4
          rw [if_neg (show ¬ pI w < 0 by rw [pI_lt0 (by omega)]; exact fun z => z), if_pos ((pI_in (by omega)).mpr (by omega)), pI_nat (by omega), q2, r2] at e
          by_cases hl : ia w < ia i
          · rw [if_pos ((pI_lt (by omega) (by omega)).mpr hl)] at e
            rw [e]
            refine ih fu (by omega) (by omega) (pI w) (Or.inr ⟨w, rfl, by omega, h3, h4, fun u hu hu2 hu3 => ?_⟩)
            by_cases hu' : u = i
            · subst hu'; exact ⟨by omega, fun _ => hl⟩
            · exact h5 u (by omega) hu2 hu3
          · rw [if_neg (by rw [pI_lt (by omega) (by omega)]; exact hl)] at e
            rw [e]
            refine ih fu (by omega) (by omega) (pI i) (Or.inr ⟨i, rfl, by omega, by omega, eid, fun u hu hu2 hu3 => ?_⟩)
            by_cases hu' : u = i
            · subst hu'; exact ⟨by omega, fun z => absurd z (by omega)⟩
            · have := h5 u (by omega) hu2 hu3
              exact ⟨by omega, fun _ => by omega⟩
  exact key V pv_fu (by unfold pv_fu; omega) (by omega) (-1) (Or.inl ⟨rfl, fun u h1 h2 => absurd h1 (by omega)⟩)
theorem takenXM {σx σm : pv_S} {V b : Nat} {t : Nat → Nat} (v1 : 1 ≤ V) (hV : V ≤ 4) (x7 : σx.1 0 7 = pI V) (m32 : σm.1 0 32 = pI V) (ht : ∀ v, v < V → b + t v < 1000000 ∧ σx.2 (28 + 6 * v) 5 = Int64.ofNat (b + t v) ∧ σm.1 29 v = pI (t v)) : ∃ w, w < V ∧ f_PV_longestTaken σx = some (pI w, σx) ∧ f_Md_choice_90 pv_fu σm 0 1 = some (pI w, σm) := by
  unfold f_PV_longestTaken f_PV_longestTaken_0
  have key := up_0 (N := V) (P := fun fu i => ∀ w, w < V → ∃ w', w' < V ∧ f_PV_longestTaken_4 fu σx (pI w) (pI i) = some (pI w', σx) ∧ f_Md_choice_90 fu σm (pI w) (pI i) = some (pI w', σm)) (i := 1) ?_ ?_ v1 (by omega)
  · exact key 0 (by omega)
  · intro fu w hw
    refine ⟨w, hw, ?_, ?_⟩
    · show f_PV_longestTaken_4b _ _ _ _ = _
      unfold f_PV_longestTaken_4b
      rw [x7, if_pos ((pI_le (by omega) (by omega)).mpr (by omega))]
    · show f_Md_choice_90b _ _ _ _ = _
      unfold f_Md_choice_90b
      rw [m32, if_pos ((pI_le (by omega) (by omega)).mpr (by omega))]
  · intro fu i hi ih w hw
    have i4 : pv_in (pI i) 4 = true := (pI_in (by omega)).mpr (by omega)
    have w4 : pv_in (pI w) 4 = true := (pI_in (by omega)).mpr (by omega)
    obtain ⟨a1, a2, a3⟩ := ht i hi
    obtain ⟨c1, c2, c3⟩ := ht w hw
    have e1 : f_PV_longestTaken_4 (fu + 1) σx (pI w) (pI i) = f_PV_longestTaken_4b (f_PV_longestTaken_4 fu) σx (pI w) (pI i) := rfl
    have e2 : f_Md_choice_90 (fu + 1) σm (pI w) (pI i) = f_Md_choice_90b (f_Md_choice_90 fu) σm (pI w) (pI i) := rfl
    unfold f_PV_longestTaken_4b f_PV_longestTaken_36 at e1
    unfold f_Md_choice_90b f_Md_choice_118 at e2
    have ni : ¬ pI V ≤ pI i := by rw [pI_le (by omega) (by omega)]; omega
    rw [x7, if_neg ni, if_pos i4, if_pos w4, pI_nat (by omega), pI_nat (by omega), a2, c2, nadd_1] at e1
    rw [m32, if_neg ni, if_pos i4, if_pos w4, pI_nat (by omega), pI_nat (by omega), a3, c3, nadd_1] at e2
    by_cases h : t w ≤ t i
    · rw [if_pos ((lg_ge _ _).mpr ((oN_le c1 a1).mpr (by omega)))] at e1
      rw [if_pos ((pI_le (by omega) (by omega)).mpr h)] at e2
      rw [e1, e2]
      exact ih w hw
    · rw [if_neg (fun z => h (by have := (oN_le c1 a1).mp ((lg_ge _ _).mp z); omega))] at e1
      rw [if_neg (fun z => h ((pI_le (by omega) (by omega)).mp z))] at e2
      rw [e1, e2]
      exact ih i hi
/-- the same voice is taken on both sides -/
theorem choice_both {σx σm : pv_S} {V ns nt b : Nat} {od : Option PD} (v1 : 1 ≤ V) (hV : V ≤ 4) (x7 : σx.1 0 7 = pI V) (m32 : σm.1 0 32 = pI V) (hns : ns < 1000000) (hnt : b + nt < 1000000) (rv : ∀ v, v < 4 → RV od v ns nt b σx σm) : ∃ w, w < V ∧ f_PV_voiceToTake σx = some (pI w, σx) ∧ f_Md_choice σm = some (pI w, σm) := by
  unfold f_PV_voiceToTake f_PV_voiceToTake_0 f_Md_choice f_Md_choice_0
  have key := up_0 (N := V) (P := fun fu i => (∀ u, u < i → σx.1 (28 + 6 * u) 0 ≠ 0) → ∃ w, w < V ∧ f_PV_voiceToTake_2 fu σx (pI i) = some (pI w, σx) ∧ f_Md_choice_2 fu σm (pI i) = some (pI w, σm)) (i := 0) ?_ ?_ (by omega) (by omega)
  · exact key (fun u hu => absurd hu (by omega))
  · intro fu all
    have tk : ∀ u, u < V → σx.1 (28 + 6 * u) 0 = 1 ∧ RVs u ns σx σm ∧ ∃ t, t < nt ∧ σx.2 (28 + 6 * u) 5 = Int64.ofNat (b + t) ∧ σm.1 29 u = pI t := by
      intro u hu
      rcases rv u (by omega) with ⟨q1, _⟩ | ⟨q1, q2, q3, q4, q5, q6, q7, q8, _⟩
      · exact absurd q1 (all u hu)
      · exact ⟨q1, q7, q8⟩
    have hid : ∀ u, ∃ p : Bool × Nat × Nat × Nat, u < V → (σm.1 26 u = if p.1 = true then 1 else 0) ∧ (σx.1 (28 + 6 * u) 2 = if p.1 = true then 0 else 1) ∧ (p.1 = true → p.2.1 + p.2.2.1 + 1 = ns ∧ σx.1 (28 + 6 * u) 4 = pI p.2.2.1 ∧ σm.1 28 u = pI p.2.1) ∧ b + p.2.2.2 < 1000000 ∧ σx.2 (28 + 6 * u) 5 = Int64.ofNat (b + p.2.2.2) ∧ σm.1 29 u = pI p.2.2.2 := by
      intro u
      by_cases hu : u < V
      · obtain ⟨_, r, t, t1, t2, t3⟩ := tk u hu
        rcases r with ⟨r1, r2, _⟩ | ⟨r1, r2, ia, q, r3, r4, r5⟩
        · exact ⟨(false, 0, 0, t), fun _ => ⟨r1, r2, (fun z => (by cases z)), by show b + t < _; omega, t2, t3⟩⟩
        · exact ⟨(true, ia, q, t), fun _ => ⟨r1, r2, fun _ => ⟨r3, r4, r5⟩, by show b + t < _; omega, t2, t3⟩⟩
      · exact ⟨(false, 0, 0, 0), fun z => absurd z hu⟩
    obtain ⟨f, hf⟩ := Classical.axiomOfChoice hid
    have ex : f_PV_voiceToTake_2 (fu + 1) σx (pI V) = f_PV_voiceToTake_2b (f_PV_voiceToTake_2 fu) σx (pI V) := rfl
    have em : f_Md_choice_2 (fu + 1) σm (pI V) = f_Md_choice_2b (f_Md_choice_2 fu) σm (pI V) := rfl
    unfold f_PV_voiceToTake_2b at ex
    unfold f_Md_choice_2b at em
    have le : pI V ≤ pI V := (pI_le (by omega) (by omega)).mpr (by omega)
    rw [x7, if_pos le] at ex
    rw [m32, if_pos le] at em
    have QX := quietX (σ := σx) (V := V) (ns := ns) (id := fun u => (f u).1) (ia := fun u => (f u).2.1) (q := fun u => (f u).2.2.1) hV x7 (fun v hv => (hf v hv).2.1) (fun v hv h => ⟨((hf v hv).2.2.1 h).1, ((hf v hv).2.2.1 h).2.1⟩) hns
    have QM := quietM (σ := σm) (V := V) (id := fun u => (f u).1) (ia := fun u => (f u).2.1) hV (fun v hv => (hf v hv).1) (fun v hv h => ⟨by have := ((hf v hv).2.2.1 h).1; show (f v).2.1 < _; omega, ((hf v hv).2.2.1 h).2.2⟩)
    rcases QX with ⟨h1, h2⟩ | ⟨w, h1, h2⟩
    · rcases QM with ⟨g1, g2⟩ | ⟨w', g1, g2⟩
      · obtain ⟨w, w1, w2, w3⟩ := takenXM (t := fun u => (f u).2.2.2) v1 hV x7 m32 (fun v hv => (hf v hv).2.2.2)
        refine ⟨w, w1, ?_, ?_⟩
        · rw [ex, h1, Option.bind_some]
          show ((f_PV_longestTaken σx).bind _) = _
          rw [w2]; rfl
        · rw [em, g1]; exact w3
      · have := h2 w' g2.1
        have h3 : (f w').1 = true := g2.2.1
        rw [this] at h3; cases h3
    · rcases QM with ⟨g1, g2⟩ | ⟨w', g1, g2⟩
      · have := g2 w h2.1
        have h3 : (f w).1 = true := h2.2.1
        rw [this] at h3; cases h3
      · have e := pv_bq1 h2 g2
        subst e
        refine ⟨w, h2.1, ?_, ?_⟩
        · rw [ex, h1, Option.bind_some, if_neg (show ¬ pI w = -1 from fun z => (pI_neg (by have := h2.1; omega)).mp z)]
        · rw [em, g1]
  · intro fu i hi ih all
    have i4 : pv_in (pI i) 4 = true := (pI_in (by omega)).mpr (by omega)
    have ni : ¬ pI V ≤ pI i := by rw [pI_le (by omega) (by omega)]; omega
    have ex : f_PV_voiceToTake_2 (fu + 1) σx (pI i) = f_PV_voiceToTake_2b (f_PV_voiceToTake_2 fu) σx (pI i) := rfl
    have em : f_Md_choice_2 (fu + 1) σm (pI i) = f_Md_choice_2b (f_Md_choice_2 fu) σm (pI i) := rfl
    unfold f_PV_voiceToTake_2b at ex
    unfold f_Md_choice_2b at em
    rw [x7, if_neg ni, if_pos i4, pI_nat (by omega), nadd_1] at ex
    rw [m32, if_neg ni, if_pos i4, pI_nat (by omega), nadd_1] at em
    rcases rv i (by omega) with ⟨q1, q2, _⟩ | ⟨q1, q2, _⟩
    · rw [q1, if_pos rfl] at ex
      rw [q2, if_pos rfl] at em
      exact ⟨i, hi, ex, em⟩
    · rw [q1, if_neg (by decide)] at ex
      rw [q2, if_neg (by decide)] at em
      rw [ex, em]
      refine ih (fun u hu => ?_)
      by_cases hu' : u = i
      · subst hu'; rw [q1]; decide
      · exact all u (by omega)
