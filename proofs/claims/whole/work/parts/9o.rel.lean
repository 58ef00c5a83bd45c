/-! The relation of both states. -/
/-- what one voice is on both sides -/
def RV (od : Option PD) (v ns nt b : Nat) (σx σm : pv_S) : Prop :=
  (σx.1 (28 + 6 * v) 0 = 0 ∧ σm.1 22 v = 0 ∧ σx.1 (28 + 6 * v) 1 = 0 ∧ σm.1 25 v = 0 ∧ σx.1 (28 + 6 * v) 2 = 0 ∧ σx.1 (28 + 6 * v) 3 = 0) ∨
  (σx.1 (28 + 6 * v) 0 = 1 ∧ σm.1 22 v = 1 ∧ (σm.1 25 v = 0 ∨ σm.1 25 v = 1) ∧ σx.1 (28 + 6 * v) 1 = σm.1 25 v ∧ σx.1 (28 + 6 * v) 7 = σm.1 23 v ∧ σx.1 (28 + 6 * v) 8 = σm.1 24 v ∧ RVs v ns σx σm ∧ (∃ t, t < nt ∧ σx.2 (28 + 6 * v) 5 = Int64.ofNat (b + t) ∧ σm.1 29 v = pI t) ∧ ∃ a, a ≤ ns ∧ σm.1 30 v = pI a ∧ σx.1 (28 + 6 * v) 3 = (if a = 0 then 0 else 1) ∧ (od = none → a = 0) ∧ ∀ d, od = some d → VM d v a σx σm ∧ (a ≠ 0 → ∀ m, m < d_n d → d_K d m = true → σx.1 (28 + 6 * v + 1) m = σm.1 33 (24 * v + m)))
/-- what the program is on both sides -/
def RG (od : Option PD) (σx σm : pv_S) : Prop := match od with
  | none => σm.1 0 16 = 0 ∧ σx.1 12 0 = 0 ∧ σx.1 11 1 = 0 ∧ σx.1 11 4 = 0
  | some d => σm.1 0 16 = 1 ∧ PW d ∧ PX d σx ∧ PM d σm
/-- program and voices -/
def RP (j V ns nt b : Nat) (od : Option PD) (σx σm : pv_S) : Prop := (1 ≤ V ∧ V ≤ 4 ∧ σx.1 0 7 = pI V ∧ σm.1 0 32 = pI V) ∧ (ns ≤ 64 * j ∧ σm.1 0 48 = pI ns ∧ ∀ v, V ≤ v → v < 4 → σm.1 22 v = 0) ∧ (b + nt ≤ j ∧ σm.1 0 47 = pI nt ∧ σx.2 0 8 = Int64.ofNat (b + nt)) ∧ RG od σx σm ∧ ∀ v, v < 4 → RV od v ns nt b σx σm
/-- the switches, the tables of words, the knobs -/
def RF (σx σm : pv_S) : Prop := σx.1 0 5 = σm.1 0 15 ∧ σx.1 0 4 = σm.1 0 17 ∧ (σm.1 0 17 = 0 ∨ σm.1 0 17 = 1) ∧ (∀ k, k < 20 → σm.1 2 k = pk_WD k) ∧ (∀ k, k < 20 → σm.1 3 k = pv_INPUTS k) ∧ ∀ k, k < 4 → σx.1 26 k = σm.1 21 k
/-- the samples of the last run -/
def RO (σx σm : pv_S) : Prop := ∃ n, n ≤ 64 ∧ σx.1 0 11 = pI n ∧ σm.1 0 50 = pI n ∧ ∀ k, k < n → σx.1 27 k = σm.1 35 k
def Rel (j : Nat) (σx σm : pv_S) : Prop := R_text σx σm ∧ RF σx σm ∧ RO σx σm ∧ ∃ V ns nt b od, RP j V ns nt b od σx σm
/-- where the lines of a module lie -/
theorem d_of_128 {d : PD} (W : PW d) {m : Nat} (hm : m < d_n d) (h18 : d_kd d m = 18) : d_of d m + pl_N (d_nu d) m ≤ 128 := by
  have h1 := pl_128 W.1
  have h2 := psum_up (p := fun m => decide (d_kd d m = 18)) (w := pl_N (d_nu d)) (show m + 1 ≤ d_n d by omega)
  have h3 : psum (fun m => decide (d_kd d m = 18)) (pl_N (d_nu d)) (m + 1) = psum (fun m => decide (d_kd d m = 18)) (pl_N (d_nu d)) m + (if decide (d_kd d m = 18) = true then pl_N (d_nu d) m else 0) := rfl
  rw [decide_eq_true h18, if_pos rfl] at h3
  unfold d_of
  omega
/-- a put's module -/
theorem d_put {d : PD} (W : PW d) {k : Nat} (hk : d_fp d + k < d_sc d) : d_sm d (d_fp d + k) < d_n d ∧ d_kd d (d_sm d (d_fp d + k)) = 18 ∧ d_K d (d_sm d (d_fp d + k)) = true := by
  obtain ⟨wf, ⟨x, O⟩, b1, so, closed, outK, P, sl24, l128⟩ := id W
  obtain ⟨p1, p2, p3, p4, p5, p6, p7⟩ := ph_of P
  obtain ⟨l, l1, l2, l3, l4, l5⟩ := p5 (d_fp d + k) (by omega) hk
  rw [l5]
  exact ⟨O.1 l l1, l3, l2⟩
theorem VM_congr {d : PD} (W : PW d) {v a : Nat} {σx σm τx τm : pv_S} (hx : ∀ c, c = 28 + 6 * v + 3 ∨ c = 28 + 6 * v + 4 ∨ c = 28 + 6 * v + 5 → τx.1 c = σx.1 c) (hm : ∀ c j, c = 31 ∨ c = 32 → 24 * v ≤ j → j < 24 * v + 24 → τm.1 c j = σm.1 c j) (h34 : ∀ j, 128 * v ≤ j → j < 128 * v + 128 → τm.1 34 j = σm.1 34 j) (V : VM d v a σx σm) : VM d v a τx τm := by
  obtain ⟨v1, v2⟩ := V
  have n24 := W.1.2.1
  refine ⟨fun m h1 h2 h3 => ?_, fun k hk => ⟨?_, fun i hi => ?_⟩⟩
  · rw [hx _ (Or.inl rfl), hx _ (Or.inr (Or.inl rfl)), hm 31 _ (Or.inl rfl) (by omega) (by omega), hm 32 _ (Or.inr rfl) (by omega) (by omega)]
    exact v1 m h1 h2 h3
  · rw [hx _ (Or.inl rfl)]; exact (v2 k hk).1
  · obtain ⟨m1, m2, _⟩ := d_put W hk
    have := d_of_128 W m1 m2
    rw [hx _ (Or.inr (Or.inr rfl)), h34 _ (by omega) (by omega)]
    exact (v2 k hk).2 i hi
theorem RVs_congr {v s : Nat} {σx σm τx τm : pv_S} (hx : τx.1 (28 + 6 * v) 2 = σx.1 (28 + 6 * v) 2 ∧ τx.1 (28 + 6 * v) 4 = σx.1 (28 + 6 * v) 4 ∧ τx.1 (28 + 6 * v) 9 = σx.1 (28 + 6 * v) 9) (hm : ∀ c, c = 26 ∨ c = 27 ∨ c = 28 → τm.1 c v = σm.1 c v) (R : RVs v s σx σm) : RVs v s τx τm := by
  unfold RVs at *
  rw [hx.1, hx.2.1, hx.2.2, hm 26 (by decide), hm 27 (by decide), hm 28 (by decide)]
  exact R
/-- a voice is left as it is -/
theorem RV_congr {od : Option PD} (W : ∀ d, od = some d → PW d) {v ns nt b : Nat} {σx σm τx τm : pv_S} (hx : ∀ c, 28 + 6 * v ≤ c → c ≤ 28 + 6 * v + 5 → τx.1 c = σx.1 c) (hx2 : τx.2 (28 + 6 * v) = σx.2 (28 + 6 * v)) (hm : ∀ c, 22 ≤ c → c ≤ 30 → τm.1 c v = σm.1 c v) (hm2 : ∀ c j, 31 ≤ c → c ≤ 33 → 24 * v ≤ j → j < 24 * v + 24 → τm.1 c j = σm.1 c j) (h34 : ∀ j, 128 * v ≤ j → j < 128 * v + 128 → τm.1 34 j = σm.1 34 j) (R : RV od v ns nt b σx σm) : RV od v ns nt b τx τm := by
  unfold RV at *
  rw [hx2, hx _ (Nat.le_refl _) (by omega), hm 22 (by decide) (by decide), hm 23 (by decide) (by decide), hm 24 (by decide) (by decide), hm 25 (by decide) (by decide), hm 29 (by decide) (by decide), hm 30 (by decide) (by decide)]
  rcases R with h | ⟨r1, r2, r3, r4, r5, r6, r7, r8, a, a1, a2, a3, a4, a5⟩
  · exact Or.inl h
  · refine Or.inr ⟨r1, r2, r3, r4, r5, r6, RVs_congr ⟨by rw [hx _ (Nat.le_refl _) (by omega)], by rw [hx _ (Nat.le_refl _) (by omega)], by rw [hx _ (Nat.le_refl _) (by omega)]⟩ (fun c hc => hm c (by omega) (by omega)) r7, r8, a, a1, a2, a3, a4, fun d hd => ?_⟩
    obtain ⟨b1, b2⟩ := a5 d hd
    have n24 := (W d hd).1.2.1
    refine ⟨VM_congr (W d hd) (fun c hc => hx c (by omega) (by omega)) (fun c j hc h1 h2 => hm2 c j (by omega) (by omega) h1 h2) h34 b1, fun h m h1 h2 => ?_⟩
    rw [hx _ (by omega) (by omega), hm2 33 _ (by decide) (by decide) (by omega) (by omega)]
    exact b2 h m h1 h2
theorem RG_W {od : Option PD} {σx σm : pv_S} (R : RG od σx σm) : ∀ d, od = some d → PW d := by
  intro d hd
  subst hd
  exact R.2.1
theorem RG_congr {od : Option PD} {σx σm τx τm : pv_S} (hx : ∀ c, 11 ≤ c → c ≤ 22 → τx.1 c = σx.1 c) (hm : ∀ c, 9 ≤ c → c ≤ 20 → τm.1 c = σm.1 c) (h0 : ∀ k, k = 16 ∨ k = 18 ∨ k = 28 → τm.1 0 k = σm.1 0 k) (R : RG od σx σm) : RG od τx τm := by
  cases od with
  | none =>
    obtain ⟨r1, r2, r3, r4⟩ := R
    show τm.1 0 16 = 0 ∧ τx.1 12 0 = 0 ∧ τx.1 11 1 = 0 ∧ τx.1 11 4 = 0
    rw [h0 16 (by decide), hx 12 (by decide) (by decide), hx 11 (by decide) (by decide)]
    exact ⟨r1, r2, r3, r4⟩
  | some d =>
    obtain ⟨r1, r2, r3, r4⟩ := R
    exact ⟨by rw [h0 16 (by decide)]; exact r1, r2, PX_congr hx r3, PM_congr hm (h0 18 (by decide)) (h0 28 (by decide)) r4⟩
/-- program and voices are left as they are -/
theorem RP_congr {j j' V ns nt b : Nat} {od : Option PD} {σx σm τx τm : pv_S} (hj : j ≤ j') (hx : ∀ c, (11 ≤ c ∧ c ≤ 22) ∨ 28 ≤ c → τx.1 c = σx.1 c) (hx0 : τx.1 0 7 = σx.1 0 7) (hx2 : τx.2 0 8 = σx.2 0 8) (hx3 : ∀ c, 28 ≤ c → τx.2 c = σx.2 c) (hm : ∀ c, (9 ≤ c ∧ c ≤ 20) ∨ (22 ≤ c ∧ c ≤ 34) → τm.1 c = σm.1 c) (hm0 : ∀ k, k = 16 ∨ k = 18 ∨ k = 28 ∨ k = 32 ∨ k = 47 ∨ k = 48 → τm.1 0 k = σm.1 0 k) (R : RP j V ns nt b od σx σm) : RP j' V ns nt b od τx τm := by
  obtain ⟨⟨v1, v2, v3, v4⟩, ⟨n1, n2, n3⟩, ⟨t1, t2, t3⟩, g, rv⟩ := R
  refine ⟨⟨v1, v2, by rw [hx0]; exact v3, by rw [hm0 32 (by decide)]; exact v4⟩, ⟨by omega, by rw [hm0 48 (by decide)]; exact n2, by rw [hm 22 (by decide)]; exact n3⟩, ⟨by omega, by rw [hm0 47 (by decide)]; exact t2, by rw [hx2]; exact t3⟩, RG_congr (fun c h1 h2 => hx c (Or.inl ⟨h1, h2⟩)) (fun c h1 h2 => hm c (Or.inl ⟨h1, h2⟩)) (fun k hk => hm0 k (by omega)) g, fun v hv => ?_⟩
  exact RV_congr (RG_W g) (fun c h1 h2 => hx c (by omega)) (hx3 _ (by omega)) (fun c h1 h2 => by rw [hm c (by omega)]) (fun c j h1 h2 _ _ => by rw [hm c (by omega)]) (fun j _ _ => by rw [hm 34 (by decide)]) (rv v hv)
/-- only what the reference says of the last call has changed -/
theorem Rel_thrown {j : Nat} {σx σm : pv_S} (z : Int32) (R : Rel j σx σm) : Rel (j + 1) σx (pv_uI σm 0 0 z) := by
  obtain ⟨⟨L, t1, t2, t3, t4⟩, f, ⟨n, o1, o2, o3, o4⟩, V, ns, nt, b, od, p⟩ := R
  refine ⟨⟨L, t1, t2, t3, t4⟩, f, ⟨n, o1, o2, o3, o4⟩, V, ns, nt, b, od, RP_congr (by omega) (fun _ _ => rfl) rfl rfl (fun _ _ => rfl) (fun c hc => ?_) (fun k hk => ?_) p⟩
  · funext i; rw [uI1n (by omega)]
  · rw [uI1c, if_neg (by omega)]
