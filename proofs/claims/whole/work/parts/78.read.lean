/-! Reading a text: both readers, from the first character to the last. -/
theorem rI1 (σ : pv_S) (c c' k : Nat) (f : Nat → Int32) : (pv_rI σ c f).1 c' k = if c' = c then f k else σ.1 c' k := by
  unfold pv_rI
  by_cases h : c' = c <;> simp [h]
theorem pf_fill (F : Nat → pv_S → Int32 → Int32 → Int32 → Option pv_S) (c M : Nat) (hF : ∀ n σ x i N, F (n + 1) σ x i N = if N ≤ i then some σ else if pv_in i M = true then F n (pv_uI σ c i.toNatClampNeg x) x (i + 1) N else none) (hM : M < 1000) (σ : pv_S) (x : Int32) : F pv_fu σ x 0 (pI M) = some (pv_rI σ c (fun k => if k < M then x else σ.1 c k)) := by
  have key : ∀ (d i fu : Nat), i + d = M → d < fu → F fu (pv_rI σ c (fun k => if k < i then x else σ.1 c k)) x (pI i) (pI M) = some (pv_rI σ c (fun k => if k < M then x else σ.1 c k)) := by
    intro d
    induction d with
    | zero =>
      intro i fu e hf
      obtain ⟨fu, rfl⟩ : ∃ k, fu = k + 1 := ⟨fu - 1, by omega⟩
      have : i = M := by omega
      subst this
      rw [hF, if_pos ((pI_le (by omega) (by omega)).mpr (by omega))]
    | succ d ih =>
      intro i fu e hf
      obtain ⟨fu, rfl⟩ : ∃ k, fu = k + 1 := ⟨fu - 1, by omega⟩
      rw [hF, if_neg (fun z => by have := (pI_le (by omega) (by omega)).mp z; omega), if_pos ((pI_in (by omega)).mpr (by omega)), pI_nat (by omega), show pI i + 1 = pI (i + 1) from pI_add i 1]
      have e2 : pv_uI (pv_rI σ c (fun k => if k < i then x else σ.1 c k)) c i x = pv_rI σ c (fun k => if k < i + 1 then x else σ.1 c k) := by
        refine Prod.ext ?_ rfl
        funext c' k'
        show (pv_uI (pv_rI σ c _) c i x).1 c' k' = (pv_rI σ c _).1 c' k'
        rw [uI1, rI1, rI1]
        by_cases hc : c' = c
        · simp only [hc, true_and, if_true]
          by_cases hk : k' = i
          · rw [if_pos hk, if_pos (by omega)]
          · rw [if_neg hk]
            by_cases hk2 : k' < i
            · rw [if_pos hk2, if_pos (by omega)]
            · rw [if_neg hk2, if_neg (by omega)]
        · simp [hc]
      rw [e2]
      exact ih (i + 1) fu (by omega) (by omega)
  have e0 : pv_rI σ c (fun k => if k < 0 then x else σ.1 c k) = σ := by
    refine Prod.ext ?_ rfl
    funext c' k'
    show (pv_rI σ c _).1 c' k' = σ.1 c' k'
    rw [rI1]
    by_cases hc : c' = c
    · simp [hc]
    · simp [hc]
  have := key M 0 pv_fu (by omega) (by unfold pv_fu; omega)
  rw [e0] at this
  exact this
theorem pf_7 (σ : pv_S) (x : Int32) : f_Fill_7 σ x = some (pv_rI σ 7 (fun k => if k < 38 then x else σ.1 7 k)) := pf_fill f_Fill_7_5 7 38 (fun _ _ _ _ _ => rfl) (by decide) σ x
theorem pf_4 (σ : pv_S) (x : Int32) : f_Fill_4 σ x = some (pv_rI σ 4 (fun k => if k < 38 then x else σ.1 4 k)) := pf_fill f_Fill_4_5 4 38 (fun _ _ _ _ _ => rfl) (by decide) σ x
theorem pf_8 (σ : pv_S) (x : Int32) : f_Fill_8 σ x = some (pv_rI σ 8 (fun k => if k < 38 then x else σ.1 8 k)) := pf_fill f_Fill_8_5 8 38 (fun _ _ _ _ _ => rfl) (by decide) σ x
theorem pf_9 (σ : pv_S) (x : Int32) : f_Fill_9 σ x = some (pv_rI σ 9 (fun k => if k < 152 then x else σ.1 9 k)) := pf_fill f_Fill_9_5 9 152 (fun _ _ _ _ _ => rfl) (by decide) σ x
theorem pf_6 (σ : pv_S) (x : Int32) : f_Fill_6 σ x = some (pv_rI σ 6 (fun k => if k < 152 then x else σ.1 6 k)) := pf_fill f_Fill_6_5 6 152 (fun _ _ _ _ _ => rfl) (by decide) σ x
theorem pf_23 (σ : pv_S) (x : Int32) : f_Fill_23 σ x = some (pv_rI σ 23 (fun k => if k < 24 then x else σ.1 23 k)) := pf_fill f_Fill_23_5 23 24 (fun _ _ _ _ _ => rfl) (by decide) σ x
theorem pf_24 (σ : pv_S) (x : Int32) : f_Fill_24 σ x = some (pv_rI σ 24 (fun k => if k < 24 then x else σ.1 24 k)) := pf_fill f_Fill_24_5 24 24 (fun _ _ _ _ _ => rfl) (by decide) σ x
theorem pf_v4 (v : Nat) (σ : pv_S) (x : Int32) : f_Fill_v4 v σ x = some (pv_rI σ (28 + 6 * v + 4) (fun k => if k < 24 then x else σ.1 (28 + 6 * v + 4) k)) := pf_fill (f_Fill_v4_5 v) (28 + 6 * v + 4) 24 (fun _ _ _ _ _ => rfl) (by decide) σ x
theorem pf_v5 (v : Nat) (σ : pv_S) (x : Int32) : f_Fill_v5 v σ x = some (pv_rI σ (28 + 6 * v + 5) (fun k => if k < 128 then x else σ.1 (28 + 6 * v + 5) k)) := pf_fill (f_Fill_v5_5 v) (28 + 6 * v + 5) 128 (fun _ _ _ _ _ => rfl) (by decide) σ x
theorem pp_step {sx sm σx σm : pv_S} {p : Nat} (J : pp_J sx sm σx σm p) (hp : p < 300) (c : Int32) : pj (f_Rd_stateAfter σx c) (if (6 : Int32) ≤ σm.1 0 11 then f_Md_back σm c else f_Md_front σm c) (pp_out sx sm p) := by
  have up : ∀ {x : Int32}, σm.1 0 11 = x → (6 : Int32) ≤ x → (if (6 : Int32) ≤ σm.1 0 11 then f_Md_back σm c else f_Md_front σm c) = f_Md_back σm c := fun e h => by rw [e, if_pos h]
  have dn : ∀ {x : Int32}, σm.1 0 11 = x → ¬ (6 : Int32) ≤ x → (if (6 : Int32) ≤ σm.1 0 11 then f_Md_back σm c else f_Md_front σm c) = f_Md_front σm c := fun e h => by rw [e, if_neg h]
  rcases J with ⟨r, j1, j2, j3, j4, j5, j6, j7, j8, j9, j10⟩ | ⟨r, B, L⟩
  · rw [dn j10 (by decide)]
    exact st_0 j1 j2 j3 j4 j5 hp j6 j7 j8 j9 j10 c
  rcases L with ⟨z, a1, a2, a3, a4, a5, a6, a7, a8, a9, a10⟩ | ⟨a3, a4, a6, a7, a8, a9, a10⟩ | ⟨a1, a2, a3, a4, a5⟩ | ⟨a1, a2, a3, a4, a5⟩ | ⟨k, a1, a2, a3, a4, a5, a6, a7, a8, a9, a10, a11⟩ | ⟨k, a2, a3, a4, a5, a6, a7, a8, a9, a10, a11⟩ | ⟨k, a1, a2, a3, a4, a5, a6, a7, a8, a9⟩ | ⟨a1, a2, a3, a4, a5, a6⟩ | ⟨nm, kd, lo, L⟩
  · rw [dn a4 (by decide)]; exact st_1 B a1 a2 a3 a4 a5 a6 a7 a8 a9 a10 c
  · rw [dn a4 (by decide)]; exact st_2a B a3 a4 a6 a7 a8 a9 a10 c
  · rw [dn a2 (by decide)]; exact st_2b B a1 a2 a3 a4 a5 c
  · rw [dn a2 (by decide)]; exact st_3 B a1 a2 a3 a4 a5 c
  · rw [dn a4 (by decide)]; exact st_4a B a1 a2 a3 a4 a5 a6 a7 a8 a9 a10 a11 c
  · rw [dn a4 (by decide)]; exact st_4b B a2 a3 a4 a5 a6 a7 a8 a9 a10 a11 c
  · rw [dn a3 (by decide)]; exact st_5a B a1 a2 a3 a4 a5 a6 a7 a8 a9 c
  · rw [dn a2 (by decide)]; exact st_5b B a1 a2 a3 a4 a5 a6 c
  rcases L with ⟨a1, a2, a3⟩ | ⟨c', a1, a2, a3, a4⟩ | ⟨c', z, a1, a2, a3, a4, a5, a6, a7, a8, a9, a10, a11⟩ | ⟨c', a1, a2, a3, a4, a5, a6, a7, a8⟩ | ⟨c', z, a1, a2, a3, a4, a5, a6, a7, a8, a9, a10⟩ | ⟨c', a1, a2, a3, a4, a5, a6, a7, a8⟩ | ⟨c', a1, a2, a3, a4, a5, a6, a7⟩ | ⟨c', a1, a2, a3, a4⟩ | ⟨c', a1, a2, a3, a4, a5⟩
  · rw [up a2 (by decide)]; exact st_6 B a1 a2 nm kd a3 lo c
  · rw [up a3 (by decide)]; exact st_7 B a1 a2 a3 nm kd a4 lo c
  · rw [up a5 (by decide)]; exact st_8a B a1 a2 a3 a4 a5 a6 a7 a8 a9 a10 nm kd a11 lo c
  · rw [up a3 (by decide)]; exact st_9 B a1 a2 a3 a4 a5 a6 a7 nm kd a8 lo c
  · rw [up a5 (by decide)]; exact st_10 B a1 a2 a3 a4 a5 a6 a7 a8 a9 nm kd a10 lo c
  · rw [up a3 (by decide)]; exact st_11a B a1 a2 a3 a4 a5 a6 a7 nm kd a8 lo c
  · rw [up a3 (by decide)]; exact st_11b B a1 a2 a3 a4 a5 a6 nm kd a7 lo c
  · rw [up a3 (by decide)]; exact st_11c B a1 a2 a3 nm kd a4 lo c
  · rw [up a3 (by decide)]; exact st_12 B a1 a2 a3 nm kd a4 a5 c
/-- both have the same patch -/
def R_patch (σx σm : pv_S) (r : Nat) : Prop := 1 ≤ r ∧ r ≤ 37 ∧ σx.1 3 0 = pI r ∧ σm.1 0 5 = pI r ∧ ∀ m, m < r → pp_mod σx σm m
def pp_end (sx sm : pv_S) (L : Nat) (a b : Int32 × pv_S) : Prop := pp_FX sx a.2 ∧ pp_FM sm b.2 ∧ ((∃ p, p ≤ L ∧ a.1 = pI p ∧ b.1 = pI p) ∨ (a.1 = -1 ∧ b.1 = -1 ∧ ∃ r, R_patch a.2 b.2 r))
theorem pp_JF {sx sm σx σm : pv_S} {p : Nat} (J : pp_J sx sm σx σm p) : pp_FX sx σx ∧ pp_FM sm σm := by
  rcases J with ⟨r, h1, h2, _⟩ | ⟨r, h, _⟩
  · exact ⟨h1, h2⟩
  · exact ⟨h.1, h.2.1⟩
theorem pp_loop {sx sm : pv_S} {L : Nat} (hL : L ≤ 300) (e1 : sx.1 0 1 = pI L) (e2 : sm.1 0 2 = pI L) (e3 : ∀ k, k < L → sx.1 1 k = sm.1 1 k) : ∀ (d i fx fm : Nat) (σx σm : pv_S), i + d = L → d < fx → d < fm → pp_J sx sm σx σm i → pj (f_Rd_read_14 fx σx (pI L) (pI i)) (f_Md_readAll_12 fm σm (pI i)) (pp_end sx sm L) := by
  intro d
  induction d with
  | zero =>
    intro i fx fm σx σm e hx hm J
    obtain ⟨fx, rfl⟩ : ∃ k, fx = k + 1 := ⟨fx - 1, by omega⟩
    obtain ⟨fm, rfl⟩ : ∃ k, fm = k + 1 := ⟨fm - 1, by omega⟩
    obtain ⟨FX, FM⟩ := pp_JF J
    have hsz : σm.1 0 2 = pI L := by rw [FM.1 0 2 (by omega)]; exact e2
    have le : pI L ≤ pI i := (pI_le (by omega) (by omega)).mpr (by omega)
    show pj (f_Rd_read_14b _ _ _ _) (f_Md_readAll_12b _ _ _) _
    unfold f_Rd_read_14b f_Md_readAll_12b
    rw [hsz, if_pos le, if_pos le]
    have stop : pj (some (pI L, σx)) (some (pI L, σm)) (pp_end sx sm L) := pj_some ⟨FX, FM, Or.inl ⟨L, by omega, rfl, rfl⟩⟩
    rcases J with ⟨r, j1, j2, j3, j4, j5, j6, j7, j8, j9, j10⟩ | ⟨r, B, Lo⟩
    · rw [if_pos j9, if_pos j10, j6, j3, show (0 : Int32) = pI 0 from rfl]
      by_cases hr : r = 0
      · subst hr
        rw [if_pos ((pI_le (by omega) (by omega)).mpr (by omega)), if_pos ((pI_le (by omega) (by omega)).mpr (by omega))]
        exact stop
      · have n : ¬ pI r ≤ pI 0 := fun z => by have := (pI_le (by omega) (by omega)).mp z; omega
        rw [if_neg n, if_neg n]
        exact pj_some ⟨FX, FM, Or.inr ⟨rfl, rfl, r, by omega, by omega, j6, j3, j4⟩⟩
    · have nn : ¬ σx.1 2 1 = 0 ∧ ¬ σm.1 0 11 = 0 := by
        rcases Lo with ⟨z, a1, a2, a3, a4, a5, a6, a7, a8, a9, a10⟩ | ⟨a3, a4, a6, a7, a8, a9, a10⟩ | ⟨a1, a2, a3, a4, a5⟩ | ⟨a1, a2, a3, a4, a5⟩ | ⟨k, a1, a2, a3, a4, a5, a6, a7, a8, a9, a10, a11⟩ | ⟨k, a2, a3, a4, a5, a6, a7, a8, a9, a10, a11⟩ | ⟨k, a1, a2, a3, a4, a5, a6, a7, a8, a9⟩ | ⟨a1, a2, a3, a4, a5, a6⟩ | ⟨nm, kd, lo, Lo⟩
        · rw [a3, a4]; decide
        · rw [a3, a4]; decide
        · rw [a1, a2]; decide
        · rw [a1, a2]; decide
        · rw [a3, a4]; decide
        · rw [a3, a4]; decide
        · rw [a2, a3]; decide
        · rw [a1, a2]; decide
        rcases Lo with ⟨a1, a2, a3⟩ | ⟨c', a1, a2, a3, a4⟩ | ⟨c', z, a1, a2, a3, a4, a5, a6, a7, a8, a9, a10, a11⟩ | ⟨c', a1, a2, a3, a4, a5, a6, a7, a8⟩ | ⟨c', z, a1, a2, a3, a4, a5, a6, a7, a8, a9, a10⟩ | ⟨c', a1, a2, a3, a4, a5, a6, a7, a8⟩ | ⟨c', a1, a2, a3, a4, a5, a6, a7⟩ | ⟨c', a1, a2, a3, a4⟩ | ⟨c', a1, a2, a3, a4, a5⟩
        · rw [a1, a2]; decide
        · rw [a2, a3]; decide
        · rw [a4, a5]; decide
        · rw [a2, a3]; decide
        · rw [a4, a5]; decide
        · rw [a2, a3]; decide
        · rw [a2, a3]; decide
        · rw [a2, a3]; decide
        · rw [a2, a3]; decide
      rw [if_neg nn.1, if_neg nn.2]
      exact stop
  | succ d ih =>
    intro i fx fm σx σm e hx hm J
    obtain ⟨fx, rfl⟩ : ∃ k, fx = k + 1 := ⟨fx - 1, by omega⟩
    obtain ⟨fm, rfl⟩ : ∃ k, fm = k + 1 := ⟨fm - 1, by omega⟩
    obtain ⟨FX, FM⟩ := pp_JF J
    have hsz : σm.1 0 2 = pI L := by rw [FM.1 0 2 (by omega)]; exact e2
    have le : ¬ pI L ≤ pI i := fun z => by have := (pI_le (by omega) (by omega)).mp z; omega
    have et : σx.1 1 i = σm.1 1 i := by rw [FX.1 1 i (by omega), FM.1 1 i (by omega)]; exact e3 i (by omega)
    have S := pp_step J (by omega) (σm.1 1 i)
    show pj (f_Rd_read_14b _ _ _ _) (f_Md_readAll_12b _ _ _) _
    unfold f_Rd_read_14b f_Md_readAll_12b f_Md_readAll_52
    rw [hsz, if_neg le, if_neg le, pI_nat (by omega), et, if_pos ((pI_in (by omega)).mpr (by omega)), if_pos ((pI_in (by omega)).mpr (by omega)), if_pos ((pI_in (by omega)).mpr (by omega)), show pI i + 1 = pI (i + 1) from pI_add i 1]
    have em : (if (6 : Int32) ≤ σm.1 0 11 then (f_Md_back σm (σm.1 1 i)).bind fun q1 => (if q1.1 = 0 then some (pI i, q1.2) else f_Md_readAll_12 fm q1.2 (pI (i + 1))) else (f_Md_front σm (σm.1 1 i)).bind fun q2 => (if q2.1 = 0 then some (pI i, q2.2) else f_Md_readAll_12 fm q2.2 (pI (i + 1)))) = (if (6 : Int32) ≤ σm.1 0 11 then f_Md_back σm (σm.1 1 i) else f_Md_front σm (σm.1 1 i)).bind fun q1 => (if q1.1 = 0 then some (pI i, q1.2) else f_Md_readAll_12 fm q1.2 (pI (i + 1))) := by
      by_cases h6 : (6 : Int32) ≤ σm.1 0 11
      · rw [if_pos h6, if_pos h6]
      · rw [if_neg h6, if_neg h6]
    rw [em]
    refine pj_bind S ?_
    intro a b o
    rcases o with ⟨o1, o2, o3, o4⟩ | ⟨o1, o2, o3⟩
    · rw [if_pos o1, if_pos o2]
      exact pj_some ⟨o3, o4, Or.inl ⟨i, by omega, rfl, rfl⟩⟩
    · rw [if_neg o1, if_neg (by rw [o2]; decide)]
      exact ih (i + 1) fx fm _ _ (by omega) (by omega) (by omega) o3
theorem pp_read {sx sm : pv_S} {L : Nat} (hL : L ≤ 300) (e1 : sx.1 0 1 = pI L) (e2 : sm.1 0 2 = pI L) (e3 : ∀ k, k < L → sx.1 1 k = sm.1 1 k) (hw : ∀ k, k < 20 → sm.1 2 k = pk_WD k) : pj (f_Rd_read sx (pI L)) (f_Md_readAll sm) (pp_end sx sm L) := by
  unfold f_Rd_read f_Rd_read_0 f_Md_readAll f_Md_readAll_0
  have ec : f_Pt_clear sx = some (pv_rI (pv_rI (pv_rI (pv_rI (pv_rI (pv_uI sx 3 0 0) 7 (fun k => if k < 38 then 0 else sx.1 7 k)) 4 (fun k => if k < 38 then 0 else sx.1 4 k)) 8 (fun k => if k < 38 then 0 else sx.1 8 k)) 9 (fun k => if k < 152 then 0 else sx.1 9 k)) 6 (fun k => if k < 152 then 0 else sx.1 6 k)) := by
    unfold f_Pt_clear f_Pt_clear_0
    simp only [pf_7, pf_4, pf_8, pf_9, pf_6, Option.bind_some]
    rfl
  rw [ec]
  refine pp_loop hL e1 e2 e3 L 0 pv_fu pv_fu _ _ (by omega) (by unfold pv_fu; omega) (by unfold pv_fu; omega) (Or.inl ⟨0, ⟨?_, rfl⟩, ⟨?_, rfl⟩, by simp [uI1]; rfl, fun m hm => absurd hm (by omega), by omega, rfl, fun m _ hm => ⟨?_, ?_, fun j hj => ⟨?_, ?_⟩⟩, hw, by simp [uI1], by simp [uI1]⟩)
  · intro c k n
    simp only [not_or] at n
    simp only [uI1, rI1]
    simp [n]
  · intro c k n
    simp only [uI1]
    by_cases hc : c = 0
    · subst hc
      simp only [true_and]
      rw [if_neg (by omega), if_neg (by omega)]
    · simp [hc]
  · simp [uI1, rI1, hm]
  · simp [uI1, rI1, hm]
  · simp [uI1, rI1, show 4 * m + j < 152 by omega]
  · simp [uI1, rI1, show 4 * m + j < 152 by omega]
