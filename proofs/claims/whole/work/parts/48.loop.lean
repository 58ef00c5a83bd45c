theorem d_LL_23 : decode code 23 = .ok (.iload 4, 2) := by decide +kernel
theorem d_LL_25 : decode code 25 = .ok (.aload_n 0, 1) := by decide +kernel
theorem d_LL_26 : decode code 26 = .ok (.arraylength, 1) := by decide +kernel
theorem d_LL_27 : decode code 27 = .ok (.iconst 4, 1) := by decide +kernel
theorem d_LL_28 : decode code 28 = .ok (.isub, 1) := by decide +kernel
theorem d_LL_29 : decode code 29 = .ok (.if_icmp .gt 760, 3) := by decide +kernel
theorem d_LL_32 : decode code 32 = .ok (.aload_n 0, 1) := by decide +kernel
theorem d_LL_33 : decode code 33 = .ok (.iload 4, 2) := by decide +kernel
theorem d_LL_35 : decode code 35 = .ok (.iaload, 1) := by decide +kernel
theorem d_LL_36 : decode code 36 = .ok (.bipush 31, 2) := by decide +kernel
theorem d_LL_38 : decode code 38 = .ok (.iand, 1) := by decide +kernel
theorem d_LL_39 : decode code 39 = .ok (.tableswitch 744 (0) (16) #[81, 150, 163, 176, 189, 228, 241, 309, 322, 358, 426, 462, 525, 573, 609, 665, 733], 81) := by decide +kernel
theorem d_LL_783 : decode code 783 = .ok (.iinc 4 4, 3) := by decide +kernel
theorem d_LL_786 : decode code 786 = .ok (.goto (-763), 3) := by decide +kernel
theorem d_LL_789 : decode code 789 = .ok (.iconst 1, 1) := by decide +kernel
theorem d_LL_790 : decode code 790 = .ok (.ireturn, 1) := by decide +kernel
/-! The law's loop, parametric in the relation of both states. -/
def pv_Sim (R1 : pv_S → pv_S → Prop) (σx σm : pv_S) : Prop :=
  (∀ (w : Int64) (n : Int32), sim_i R1 (f_PV_type σx w n) (f_Md_type σm w n)) ∧
  sim_i R1 (f_PV_erase σx) (f_Md_erase σm) ∧
  sim_i R1 (f_PV_compile σx) (f_Md_compile σm) ∧
  sim_i R1 (f_PV_named σx) (f_Md_named σm) ∧
  (∀ z : Int32, z = 0 ∨ z = 1 → sim_v R1 (f_PV_optimise σx z) (f_Md_optimise σm z)) ∧
  sim_i R1 (f_PV_steps σx) (f_Md_steps σm) ∧
  (∀ x1 x2 : Int32, sim_h R1 [0, 1] cod_step (f_PV_step σx x1 x2) (f_Md_step σm x1 x2)) ∧
  sim_i R1 (f_PV_slots σx) (f_Md_slots σm) ∧
  (∀ x1 : Int32, sim_w R1 [1] cod_voices (f_PV_voices σx x1) (f_Md_voices σm x1)) ∧
  (∀ x1 x2 : Int32, sim_h R1 [1] cod_note (f_PV_note σx x1 x2) (f_Md_note σm x1 x2)) ∧
  (∀ x1 : Int32, sim_w R1 [0, 2] cod_off (f_PV_off σx x1) (f_Md_off σm x1)) ∧
  (∀ x1 : Int32, sim_h R1 [0] cod_active (f_PV_active σx x1) (f_Md_active σm x1)) ∧
  (∀ x1 x2 : Int32, sim_w R1 [0] cod_knob (f_PV_knob σx x1 x2) (f_Md_knob σm x1 x2)) ∧
  (∀ x1 : Int32, sim_w R1 [1, 2] cod_run (f_PV_run σx x1) (f_Md_run σm x1)) ∧
  (∀ x1 : Int32, sim_h R1 [0] cod_out (f_PV_out σx x1) (f_Md_out σm x1)) ∧
  (∀ x1 x2 : Int32, sim_h R1 [0, 3] cod_tap (f_PV_tap σx x1 x2) (f_Md_tap σm x1 x2)) ∧
  sim_v R1 (f_PV_reset σx) (f_Md_reset σm) ∧
  R1 σx σm
theorem pv_ofn {n : Nat} (h : n ≤ 2060) : (Int32.ofNat n).toInt = (n : Int) := Int32.toInt_ofNat_of_lt (by omega)
theorem pv_inn {n L : Nat} (h : n < L) (hL : L ≤ 2048) : vp_in (Int32.ofNat n) L := by
  have h1 := pv_ofn (n := n) (by omega)
  intro h2
  rcases h2 with h2 | h2
  · have h3 := Int32.lt_iff_toInt_lt.mp h2
    rw [h1] at h3
    have h4 : (0 : Int32).toInt = 0 := rfl
    omega
  · have h3 : (Int32.ofNat n).toNatClampNeg = (Int32.ofNat n).toInt.toNat := rfl
    rw [h3, h1] at h2
    omega
theorem pv_i4n {j L : Nat} (h : 4 * j + 4 ≤ L) (hL : L ≤ 2048) : pv_i4 (Int32.ofNat (4 * j)) L := by
  have e : ∀ k : Nat, Int32.ofNat (4 * j) + Int32.ofNat k = Int32.ofNat (4 * j + k) := fun k => (Int32.ofNat_add _ _).symm
  refine ⟨pv_inn (by omega) hL, ?_, ?_, ?_⟩
  · show vp_in (Int32.ofNat (4 * j) + Int32.ofNat 1) L
    rw [e 1]; exact pv_inn (by omega) hL
  · show vp_in (Int32.ofNat (4 * j) + Int32.ofNat 2) L
    rw [e 2]; exact pv_inn (by omega) hL
  · show vp_in (Int32.ofNat (4 * j) + Int32.ofNat 3) L
    rw [e 3]; exact pv_inn (by omega) hL
theorem pv_last4 {L j : Nat} (hL : L ≤ 2048) (hj : 4 * j ≤ 2060) : (Int32.ofNat L - 4 < Int32.ofNat (4 * j)) ↔ L < 4 * j + 4 := by
  have h1 := pv_ofn (n := L) (by omega)
  have h2 := pv_ofn hj
  have h3 : (Int32.ofNat L - 4).toInt = (L : Int) - 4 := by
    rw [Int32.toInt_sub, h1]
    show ((L : Int) - 4).bmod (2 ^ 32) = (L : Int) - 4
    rw [Int.bmod_def]
    split <;> omega
  rw [Int32.lt_iff_toInt_lt, h2, h3]
  omega
set_option maxHeartbeats 4000000 in
theorem k_loop {p : Program} {l : Launch} {e : Env} {s : State} {m : MethodId} {below : List Frame} {meth : Method} {c : Code} {D : va_G} {q : Nat → ClassId} {a a' t : Nat → Nat} {b sb L : Nat} {xs : Nat → Int32} (hfl : l.flags = Jvm.pinnedFlags ++ [Jvm.noTraceFlag]) (hr : meth.sig.returnType = ret) (hlk : meth.locks = false) (C : pv_LC p s m #[Value.ref sb] c D q a a' b t) (hX : va_X sb L xs s s.heap) (hsb : sb < s.heap.size) (hL : L ≤ 2048) {Rel : Nat → pv_S → pv_S → Prop} (hsim : ∀ (j : Nat) (σx σm : pv_S), 4 * j + 4 ≤ L → Rel j σx σm → pv_Sim (Rel (j + 1)) σx σm) :
    ∀ (n j cells slots : Nat) (H : Heap) (locs : List Loc) (ls : Array Slot) (σx σm : pv_S) (f : Nat → Int64), L ≤ 4 * (j + n) + 3 → 4 * j ≤ 2052 → cells + n ≤ 601024 → slots + 6 * n ≤ 7293034 → pv_V D q a a' b σx σm f H → va_S (pv_A0 s) s.heap H locs → lv_has ls 7 (pv_ls sb a a' b (Int32.ofNat (4 * j))) → Rel j σx σm → W p l e room_1 s m #[Value.ref sb] below meth c H locs cells slots (lw_Z below #[Value.ref sb] s) (F0 m 23 ls []) := by
  have hx := C.1.1
  have hcb := C.1.2.1
  have hsA : ¬ pv_A0 s sb := Nat.not_le.mpr hsb
  intro n
  induction n with
  | zero =>
    intro j cells slots H locs ls σx σm f hn hj hc hs hV hS hl hR
    refine lv_iload hx hcb d_LL_23 (lv_at hl 4 rfl) ?_
    refine lv_aload_n hx hcb d_LL_25 rfl (lv_at hl 0 rfl) ?_
    refine va_slen hx hcb hX hsb hsA hS d_LL_26 ?_
    refine lv_iconst (v := (4 : Int32)) hx hcb d_LL_27 (by decide) ?_
    refine lv_isub hx hcb d_LL_28 ?_
    refine lv_icmp_gt (tgt := 789) hx hcb d_LL_29 (by decide) (fun h => ?_) (fun h => ?_)
    · refine lv_iconst (v := (1 : Int32)) hx hcb d_LL_789 (by decide) ?_
      refine va_forget (fun z hz => hS.2.2 z hz) ?_
      refine W.widen (k := 601024) (n := 7293034) (by omega) (by omega) ?_
      exact lw_ret hx hcb hr hlk d_LL_790
    · exact absurd ((pv_last4 hL (by omega)).mpr (by omega)) h
  | succ n ih =>
    intro j cells slots H locs ls σx σm f hn hj hc hs hV hS hl hR
    refine lv_iload hx hcb d_LL_23 (lv_at hl 4 rfl) ?_
    refine lv_aload_n hx hcb d_LL_25 rfl (lv_at hl 0 rfl) ?_
    refine va_slen hx hcb hX hsb hsA hS d_LL_26 ?_
    refine lv_iconst (v := (4 : Int32)) hx hcb d_LL_27 (by decide) ?_
    refine lv_isub hx hcb d_LL_28 ?_
    refine lv_icmp_gt (tgt := 789) hx hcb d_LL_29 (by decide) (fun h => ?_) (fun h => ?_)
    · refine lv_iconst (v := (1 : Int32)) hx hcb d_LL_789 (by decide) ?_
      refine va_forget (fun z hz => hS.2.2 z hz) ?_
      refine W.widen (k := 601024) (n := 7293034) (by omega) (by omega) ?_
      exact lw_ret hx hcb hr hlk d_LL_790
    · have h4 : 4 * j + 4 ≤ L := by
        have h5 : ¬ L < 4 * j + 4 := fun z => h ((pv_last4 hL (by omega)).mpr z)
        omega
      have hi := pv_i4n h4 hL
      have hS1 := hsim j σx σm h4 hR
      have hcs : cells + 1 ≤ room_1.cells ∧ slots + 6 ≤ room_1.slots := by
        have e1 : room_1.cells = 601024 := rfl
        have e2 : room_1.slots = 7293034 := rfl
        rw [e1, e2]
        omega
      have kN : pv_kN p l e s m #[Value.ref sb] below meth c cells slots (lw_Z below #[Value.ref sb] s) D q a a' b sb (Int32.ofNat (4 * j)) (Rel (j + 1)) := by
        intro H locs ls σx σm f hV hS hl hR
        refine lv_iinc (k := 4) (v := Int32.ofNat (4 * (j + 1))) hx hcb d_LL_783 hl rfl (by rw [show 4 * (j + 1) = 4 * j + 4 from rfl, Int32.ofNat_add]; rfl) (by decide) rfl (fun ls hl => ?_)
        refine lv_goto (tgt := 23) hx hcb d_LL_786 (by decide) ?_
        exact ih (j + 1) (cells + 1) (slots + 6) H locs ls σx σm f (by omega) (by omega) (by omega) (by omega) hV hS (lv_sub hl [1, 2, 3, 4, 0] rfl) hR
      refine lv_aload_n hx hcb d_LL_32 rfl (lv_at hl 0 rfl) ?_
      refine lv_iload hx hcb d_LL_33 (lv_at hl 4 rfl) ?_
      refine va_sld hx hcb hX hsb hsA hS hi.1 d_LL_35 ?_
      refine lv_bipush (v := (31 : Int32)) hx hcb d_LL_36 (by decide) ?_
      refine lv_iand hx hcb d_LL_38 ?_
      generalize xs (Int32.ofNat (4 * j)).toNatClampNeg &&& 31 = x
      by_cases g0 : x = 0
      · refine lv_tableIn (tgt := 120) (off := 81) hx hcb d_LL_39 (by rw [g0]; decide) (by rw [g0]; decide) (by rw [g0]; rfl) (by decide) ?_
        exact k_type hfl C hX hsb hi hcs hV hS hl hS1.1 kN
      by_cases g1 : x = 1
      · refine lv_tableIn (tgt := 189) (off := 150) hx hcb d_LL_39 (by rw [g1]; decide) (by rw [g1]; decide) (by rw [g1]; rfl) (by decide) ?_
        exact k_erase hfl C hX hsb hi hcs hV hS hl hS1.2.1 kN
      by_cases g2 : x = 2
      · refine lv_tableIn (tgt := 202) (off := 163) hx hcb d_LL_39 (by rw [g2]; decide) (by rw [g2]; decide) (by rw [g2]; rfl) (by decide) ?_
        exact k_compile hfl C hX hsb hi hcs hV hS hl hS1.2.2.1 kN
      by_cases g3 : x = 3
      · refine lv_tableIn (tgt := 215) (off := 176) hx hcb d_LL_39 (by rw [g3]; decide) (by rw [g3]; decide) (by rw [g3]; rfl) (by decide) ?_
        exact k_named hfl C hX hsb hi hcs hV hS hl hS1.2.2.2.1 kN
      by_cases g4 : x = 4
      · refine lv_tableIn (tgt := 228) (off := 189) hx hcb d_LL_39 (by rw [g4]; decide) (by rw [g4]; decide) (by rw [g4]; rfl) (by decide) ?_
        exact k_optimise hfl C hX hsb hi hcs hV hS hl hS1.2.2.2.2.1 kN
      by_cases g5 : x = 5
      · refine lv_tableIn (tgt := 267) (off := 228) hx hcb d_LL_39 (by rw [g5]; decide) (by rw [g5]; decide) (by rw [g5]; rfl) (by decide) ?_
        exact k_steps hfl C hX hsb hi hcs hV hS hl hS1.2.2.2.2.2.1 kN
      by_cases g6 : x = 6
      · refine lv_tableIn (tgt := 280) (off := 241) hx hcb d_LL_39 (by rw [g6]; decide) (by rw [g6]; decide) (by rw [g6]; rfl) (by decide) ?_
        exact k_step hfl C hX hsb hi hcs hV hS hl hS1.2.2.2.2.2.2.1 kN
      by_cases g7 : x = 7
      · refine lv_tableIn (tgt := 348) (off := 309) hx hcb d_LL_39 (by rw [g7]; decide) (by rw [g7]; decide) (by rw [g7]; rfl) (by decide) ?_
        exact k_slots hfl C hX hsb hi hcs hV hS hl hS1.2.2.2.2.2.2.2.1 kN
      by_cases g8 : x = 8
      · refine lv_tableIn (tgt := 361) (off := 322) hx hcb d_LL_39 (by rw [g8]; decide) (by rw [g8]; decide) (by rw [g8]; rfl) (by decide) ?_
        exact k_voices hfl C hX hsb hi hcs hV hS hl hS1.2.2.2.2.2.2.2.2.1 kN
      by_cases g9 : x = 9
      · refine lv_tableIn (tgt := 397) (off := 358) hx hcb d_LL_39 (by rw [g9]; decide) (by rw [g9]; decide) (by rw [g9]; rfl) (by decide) ?_
        exact k_note hfl C hX hsb hi hcs hV hS hl hS1.2.2.2.2.2.2.2.2.2.1 kN
      by_cases g10 : x = 10
      · refine lv_tableIn (tgt := 465) (off := 426) hx hcb d_LL_39 (by rw [g10]; decide) (by rw [g10]; decide) (by rw [g10]; rfl) (by decide) ?_
        exact k_off hfl C hX hsb hi hcs hV hS hl hS1.2.2.2.2.2.2.2.2.2.2.1 kN
      by_cases g11 : x = 11
      · refine lv_tableIn (tgt := 501) (off := 462) hx hcb d_LL_39 (by rw [g11]; decide) (by rw [g11]; decide) (by rw [g11]; rfl) (by decide) ?_
        exact k_active hfl C hX hsb hi hcs hV hS hl hS1.2.2.2.2.2.2.2.2.2.2.2.1 kN
      by_cases g12 : x = 12
      · refine lv_tableIn (tgt := 564) (off := 525) hx hcb d_LL_39 (by rw [g12]; decide) (by rw [g12]; decide) (by rw [g12]; rfl) (by decide) ?_
        exact k_knob hfl C hX hsb hi hcs hV hS hl hS1.2.2.2.2.2.2.2.2.2.2.2.2.1 kN
      by_cases g13 : x = 13
      · refine lv_tableIn (tgt := 612) (off := 573) hx hcb d_LL_39 (by rw [g13]; decide) (by rw [g13]; decide) (by rw [g13]; rfl) (by decide) ?_
        exact k_run hfl C hX hsb hi hcs hV hS hl hS1.2.2.2.2.2.2.2.2.2.2.2.2.2.1 kN
      by_cases g14 : x = 14
      · refine lv_tableIn (tgt := 648) (off := 609) hx hcb d_LL_39 (by rw [g14]; decide) (by rw [g14]; decide) (by rw [g14]; rfl) (by decide) ?_
        exact k_out hfl C hX hsb hi hcs hV hS hl hS1.2.2.2.2.2.2.2.2.2.2.2.2.2.2.1 kN
      by_cases g15 : x = 15
      · refine lv_tableIn (tgt := 704) (off := 665) hx hcb d_LL_39 (by rw [g15]; decide) (by rw [g15]; decide) (by rw [g15]; rfl) (by decide) ?_
        exact k_tap hfl C hX hsb hi hcs hV hS hl hS1.2.2.2.2.2.2.2.2.2.2.2.2.2.2.2.1 kN
      by_cases g16 : x = 16
      · refine lv_tableIn (tgt := 772) (off := 733) hx hcb d_LL_39 (by rw [g16]; decide) (by rw [g16]; decide) (by rw [g16]; rfl) (by decide) ?_
        exact k_reset hfl C hX hsb hi hcs hV hS hl hS1.2.2.2.2.2.2.2.2.2.2.2.2.2.2.2.2.1 kN
      have ne : ∀ z : Int32, ¬ x = z → ¬ x.toInt = z.toInt := fun z hz he => hz (Int32.toInt_inj.mp he)
      have w0 : ¬ x.toInt = 0 := ne 0 g0
      have w1 : ¬ x.toInt = 1 := ne 1 g1
      have w2 : ¬ x.toInt = 2 := ne 2 g2
      have w3 : ¬ x.toInt = 3 := ne 3 g3
      have w4 : ¬ x.toInt = 4 := ne 4 g4
      have w5 : ¬ x.toInt = 5 := ne 5 g5
      have w6 : ¬ x.toInt = 6 := ne 6 g6
      have w7 : ¬ x.toInt = 7 := ne 7 g7
      have w8 : ¬ x.toInt = 8 := ne 8 g8
      have w9 : ¬ x.toInt = 9 := ne 9 g9
      have w10 : ¬ x.toInt = 10 := ne 10 g10
      have w11 : ¬ x.toInt = 11 := ne 11 g11
      have w12 : ¬ x.toInt = 12 := ne 12 g12
      have w13 : ¬ x.toInt = 13 := ne 13 g13
      have w14 : ¬ x.toInt = 14 := ne 14 g14
      have w15 : ¬ x.toInt = 15 := ne 15 g15
      have w16 : ¬ x.toInt = 16 := ne 16 g16
      refine lv_tableOut (tgt := 783) hx hcb d_LL_39 (by omega) (by decide) ?_
      refine W.widen (Nat.le_add_right _ 1) (Nat.le_add_right _ 6) ?_
      exact kN _ _ _ _ _ _ hV hS hl hS1.2.2.2.2.2.2.2.2.2.2.2.2.2.2.2.2.2
