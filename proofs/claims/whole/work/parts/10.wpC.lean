def wp_X0_add (σ : rfS) (x1 : Int32) (Q : Int32 → rfS → Prop) : Prop :=
  vp_in (gI σ 49 1) 50 ∧ Q (((gI σ 49 1) + 1) - 1) (sI (sF σ 50 ((gI σ 49 1).toNatClampNeg) x1) 49 1 ((gI σ 49 1) + 1))
set_option maxRecDepth 20000 in
theorem k_X0_add {σ : rfS} {x1 : Int32} {Q : Int32 → rfS → Prop} (h : wp_X0_add σ x1 Q) : RM ΛC 0 yX0_add cX0_add 2 (some .int) [.ref 49, .int x1] σ (qi Q) := by
  unfold wp_X0_add at h
  refine RM.intro (by decide) (Nat.le_of_ble_eq_true rfl) (fun E X => ?_)
  show Rf ΛC 0 E 2 (qi Q) 0 [(0, .ref 49), (1, .int x1)] [] σ
  refine Rf_aload_n X (j := 0) rfl rfl dX0_add_0 rfl ?_
  refine Rf_get X kc0 (Nat.le_of_ble_eq_true rfl) rfl (j := 0) (Nat.le_of_ble_eq_true rfl) lf_X0_9 (v := .ref 50) rfl dX0_add_1 rfl ?_
  refine Rf_aload_n X (j := 0) rfl rfl dX0_add_4 rfl ?_
  refine Rf_get X kc0 (Nat.le_of_ble_eq_true rfl) rfl (j := 1) (Nat.le_of_ble_eq_true rfl) lf_X0_16 (v := .int (gI σ 49 1)) rfl dX0_add_5 rfl ?_
  refine Rf_iload_n X (j := 1) rfl rfl dX0_add_8 rfl ?_
  obtain ⟨s1, h⟩ := h
  refine Rf_iastore X (Nat.le_of_ble_eq_true rfl) rfl rfl s1 dX0_add_9 rfl ?_
  refine Rf_aload_n X (j := 0) rfl rfl dX0_add_10 rfl ?_
  refine Rf_dup X rfl dX0_add_11 rfl ?_
  refine Rf_get X kc0 (Nat.le_of_ble_eq_true rfl) rfl (j := 1) (Nat.le_of_ble_eq_true rfl) lf_X0_16 (v := .int (gI σ 49 1)) (congrArg Value.int (show gI (sF σ 50 ((gI σ 49 1).toNatClampNeg) x1) 49 1 = gI σ 49 1 from gI_sF _ _ _ _ _ _)) dX0_add_12 rfl ?_
  refine Rf_iconst X (v := 1) rfl dX0_add_15 rfl ?_
  refine Rf_iadd X dX0_add_16 rfl ?_
  refine Rf_put X kc0 (Nat.le_of_ble_eq_true rfl) rfl (j := 1) (Nat.le_of_ble_eq_true rfl) rfl lf_X0_16 rfl rfl rfl dX0_add_17 rfl ?_
  refine Rf_aload_n X (j := 0) rfl rfl dX0_add_20 rfl ?_
  refine Rf_get X kc0 (Nat.le_of_ble_eq_true rfl) rfl (j := 1) (Nat.le_of_ble_eq_true rfl) lf_X0_16 (v := .int ((gI σ 49 1) + 1)) (congrArg Value.int (show gI (sI (sF σ 50 ((gI σ 49 1).toNatClampNeg) x1) 49 1 ((gI σ 49 1) + 1)) 49 1 = (gI σ 49 1) + 1 from gI_sIs)) dX0_add_21 rfl ?_
  refine Rf_iconst X (v := 1) rfl dX0_add_24 rfl ?_
  refine Rf_isub X dX0_add_25 rfl ?_
  exact Rf_iret X rfl dX0_add_26 ⟨_, rfl, h⟩
def wl_X0_isUnder_4 (Q : Int32 → rfS → Prop) (kx_32 : Int32 → Int32 → rfS → Prop) : Nat → Int32 → Int32 → Int32 → rfS → Prop
  | 0, _, _, _, _ => False
  | n + 1, x1, x2, x3, σ => ((7 ≤ x3 → kx_32 x1 x2 σ) ∧ (¬ (7 ≤ x3) → ((x2 = x1 → kx_32 x1 x2 σ) ∧ (¬ x2 = x1 → ((x2 = (-1) → kx_32 x1 x2 σ) ∧ (¬ x2 = (-1) → vp_in x2 8 ∧ (wl_X0_isUnder_4 Q kx_32 n x1 (rfSL[2].2.2.2.getD x2.toNatClampNeg 0) (x3 + 1) σ)))))))
set_option maxRecDepth 20000 in
theorem sl_X0_isUnder_4 {E : rfE} {Q : Int32 → rfS → Prop} (X : rfX ΛC E yX0_isUnder cX0_isUnder 4 (some .boolean)) {kx_32 : Int32 → Int32 → rfS → Prop} (hkx_32 : ∀ (x1 : Int32) (x2 : Int32) (σ : rfS), kx_32 x1 x2 σ → Rf ΛC 0 E 4 (qi Q) 32 [(1, .int x1), (2, .int x2)] [] σ) : ∀ (n : Nat) (x1 : Int32) (x2 : Int32) (x3 : Int32) (σ : rfS), wl_X0_isUnder_4 Q kx_32 n x1 x2 x3 σ → Rf ΛC 0 E 4 (qi Q) 4 [(1, .int x1), (2, .int x2), (3, .int x3)] [] σ := by
  intro n
  induction n with
  | zero =>
    intro x1 x2 x3 σ h
    exact False.elim h
  | succ n hkb_4 =>
    intro x1 x2 x3 σ h
    unfold wl_X0_isUnder_4 at h
    refine Rf_iload_n X (j := 2) rfl rfl dX0_isUnder_4 rfl ?_
    refine Rf_bipush X (v := 7) rfl dX0_isUnder_5 rfl ?_
    refine Rf_icmp_ge X (tgt := 32) dX0_isUnder_7 rfl rfl (fun c4 => ?_) (fun c4 => ?_)
    · have h := h.1 c4
      refine Rf_sub [0, 1] rfl ?_
      exact hkx_32 _ _ σ h
    · have h := h.2 c4
      refine Rf_iload_n X (j := 1) rfl rfl dX0_isUnder_10 rfl ?_
      refine Rf_iload_n X (j := 0) rfl rfl dX0_isUnder_11 rfl ?_
      refine Rf_icmp_eq X (tgt := 32) dX0_isUnder_12 rfl rfl (fun c3 => ?_) (fun c3 => ?_)
      · have h := h.1 c3
        refine Rf_sub [0, 1] rfl ?_
        exact hkx_32 _ _ σ h
      · have h := h.2 c3
        refine Rf_iload_n X (j := 1) rfl rfl dX0_isUnder_15 rfl ?_
        refine Rf_iconst X (v := (-1)) (by decide) dX0_isUnder_16 rfl ?_
        refine Rf_icmp_eq X (tgt := 32) dX0_isUnder_17 rfl rfl (fun c2 => ?_) (fun c2 => ?_)
        · have h := h.1 c2
          refine Rf_sub [0, 1] rfl ?_
          exact hkx_32 _ _ σ h
        · have h := h.2 c2
          refine Rf_getstatic X (q := rfSL[2]) (List.getElem_mem _) lf_X0_20 dX0_isUnder_20 rfl ?_
          refine Rf_iload_n X (j := 1) rfl rfl dX0_isUnder_23 rfl ?_
          obtain ⟨s1, h⟩ := h
          refine Rf_siaload X (q := rfSL[2]) (List.getElem_mem _) s1 dX0_isUnder_24 rfl ?_
          refine Rf_istore_n X rfl (i := 2) (Nat.le_of_ble_eq_true rfl) (ls2 := [(2, .int (rfSL[2].2.2.2.getD x2.toNatClampNeg 0)), (1, .int x1), (3, .int x3)]) rfl dX0_isUnder_25 rfl ?_
          refine Rf_iinc X (i := 3) (j := 2) (v := x3 + 1) rfl rfl (Nat.le_of_ble_eq_true rfl) (ls2 := [(3, .int (x3 + 1)), (2, .int (rfSL[2].2.2.2.getD x2.toNatClampNeg 0)), (1, .int x1)]) rfl dX0_isUnder_26 rfl ?_
          refine Rf_goto X (tgt := 4) dX0_isUnder_29 rfl ?_
          refine Rf_sub [2, 1, 0] rfl ?_
          exact hkb_4 _ _ _ σ h
def wj_X0_isUnder_32 (Q : Int32 → rfS → Prop) (x1 : Int32) (x2 : Int32) (σ : rfS) : Prop :=
  ((¬ x2 = x1 → Q 0 σ) ∧ (x2 = x1 → Q 1 σ))
set_option maxRecDepth 20000 in
theorem sj_X0_isUnder_32 {E : rfE} {Q : Int32 → rfS → Prop} (X : rfX ΛC E yX0_isUnder cX0_isUnder 4 (some .boolean)) (x1 : Int32) (x2 : Int32) (σ : rfS) (h : wj_X0_isUnder_32 Q x1 x2 σ) : Rf ΛC 0 E 4 (qi Q) 32 [(1, .int x1), (2, .int x2)] [] σ := by
  unfold wj_X0_isUnder_32 at h
  refine Rf_iload_n X (j := 1) rfl rfl dX0_isUnder_32 rfl ?_
  refine Rf_iload_n X (j := 0) rfl rfl dX0_isUnder_33 rfl ?_
  refine Rf_icmp_ne X (tgt := 41) dX0_isUnder_34 rfl rfl (fun c9 => ?_) (fun c9 => ?_)
  · have h := h.1 c9
    refine Rf_iconst X (v := 0) rfl dX0_isUnder_41 rfl ?_
    exact Rf_iret X rfl dX0_isUnder_42 ⟨_, rfl, h⟩
  · have h := h.2 c9
    refine Rf_iconst X (v := 1) rfl dX0_isUnder_37 rfl ?_
    refine Rf_goto X (tgt := 42) dX0_isUnder_38 rfl ?_
    exact Rf_iret X rfl dX0_isUnder_42 ⟨_, rfl, h⟩
def wp_X0_isUnder (σ : rfS) (x0 : Int32) (x1 : Int32) (Q : Int32 → rfS → Prop) : Prop :=
  (∃ n5, wl_X0_isUnder_4 Q (fun (x1_6 : Int32) (x2_7 : Int32) (σ8 : rfS) => wj_X0_isUnder_32 Q x1_6 x2_7 σ8) n5 x1 x0 0 σ)
set_option maxRecDepth 20000 in
theorem k_X0_isUnder {σ : rfS} {x0 : Int32} {x1 : Int32} {Q : Int32 → rfS → Prop} (h : wp_X0_isUnder σ x0 x1 Q) : RM ΛC 0 yX0_isUnder cX0_isUnder 4 (some .boolean) [.int x0, .int x1] σ (qi Q) := by
  unfold wp_X0_isUnder at h
  refine RM.intro (by decide) (Nat.le_of_ble_eq_true rfl) (fun E X => ?_)
  show Rf ΛC 0 E 4 (qi Q) 0 [(0, .int x0), (1, .int x1)] [] σ
  refine Rf_iload_n X (j := 0) rfl rfl dX0_isUnder_0 rfl ?_
  refine Rf_istore_n X rfl (i := 2) (Nat.le_of_ble_eq_true rfl) (ls2 := [(2, .int x0), (0, .int x0), (1, .int x1)]) rfl dX0_isUnder_1 rfl ?_
  refine Rf_iconst X (v := 0) rfl dX0_isUnder_2 rfl ?_
  refine Rf_istore_n X rfl (i := 3) (Nat.le_of_ble_eq_true rfl) (ls2 := [(3, .int 0), (2, .int x0), (0, .int x0), (1, .int x1)]) rfl dX0_isUnder_3 rfl ?_
  obtain ⟨n5, h⟩ := h
  refine Rf_sub [3, 1, 0] rfl ?_
  refine sl_X0_isUnder_4 X (fun x1_6 x2_7 σ8 h => ?_) n5 _ _ _ _ h
  · exact sj_X0_isUnder_32 X _ _ _ h
def wj_X0_note_19 (Q : rfS → Prop) (σ : rfS) : Prop :=
  Q (sI σ 49 3 ((gI σ 49 3) + 1))
set_option maxRecDepth 20000 in
theorem sj_X0_note_19 {E : rfE} {Q : rfS → Prop} (X : rfX ΛC E yX0_note cX0_note 2 none) (σ : rfS) (h : wj_X0_note_19 Q σ) : Rf ΛC 0 E 2 (qv Q) 19 [(0, .ref 49)] [] σ := by
  unfold wj_X0_note_19 at h
  refine Rf_aload_n X (j := 0) rfl rfl dX0_note_19 rfl ?_
  refine Rf_dup X rfl dX0_note_20 rfl ?_
  refine Rf_get X kc0 (Nat.le_of_ble_eq_true rfl) rfl (j := 3) (Nat.le_of_ble_eq_true rfl) lf_X0_38 (v := .int (gI σ 49 3)) rfl dX0_note_21 rfl ?_
  refine Rf_iconst X (v := 1) rfl dX0_note_24 rfl ?_
  refine Rf_iadd X dX0_note_25 rfl ?_
  refine Rf_put X kc0 (Nat.le_of_ble_eq_true rfl) rfl (j := 3) (Nat.le_of_ble_eq_true rfl) rfl lf_X0_38 rfl rfl rfl dX0_note_26 rfl ?_
  exact Rf_vret X dX0_note_29 ⟨rfl, h⟩
def wp_X0_note (σ : rfS) (x1 : Int32) (Q : rfS → Prop) : Prop :=
  ((24 ≤ (gI σ 49 3) → wj_X0_note_19 Q σ) ∧ (¬ (24 ≤ (gI σ 49 3)) → vp_in (gI σ 49 3) 24 ∧ (wj_X0_note_19 Q (sF σ 51 ((gI σ 49 3).toNatClampNeg) x1))))
set_option maxRecDepth 20000 in
theorem k_X0_note {σ : rfS} {x1 : Int32} {Q : rfS → Prop} (h : wp_X0_note σ x1 Q) : RM ΛC 0 yX0_note cX0_note 2 none [.ref 49, .int x1] σ (qv Q) := by
  unfold wp_X0_note at h
  refine RM.intro (by decide) (Nat.le_of_ble_eq_true rfl) (fun E X => ?_)
  show Rf ΛC 0 E 2 (qv Q) 0 [(0, .ref 49), (1, .int x1)] [] σ
  refine Rf_aload_n X (j := 0) rfl rfl dX0_note_0 rfl ?_
  refine Rf_get X kc0 (Nat.le_of_ble_eq_true rfl) rfl (j := 3) (Nat.le_of_ble_eq_true rfl) lf_X0_38 (v := .int (gI σ 49 3)) rfl dX0_note_1 rfl ?_
  refine Rf_bipush X (v := 24) rfl dX0_note_4 rfl ?_
  refine Rf_icmp_ge X (tgt := 19) dX0_note_6 rfl rfl (fun c2 => ?_) (fun c2 => ?_)
  · have h := h.1 c2
    refine Rf_sub [0] rfl ?_
    exact sj_X0_note_19 X  _ h
  · have h := h.2 c2
    refine Rf_aload_n X (j := 0) rfl rfl dX0_note_9 rfl ?_
    refine Rf_get X kc0 (Nat.le_of_ble_eq_true rfl) rfl (j := 2) (Nat.le_of_ble_eq_true rfl) lf_X0_13 (v := .ref 51) rfl dX0_note_10 rfl ?_
    refine Rf_aload_n X (j := 0) rfl rfl dX0_note_13 rfl ?_
    refine Rf_get X kc0 (Nat.le_of_ble_eq_true rfl) rfl (j := 3) (Nat.le_of_ble_eq_true rfl) lf_X0_38 (v := .int (gI σ 49 3)) rfl dX0_note_14 rfl ?_
    refine Rf_iload_n X (j := 1) rfl rfl dX0_note_17 rfl ?_
    obtain ⟨s1, h⟩ := h
    refine Rf_iastore X (Nat.le_of_ble_eq_true rfl) rfl rfl s1 dX0_note_18 rfl ?_
    refine Rf_sub [0] rfl ?_
    exact sj_X0_note_19 X  _ h
def wp_X0_own (κ_X0_perform : rfS → Int32 → Int32 → Int32 → Int32 → Int32 → (Int32 → rfS → Prop) → Prop) (σ : rfS) (x1 : Int32) (x2 : Int32) (x3 : Int32) (x4 : Int32) (Q : Int32 → rfS → Prop) : Prop :=
  vp_in x1 50 ∧ κ_X0_perform σ x1 (gF σ 50 (x1.toNatClampNeg)) x2 x3 (x4 + 1) (fun (r3 : Int32) (σ2 : rfS) => Q r3 σ2)
set_option maxRecDepth 20000 in
theorem k_X0_own {d : Nat} {κ_X0_perform : rfS → Int32 → Int32 → Int32 → Int32 → Int32 → (Int32 → rfS → Prop) → Prop} (hκ_X0_perform : ∀ (σ : rfS) (x1 : Int32) (x2 : Int32) (x3 : Int32) (x4 : Int32) (x5 : Int32) (Q : Int32 → rfS → Prop), κ_X0_perform σ x1 x2 x3 x4 x5 Q → RM ΛC d yX0_perform cX0_perform 9 (some .int) [.ref 49, .int x1, .int x2, .int x3, .int x4, .int x5] σ (qi Q)) (hB : 0 ≤ d) {σ : rfS} {x1 : Int32} {x2 : Int32} {x3 : Int32} {x4 : Int32} {Q : Int32 → rfS → Prop} (h : wp_X0_own κ_X0_perform σ x1 x2 x3 x4 Q) : RM ΛC (d + 1) yX0_own cX0_own 5 (some .int) [.ref 49, .int x1, .int x2, .int x3, .int x4] σ (qi Q) := by
  unfold wp_X0_own at h
  refine RM.intro (by decide) (Nat.le_of_ble_eq_true rfl) (fun E X => ?_)
  show Rf ΛC (d + 1) E 5 (qi Q) 0 [(0, .ref 49), (1, .int x1), (2, .int x2), (3, .int x3), (4, .int x4)] [] σ
  refine Rf_aload_n X (j := 0) rfl rfl dX0_own_0 rfl ?_
  refine Rf_iload_n X (j := 1) rfl rfl dX0_own_1 rfl ?_
  refine Rf_aload_n X (j := 0) rfl rfl dX0_own_2 rfl ?_
  refine Rf_get X kc0 (Nat.le_of_ble_eq_true rfl) rfl (j := 0) (Nat.le_of_ble_eq_true rfl) lf_X0_9 (v := .ref 50) rfl dX0_own_3 rfl ?_
  refine Rf_iload_n X (j := 1) rfl rfl dX0_own_6 rfl ?_
  obtain ⟨s1, h⟩ := h
  refine Rf_iaload X (Nat.le_of_ble_eq_true rfl) rfl rfl s1 dX0_own_7 rfl (v := gF σ 50 (x1.toNatClampNeg)) rfl ?_
  refine Rf_iload_n X (j := 2) rfl rfl dX0_own_8 rfl ?_
  refine Rf_iload_n X (j := 3) rfl rfl dX0_own_9 rfl ?_
  refine Rf_iload X (j := 4) rfl dX0_own_10 rfl ?_
  refine Rf_iconst X (v := 1) rfl dX0_own_12 rfl ?_
  refine Rf_iadd X dX0_own_13 rfl ?_
  refine Rf_cVi (as := [.int x1, .int (gF σ 50 (x1.toNatClampNeg)), .int x2, .int x3, .int (x4 + 1)]) (st := []) X mi_X0_perform lm_X0_23 rfl (Nat.le_of_ble_eq_true rfl) rfl (hκ_X0_perform _ _ _ _ _ _ _ h) (Nat.le_refl _) rfl rfl (Nat.le_of_ble_eq_true rfl) dX0_own_14 rfl (fun r3 σ2 h => ?_)
  exact Rf_iret X rfl dX0_own_17 ⟨_, rfl, h⟩
def wl_X0_perform_6 (κ_X0_own : rfS → Int32 → Int32 → Int32 → Int32 → (Int32 → rfS → Prop) → Prop) (κ_X0_perform : rfS → Int32 → Int32 → Int32 → Int32 → Int32 → (Int32 → rfS → Prop) → Prop) (Q : Int32 → rfS → Prop) (kx_46 : Int32 → Int32 → Int32 → Int32 → Int32 → rfS → Prop) : Nat → Int32 → Int32 → Int32 → Int32 → Int32 → Int32 → rfS → Prop
  | 0, _, _, _, _, _, _, _ => False
  | n + 1, x1, x3, x4, x5, x6, x7, σ => ((7 ≤ x7 → kx_46 x1 x3 x4 x5 x6 σ) ∧ (¬ (7 ≤ x7) → ((x6 = (-1) → kx_46 x1 x3 x4 x5 x6 σ) ∧ (¬ x6 = (-1) → vp_in ((x6 * 4) + x3) 32 ∧ ((¬ (rfSL[3].2.2.2.getD ((x6 * 4) + x3).toNatClampNeg 0) = 0 → kx_46 x1 x3 x4 x5 x6 σ) ∧ ((rfSL[3].2.2.2.getD ((x6 * 4) + x3).toNatClampNeg 0) = 0 → vp_in x6 8 ∧ (wl_X0_perform_6 κ_X0_own κ_X0_perform Q kx_46 n x1 x3 x4 x5 (rfSL[2].2.2.2.getD x6.toNatClampNeg 0) (x7 + 1) σ)))))))
set_option maxRecDepth 20000 in
theorem sl_X0_perform_6 {d : Nat} {E : rfE} {Q : Int32 → rfS → Prop} (X : rfX ΛC E yX0_perform cX0_perform 9 (some .int)) {κ_X0_own : rfS → Int32 → Int32 → Int32 → Int32 → (Int32 → rfS → Prop) → Prop} {κ_X0_perform : rfS → Int32 → Int32 → Int32 → Int32 → Int32 → (Int32 → rfS → Prop) → Prop} (hκ_X0_own : ∀ (σ : rfS) (x1 : Int32) (x2 : Int32) (x3 : Int32) (x4 : Int32) (Q : Int32 → rfS → Prop), κ_X0_own σ x1 x2 x3 x4 Q → RM ΛC d yX0_own cX0_own 5 (some .int) [.ref 49, .int x1, .int x2, .int x3, .int x4] σ (qi Q)) (hκ_X0_perform : ∀ (σ : rfS) (x1 : Int32) (x2 : Int32) (x3 : Int32) (x4 : Int32) (x5 : Int32) (Q : Int32 → rfS → Prop), κ_X0_perform σ x1 x2 x3 x4 x5 Q → RM ΛC d yX0_perform cX0_perform 9 (some .int) [.ref 49, .int x1, .int x2, .int x3, .int x4, .int x5] σ (qi Q)) (hB : 0 ≤ d) {kx_46 : Int32 → Int32 → Int32 → Int32 → Int32 → rfS → Prop} (hkx_46 : ∀ (x1 : Int32) (x3 : Int32) (x4 : Int32) (x5 : Int32) (x6 : Int32) (σ : rfS), kx_46 x1 x3 x4 x5 x6 σ → Rf ΛC (d + 1) E 9 (qi Q) 46 [(0, .ref 49), (1, .int x1), (3, .int x3), (4, .int x4), (5, .int x5), (6, .int x6)] [] σ) : ∀ (n : Nat) (x1 : Int32) (x3 : Int32) (x4 : Int32) (x5 : Int32) (x6 : Int32) (x7 : Int32) (σ : rfS), wl_X0_perform_6 κ_X0_own κ_X0_perform Q kx_46 n x1 x3 x4 x5 x6 x7 σ → Rf ΛC (d + 1) E 9 (qi Q) 6 [(0, .ref 49), (1, .int x1), (3, .int x3), (4, .int x4), (5, .int x5), (6, .int x6), (7, .int x7)] [] σ := by
  intro n
  induction n with
  | zero =>
    intro x1 x3 x4 x5 x6 x7 σ h
    exact False.elim h
  | succ n hkb_6 =>
    intro x1 x3 x4 x5 x6 x7 σ h
    unfold wl_X0_perform_6 at h
    refine Rf_iload X (j := 6) rfl dX0_perform_6 rfl ?_
    refine Rf_bipush X (v := 7) rfl dX0_perform_8 rfl ?_
    refine Rf_icmp_ge X (tgt := 46) dX0_perform_10 rfl rfl (fun c5 => ?_) (fun c5 => ?_)
    · have h := h.1 c5
      refine Rf_sub [0, 1, 2, 3, 4, 5] rfl ?_
      exact hkx_46 _ _ _ _ _ σ h
    · have h := h.2 c5
      refine Rf_iload X (j := 5) rfl dX0_perform_13 rfl ?_
      refine Rf_iconst X (v := (-1)) (by decide) dX0_perform_15 rfl ?_
      refine Rf_icmp_eq X (tgt := 46) dX0_perform_16 rfl rfl (fun c4 => ?_) (fun c4 => ?_)
      · have h := h.1 c4
        refine Rf_sub [0, 1, 2, 3, 4, 5] rfl ?_
        exact hkx_46 _ _ _ _ _ σ h
      · have h := h.2 c4
        refine Rf_getstatic X (q := rfSL[3]) (List.getElem_mem _) lf_X0_27 dX0_perform_19 rfl ?_
        refine Rf_iload X (j := 5) rfl dX0_perform_22 rfl ?_
        refine Rf_iconst X (v := 4) rfl dX0_perform_24 rfl ?_
        refine Rf_imul X dX0_perform_25 rfl ?_
        refine Rf_iload_n X (j := 2) rfl rfl dX0_perform_26 rfl ?_
        refine Rf_iadd X dX0_perform_27 rfl ?_
        obtain ⟨s1, h⟩ := h
        refine Rf_siaload X (q := rfSL[3]) (List.getElem_mem _) s1 dX0_perform_28 rfl ?_
        refine Rf_if_ne X (tgt := 46) dX0_perform_29 rfl rfl (fun c3 => ?_) (fun c3 => ?_)
        · have h := h.1 c3
          refine Rf_sub [0, 1, 2, 3, 4, 5] rfl ?_
          exact hkx_46 _ _ _ _ _ σ h
        · have h := h.2 c3
          refine Rf_getstatic X (q := rfSL[2]) (List.getElem_mem _) lf_X0_20 dX0_perform_32 rfl ?_
          refine Rf_iload X (j := 5) rfl dX0_perform_35 rfl ?_
          obtain ⟨s2, h⟩ := h
          refine Rf_siaload X (q := rfSL[2]) (List.getElem_mem _) s2 dX0_perform_37 rfl ?_
          refine Rf_istore X (i := 6) (Nat.le_of_ble_eq_true rfl) (ls2 := [(6, .int (rfSL[2].2.2.2.getD x6.toNatClampNeg 0)), (0, .ref 49), (1, .int x1), (3, .int x3), (4, .int x4), (5, .int x5), (7, .int x7)]) rfl dX0_perform_38 rfl ?_
          refine Rf_iinc X (i := 7) (j := 6) (v := x7 + 1) rfl rfl (Nat.le_of_ble_eq_true rfl) (ls2 := [(7, .int (x7 + 1)), (6, .int (rfSL[2].2.2.2.getD x6.toNatClampNeg 0)), (0, .ref 49), (1, .int x1), (3, .int x3), (4, .int x4), (5, .int x5)]) rfl dX0_perform_40 rfl ?_
          refine Rf_goto X (tgt := 6) dX0_perform_43 rfl ?_
          refine Rf_sub [2, 3, 4, 5, 6, 1, 0] rfl ?_
          exact hkb_6 _ _ _ _ _ _ σ h
def wj_X0_perform_46 (κ_X0_own : rfS → Int32 → Int32 → Int32 → Int32 → (Int32 → rfS → Prop) → Prop) (κ_X0_perform : rfS → Int32 → Int32 → Int32 → Int32 → Int32 → (Int32 → rfS → Prop) → Prop) (Q : Int32 → rfS → Prop) (x1 : Int32) (x3 : Int32) (x4 : Int32) (x5 : Int32) (x6 : Int32) (σ : rfS) : Prop :=
  ((x6 = (-1) → Q 0 σ) ∧ (¬ x6 = (-1) → ((x5 ≤ 40 → vp_in ((x6 * 4) + x3) 32 ∧ wp_X0_note σ (rfSL[3].2.2.2.getD ((x6 * 4) + x3).toNatClampNeg 0) (fun (σ14 : rfS) => vp_in x6 8 ∧ (((rfSL[3].2.2.2.getD ((x6 * 4) + x3).toNatClampNeg 0) = 1 → Q (x4 + x1) σ14) ∧ (¬ (rfSL[3].2.2.2.getD ((x6 * 4) + x3).toNatClampNeg 0) = 1 → (((rfSL[3].2.2.2.getD ((x6 * 4) + x3).toNatClampNeg 0) = 2 → κ_X0_own σ14 x1 1 x4 x5 (fun (r19 : Int32) (σ18 : rfS) => κ_X0_own σ18 x1 2 1 x5 (fun (r21 : Int32) (σ20 : rfS) => Q (r19 - r21) σ20))) ∧ (¬ (rfSL[3].2.2.2.getD ((x6 * 4) + x3).toNatClampNeg 0) = 2 → (((rfSL[3].2.2.2.getD ((x6 * 4) + x3).toNatClampNeg 0) = 10 → κ_X0_own σ14 x1 0 x4 x5 (fun (r24 : Int32) (σ23 : rfS) => Q (r24 * 2) σ23)) ∧ (¬ (rfSL[3].2.2.2.getD ((x6 * 4) + x3).toNatClampNeg 0) = 10 → (((rfSL[3].2.2.2.getD ((x6 * 4) + x3).toNatClampNeg 0) = 11 → Q (x4 ^^^ x1) σ14) ∧ (¬ (rfSL[3].2.2.2.getD ((x6 * 4) + x3).toNatClampNeg 0) = 11 → (((rfSL[3].2.2.2.getD ((x6 * 4) + x3).toNatClampNeg 0) = 20 → κ_X0_perform σ14 x1 (rfSL[2].2.2.2.getD x6.toNatClampNeg 0) 0 x4 (x5 + 1) (fun (r28 : Int32) (σ27 : rfS) => Q (r28 + 3) σ27)) ∧ (¬ (rfSL[3].2.2.2.getD ((x6 * 4) + x3).toNatClampNeg 0) = 20 → (((rfSL[3].2.2.2.getD ((x6 * 4) + x3).toNatClampNeg 0) = 30 → κ_X0_perform σ14 x1 (rfSL[2].2.2.2.getD x6.toNatClampNeg 0) 1 x4 (x5 + 1) (fun (r31 : Int32) (σ30 : rfS) => Q (-r31) σ30)) ∧ (¬ (rfSL[3].2.2.2.getD ((x6 * 4) + x3).toNatClampNeg 0) = 30 → (((rfSL[3].2.2.2.getD ((x6 * 4) + x3).toNatClampNeg 0) = 40 → κ_X0_perform σ14 x1 (rfSL[2].2.2.2.getD x6.toNatClampNeg 0) 2 x4 (x5 + 1) (fun (r34 : Int32) (σ33 : rfS) => Q (r34 * 3) σ33)) ∧ (¬ (rfSL[3].2.2.2.getD ((x6 * 4) + x3).toNatClampNeg 0) = 40 → (((rfSL[3].2.2.2.getD ((x6 * 4) + x3).toNatClampNeg 0) = 41 → κ_X0_perform σ14 x1 (rfSL[2].2.2.2.getD x6.toNatClampNeg 0) 1 (x4 + 1) (x5 + 1) (fun (r37 : Int32) (σ36 : rfS) => Q r37 σ36)) ∧ (¬ (rfSL[3].2.2.2.getD ((x6 * 4) + x3).toNatClampNeg 0) = 41 → (((rfSL[3].2.2.2.getD ((x6 * 4) + x3).toNatClampNeg 0) = 50 → κ_X0_perform σ14 x1 (rfSL[2].2.2.2.getD x6.toNatClampNeg 0) 2 x4 (x5 + 1) (fun (r40 : Int32) (σ39 : rfS) => κ_X0_own σ39 x1 0 2 x5 (fun (r42 : Int32) (σ41 : rfS) => Q (r40 - r42) σ41))) ∧ (¬ (rfSL[3].2.2.2.getD ((x6 * 4) + x3).toNatClampNeg 0) = 50 → (((rfSL[3].2.2.2.getD ((x6 * 4) + x3).toNatClampNeg 0) = 60 → κ_X0_perform σ14 x1 (rfSL[2].2.2.2.getD x6.toNatClampNeg 0) 3 x4 (x5 + 1) (fun (r45 : Int32) (σ44 : rfS) => Q (r45 ^^^ 5) σ44)) ∧ (¬ (rfSL[3].2.2.2.getD ((x6 * 4) + x3).toNatClampNeg 0) = 60 → (((rfSL[3].2.2.2.getD ((x6 * 4) + x3).toNatClampNeg 0) = 70 → κ_X0_perform σ14 x1 (rfSL[2].2.2.2.getD x6.toNatClampNeg 0) 0 x4 (x5 + 1) (fun (r48 : Int32) (σ47 : rfS) => Q (r48 * 2) σ47)) ∧ (¬ (rfSL[3].2.2.2.getD ((x6 * 4) + x3).toNatClampNeg 0) = 70 → (((rfSL[3].2.2.2.getD ((x6 * 4) + x3).toNatClampNeg 0) = 80 → κ_X0_perform σ14 x1 (rfSL[2].2.2.2.getD x6.toNatClampNeg 0) 1 x4 (x5 + 1) (fun (r51 : Int32) (σ50 : rfS) => κ_X0_own σ50 x1 2 2 x5 (fun (r53 : Int32) (σ52 : rfS) => Q (r51 + r53) σ52))) ∧ (¬ (rfSL[3].2.2.2.getD ((x6 * 4) + x3).toNatClampNeg 0) = 80 → (((rfSL[3].2.2.2.getD ((x6 * 4) + x3).toNatClampNeg 0) = 81 → κ_X0_perform σ14 x1 (rfSL[2].2.2.2.getD x6.toNatClampNeg 0) 3 x4 (x5 + 1) (fun (r56 : Int32) (σ55 : rfS) => Q (r56 - 1) σ55)) ∧ (¬ (rfSL[3].2.2.2.getD ((x6 * 4) + x3).toNatClampNeg 0) = 81 → Q 0 σ14)))))))))))))))))))))))))))) ∧ (¬ (x5 ≤ 40) → Q 0 σ))))
set_option maxRecDepth 20000 in
theorem sj_X0_perform_46 {d : Nat} {E : rfE} {Q : Int32 → rfS → Prop} (X : rfX ΛC E yX0_perform cX0_perform 9 (some .int)) {κ_X0_own : rfS → Int32 → Int32 → Int32 → Int32 → (Int32 → rfS → Prop) → Prop} {κ_X0_perform : rfS → Int32 → Int32 → Int32 → Int32 → Int32 → (Int32 → rfS → Prop) → Prop} (hκ_X0_own : ∀ (σ : rfS) (x1 : Int32) (x2 : Int32) (x3 : Int32) (x4 : Int32) (Q : Int32 → rfS → Prop), κ_X0_own σ x1 x2 x3 x4 Q → RM ΛC d yX0_own cX0_own 5 (some .int) [.ref 49, .int x1, .int x2, .int x3, .int x4] σ (qi Q)) (hκ_X0_perform : ∀ (σ : rfS) (x1 : Int32) (x2 : Int32) (x3 : Int32) (x4 : Int32) (x5 : Int32) (Q : Int32 → rfS → Prop), κ_X0_perform σ x1 x2 x3 x4 x5 Q → RM ΛC d yX0_perform cX0_perform 9 (some .int) [.ref 49, .int x1, .int x2, .int x3, .int x4, .int x5] σ (qi Q)) (hB : 0 ≤ d) (x1 : Int32) (x3 : Int32) (x4 : Int32) (x5 : Int32) (x6 : Int32) (σ : rfS) (h : wj_X0_perform_46 κ_X0_own κ_X0_perform Q x1 x3 x4 x5 x6 σ) : Rf ΛC (d + 1) E 9 (qi Q) 46 [(0, .ref 49), (1, .int x1), (3, .int x3), (4, .int x4), (5, .int x5), (6, .int x6)] [] σ := by
  unfold wj_X0_perform_46 at h
  refine Rf_iload X (j := 5) rfl dX0_perform_46 rfl ?_
  refine Rf_iconst X (v := (-1)) (by decide) dX0_perform_48 rfl ?_
  refine Rf_icmp_eq X (tgt := 59) dX0_perform_49 rfl rfl (fun c58 => ?_) (fun c58 => ?_)
  · have h := h.1 c58
    refine Rf_iconst X (v := 0) rfl dX0_perform_59 rfl ?_
    exact Rf_iret X rfl dX0_perform_60 ⟨_, rfl, h⟩
  · have h := h.2 c58
    refine Rf_iload X (j := 4) rfl dX0_perform_52 rfl ?_
    refine Rf_bipush X (v := 40) rfl dX0_perform_54 rfl ?_
    refine Rf_icmp_le X (tgt := 61) dX0_perform_56 rfl rfl (fun c57 => ?_) (fun c57 => ?_)
    · have h := h.1 c57
      refine Rf_getstatic X (q := rfSL[3]) (List.getElem_mem _) lf_X0_27 dX0_perform_61 rfl ?_
      refine Rf_iload X (j := 5) rfl dX0_perform_64 rfl ?_
      refine Rf_iconst X (v := 4) rfl dX0_perform_66 rfl ?_
      refine Rf_imul X dX0_perform_67 rfl ?_
      refine Rf_iload_n X (j := 2) rfl rfl dX0_perform_68 rfl ?_
      refine Rf_iadd X dX0_perform_69 rfl ?_
      obtain ⟨s13, h⟩ := h
      refine Rf_siaload X (q := rfSL[3]) (List.getElem_mem _) s13 dX0_perform_70 rfl ?_
      refine Rf_istore X (i := 7) (Nat.le_of_ble_eq_true rfl) (ls2 := [(7, .int (rfSL[3].2.2.2.getD ((x6 * 4) + x3).toNatClampNeg 0)), (0, .ref 49), (1, .int x1), (3, .int x3), (4, .int x4), (5, .int x5), (6, .int x6)]) rfl dX0_perform_71 rfl ?_
      refine Rf_aload_n X (j := 1) rfl rfl dX0_perform_73 rfl ?_
      refine Rf_iload X (j := 0) rfl dX0_perform_74 rfl ?_
      refine Rf_cVv (as := [.int (rfSL[3].2.2.2.getD ((x6 * 4) + x3).toNatClampNeg 0)]) (st := []) X mi_X0_note lm_X0_30 rfl (Nat.le_of_ble_eq_true rfl) rfl (k_X0_note h) (by omega) rfl rfl (Nat.le_of_ble_eq_true rfl) dX0_perform_76 rfl (fun σ14 h => ?_)
      refine Rf_getstatic X (q := rfSL[2]) (List.getElem_mem _) lf_X0_20 dX0_perform_79 rfl ?_
      refine Rf_iload X (j := 6) rfl dX0_perform_82 rfl ?_
      obtain ⟨s15, h⟩ := h
      refine Rf_siaload X (q := rfSL[2]) (List.getElem_mem _) s15 dX0_perform_84 rfl ?_
      refine Rf_istore X (i := 8) (Nat.le_of_ble_eq_true rfl) (ls2 := [(8, .int (rfSL[2].2.2.2.getD x6.toNatClampNeg 0)), (7, .int (rfSL[3].2.2.2.getD ((x6 * 4) + x3).toNatClampNeg 0)), (0, .ref 49), (1, .int x1), (3, .int x3), (4, .int x4), (5, .int x5), (6, .int x6)]) rfl dX0_perform_85 rfl ?_
      refine Rf_iload X (j := 1) rfl dX0_perform_87 rfl ?_
      refine Rf_lsw X (dt := 416) [(1, 204), (2, 209), (10, 230), (11, 243), (20, 248), (30, 265), (40, 281), (41, 298), (50, 315), (60, 340), (70, 357), (80, 374), (81, 399)] dX0_perform_89 (by decide +kernel) rfl (by decide +kernel) ?_
      refine And.intro (fun c16 => ?_) (fun c16 => ?_)
      · have h := h.1 c16
        refine Rf_iload X (j := 5) rfl dX0_perform_204 rfl ?_
        refine Rf_iload_n X (j := 3) rfl rfl dX0_perform_206 rfl ?_
        refine Rf_iadd X dX0_perform_207 rfl ?_
        exact Rf_iret X rfl dX0_perform_208 ⟨_, rfl, h⟩
      · have h := h.2 c16
        refine And.intro (fun c17 => ?_) (fun c17 => ?_)
        · have h := h.1 c17
          refine Rf_aload_n X (j := 2) rfl rfl dX0_perform_209 rfl ?_
          refine Rf_iload_n X (j := 3) rfl rfl dX0_perform_210 rfl ?_
          refine Rf_iconst X (v := 1) rfl dX0_perform_211 rfl ?_
          refine Rf_iload X (j := 5) rfl dX0_perform_212 rfl ?_
          refine Rf_iload X (j := 6) rfl dX0_perform_214 rfl ?_
          refine Rf_cVi (as := [.int x1, .int 1, .int x4, .int x5]) (st := []) X mi_X0_own lm_X0_34 rfl (Nat.le_of_ble_eq_true rfl) rfl (hκ_X0_own _ _ _ _ _ _ h) (Nat.le_refl _) rfl rfl (Nat.le_of_ble_eq_true rfl) dX0_perform_216 rfl (fun r19 σ18 h => ?_)
          refine Rf_aload_n X (j := 2) rfl rfl dX0_perform_219 rfl ?_
          refine Rf_iload_n X (j := 3) rfl rfl dX0_perform_220 rfl ?_
          refine Rf_iconst X (v := 2) rfl dX0_perform_221 rfl ?_
          refine Rf_iconst X (v := 1) rfl dX0_perform_222 rfl ?_
          refine Rf_iload X (j := 6) rfl dX0_perform_223 rfl ?_
          refine Rf_cVi (as := [.int x1, .int 2, .int 1, .int x5]) (st := [.int r19]) X mi_X0_own lm_X0_34 rfl (Nat.le_of_ble_eq_true rfl) rfl (hκ_X0_own _ _ _ _ _ _ h) (Nat.le_refl _) rfl rfl (Nat.le_of_ble_eq_true rfl) dX0_perform_225 rfl (fun r21 σ20 h => ?_)
          refine Rf_isub X dX0_perform_228 rfl ?_
          exact Rf_iret X rfl dX0_perform_229 ⟨_, rfl, h⟩
        · have h := h.2 c17
          refine And.intro (fun c22 => ?_) (fun c22 => ?_)
          · have h := h.1 c22
            refine Rf_aload_n X (j := 2) rfl rfl dX0_perform_230 rfl ?_
            refine Rf_iload_n X (j := 3) rfl rfl dX0_perform_231 rfl ?_
            refine Rf_iconst X (v := 0) rfl dX0_perform_232 rfl ?_
            refine Rf_iload X (j := 5) rfl dX0_perform_233 rfl ?_
            refine Rf_iload X (j := 6) rfl dX0_perform_235 rfl ?_
            refine Rf_cVi (as := [.int x1, .int 0, .int x4, .int x5]) (st := []) X mi_X0_own lm_X0_34 rfl (Nat.le_of_ble_eq_true rfl) rfl (hκ_X0_own _ _ _ _ _ _ h) (Nat.le_refl _) rfl rfl (Nat.le_of_ble_eq_true rfl) dX0_perform_237 rfl (fun r24 σ23 h => ?_)
            refine Rf_iconst X (v := 2) rfl dX0_perform_240 rfl ?_
            refine Rf_imul X dX0_perform_241 rfl ?_
            exact Rf_iret X rfl dX0_perform_242 ⟨_, rfl, h⟩
          · have h := h.2 c22
            refine And.intro (fun c25 => ?_) (fun c25 => ?_)
            · have h := h.1 c25
              refine Rf_iload X (j := 5) rfl dX0_perform_243 rfl ?_
              refine Rf_iload_n X (j := 3) rfl rfl dX0_perform_245 rfl ?_
              refine Rf_ixor X dX0_perform_246 rfl ?_
              exact Rf_iret X rfl dX0_perform_247 ⟨_, rfl, h⟩
            · have h := h.2 c25
              refine And.intro (fun c26 => ?_) (fun c26 => ?_)
              · have h := h.1 c26
                refine Rf_aload_n X (j := 2) rfl rfl dX0_perform_248 rfl ?_
                refine Rf_iload_n X (j := 3) rfl rfl dX0_perform_249 rfl ?_
                refine Rf_iload X (j := 0) rfl dX0_perform_250 rfl ?_
                refine Rf_iconst X (v := 0) rfl dX0_perform_252 rfl ?_
                refine Rf_iload X (j := 5) rfl dX0_perform_253 rfl ?_
                refine Rf_iload X (j := 6) rfl dX0_perform_255 rfl ?_
                refine Rf_iconst X (v := 1) rfl dX0_perform_257 rfl ?_
                refine Rf_iadd X dX0_perform_258 rfl ?_
                refine Rf_cVi (as := [.int x1, .int (rfSL[2].2.2.2.getD x6.toNatClampNeg 0), .int 0, .int x4, .int (x5 + 1)]) (st := []) X mi_X0_perform lm_X0_23 rfl (Nat.le_of_ble_eq_true rfl) rfl (hκ_X0_perform _ _ _ _ _ _ _ h) (Nat.le_refl _) rfl rfl (Nat.le_of_ble_eq_true rfl) dX0_perform_259 rfl (fun r28 σ27 h => ?_)
                refine Rf_iconst X (v := 3) rfl dX0_perform_262 rfl ?_
                refine Rf_iadd X dX0_perform_263 rfl ?_
                exact Rf_iret X rfl dX0_perform_264 ⟨_, rfl, h⟩
              · have h := h.2 c26
                refine And.intro (fun c29 => ?_) (fun c29 => ?_)
                · have h := h.1 c29
                  refine Rf_aload_n X (j := 2) rfl rfl dX0_perform_265 rfl ?_
                  refine Rf_iload_n X (j := 3) rfl rfl dX0_perform_266 rfl ?_
                  refine Rf_iload X (j := 0) rfl dX0_perform_267 rfl ?_
                  refine Rf_iconst X (v := 1) rfl dX0_perform_269 rfl ?_
                  refine Rf_iload X (j := 5) rfl dX0_perform_270 rfl ?_
                  refine Rf_iload X (j := 6) rfl dX0_perform_272 rfl ?_
                  refine Rf_iconst X (v := 1) rfl dX0_perform_274 rfl ?_
                  refine Rf_iadd X dX0_perform_275 rfl ?_
                  refine Rf_cVi (as := [.int x1, .int (rfSL[2].2.2.2.getD x6.toNatClampNeg 0), .int 1, .int x4, .int (x5 + 1)]) (st := []) X mi_X0_perform lm_X0_23 rfl (Nat.le_of_ble_eq_true rfl) rfl (hκ_X0_perform _ _ _ _ _ _ _ h) (Nat.le_refl _) rfl rfl (Nat.le_of_ble_eq_true rfl) dX0_perform_276 rfl (fun r31 σ30 h => ?_)
                  refine Rf_ineg X dX0_perform_279 rfl ?_
                  exact Rf_iret X rfl dX0_perform_280 ⟨_, rfl, h⟩
                · have h := h.2 c29
                  refine And.intro (fun c32 => ?_) (fun c32 => ?_)
                  · have h := h.1 c32
                    refine Rf_aload_n X (j := 2) rfl rfl dX0_perform_281 rfl ?_
                    refine Rf_iload_n X (j := 3) rfl rfl dX0_perform_282 rfl ?_
                    refine Rf_iload X (j := 0) rfl dX0_perform_283 rfl ?_
                    refine Rf_iconst X (v := 2) rfl dX0_perform_285 rfl ?_
                    refine Rf_iload X (j := 5) rfl dX0_perform_286 rfl ?_
                    refine Rf_iload X (j := 6) rfl dX0_perform_288 rfl ?_
                    refine Rf_iconst X (v := 1) rfl dX0_perform_290 rfl ?_
                    refine Rf_iadd X dX0_perform_291 rfl ?_
                    refine Rf_cVi (as := [.int x1, .int (rfSL[2].2.2.2.getD x6.toNatClampNeg 0), .int 2, .int x4, .int (x5 + 1)]) (st := []) X mi_X0_perform lm_X0_23 rfl (Nat.le_of_ble_eq_true rfl) rfl (hκ_X0_perform _ _ _ _ _ _ _ h) (Nat.le_refl _) rfl rfl (Nat.le_of_ble_eq_true rfl) dX0_perform_292 rfl (fun r34 σ33 h => ?_)
                    refine Rf_iconst X (v := 3) rfl dX0_perform_295 rfl ?_
                    refine Rf_imul X dX0_perform_296 rfl ?_
                    exact Rf_iret X rfl dX0_perform_297 ⟨_, rfl, h⟩
                  · have h := h.2 c32
                    refine And.intro (fun c35 => ?_) (fun c35 => ?_)
                    · have h := h.1 c35
                      refine Rf_aload_n X (j := 2) rfl rfl dX0_perform_298 rfl ?_
                      refine Rf_iload_n X (j := 3) rfl rfl dX0_perform_299 rfl ?_
                      refine Rf_iload X (j := 0) rfl dX0_perform_300 rfl ?_
                      refine Rf_iconst X (v := 1) rfl dX0_perform_302 rfl ?_
                      refine Rf_iload X (j := 5) rfl dX0_perform_303 rfl ?_
                      refine Rf_iconst X (v := 1) rfl dX0_perform_305 rfl ?_
                      refine Rf_iadd X dX0_perform_306 rfl ?_
                      refine Rf_iload X (j := 6) rfl dX0_perform_307 rfl ?_
                      refine Rf_iconst X (v := 1) rfl dX0_perform_309 rfl ?_
                      refine Rf_iadd X dX0_perform_310 rfl ?_
                      refine Rf_cVi (as := [.int x1, .int (rfSL[2].2.2.2.getD x6.toNatClampNeg 0), .int 1, .int (x4 + 1), .int (x5 + 1)]) (st := []) X mi_X0_perform lm_X0_23 rfl (Nat.le_of_ble_eq_true rfl) rfl (hκ_X0_perform _ _ _ _ _ _ _ h) (Nat.le_refl _) rfl rfl (Nat.le_of_ble_eq_true rfl) dX0_perform_311 rfl (fun r37 σ36 h => ?_)
                      exact Rf_iret X rfl dX0_perform_314 ⟨_, rfl, h⟩
                    · have h := h.2 c35
                      refine And.intro (fun c38 => ?_) (fun c38 => ?_)
                      · have h := h.1 c38
                        refine Rf_aload_n X (j := 2) rfl rfl dX0_perform_315 rfl ?_
                        refine Rf_iload_n X (j := 3) rfl rfl dX0_perform_316 rfl ?_
                        refine Rf_iload X (j := 0) rfl dX0_perform_317 rfl ?_
                        refine Rf_iconst X (v := 2) rfl dX0_perform_319 rfl ?_
                        refine Rf_iload X (j := 5) rfl dX0_perform_320 rfl ?_
                        refine Rf_iload X (j := 6) rfl dX0_perform_322 rfl ?_
                        refine Rf_iconst X (v := 1) rfl dX0_perform_324 rfl ?_
                        refine Rf_iadd X dX0_perform_325 rfl ?_
                        refine Rf_cVi (as := [.int x1, .int (rfSL[2].2.2.2.getD x6.toNatClampNeg 0), .int 2, .int x4, .int (x5 + 1)]) (st := []) X mi_X0_perform lm_X0_23 rfl (Nat.le_of_ble_eq_true rfl) rfl (hκ_X0_perform _ _ _ _ _ _ _ h) (Nat.le_refl _) rfl rfl (Nat.le_of_ble_eq_true rfl) dX0_perform_326 rfl (fun r40 σ39 h => ?_)
                        refine Rf_aload_n X (j := 2) rfl rfl dX0_perform_329 rfl ?_
                        refine Rf_iload_n X (j := 3) rfl rfl dX0_perform_330 rfl ?_
                        refine Rf_iconst X (v := 0) rfl dX0_perform_331 rfl ?_
                        refine Rf_iconst X (v := 2) rfl dX0_perform_332 rfl ?_
                        refine Rf_iload X (j := 6) rfl dX0_perform_333 rfl ?_
                        refine Rf_cVi (as := [.int x1, .int 0, .int 2, .int x5]) (st := [.int r40]) X mi_X0_own lm_X0_34 rfl (Nat.le_of_ble_eq_true rfl) rfl (hκ_X0_own _ _ _ _ _ _ h) (Nat.le_refl _) rfl rfl (Nat.le_of_ble_eq_true rfl) dX0_perform_335 rfl (fun r42 σ41 h => ?_)
                        refine Rf_isub X dX0_perform_338 rfl ?_
                        exact Rf_iret X rfl dX0_perform_339 ⟨_, rfl, h⟩
                      · have h := h.2 c38
                        refine And.intro (fun c43 => ?_) (fun c43 => ?_)
                        · have h := h.1 c43
                          refine Rf_aload_n X (j := 2) rfl rfl dX0_perform_340 rfl ?_
                          refine Rf_iload_n X (j := 3) rfl rfl dX0_perform_341 rfl ?_
                          refine Rf_iload X (j := 0) rfl dX0_perform_342 rfl ?_
                          refine Rf_iconst X (v := 3) rfl dX0_perform_344 rfl ?_
                          refine Rf_iload X (j := 5) rfl dX0_perform_345 rfl ?_
                          refine Rf_iload X (j := 6) rfl dX0_perform_347 rfl ?_
                          refine Rf_iconst X (v := 1) rfl dX0_perform_349 rfl ?_
                          refine Rf_iadd X dX0_perform_350 rfl ?_
                          refine Rf_cVi (as := [.int x1, .int (rfSL[2].2.2.2.getD x6.toNatClampNeg 0), .int 3, .int x4, .int (x5 + 1)]) (st := []) X mi_X0_perform lm_X0_23 rfl (Nat.le_of_ble_eq_true rfl) rfl (hκ_X0_perform _ _ _ _ _ _ _ h) (Nat.le_refl _) rfl rfl (Nat.le_of_ble_eq_true rfl) dX0_perform_351 rfl (fun r45 σ44 h => ?_)
                          refine Rf_iconst X (v := 5) rfl dX0_perform_354 rfl ?_
                          refine Rf_ixor X dX0_perform_355 rfl ?_
                          exact Rf_iret X rfl dX0_perform_356 ⟨_, rfl, h⟩
                        · have h := h.2 c43
                          refine And.intro (fun c46 => ?_) (fun c46 => ?_)
                          · have h := h.1 c46
                            refine Rf_aload_n X (j := 2) rfl rfl dX0_perform_357 rfl ?_
                            refine Rf_iload_n X (j := 3) rfl rfl dX0_perform_358 rfl ?_
                            refine Rf_iload X (j := 0) rfl dX0_perform_359 rfl ?_
                            refine Rf_iconst X (v := 0) rfl dX0_perform_361 rfl ?_
                            refine Rf_iload X (j := 5) rfl dX0_perform_362 rfl ?_
                            refine Rf_iload X (j := 6) rfl dX0_perform_364 rfl ?_
                            refine Rf_iconst X (v := 1) rfl dX0_perform_366 rfl ?_
                            refine Rf_iadd X dX0_perform_367 rfl ?_
                            refine Rf_cVi (as := [.int x1, .int (rfSL[2].2.2.2.getD x6.toNatClampNeg 0), .int 0, .int x4, .int (x5 + 1)]) (st := []) X mi_X0_perform lm_X0_23 rfl (Nat.le_of_ble_eq_true rfl) rfl (hκ_X0_perform _ _ _ _ _ _ _ h) (Nat.le_refl _) rfl rfl (Nat.le_of_ble_eq_true rfl) dX0_perform_368 rfl (fun r48 σ47 h => ?_)
                            refine Rf_iconst X (v := 2) rfl dX0_perform_371 rfl ?_
                            refine Rf_imul X dX0_perform_372 rfl ?_
                            exact Rf_iret X rfl dX0_perform_373 ⟨_, rfl, h⟩
                          · have h := h.2 c46
                            refine And.intro (fun c49 => ?_) (fun c49 => ?_)
                            · have h := h.1 c49
                              refine Rf_aload_n X (j := 2) rfl rfl dX0_perform_374 rfl ?_
                              refine Rf_iload_n X (j := 3) rfl rfl dX0_perform_375 rfl ?_
                              refine Rf_iload X (j := 0) rfl dX0_perform_376 rfl ?_
                              refine Rf_iconst X (v := 1) rfl dX0_perform_378 rfl ?_
                              refine Rf_iload X (j := 5) rfl dX0_perform_379 rfl ?_
                              refine Rf_iload X (j := 6) rfl dX0_perform_381 rfl ?_
                              refine Rf_iconst X (v := 1) rfl dX0_perform_383 rfl ?_
                              refine Rf_iadd X dX0_perform_384 rfl ?_
                              refine Rf_cVi (as := [.int x1, .int (rfSL[2].2.2.2.getD x6.toNatClampNeg 0), .int 1, .int x4, .int (x5 + 1)]) (st := []) X mi_X0_perform lm_X0_23 rfl (Nat.le_of_ble_eq_true rfl) rfl (hκ_X0_perform _ _ _ _ _ _ _ h) (Nat.le_refl _) rfl rfl (Nat.le_of_ble_eq_true rfl) dX0_perform_385 rfl (fun r51 σ50 h => ?_)
                              refine Rf_aload_n X (j := 2) rfl rfl dX0_perform_388 rfl ?_
                              refine Rf_iload_n X (j := 3) rfl rfl dX0_perform_389 rfl ?_
                              refine Rf_iconst X (v := 2) rfl dX0_perform_390 rfl ?_
                              refine Rf_iconst X (v := 2) rfl dX0_perform_391 rfl ?_
                              refine Rf_iload X (j := 6) rfl dX0_perform_392 rfl ?_
                              refine Rf_cVi (as := [.int x1, .int 2, .int 2, .int x5]) (st := [.int r51]) X mi_X0_own lm_X0_34 rfl (Nat.le_of_ble_eq_true rfl) rfl (hκ_X0_own _ _ _ _ _ _ h) (Nat.le_refl _) rfl rfl (Nat.le_of_ble_eq_true rfl) dX0_perform_394 rfl (fun r53 σ52 h => ?_)
                              refine Rf_iadd X dX0_perform_397 rfl ?_
                              exact Rf_iret X rfl dX0_perform_398 ⟨_, rfl, h⟩
                            · have h := h.2 c49
                              refine And.intro (fun c54 => ?_) (fun c54 => ?_)
                              · have h := h.1 c54
                                refine Rf_aload_n X (j := 2) rfl rfl dX0_perform_399 rfl ?_
                                refine Rf_iload_n X (j := 3) rfl rfl dX0_perform_400 rfl ?_
                                refine Rf_iload X (j := 0) rfl dX0_perform_401 rfl ?_
                                refine Rf_iconst X (v := 3) rfl dX0_perform_403 rfl ?_
                                refine Rf_iload X (j := 5) rfl dX0_perform_404 rfl ?_
                                refine Rf_iload X (j := 6) rfl dX0_perform_406 rfl ?_
                                refine Rf_iconst X (v := 1) rfl dX0_perform_408 rfl ?_
                                refine Rf_iadd X dX0_perform_409 rfl ?_
                                refine Rf_cVi (as := [.int x1, .int (rfSL[2].2.2.2.getD x6.toNatClampNeg 0), .int 3, .int x4, .int (x5 + 1)]) (st := []) X mi_X0_perform lm_X0_23 rfl (Nat.le_of_ble_eq_true rfl) rfl (hκ_X0_perform _ _ _ _ _ _ _ h) (Nat.le_refl _) rfl rfl (Nat.le_of_ble_eq_true rfl) dX0_perform_410 rfl (fun r56 σ55 h => ?_)
                                refine Rf_iconst X (v := 1) rfl dX0_perform_413 rfl ?_
                                refine Rf_isub X dX0_perform_414 rfl ?_
                                exact Rf_iret X rfl dX0_perform_415 ⟨_, rfl, h⟩
                              · have h := h.2 c54
                                show Rf ΛC (d + 1) E 9 (qi Q) 416 [(8, .int (rfSL[2].2.2.2.getD x6.toNatClampNeg 0)), (7, .int (rfSL[3].2.2.2.getD ((x6 * 4) + x3).toNatClampNeg 0)), (0, .ref 49), (1, .int x1), (3, .int x3), (4, .int x4), (5, .int x5), (6, .int x6)] [] σ14
                                refine Rf_iconst X (v := 0) rfl dX0_perform_416 rfl ?_
                                exact Rf_iret X rfl dX0_perform_417 ⟨_, rfl, h⟩
    · have h := h.2 c57
      refine Rf_iconst X (v := 0) rfl dX0_perform_59 rfl ?_
      exact Rf_iret X rfl dX0_perform_60 ⟨_, rfl, h⟩
def wp_X0_perform (κ_X0_own : rfS → Int32 → Int32 → Int32 → Int32 → (Int32 → rfS → Prop) → Prop) (κ_X0_perform : rfS → Int32 → Int32 → Int32 → Int32 → Int32 → (Int32 → rfS → Prop) → Prop) (σ : rfS) (x1 : Int32) (x2 : Int32) (x3 : Int32) (x4 : Int32) (x5 : Int32) (Q : Int32 → rfS → Prop) : Prop :=
  (∃ n6, wl_X0_perform_6 κ_X0_own κ_X0_perform Q (fun (x1_7 : Int32) (x3_8 : Int32) (x4_9 : Int32) (x5_10 : Int32) (x6_11 : Int32) (σ12 : rfS) => wj_X0_perform_46 κ_X0_own κ_X0_perform Q x1_7 x3_8 x4_9 x5_10 x6_11 σ12) n6 x1 x3 x4 x5 x2 0 σ)
set_option maxRecDepth 20000 in
theorem k_X0_perform {d : Nat} {κ_X0_own : rfS → Int32 → Int32 → Int32 → Int32 → (Int32 → rfS → Prop) → Prop} {κ_X0_perform : rfS → Int32 → Int32 → Int32 → Int32 → Int32 → (Int32 → rfS → Prop) → Prop} (hκ_X0_own : ∀ (σ : rfS) (x1 : Int32) (x2 : Int32) (x3 : Int32) (x4 : Int32) (Q : Int32 → rfS → Prop), κ_X0_own σ x1 x2 x3 x4 Q → RM ΛC d yX0_own cX0_own 5 (some .int) [.ref 49, .int x1, .int x2, .int x3, .int x4] σ (qi Q)) (hκ_X0_perform : ∀ (σ : rfS) (x1 : Int32) (x2 : Int32) (x3 : Int32) (x4 : Int32) (x5 : Int32) (Q : Int32 → rfS → Prop), κ_X0_perform σ x1 x2 x3 x4 x5 Q → RM ΛC d yX0_perform cX0_perform 9 (some .int) [.ref 49, .int x1, .int x2, .int x3, .int x4, .int x5] σ (qi Q)) (hB : 0 ≤ d) {σ : rfS} {x1 : Int32} {x2 : Int32} {x3 : Int32} {x4 : Int32} {x5 : Int32} {Q : Int32 → rfS → Prop} (h : wp_X0_perform κ_X0_own κ_X0_perform σ x1 x2 x3 x4 x5 Q) : RM ΛC (d + 1) yX0_perform cX0_perform 9 (some .int) [.ref 49, .int x1, .int x2, .int x3, .int x4, .int x5] σ (qi Q) := by
  unfold wp_X0_perform at h
  refine RM.intro (by decide) (Nat.le_of_ble_eq_true rfl) (fun E X => ?_)
  show Rf ΛC (d + 1) E 9 (qi Q) 0 [(0, .ref 49), (1, .int x1), (2, .int x2), (3, .int x3), (4, .int x4), (5, .int x5)] [] σ
  refine Rf_iload_n X (j := 2) rfl rfl dX0_perform_0 rfl ?_
  refine Rf_istore X (i := 6) (Nat.le_of_ble_eq_true rfl) (ls2 := [(6, .int x2), (0, .ref 49), (1, .int x1), (2, .int x2), (3, .int x3), (4, .int x4), (5, .int x5)]) rfl dX0_perform_1 rfl ?_
  refine Rf_iconst X (v := 0) rfl dX0_perform_3 rfl ?_
  refine Rf_istore X (i := 7) (Nat.le_of_ble_eq_true rfl) (ls2 := [(7, .int 0), (6, .int x2), (0, .ref 49), (1, .int x1), (2, .int x2), (3, .int x3), (4, .int x4), (5, .int x5)]) rfl dX0_perform_4 rfl ?_
  obtain ⟨n6, h⟩ := h
  refine Rf_sub [2, 3, 5, 6, 7, 1, 0] rfl ?_
  refine sl_X0_perform_6 X hκ_X0_own hκ_X0_perform hB (fun x1_7 x3_8 x4_9 x5_10 x6_11 σ12 h => ?_) n6 _ _ _ _ _ _ _ h
  · exact sj_X0_perform_46 X hκ_X0_own hκ_X0_perform hB _ _ _ _ _ _ h
def wp_X0_run (κ_X0_perform : rfS → Int32 → Int32 → Int32 → Int32 → Int32 → (Int32 → rfS → Prop) → Prop) (σ : rfS) (x1 : Int32) (x2 : Int32) (x3 : Int32) (Q : Int32 → rfS → Prop) : Prop :=
  vp_in x1 50 ∧ κ_X0_perform σ x1 (gF σ 50 (x1.toNatClampNeg)) x2 x3 0 (fun (r3 : Int32) (σ2 : rfS) => Q r3 σ2)
set_option maxRecDepth 20000 in
theorem k_X0_run {d : Nat} {κ_X0_perform : rfS → Int32 → Int32 → Int32 → Int32 → Int32 → (Int32 → rfS → Prop) → Prop} (hκ_X0_perform : ∀ (σ : rfS) (x1 : Int32) (x2 : Int32) (x3 : Int32) (x4 : Int32) (x5 : Int32) (Q : Int32 → rfS → Prop), κ_X0_perform σ x1 x2 x3 x4 x5 Q → RM ΛC d yX0_perform cX0_perform 9 (some .int) [.ref 49, .int x1, .int x2, .int x3, .int x4, .int x5] σ (qi Q)) (hB : 0 ≤ d) {σ : rfS} {x1 : Int32} {x2 : Int32} {x3 : Int32} {Q : Int32 → rfS → Prop} (h : wp_X0_run κ_X0_perform σ x1 x2 x3 Q) : RM ΛC (d + 1) yX0_run cX0_run 4 (some .int) [.ref 49, .int x1, .int x2, .int x3] σ (qi Q) := by
  unfold wp_X0_run at h
  refine RM.intro (by decide) (Nat.le_of_ble_eq_true rfl) (fun E X => ?_)
  show Rf ΛC (d + 1) E 4 (qi Q) 0 [(0, .ref 49), (1, .int x1), (2, .int x2), (3, .int x3)] [] σ
  refine Rf_aload_n X (j := 0) rfl rfl dX0_run_0 rfl ?_
  refine Rf_iload_n X (j := 1) rfl rfl dX0_run_1 rfl ?_
  refine Rf_aload_n X (j := 0) rfl rfl dX0_run_2 rfl ?_
  refine Rf_get X kc0 (Nat.le_of_ble_eq_true rfl) rfl (j := 0) (Nat.le_of_ble_eq_true rfl) lf_X0_9 (v := .ref 50) rfl dX0_run_3 rfl ?_
  refine Rf_iload_n X (j := 1) rfl rfl dX0_run_6 rfl ?_
  obtain ⟨s1, h⟩ := h
  refine Rf_iaload X (Nat.le_of_ble_eq_true rfl) rfl rfl s1 dX0_run_7 rfl (v := gF σ 50 (x1.toNatClampNeg)) rfl ?_
  refine Rf_iload_n X (j := 2) rfl rfl dX0_run_8 rfl ?_
  refine Rf_iload_n X (j := 3) rfl rfl dX0_run_9 rfl ?_
  refine Rf_iconst X (v := 0) rfl dX0_run_10 rfl ?_
  refine Rf_cVi (as := [.int x1, .int (gF σ 50 (x1.toNatClampNeg)), .int x2, .int x3, .int 0]) (st := []) X mi_X0_perform lm_X0_23 rfl (Nat.le_of_ble_eq_true rfl) rfl (hκ_X0_perform _ _ _ _ _ _ _ h) (Nat.le_refl _) rfl rfl (Nat.le_of_ble_eq_true rfl) dX0_run_11 rfl (fun r3 σ2 h => ?_)
  exact Rf_iret X rfl dX0_run_14 ⟨_, rfl, h⟩
def wp_X1_dropOldest (σ : rfS) (Q : rfS → Prop) : Prop :=
  Q (sI (cF (cF (cF (cF σ 45 45 1 0 39) 46 46 1 0 39) 47 47 1 0 39) 48 48 1 0 39) 44 4 39)
set_option maxRecDepth 20000 in
theorem k_X1_dropOldest {σ : rfS} {Q : rfS → Prop} (h : wp_X1_dropOldest σ Q) : RM ΛC 1 yX1_dropOldest cX1_dropOldest 1 none [.ref 44] σ (qv Q) := by
  unfold wp_X1_dropOldest at h
  refine RM.intro (by decide) (Nat.le_of_ble_eq_true rfl) (fun E X => ?_)
  show Rf ΛC 1 E 1 (qv Q) 0 [(0, .ref 44)] [] σ
  refine Rf_aload_n X (j := 0) rfl rfl dX1_dropOldest_0 rfl ?_
  refine Rf_get X kc1 (Nat.le_of_ble_eq_true rfl) rfl (j := 0) (Nat.le_of_ble_eq_true rfl) lf_X1_9 (v := .ref 45) rfl dX1_dropOldest_1 rfl ?_
  refine Rf_iconst X (v := 1) rfl dX1_dropOldest_4 rfl ?_
  refine Rf_aload_n X (j := 0) rfl rfl dX1_dropOldest_5 rfl ?_
  refine Rf_get X kc1 (Nat.le_of_ble_eq_true rfl) rfl (j := 0) (Nat.le_of_ble_eq_true rfl) lf_X1_9 (v := .ref 45) rfl dX1_dropOldest_6 rfl ?_
  refine Rf_iconst X (v := 0) rfl dX1_dropOldest_9 rfl ?_
  refine Rf_bipush X (v := 39) rfl dX1_dropOldest_10 rfl ?_
  refine Rf_copyi X (sp := 1) (dp := 0) (n := 39) lm_X1_34 mm_copy.1 mm_copy.2.1 mm_copy.2.2 (Nat.le_of_ble_eq_true rfl) rfl rfl (Nat.le_of_ble_eq_true rfl) rfl rfl (by decide) (by decide) (by decide) (by decide) (by decide) (Nat.le_of_ble_eq_true rfl) (Nat.le_of_ble_eq_true rfl) dX1_dropOldest_12 rfl ?_
  refine Rf_aload_n X (j := 0) rfl rfl dX1_dropOldest_15 rfl ?_
  refine Rf_get X kc1 (Nat.le_of_ble_eq_true rfl) rfl (j := 1) (Nat.le_of_ble_eq_true rfl) lf_X1_15 (v := .ref 46) rfl dX1_dropOldest_16 rfl ?_
  refine Rf_iconst X (v := 1) rfl dX1_dropOldest_19 rfl ?_
  refine Rf_aload_n X (j := 0) rfl rfl dX1_dropOldest_20 rfl ?_
  refine Rf_get X kc1 (Nat.le_of_ble_eq_true rfl) rfl (j := 1) (Nat.le_of_ble_eq_true rfl) lf_X1_15 (v := .ref 46) rfl dX1_dropOldest_21 rfl ?_
  refine Rf_iconst X (v := 0) rfl dX1_dropOldest_24 rfl ?_
  refine Rf_bipush X (v := 39) rfl dX1_dropOldest_25 rfl ?_
  refine Rf_copyi X (sp := 1) (dp := 0) (n := 39) lm_X1_34 mm_copy.1 mm_copy.2.1 mm_copy.2.2 (Nat.le_of_ble_eq_true rfl) rfl rfl (Nat.le_of_ble_eq_true rfl) rfl rfl (by decide) (by decide) (by decide) (by decide) (by decide) (Nat.le_of_ble_eq_true rfl) (Nat.le_of_ble_eq_true rfl) dX1_dropOldest_27 rfl ?_
  refine Rf_aload_n X (j := 0) rfl rfl dX1_dropOldest_30 rfl ?_
  refine Rf_get X kc1 (Nat.le_of_ble_eq_true rfl) rfl (j := 2) (Nat.le_of_ble_eq_true rfl) lf_X1_18 (v := .ref 47) rfl dX1_dropOldest_31 rfl ?_
  refine Rf_iconst X (v := 1) rfl dX1_dropOldest_34 rfl ?_
  refine Rf_aload_n X (j := 0) rfl rfl dX1_dropOldest_35 rfl ?_
  refine Rf_get X kc1 (Nat.le_of_ble_eq_true rfl) rfl (j := 2) (Nat.le_of_ble_eq_true rfl) lf_X1_18 (v := .ref 47) rfl dX1_dropOldest_36 rfl ?_
  refine Rf_iconst X (v := 0) rfl dX1_dropOldest_39 rfl ?_
  refine Rf_bipush X (v := 39) rfl dX1_dropOldest_40 rfl ?_
  refine Rf_copyi X (sp := 1) (dp := 0) (n := 39) lm_X1_34 mm_copy.1 mm_copy.2.1 mm_copy.2.2 (Nat.le_of_ble_eq_true rfl) rfl rfl (Nat.le_of_ble_eq_true rfl) rfl rfl (by decide) (by decide) (by decide) (by decide) (by decide) (Nat.le_of_ble_eq_true rfl) (Nat.le_of_ble_eq_true rfl) dX1_dropOldest_42 rfl ?_
  refine Rf_aload_n X (j := 0) rfl rfl dX1_dropOldest_45 rfl ?_
  refine Rf_get X kc1 (Nat.le_of_ble_eq_true rfl) rfl (j := 3) (Nat.le_of_ble_eq_true rfl) lf_X1_21 (v := .ref 48) rfl dX1_dropOldest_46 rfl ?_
  refine Rf_iconst X (v := 1) rfl dX1_dropOldest_49 rfl ?_
  refine Rf_aload_n X (j := 0) rfl rfl dX1_dropOldest_50 rfl ?_
  refine Rf_get X kc1 (Nat.le_of_ble_eq_true rfl) rfl (j := 3) (Nat.le_of_ble_eq_true rfl) lf_X1_21 (v := .ref 48) rfl dX1_dropOldest_51 rfl ?_
  refine Rf_iconst X (v := 0) rfl dX1_dropOldest_54 rfl ?_
  refine Rf_bipush X (v := 39) rfl dX1_dropOldest_55 rfl ?_
  refine Rf_copyi X (sp := 1) (dp := 0) (n := 39) lm_X1_34 mm_copy.1 mm_copy.2.1 mm_copy.2.2 (Nat.le_of_ble_eq_true rfl) rfl rfl (Nat.le_of_ble_eq_true rfl) rfl rfl (by decide) (by decide) (by decide) (by decide) (by decide) (Nat.le_of_ble_eq_true rfl) (Nat.le_of_ble_eq_true rfl) dX1_dropOldest_57 rfl ?_
  refine Rf_aload_n X (j := 0) rfl rfl dX1_dropOldest_60 rfl ?_
  refine Rf_bipush X (v := 39) rfl dX1_dropOldest_61 rfl ?_
  refine Rf_put X kc1 (Nat.le_of_ble_eq_true rfl) rfl (j := 4) (Nat.le_of_ble_eq_true rfl) rfl lf_X1_24 rfl rfl rfl dX1_dropOldest_63 rfl ?_
  exact Rf_vret X dX1_dropOldest_66 ⟨rfl, h⟩
def wj_X1_add_13 (Q : rfS → Prop) (x1 : Int32) (x2 : Int32) (x3 : Int32) (x4 : Int32) (σ : rfS) : Prop :=
  vp_in (gI σ 44 4) 40 ∧ vp_in (gI σ 44 4) 40 ∧ vp_in (gI σ 44 4) 40 ∧ vp_in (gI σ 44 4) 40 ∧ Q (sI (sI (sF (sF (sF (sF σ 45 ((gI σ 44 4).toNatClampNeg) x1) 46 ((gI σ 44 4).toNatClampNeg) x2) 47 ((gI σ 44 4).toNatClampNeg) x3) 48 ((gI σ 44 4).toNatClampNeg) x4) 44 4 ((gI σ 44 4) + 1)) 44 5 ((gI σ 44 4) + 1))
set_option maxRecDepth 20000 in
theorem sj_X1_add_13 {E : rfE} {Q : rfS → Prop} (X : rfX ΛC E yX1_add cX1_add 5 none) (x1 : Int32) (x2 : Int32) (x3 : Int32) (x4 : Int32) (σ : rfS) (h : wj_X1_add_13 Q x1 x2 x3 x4 σ) : Rf ΛC 2 E 5 (qv Q) 13 [(0, .ref 44), (1, .int x1), (2, .int x2), (3, .int x3), (4, .int x4)] [] σ := by
  unfold wj_X1_add_13 at h
  refine Rf_aload_n X (j := 0) rfl rfl dX1_add_13 rfl ?_
  refine Rf_get X kc1 (Nat.le_of_ble_eq_true rfl) rfl (j := 0) (Nat.le_of_ble_eq_true rfl) lf_X1_9 (v := .ref 45) rfl dX1_add_14 rfl ?_
  refine Rf_aload_n X (j := 0) rfl rfl dX1_add_17 rfl ?_
  refine Rf_get X kc1 (Nat.le_of_ble_eq_true rfl) rfl (j := 4) (Nat.le_of_ble_eq_true rfl) lf_X1_24 (v := .int (gI σ 44 4)) rfl dX1_add_18 rfl ?_
  refine Rf_iload_n X (j := 1) rfl rfl dX1_add_21 rfl ?_
  obtain ⟨s1, h⟩ := h
  refine Rf_iastore X (Nat.le_of_ble_eq_true rfl) rfl rfl s1 dX1_add_22 rfl ?_
  refine Rf_aload_n X (j := 0) rfl rfl dX1_add_23 rfl ?_
  refine Rf_get X kc1 (Nat.le_of_ble_eq_true rfl) rfl (j := 1) (Nat.le_of_ble_eq_true rfl) lf_X1_15 (v := .ref 46) rfl dX1_add_24 rfl ?_
  refine Rf_aload_n X (j := 0) rfl rfl dX1_add_27 rfl ?_
  refine Rf_get X kc1 (Nat.le_of_ble_eq_true rfl) rfl (j := 4) (Nat.le_of_ble_eq_true rfl) lf_X1_24 (v := .int (gI σ 44 4)) (congrArg Value.int (show gI (sF σ 45 ((gI σ 44 4).toNatClampNeg) x1) 44 4 = gI σ 44 4 from gI_sF _ _ _ _ _ _)) dX1_add_28 rfl ?_
  refine Rf_iload_n X (j := 2) rfl rfl dX1_add_31 rfl ?_
  obtain ⟨s2, h⟩ := h
  refine Rf_iastore X (Nat.le_of_ble_eq_true rfl) rfl rfl s2 dX1_add_32 rfl ?_
  refine Rf_aload_n X (j := 0) rfl rfl dX1_add_33 rfl ?_
  refine Rf_get X kc1 (Nat.le_of_ble_eq_true rfl) rfl (j := 2) (Nat.le_of_ble_eq_true rfl) lf_X1_18 (v := .ref 47) rfl dX1_add_34 rfl ?_
  refine Rf_aload_n X (j := 0) rfl rfl dX1_add_37 rfl ?_
  refine Rf_get X kc1 (Nat.le_of_ble_eq_true rfl) rfl (j := 4) (Nat.le_of_ble_eq_true rfl) lf_X1_24 (v := .int (gI σ 44 4)) (congrArg Value.int (show gI (sF (sF σ 45 ((gI σ 44 4).toNatClampNeg) x1) 46 ((gI σ 44 4).toNatClampNeg) x2) 44 4 = gI σ 44 4 from (gI_sF _ _ _ _ _ _).trans (gI_sF _ _ _ _ _ _))) dX1_add_38 rfl ?_
  refine Rf_iload_n X (j := 3) rfl rfl dX1_add_41 rfl ?_
  obtain ⟨s3, h⟩ := h
  refine Rf_iastore X (Nat.le_of_ble_eq_true rfl) rfl rfl s3 dX1_add_42 rfl ?_
  refine Rf_aload_n X (j := 0) rfl rfl dX1_add_43 rfl ?_
  refine Rf_get X kc1 (Nat.le_of_ble_eq_true rfl) rfl (j := 3) (Nat.le_of_ble_eq_true rfl) lf_X1_21 (v := .ref 48) rfl dX1_add_44 rfl ?_
  refine Rf_aload_n X (j := 0) rfl rfl dX1_add_47 rfl ?_
  refine Rf_get X kc1 (Nat.le_of_ble_eq_true rfl) rfl (j := 4) (Nat.le_of_ble_eq_true rfl) lf_X1_24 (v := .int (gI σ 44 4)) (congrArg Value.int (show gI (sF (sF (sF σ 45 ((gI σ 44 4).toNatClampNeg) x1) 46 ((gI σ 44 4).toNatClampNeg) x2) 47 ((gI σ 44 4).toNatClampNeg) x3) 44 4 = gI σ 44 4 from (gI_sF _ _ _ _ _ _).trans ((gI_sF _ _ _ _ _ _).trans (gI_sF _ _ _ _ _ _)))) dX1_add_48 rfl ?_
  refine Rf_iload X (j := 4) rfl dX1_add_51 rfl ?_
  obtain ⟨s4, h⟩ := h
  refine Rf_iastore X (Nat.le_of_ble_eq_true rfl) rfl rfl s4 dX1_add_53 rfl ?_
  refine Rf_aload_n X (j := 0) rfl rfl dX1_add_54 rfl ?_
  refine Rf_dup X rfl dX1_add_55 rfl ?_
  refine Rf_get X kc1 (Nat.le_of_ble_eq_true rfl) rfl (j := 4) (Nat.le_of_ble_eq_true rfl) lf_X1_24 (v := .int (gI σ 44 4)) (congrArg Value.int (show gI (sF (sF (sF (sF σ 45 ((gI σ 44 4).toNatClampNeg) x1) 46 ((gI σ 44 4).toNatClampNeg) x2) 47 ((gI σ 44 4).toNatClampNeg) x3) 48 ((gI σ 44 4).toNatClampNeg) x4) 44 4 = gI σ 44 4 from (gI_sF _ _ _ _ _ _).trans ((gI_sF _ _ _ _ _ _).trans ((gI_sF _ _ _ _ _ _).trans (gI_sF _ _ _ _ _ _))))) dX1_add_56 rfl ?_
  refine Rf_iconst X (v := 1) rfl dX1_add_59 rfl ?_
  refine Rf_iadd X dX1_add_60 rfl ?_
  refine Rf_put X kc1 (Nat.le_of_ble_eq_true rfl) rfl (j := 4) (Nat.le_of_ble_eq_true rfl) rfl lf_X1_24 rfl rfl rfl dX1_add_61 rfl ?_
  refine Rf_aload_n X (j := 0) rfl rfl dX1_add_64 rfl ?_
  refine Rf_aload_n X (j := 0) rfl rfl dX1_add_65 rfl ?_
  refine Rf_get X kc1 (Nat.le_of_ble_eq_true rfl) rfl (j := 4) (Nat.le_of_ble_eq_true rfl) lf_X1_24 (v := .int ((gI σ 44 4) + 1)) (congrArg Value.int (show gI (sI (sF (sF (sF (sF σ 45 ((gI σ 44 4).toNatClampNeg) x1) 46 ((gI σ 44 4).toNatClampNeg) x2) 47 ((gI σ 44 4).toNatClampNeg) x3) 48 ((gI σ 44 4).toNatClampNeg) x4) 44 4 ((gI σ 44 4) + 1)) 44 4 = (gI σ 44 4) + 1 from gI_sIs)) dX1_add_66 rfl ?_
  refine Rf_put X kc1 (Nat.le_of_ble_eq_true rfl) rfl (j := 5) (Nat.le_of_ble_eq_true rfl) rfl lf_X1_31 rfl rfl rfl dX1_add_69 rfl ?_
  exact Rf_vret X dX1_add_72 ⟨rfl, h⟩
def wp_X1_add (σ : rfS) (x1 : Int32) (x2 : Int32) (x3 : Int32) (x4 : Int32) (Q : rfS → Prop) : Prop :=
  ((¬ (gI σ 44 4) = 40 → wj_X1_add_13 Q x1 x2 x3 x4 σ) ∧ ((gI σ 44 4) = 40 → wp_X1_dropOldest σ (fun (σ5 : rfS) => wj_X1_add_13 Q x1 x2 x3 x4 σ5)))
set_option maxRecDepth 20000 in
theorem k_X1_add {σ : rfS} {x1 : Int32} {x2 : Int32} {x3 : Int32} {x4 : Int32} {Q : rfS → Prop} (h : wp_X1_add σ x1 x2 x3 x4 Q) : RM ΛC 2 yX1_add cX1_add 5 none [.ref 44, .int x1, .int x2, .int x3, .int x4] σ (qv Q) := by
  unfold wp_X1_add at h
  refine RM.intro (by decide) (Nat.le_of_ble_eq_true rfl) (fun E X => ?_)
  show Rf ΛC 2 E 5 (qv Q) 0 [(0, .ref 44), (1, .int x1), (2, .int x2), (3, .int x3), (4, .int x4)] [] σ
  refine Rf_aload_n X (j := 0) rfl rfl dX1_add_0 rfl ?_
  refine Rf_get X kc1 (Nat.le_of_ble_eq_true rfl) rfl (j := 4) (Nat.le_of_ble_eq_true rfl) lf_X1_24 (v := .int (gI σ 44 4)) rfl dX1_add_1 rfl ?_
  refine Rf_bipush X (v := 40) rfl dX1_add_4 rfl ?_
  refine Rf_icmp_ne X (tgt := 13) dX1_add_6 rfl rfl (fun c6 => ?_) (fun c6 => ?_)
  · have h := h.1 c6
    exact sj_X1_add_13 X _ _ _ _ _ h
  · have h := h.2 c6
    refine Rf_aload_n X (j := 0) rfl rfl dX1_add_9 rfl ?_
    refine Rf_cVv (as := []) (st := []) X mi_X1_dropOldest lm_X1_28 rfl (Nat.le_of_ble_eq_true rfl) rfl (k_X1_dropOldest h) (Nat.le_of_ble_eq_true rfl) rfl rfl (Nat.le_of_ble_eq_true rfl) dX1_add_10 rfl (fun σ5 h => ?_)
    exact sj_X1_add_13 X _ _ _ _ _ h
def wp_X2_isOne (σ : rfS) (x1 : Int32) (Q : Int32 → rfS → Prop) : Prop :=
  ((x1 < 0 → Q 0 σ) ∧ (¬ (x1 < 0) → (((gI σ 1 0) ≤ x1 → Q 0 σ) ∧ (¬ ((gI σ 1 0) ≤ x1) → Q 1 σ))))
set_option maxRecDepth 20000 in
theorem k_X2_isOne {σ : rfS} {x1 : Int32} {Q : Int32 → rfS → Prop} (h : wp_X2_isOne σ x1 Q) : RM ΛC 0 yX2_isOne cX2_isOne 2 (some .boolean) [.ref 1, .int x1] σ (qi Q) := by
  unfold wp_X2_isOne at h
  refine RM.intro (by decide) (Nat.le_of_ble_eq_true rfl) (fun E X => ?_)
  show Rf ΛC 0 E 2 (qi Q) 0 [(0, .ref 1), (1, .int x1)] [] σ
  refine Rf_iload_n X (j := 1) rfl rfl dX2_isOne_0 rfl ?_
  refine Rf_if_lt X (tgt := 16) dX2_isOne_1 rfl rfl (fun c2 => ?_) (fun c2 => ?_)
  · have h := h.1 c2
    refine Rf_iconst X (v := 0) rfl dX2_isOne_16 rfl ?_
    exact Rf_iret X rfl dX2_isOne_17 ⟨_, rfl, h⟩
  · have h := h.2 c2
    refine Rf_iload_n X (j := 1) rfl rfl dX2_isOne_4 rfl ?_
    refine Rf_aload_n X (j := 0) rfl rfl dX2_isOne_5 rfl ?_
    refine Rf_get X kc2 (Nat.le_of_ble_eq_true rfl) rfl (j := 0) (Nat.le_of_ble_eq_true rfl) lf_X2_34 (v := .int (gI σ 1 0)) rfl dX2_isOne_6 rfl ?_
    refine Rf_icmp_ge X (tgt := 16) dX2_isOne_9 rfl rfl (fun c1 => ?_) (fun c1 => ?_)
    · have h := h.1 c1
      refine Rf_iconst X (v := 0) rfl dX2_isOne_16 rfl ?_
      exact Rf_iret X rfl dX2_isOne_17 ⟨_, rfl, h⟩
    · have h := h.2 c1
      refine Rf_iconst X (v := 1) rfl dX2_isOne_12 rfl ?_
      refine Rf_goto X (tgt := 17) dX2_isOne_13 rfl ?_
      exact Rf_iret X rfl dX2_isOne_17 ⟨_, rfl, h⟩
def wj_X2_mayHave_16 (Q : Int32 → rfS → Prop) (y1 : Int64) (σ : rfS) : Prop :=
  ((¬ (lg_cmp y1 7) = 0 → Q 0 σ) ∧ ((lg_cmp y1 7) = 0 → Q 1 σ))
set_option maxRecDepth 20000 in
theorem sj_X2_mayHave_16 {E : rfE} {Q : Int32 → rfS → Prop} (X : rfX ΛC E yX2_mayHave cX2_mayHave 3 (some .boolean)) (y1 : Int64) (σ : rfS) (h : wj_X2_mayHave_16 Q y1 σ) : Rf ΛC 0 E 3 (qi Q) 16 [(1, .long y1)] [] σ := by
  unfold wj_X2_mayHave_16 at h
  refine Rf_lload_n X (j := 0) rfl rfl dX2_mayHave_16 rfl ?_
  refine Rf_ldc2 X lc_X2_38 dX2_mayHave_17 rfl ?_
  refine Rf_lcmp X dX2_mayHave_20 rfl ?_
  refine Rf_if_ne X (tgt := 28) dX2_mayHave_21 rfl rfl (fun c1 => ?_) (fun c1 => ?_)
  · have h := h.1 c1
    refine Rf_iconst X (v := 0) rfl dX2_mayHave_28 rfl ?_
    exact Rf_iret X rfl dX2_mayHave_29 ⟨_, rfl, h⟩
  · have h := h.2 c1
    refine Rf_iconst X (v := 1) rfl dX2_mayHave_24 rfl ?_
    refine Rf_goto X (tgt := 29) dX2_mayHave_25 rfl ?_
    exact Rf_iret X rfl dX2_mayHave_29 ⟨_, rfl, h⟩
def wp_X2_mayHave (σ : rfS) (y1 : Int64) (Q : Int32 → rfS → Prop) : Prop :=
  (((lg_cmp y1 0) < 0 → wj_X2_mayHave_16 Q y1 σ) ∧ (¬ ((lg_cmp y1 0) < 0) → (((lg_cmp y1 ((gI σ 1 0).toInt64)) < 0 → Q 1 σ) ∧ (¬ ((lg_cmp y1 ((gI σ 1 0).toInt64)) < 0) → wj_X2_mayHave_16 Q y1 σ))))
set_option maxRecDepth 20000 in
theorem k_X2_mayHave {σ : rfS} {y1 : Int64} {Q : Int32 → rfS → Prop} (h : wp_X2_mayHave σ y1 Q) : RM ΛC 0 yX2_mayHave cX2_mayHave 3 (some .boolean) [.ref 1, .long y1] σ (qi Q) := by
  unfold wp_X2_mayHave at h
  refine RM.intro (by decide) (Nat.le_of_ble_eq_true rfl) (fun E X => ?_)
  show Rf ΛC 0 E 3 (qi Q) 0 [(0, .ref 1), (1, .long y1)] [] σ
  refine Rf_lload_n X (j := 1) rfl rfl dX2_mayHave_0 rfl ?_
  refine Rf_lconst X (v := 0) rfl dX2_mayHave_1 rfl ?_
  refine Rf_lcmp X dX2_mayHave_2 rfl ?_
  refine Rf_if_lt X (tgt := 16) dX2_mayHave_3 rfl rfl (fun c3 => ?_) (fun c3 => ?_)
  · have h := h.1 c3
    refine Rf_sub [1] rfl ?_
    exact sj_X2_mayHave_16 X _ _ h
  · have h := h.2 c3
    refine Rf_lload_n X (j := 1) rfl rfl dX2_mayHave_6 rfl ?_
    refine Rf_aload_n X (j := 0) rfl rfl dX2_mayHave_7 rfl ?_
    refine Rf_get X kc2 (Nat.le_of_ble_eq_true rfl) rfl (j := 0) (Nat.le_of_ble_eq_true rfl) lf_X2_34 (v := .int (gI σ 1 0)) rfl dX2_mayHave_8 rfl ?_
    refine Rf_i2l X dX2_mayHave_11 rfl ?_
    refine Rf_lcmp X dX2_mayHave_12 rfl ?_
    refine Rf_if_lt X (tgt := 24) dX2_mayHave_13 rfl rfl (fun c2 => ?_) (fun c2 => ?_)
    · have h := h.1 c2
      refine Rf_iconst X (v := 1) rfl dX2_mayHave_24 rfl ?_
      refine Rf_goto X (tgt := 29) dX2_mayHave_25 rfl ?_
      exact Rf_iret X rfl dX2_mayHave_29 ⟨_, rfl, h⟩
    · have h := h.2 c2
      refine Rf_sub [1] rfl ?_
      exact sj_X2_mayHave_16 X _ _ h
def wp_J6_bitCount_0f7a4 (σ : rfS) (x0 : Int32) (Q : Int32 → rfS → Prop) : Prop :=
  Q ((((((((x0 - (((x0.toUInt32 >>> ((1 : Int32).toUInt32 &&& Int32.toUInt32 31)).toInt32) &&& 1431655765)) &&& 858993459) + ((((x0 - (((x0.toUInt32 >>> ((1 : Int32).toUInt32 &&& Int32.toUInt32 31)).toInt32) &&& 1431655765)).toUInt32 >>> ((2 : Int32).toUInt32 &&& Int32.toUInt32 31)).toInt32) &&& 858993459)) + (((((x0 - (((x0.toUInt32 >>> ((1 : Int32).toUInt32 &&& Int32.toUInt32 31)).toInt32) &&& 1431655765)) &&& 858993459) + ((((x0 - (((x0.toUInt32 >>> ((1 : Int32).toUInt32 &&& Int32.toUInt32 31)).toInt32) &&& 1431655765)).toUInt32 >>> ((2 : Int32).toUInt32 &&& Int32.toUInt32 31)).toInt32) &&& 858993459)).toUInt32 >>> ((4 : Int32).toUInt32 &&& Int32.toUInt32 31)).toInt32)) &&& 252645135) + (((((((x0 - (((x0.toUInt32 >>> ((1 : Int32).toUInt32 &&& Int32.toUInt32 31)).toInt32) &&& 1431655765)) &&& 858993459) + ((((x0 - (((x0.toUInt32 >>> ((1 : Int32).toUInt32 &&& Int32.toUInt32 31)).toInt32) &&& 1431655765)).toUInt32 >>> ((2 : Int32).toUInt32 &&& Int32.toUInt32 31)).toInt32) &&& 858993459)) + (((((x0 - (((x0.toUInt32 >>> ((1 : Int32).toUInt32 &&& Int32.toUInt32 31)).toInt32) &&& 1431655765)) &&& 858993459) + ((((x0 - (((x0.toUInt32 >>> ((1 : Int32).toUInt32 &&& Int32.toUInt32 31)).toInt32) &&& 1431655765)).toUInt32 >>> ((2 : Int32).toUInt32 &&& Int32.toUInt32 31)).toInt32) &&& 858993459)).toUInt32 >>> ((4 : Int32).toUInt32 &&& Int32.toUInt32 31)).toInt32)) &&& 252645135).toUInt32 >>> ((8 : Int32).toUInt32 &&& Int32.toUInt32 31)).toInt32)) + ((((((((x0 - (((x0.toUInt32 >>> ((1 : Int32).toUInt32 &&& Int32.toUInt32 31)).toInt32) &&& 1431655765)) &&& 858993459) + ((((x0 - (((x0.toUInt32 >>> ((1 : Int32).toUInt32 &&& Int32.toUInt32 31)).toInt32) &&& 1431655765)).toUInt32 >>> ((2 : Int32).toUInt32 &&& Int32.toUInt32 31)).toInt32) &&& 858993459)) + (((((x0 - (((x0.toUInt32 >>> ((1 : Int32).toUInt32 &&& Int32.toUInt32 31)).toInt32) &&& 1431655765)) &&& 858993459) + ((((x0 - (((x0.toUInt32 >>> ((1 : Int32).toUInt32 &&& Int32.toUInt32 31)).toInt32) &&& 1431655765)).toUInt32 >>> ((2 : Int32).toUInt32 &&& Int32.toUInt32 31)).toInt32) &&& 858993459)).toUInt32 >>> ((4 : Int32).toUInt32 &&& Int32.toUInt32 31)).toInt32)) &&& 252645135) + (((((((x0 - (((x0.toUInt32 >>> ((1 : Int32).toUInt32 &&& Int32.toUInt32 31)).toInt32) &&& 1431655765)) &&& 858993459) + ((((x0 - (((x0.toUInt32 >>> ((1 : Int32).toUInt32 &&& Int32.toUInt32 31)).toInt32) &&& 1431655765)).toUInt32 >>> ((2 : Int32).toUInt32 &&& Int32.toUInt32 31)).toInt32) &&& 858993459)) + (((((x0 - (((x0.toUInt32 >>> ((1 : Int32).toUInt32 &&& Int32.toUInt32 31)).toInt32) &&& 1431655765)) &&& 858993459) + ((((x0 - (((x0.toUInt32 >>> ((1 : Int32).toUInt32 &&& Int32.toUInt32 31)).toInt32) &&& 1431655765)).toUInt32 >>> ((2 : Int32).toUInt32 &&& Int32.toUInt32 31)).toInt32) &&& 858993459)).toUInt32 >>> ((4 : Int32).toUInt32 &&& Int32.toUInt32 31)).toInt32)) &&& 252645135).toUInt32 >>> ((8 : Int32).toUInt32 &&& Int32.toUInt32 31)).toInt32)).toUInt32 >>> ((16 : Int32).toUInt32 &&& Int32.toUInt32 31)).toInt32)) &&& 63) σ
set_option maxRecDepth 20000 in
theorem k_J6_bitCount_0f7a4 {Λ : rfL} {σ : rfS} {x0 : Int32} {Q : Int32 → rfS → Prop} (h : wp_J6_bitCount_0f7a4 σ x0 Q) : RM Λ 0 yJ6_bitCount_0f7a4 cJ6_bitCount_0f7a4 1 (some .int) [.int x0] σ (qi Q) := by
  unfold wp_J6_bitCount_0f7a4 at h
  refine RM.intro (by decide) (Nat.le_of_ble_eq_true rfl) (fun E X => ?_)
  show Rf Λ 0 E 1 (qi Q) 0 [(0, .int x0)] [] σ
  refine Rf_iload_n X (j := 0) rfl rfl dJ6_bitCount_0f7a4_0 rfl ?_
  refine Rf_iload_n X (j := 0) rfl rfl dJ6_bitCount_0f7a4_1 rfl ?_
  refine Rf_iconst X (v := 1) rfl dJ6_bitCount_0f7a4_2 rfl ?_
  refine Rf_iushr X dJ6_bitCount_0f7a4_3 rfl ?_
  refine Rf_ldcw X lc_J6_265 dJ6_bitCount_0f7a4_4 rfl ?_
  refine Rf_iand X dJ6_bitCount_0f7a4_7 rfl ?_
  refine Rf_isub X dJ6_bitCount_0f7a4_8 rfl ?_
  refine Rf_istore_n X rfl (i := 0) (Nat.le_of_ble_eq_true rfl) (ls2 := [(0, .int (x0 - (((x0.toUInt32 >>> ((1 : Int32).toUInt32 &&& Int32.toUInt32 31)).toInt32) &&& 1431655765)))]) rfl dJ6_bitCount_0f7a4_9 rfl ?_
  refine Rf_iload_n X (j := 0) rfl rfl dJ6_bitCount_0f7a4_10 rfl ?_
  refine Rf_ldcw X lc_J6_266 dJ6_bitCount_0f7a4_11 rfl ?_
  refine Rf_iand X dJ6_bitCount_0f7a4_14 rfl ?_
  refine Rf_iload_n X (j := 0) rfl rfl dJ6_bitCount_0f7a4_15 rfl ?_
  refine Rf_iconst X (v := 2) rfl dJ6_bitCount_0f7a4_16 rfl ?_
  refine Rf_iushr X dJ6_bitCount_0f7a4_17 rfl ?_
  refine Rf_ldcw X lc_J6_266 dJ6_bitCount_0f7a4_18 rfl ?_
  refine Rf_iand X dJ6_bitCount_0f7a4_21 rfl ?_
  refine Rf_iadd X dJ6_bitCount_0f7a4_22 rfl ?_
  refine Rf_istore_n X rfl (i := 0) (Nat.le_of_ble_eq_true rfl) (ls2 := [(0, .int (((x0 - (((x0.toUInt32 >>> ((1 : Int32).toUInt32 &&& Int32.toUInt32 31)).toInt32) &&& 1431655765)) &&& 858993459) + ((((x0 - (((x0.toUInt32 >>> ((1 : Int32).toUInt32 &&& Int32.toUInt32 31)).toInt32) &&& 1431655765)).toUInt32 >>> ((2 : Int32).toUInt32 &&& Int32.toUInt32 31)).toInt32) &&& 858993459)))]) rfl dJ6_bitCount_0f7a4_23 rfl ?_
  refine Rf_iload_n X (j := 0) rfl rfl dJ6_bitCount_0f7a4_24 rfl ?_
  refine Rf_iload_n X (j := 0) rfl rfl dJ6_bitCount_0f7a4_25 rfl ?_
  refine Rf_iconst X (v := 4) rfl dJ6_bitCount_0f7a4_26 rfl ?_
  refine Rf_iushr X dJ6_bitCount_0f7a4_27 rfl ?_
  refine Rf_iadd X dJ6_bitCount_0f7a4_28 rfl ?_
  refine Rf_ldcw X lc_J6_267 dJ6_bitCount_0f7a4_29 rfl ?_
  refine Rf_iand X dJ6_bitCount_0f7a4_32 rfl ?_
  refine Rf_istore_n X rfl (i := 0) (Nat.le_of_ble_eq_true rfl) (ls2 := [(0, .int (((((x0 - (((x0.toUInt32 >>> ((1 : Int32).toUInt32 &&& Int32.toUInt32 31)).toInt32) &&& 1431655765)) &&& 858993459) + ((((x0 - (((x0.toUInt32 >>> ((1 : Int32).toUInt32 &&& Int32.toUInt32 31)).toInt32) &&& 1431655765)).toUInt32 >>> ((2 : Int32).toUInt32 &&& Int32.toUInt32 31)).toInt32) &&& 858993459)) + (((((x0 - (((x0.toUInt32 >>> ((1 : Int32).toUInt32 &&& Int32.toUInt32 31)).toInt32) &&& 1431655765)) &&& 858993459) + ((((x0 - (((x0.toUInt32 >>> ((1 : Int32).toUInt32 &&& Int32.toUInt32 31)).toInt32) &&& 1431655765)).toUInt32 >>> ((2 : Int32).toUInt32 &&& Int32.toUInt32 31)).toInt32) &&& 858993459)).toUInt32 >>> ((4 : Int32).toUInt32 &&& Int32.toUInt32 31)).toInt32)) &&& 252645135))]) rfl dJ6_bitCount_0f7a4_33 rfl ?_
  refine Rf_iload_n X (j := 0) rfl rfl dJ6_bitCount_0f7a4_34 rfl ?_
  refine Rf_iload_n X (j := 0) rfl rfl dJ6_bitCount_0f7a4_35 rfl ?_
  refine Rf_bipush X (v := 8) rfl dJ6_bitCount_0f7a4_36 rfl ?_
  refine Rf_iushr X dJ6_bitCount_0f7a4_38 rfl ?_
  refine Rf_iadd X dJ6_bitCount_0f7a4_39 rfl ?_
  refine Rf_istore_n X rfl (i := 0) (Nat.le_of_ble_eq_true rfl) (ls2 := [(0, .int ((((((x0 - (((x0.toUInt32 >>> ((1 : Int32).toUInt32 &&& Int32.toUInt32 31)).toInt32) &&& 1431655765)) &&& 858993459) + ((((x0 - (((x0.toUInt32 >>> ((1 : Int32).toUInt32 &&& Int32.toUInt32 31)).toInt32) &&& 1431655765)).toUInt32 >>> ((2 : Int32).toUInt32 &&& Int32.toUInt32 31)).toInt32) &&& 858993459)) + (((((x0 - (((x0.toUInt32 >>> ((1 : Int32).toUInt32 &&& Int32.toUInt32 31)).toInt32) &&& 1431655765)) &&& 858993459) + ((((x0 - (((x0.toUInt32 >>> ((1 : Int32).toUInt32 &&& Int32.toUInt32 31)).toInt32) &&& 1431655765)).toUInt32 >>> ((2 : Int32).toUInt32 &&& Int32.toUInt32 31)).toInt32) &&& 858993459)).toUInt32 >>> ((4 : Int32).toUInt32 &&& Int32.toUInt32 31)).toInt32)) &&& 252645135) + (((((((x0 - (((x0.toUInt32 >>> ((1 : Int32).toUInt32 &&& Int32.toUInt32 31)).toInt32) &&& 1431655765)) &&& 858993459) + ((((x0 - (((x0.toUInt32 >>> ((1 : Int32).toUInt32 &&& Int32.toUInt32 31)).toInt32) &&& 1431655765)).toUInt32 >>> ((2 : Int32).toUInt32 &&& Int32.toUInt32 31)).toInt32) &&& 858993459)) + (((((x0 - (((x0.toUInt32 >>> ((1 : Int32).toUInt32 &&& Int32.toUInt32 31)).toInt32) &&& 1431655765)) &&& 858993459) + ((((x0 - (((x0.toUInt32 >>> ((1 : Int32).toUInt32 &&& Int32.toUInt32 31)).toInt32) &&& 1431655765)).toUInt32 >>> ((2 : Int32).toUInt32 &&& Int32.toUInt32 31)).toInt32) &&& 858993459)).toUInt32 >>> ((4 : Int32).toUInt32 &&& Int32.toUInt32 31)).toInt32)) &&& 252645135).toUInt32 >>> ((8 : Int32).toUInt32 &&& Int32.toUInt32 31)).toInt32)))]) rfl dJ6_bitCount_0f7a4_40 rfl ?_
  refine Rf_iload_n X (j := 0) rfl rfl dJ6_bitCount_0f7a4_41 rfl ?_
  refine Rf_iload_n X (j := 0) rfl rfl dJ6_bitCount_0f7a4_42 rfl ?_
  refine Rf_bipush X (v := 16) rfl dJ6_bitCount_0f7a4_43 rfl ?_
  refine Rf_iushr X dJ6_bitCount_0f7a4_45 rfl ?_
  refine Rf_iadd X dJ6_bitCount_0f7a4_46 rfl ?_
  refine Rf_istore_n X rfl (i := 0) (Nat.le_of_ble_eq_true rfl) (ls2 := [(0, .int (((((((x0 - (((x0.toUInt32 >>> ((1 : Int32).toUInt32 &&& Int32.toUInt32 31)).toInt32) &&& 1431655765)) &&& 858993459) + ((((x0 - (((x0.toUInt32 >>> ((1 : Int32).toUInt32 &&& Int32.toUInt32 31)).toInt32) &&& 1431655765)).toUInt32 >>> ((2 : Int32).toUInt32 &&& Int32.toUInt32 31)).toInt32) &&& 858993459)) + (((((x0 - (((x0.toUInt32 >>> ((1 : Int32).toUInt32 &&& Int32.toUInt32 31)).toInt32) &&& 1431655765)) &&& 858993459) + ((((x0 - (((x0.toUInt32 >>> ((1 : Int32).toUInt32 &&& Int32.toUInt32 31)).toInt32) &&& 1431655765)).toUInt32 >>> ((2 : Int32).toUInt32 &&& Int32.toUInt32 31)).toInt32) &&& 858993459)).toUInt32 >>> ((4 : Int32).toUInt32 &&& Int32.toUInt32 31)).toInt32)) &&& 252645135) + (((((((x0 - (((x0.toUInt32 >>> ((1 : Int32).toUInt32 &&& Int32.toUInt32 31)).toInt32) &&& 1431655765)) &&& 858993459) + ((((x0 - (((x0.toUInt32 >>> ((1 : Int32).toUInt32 &&& Int32.toUInt32 31)).toInt32) &&& 1431655765)).toUInt32 >>> ((2 : Int32).toUInt32 &&& Int32.toUInt32 31)).toInt32) &&& 858993459)) + (((((x0 - (((x0.toUInt32 >>> ((1 : Int32).toUInt32 &&& Int32.toUInt32 31)).toInt32) &&& 1431655765)) &&& 858993459) + ((((x0 - (((x0.toUInt32 >>> ((1 : Int32).toUInt32 &&& Int32.toUInt32 31)).toInt32) &&& 1431655765)).toUInt32 >>> ((2 : Int32).toUInt32 &&& Int32.toUInt32 31)).toInt32) &&& 858993459)).toUInt32 >>> ((4 : Int32).toUInt32 &&& Int32.toUInt32 31)).toInt32)) &&& 252645135).toUInt32 >>> ((8 : Int32).toUInt32 &&& Int32.toUInt32 31)).toInt32)) + ((((((((x0 - (((x0.toUInt32 >>> ((1 : Int32).toUInt32 &&& Int32.toUInt32 31)).toInt32) &&& 1431655765)) &&& 858993459) + ((((x0 - (((x0.toUInt32 >>> ((1 : Int32).toUInt32 &&& Int32.toUInt32 31)).toInt32) &&& 1431655765)).toUInt32 >>> ((2 : Int32).toUInt32 &&& Int32.toUInt32 31)).toInt32) &&& 858993459)) + (((((x0 - (((x0.toUInt32 >>> ((1 : Int32).toUInt32 &&& Int32.toUInt32 31)).toInt32) &&& 1431655765)) &&& 858993459) + ((((x0 - (((x0.toUInt32 >>> ((1 : Int32).toUInt32 &&& Int32.toUInt32 31)).toInt32) &&& 1431655765)).toUInt32 >>> ((2 : Int32).toUInt32 &&& Int32.toUInt32 31)).toInt32) &&& 858993459)).toUInt32 >>> ((4 : Int32).toUInt32 &&& Int32.toUInt32 31)).toInt32)) &&& 252645135) + (((((((x0 - (((x0.toUInt32 >>> ((1 : Int32).toUInt32 &&& Int32.toUInt32 31)).toInt32) &&& 1431655765)) &&& 858993459) + ((((x0 - (((x0.toUInt32 >>> ((1 : Int32).toUInt32 &&& Int32.toUInt32 31)).toInt32) &&& 1431655765)).toUInt32 >>> ((2 : Int32).toUInt32 &&& Int32.toUInt32 31)).toInt32) &&& 858993459)) + (((((x0 - (((x0.toUInt32 >>> ((1 : Int32).toUInt32 &&& Int32.toUInt32 31)).toInt32) &&& 1431655765)) &&& 858993459) + ((((x0 - (((x0.toUInt32 >>> ((1 : Int32).toUInt32 &&& Int32.toUInt32 31)).toInt32) &&& 1431655765)).toUInt32 >>> ((2 : Int32).toUInt32 &&& Int32.toUInt32 31)).toInt32) &&& 858993459)).toUInt32 >>> ((4 : Int32).toUInt32 &&& Int32.toUInt32 31)).toInt32)) &&& 252645135).toUInt32 >>> ((8 : Int32).toUInt32 &&& Int32.toUInt32 31)).toInt32)).toUInt32 >>> ((16 : Int32).toUInt32 &&& Int32.toUInt32 31)).toInt32)))]) rfl dJ6_bitCount_0f7a4_47 rfl ?_
  refine Rf_iload_n X (j := 0) rfl rfl dJ6_bitCount_0f7a4_48 rfl ?_
  refine Rf_bipush X (v := 63) rfl dJ6_bitCount_0f7a4_49 rfl ?_
  refine Rf_iand X dJ6_bitCount_0f7a4_51 rfl ?_
  exact Rf_iret X rfl dJ6_bitCount_0f7a4_52 ⟨_, rfl, h⟩
def wp_X3_isWritten (σ : rfS) (Q : Int32 → rfS → Prop) : Prop :=
  (((gI σ 6 1) ≤ 0 → Q 0 σ) ∧ (¬ ((gI σ 6 1) ≤ 0) → Q 1 σ))
set_option maxRecDepth 20000 in
theorem k_X3_isWritten {σ : rfS} {Q : Int32 → rfS → Prop} (h : wp_X3_isWritten σ Q) : RM ΛC 0 yX3_isWritten cX3_isWritten 1 (some .boolean) [.ref 6] σ (qi Q) := by
  unfold wp_X3_isWritten at h
  refine RM.intro (by decide) (Nat.le_of_ble_eq_true rfl) (fun E X => ?_)
  show Rf ΛC 0 E 1 (qi Q) 0 [(0, .ref 6)] [] σ
  refine Rf_aload_n X (j := 0) rfl rfl dX3_isWritten_0 rfl ?_
  refine Rf_get X kc3 (Nat.le_of_ble_eq_true rfl) rfl (j := 1) (Nat.le_of_ble_eq_true rfl) lf_X3_24 (v := .int (gI σ 6 1)) rfl dX3_isWritten_1 rfl ?_
  refine Rf_if_le X (tgt := 11) dX3_isWritten_4 rfl rfl (fun c1 => ?_) (fun c1 => ?_)
  · have h := h.1 c1
    refine Rf_iconst X (v := 0) rfl dX3_isWritten_11 rfl ?_
    exact Rf_iret X rfl dX3_isWritten_12 ⟨_, rfl, h⟩
  · have h := h.2 c1
    refine Rf_iconst X (v := 1) rfl dX3_isWritten_7 rfl ?_
    refine Rf_goto X (tgt := 12) dX3_isWritten_8 rfl ?_
    exact Rf_iret X rfl dX3_isWritten_12 ⟨_, rfl, h⟩
def wl_X3_endOfLine_2 (Q : Int32 → rfS → Prop) : Nat → Int32 → rfS → Prop
  | 0, _, _ => False
  | n + 1, x2, σ => (((gI σ 6 1) ≤ x2 → Q x2 σ) ∧ (¬ ((gI σ 6 1) ≤ x2) → vp_in x2 121 ∧ (((gF σ 7 (x2.toNatClampNeg)) = (-59) → Q x2 σ) ∧ (¬ (gF σ 7 (x2.toNatClampNeg)) = (-59) → wl_X3_endOfLine_2 Q n (x2 + 1) σ))))
set_option maxRecDepth 20000 in
theorem sl_X3_endOfLine_2 {E : rfE} {Q : Int32 → rfS → Prop} (X : rfX ΛC E yX3_endOfLine cX3_endOfLine 3 (some .int)) : ∀ (n : Nat) (x2 : Int32) (σ : rfS), wl_X3_endOfLine_2 Q n x2 σ → Rf ΛC 0 E 3 (qi Q) 2 [(0, .ref 6), (2, .int x2)] [] σ := by
  intro n
  induction n with
  | zero =>
    intro x2 σ h
    exact False.elim h
  | succ n hkb_2 =>
    intro x2 σ h
    unfold wl_X3_endOfLine_2 at h
    refine Rf_iload_n X (j := 1) rfl rfl dX3_endOfLine_2 rfl ?_
    refine Rf_aload_n X (j := 0) rfl rfl dX3_endOfLine_3 rfl ?_
    refine Rf_get X kc3 (Nat.le_of_ble_eq_true rfl) rfl (j := 1) (Nat.le_of_ble_eq_true rfl) lf_X3_24 (v := .int (gI σ 6 1)) rfl dX3_endOfLine_4 rfl ?_
    refine Rf_icmp_ge X (tgt := 27) dX3_endOfLine_7 rfl rfl (fun c3 => ?_) (fun c3 => ?_)
    · have h := h.1 c3
      refine Rf_iload_n X (j := 1) rfl rfl dX3_endOfLine_27 rfl ?_
      exact Rf_iret X rfl dX3_endOfLine_28 ⟨_, rfl, h⟩
    · have h := h.2 c3
      refine Rf_aload_n X (j := 0) rfl rfl dX3_endOfLine_10 rfl ?_
      refine Rf_get X kc3 (Nat.le_of_ble_eq_true rfl) rfl (j := 0) (Nat.le_of_ble_eq_true rfl) lf_X3_11 (v := .ref 7) rfl dX3_endOfLine_11 rfl ?_
      refine Rf_iload_n X (j := 1) rfl rfl dX3_endOfLine_14 rfl ?_
      obtain ⟨s1, h⟩ := h
      refine Rf_iaload X (Nat.le_of_ble_eq_true rfl) rfl rfl s1 dX3_endOfLine_15 rfl (v := gF σ 7 (x2.toNatClampNeg)) rfl ?_
      refine Rf_bipush X (v := (-59)) (by decide) dX3_endOfLine_16 rfl ?_
      refine Rf_icmp_eq X (tgt := 27) dX3_endOfLine_18 rfl rfl (fun c2 => ?_) (fun c2 => ?_)
      · have h := h.1 c2
        refine Rf_iload_n X (j := 1) rfl rfl dX3_endOfLine_27 rfl ?_
        exact Rf_iret X rfl dX3_endOfLine_28 ⟨_, rfl, h⟩
      · have h := h.2 c2
        refine Rf_iinc X (i := 2) (j := 1) (v := x2 + 1) rfl rfl (Nat.le_of_ble_eq_true rfl) (ls2 := [(2, .int (x2 + 1)), (0, .ref 6)]) rfl dX3_endOfLine_21 rfl ?_
        refine Rf_goto X (tgt := 2) dX3_endOfLine_24 rfl ?_
        refine Rf_sub [1, 0] rfl ?_
        exact hkb_2 _ σ h
def wp_X3_endOfLine (σ : rfS) (x1 : Int32) (Q : Int32 → rfS → Prop) : Prop :=
  (∃ n4, wl_X3_endOfLine_2 Q n4 x1 σ)
set_option maxRecDepth 20000 in
theorem k_X3_endOfLine {σ : rfS} {x1 : Int32} {Q : Int32 → rfS → Prop} (h : wp_X3_endOfLine σ x1 Q) : RM ΛC 0 yX3_endOfLine cX3_endOfLine 3 (some .int) [.ref 6, .int x1] σ (qi Q) := by
  unfold wp_X3_endOfLine at h
  refine RM.intro (by decide) (Nat.le_of_ble_eq_true rfl) (fun E X => ?_)
  show Rf ΛC 0 E 3 (qi Q) 0 [(0, .ref 6), (1, .int x1)] [] σ
  refine Rf_iload_n X (j := 1) rfl rfl dX3_endOfLine_0 rfl ?_
  refine Rf_istore_n X rfl (i := 2) (Nat.le_of_ble_eq_true rfl) (ls2 := [(2, .int x1), (0, .ref 6), (1, .int x1)]) rfl dX3_endOfLine_1 rfl ?_
  obtain ⟨n4, h⟩ := h
  refine Rf_sub [1, 0] rfl ?_
  exact sl_X3_endOfLine_2 X n4 _ _ h
def wp_X3_joined (σ : rfS) (x0 : Int32) (x1 : Int32) (x2 : Int32) (Q : Int32 → rfS → Prop) : Prop :=
  ((x0 = 38 → ((x1 = 0 → Q 0 σ) ∧ (¬ x1 = 0 → ((x2 = 0 → Q 0 σ) ∧ (¬ x2 = 0 → Q 1 σ))))) ∧ (¬ x0 = 38 → ((x0 = 42 → Q (x1 * x2) σ) ∧ (¬ x0 = 42 → ((x0 = 43 → Q (x1 + x2) σ) ∧ (¬ x0 = 43 → ((x0 = 45 → Q (x1 - x2) σ) ∧ (¬ x0 = 45 → ((x0 = 47 → ((¬ x2 = 0 → (¬ x2 = 0) ∧ (Q (x1 / x2) σ)) ∧ (x2 = 0 → Q 0 σ))) ∧ (¬ x0 = 47 → ((x0 = 60 → ((x2 ≤ x1 → Q 0 σ) ∧ (¬ (x2 ≤ x1) → Q 1 σ))) ∧ (¬ x0 = 60 → ((x0 = 61 → ((¬ x1 = x2 → Q 0 σ) ∧ (x1 = x2 → Q 1 σ))) ∧ (¬ x0 = 61 → ((x0 = 62 → ((x1 ≤ x2 → Q 0 σ) ∧ (¬ (x1 ≤ x2) → Q 1 σ))) ∧ (¬ x0 = 62 → ((x0 = 124 → ((¬ x1 = 0 → Q 1 σ) ∧ (x1 = 0 → ((x2 = 0 → Q 0 σ) ∧ (¬ x2 = 0 → Q 1 σ))))) ∧ (¬ x0 = 124 → ((¬ x2 = 0 → (¬ x2 = 0) ∧ (Q (x1 - x1 / x2 * x2) σ)) ∧ (x2 = 0 → Q 0 σ))))))))))))))))))))
set_option maxRecDepth 20000 in
theorem k_X3_joined {σ : rfS} {x0 : Int32} {x1 : Int32} {x2 : Int32} {Q : Int32 → rfS → Prop} (h : wp_X3_joined σ x0 x1 x2 Q) : RM ΛC 0 yX3_joined cX3_joined 3 (some .int) [.int x0, .int x1, .int x2] σ (qi Q) := by
  unfold wp_X3_joined at h
  refine RM.intro (by decide) (Nat.le_of_ble_eq_true rfl) (fun E X => ?_)
  show Rf ΛC 0 E 3 (qi Q) 0 [(0, .int x0), (1, .int x1), (2, .int x2)] [] σ
  refine Rf_iload_n X (j := 0) rfl rfl dX3_joined_0 rfl ?_
  refine Rf_lsw X (dt := 169) [(38, 98), (42, 153), (43, 145), (45, 149), (47, 157), (60, 112), (61, 123), (62, 134), (124, 84)] dX3_joined_1 (by decide +kernel) rfl (by decide +kernel) ?_
  refine And.intro (fun c1 => ?_) (fun c1 => ?_)
  · have h := h.1 c1
    refine Rf_iload_n X (j := 1) rfl rfl dX3_joined_98 rfl ?_
    refine Rf_if_eq X (tgt := 110) dX3_joined_99 rfl rfl (fun c3 => ?_) (fun c3 => ?_)
    · have h := h.1 c3
      refine Rf_iconst X (v := 0) rfl dX3_joined_110 rfl ?_
      exact Rf_iret X rfl dX3_joined_111 ⟨_, rfl, h⟩
    · have h := h.2 c3
      refine Rf_iload_n X (j := 2) rfl rfl dX3_joined_102 rfl ?_
      refine Rf_if_eq X (tgt := 110) dX3_joined_103 rfl rfl (fun c2 => ?_) (fun c2 => ?_)
      · have h := h.1 c2
        refine Rf_iconst X (v := 0) rfl dX3_joined_110 rfl ?_
        exact Rf_iret X rfl dX3_joined_111 ⟨_, rfl, h⟩
      · have h := h.2 c2
        refine Rf_iconst X (v := 1) rfl dX3_joined_106 rfl ?_
        refine Rf_goto X (tgt := 111) dX3_joined_107 rfl ?_
        exact Rf_iret X rfl dX3_joined_111 ⟨_, rfl, h⟩
  · have h := h.2 c1
    refine And.intro (fun c4 => ?_) (fun c4 => ?_)
    · have h := h.1 c4
      refine Rf_iload_n X (j := 1) rfl rfl dX3_joined_153 rfl ?_
      refine Rf_iload_n X (j := 2) rfl rfl dX3_joined_154 rfl ?_
      refine Rf_imul X dX3_joined_155 rfl ?_
      exact Rf_iret X rfl dX3_joined_156 ⟨_, rfl, h⟩
    · have h := h.2 c4
      refine And.intro (fun c5 => ?_) (fun c5 => ?_)
      · have h := h.1 c5
        refine Rf_iload_n X (j := 1) rfl rfl dX3_joined_145 rfl ?_
        refine Rf_iload_n X (j := 2) rfl rfl dX3_joined_146 rfl ?_
        refine Rf_iadd X dX3_joined_147 rfl ?_
        exact Rf_iret X rfl dX3_joined_148 ⟨_, rfl, h⟩
      · have h := h.2 c5
        refine And.intro (fun c6 => ?_) (fun c6 => ?_)
        · have h := h.1 c6
          refine Rf_iload_n X (j := 1) rfl rfl dX3_joined_149 rfl ?_
          refine Rf_iload_n X (j := 2) rfl rfl dX3_joined_150 rfl ?_
          refine Rf_isub X dX3_joined_151 rfl ?_
          exact Rf_iret X rfl dX3_joined_152 ⟨_, rfl, h⟩
        · have h := h.2 c6
          refine And.intro (fun c7 => ?_) (fun c7 => ?_)
          · have h := h.1 c7
            refine Rf_iload_n X (j := 2) rfl rfl dX3_joined_157 rfl ?_
            refine Rf_if_ne X (tgt := 165) dX3_joined_158 rfl rfl (fun c9 => ?_) (fun c9 => ?_)
            · have h := h.1 c9
              refine Rf_iload_n X (j := 1) rfl rfl dX3_joined_165 rfl ?_
              refine Rf_iload_n X (j := 2) rfl rfl dX3_joined_166 rfl ?_
              obtain ⟨s8, h⟩ := h
              refine Rf_idiv X s8 dX3_joined_167 rfl ?_
              exact Rf_iret X rfl dX3_joined_168 ⟨_, rfl, h⟩
            · have h := h.2 c9
              refine Rf_iconst X (v := 0) rfl dX3_joined_161 rfl ?_
              refine Rf_goto X (tgt := 168) dX3_joined_162 rfl ?_
              exact Rf_iret X rfl dX3_joined_168 ⟨_, rfl, h⟩
          · have h := h.2 c7
            refine And.intro (fun c10 => ?_) (fun c10 => ?_)
            · have h := h.1 c10
              refine Rf_iload_n X (j := 1) rfl rfl dX3_joined_112 rfl ?_
              refine Rf_iload_n X (j := 2) rfl rfl dX3_joined_113 rfl ?_
              refine Rf_icmp_ge X (tgt := 121) dX3_joined_114 rfl rfl (fun c11 => ?_) (fun c11 => ?_)
              · have h := h.1 c11
                refine Rf_iconst X (v := 0) rfl dX3_joined_121 rfl ?_
                exact Rf_iret X rfl dX3_joined_122 ⟨_, rfl, h⟩
              · have h := h.2 c11
                refine Rf_iconst X (v := 1) rfl dX3_joined_117 rfl ?_
                refine Rf_goto X (tgt := 122) dX3_joined_118 rfl ?_
                exact Rf_iret X rfl dX3_joined_122 ⟨_, rfl, h⟩
            · have h := h.2 c10
              refine And.intro (fun c12 => ?_) (fun c12 => ?_)
              · have h := h.1 c12
                refine Rf_iload_n X (j := 1) rfl rfl dX3_joined_123 rfl ?_
                refine Rf_iload_n X (j := 2) rfl rfl dX3_joined_124 rfl ?_
                refine Rf_icmp_ne X (tgt := 132) dX3_joined_125 rfl rfl (fun c13 => ?_) (fun c13 => ?_)
                · have h := h.1 c13
                  refine Rf_iconst X (v := 0) rfl dX3_joined_132 rfl ?_
                  exact Rf_iret X rfl dX3_joined_133 ⟨_, rfl, h⟩
                · have h := h.2 c13
                  refine Rf_iconst X (v := 1) rfl dX3_joined_128 rfl ?_
                  refine Rf_goto X (tgt := 133) dX3_joined_129 rfl ?_
                  exact Rf_iret X rfl dX3_joined_133 ⟨_, rfl, h⟩
              · have h := h.2 c12
                refine And.intro (fun c14 => ?_) (fun c14 => ?_)
                · have h := h.1 c14
                  refine Rf_iload_n X (j := 1) rfl rfl dX3_joined_134 rfl ?_
                  refine Rf_iload_n X (j := 2) rfl rfl dX3_joined_135 rfl ?_
                  refine Rf_icmp_le X (tgt := 143) dX3_joined_136 rfl rfl (fun c15 => ?_) (fun c15 => ?_)
                  · have h := h.1 c15
                    refine Rf_iconst X (v := 0) rfl dX3_joined_143 rfl ?_
                    exact Rf_iret X rfl dX3_joined_144 ⟨_, rfl, h⟩
                  · have h := h.2 c15
                    refine Rf_iconst X (v := 1) rfl dX3_joined_139 rfl ?_
                    refine Rf_goto X (tgt := 144) dX3_joined_140 rfl ?_
                    exact Rf_iret X rfl dX3_joined_144 ⟨_, rfl, h⟩
                · have h := h.2 c14
                  refine And.intro (fun c16 => ?_) (fun c16 => ?_)
                  · have h := h.1 c16
                    refine Rf_iload_n X (j := 1) rfl rfl dX3_joined_84 rfl ?_
                    refine Rf_if_ne X (tgt := 92) dX3_joined_85 rfl rfl (fun c18 => ?_) (fun c18 => ?_)
                    · have h := h.1 c18
                      refine Rf_iconst X (v := 1) rfl dX3_joined_92 rfl ?_
                      refine Rf_goto X (tgt := 97) dX3_joined_93 rfl ?_
                      exact Rf_iret X rfl dX3_joined_97 ⟨_, rfl, h⟩
                    · have h := h.2 c18
                      refine Rf_iload_n X (j := 2) rfl rfl dX3_joined_88 rfl ?_
                      refine Rf_if_eq X (tgt := 96) dX3_joined_89 rfl rfl (fun c17 => ?_) (fun c17 => ?_)
                      · have h := h.1 c17
                        refine Rf_iconst X (v := 0) rfl dX3_joined_96 rfl ?_
                        exact Rf_iret X rfl dX3_joined_97 ⟨_, rfl, h⟩
                      · have h := h.2 c17
                        refine Rf_iconst X (v := 1) rfl dX3_joined_92 rfl ?_
                        refine Rf_goto X (tgt := 97) dX3_joined_93 rfl ?_
                        exact Rf_iret X rfl dX3_joined_97 ⟨_, rfl, h⟩
                  · have h := h.2 c16
                    show Rf ΛC 0 E 3 (qi Q) 169 [(0, .int x0), (1, .int x1), (2, .int x2)] [] σ
                    refine Rf_iload_n X (j := 2) rfl rfl dX3_joined_169 rfl ?_
                    refine Rf_if_ne X (tgt := 177) dX3_joined_170 rfl rfl (fun c20 => ?_) (fun c20 => ?_)
                    · have h := h.1 c20
                      refine Rf_iload_n X (j := 1) rfl rfl dX3_joined_177 rfl ?_
                      refine Rf_iload_n X (j := 2) rfl rfl dX3_joined_178 rfl ?_
                      obtain ⟨s19, h⟩ := h
                      refine Rf_irem X s19 dX3_joined_179 rfl ?_
                      exact Rf_iret X rfl dX3_joined_180 ⟨_, rfl, h⟩
                    · have h := h.2 c20
                      refine Rf_iconst X (v := 0) rfl dX3_joined_173 rfl ?_
                      refine Rf_goto X (tgt := 180) dX3_joined_174 rfl ?_
                      exact Rf_iret X rfl dX3_joined_180 ⟨_, rfl, h⟩
def wj_X3_workOut_161 (Q : Int32 → rfS → Prop) (kb_4 : Int32 → Int32 → rfS → Prop) (x2 : Int32) (x3 : Int32) (xs0 : Int32) (xs1 : Int32) (σ : rfS) : Prop :=
  vp_in xs1 121 ∧ (kb_4 x2 (x3 + 1) (sF σ 8 (xs1.toNatClampNeg) xs0))
set_option maxRecDepth 20000 in
theorem sj_X3_workOut_161 {E : rfE} {Q : Int32 → rfS → Prop} (X : rfX ΛC E yX3_workOut cX3_workOut 7 (some .int)) {kb_4 : Int32 → Int32 → rfS → Prop} (hkb_4 : ∀ (x2 : Int32) (x3 : Int32) (σ : rfS), kb_4 x2 x3 σ → Rf ΛC 1 E 7 (qi Q) 4 [(0, .ref 6), (1, .ref 11), (2, .int x2), (3, .int x3)] [] σ) (x2 : Int32) (x3 : Int32) (xs0 : Int32) (xs1 : Int32) (σ : rfS) (h : wj_X3_workOut_161 Q kb_4 x2 x3 xs0 xs1 σ) : Rf ΛC 1 E 7 (qi Q) 161 [(0, .ref 6), (1, .ref 11), (2, .int x2), (3, .int x3)] [.int xs0, .int xs1, .ref 8] σ := by
  unfold wj_X3_workOut_161 at h
  obtain ⟨s3, h⟩ := h
  refine Rf_iastore X (Nat.le_of_ble_eq_true rfl) rfl rfl s3 dX3_workOut_161 rfl ?_
  refine Rf_goto X (tgt := 196) dX3_workOut_162 rfl ?_
  refine Rf_iinc X (i := 3) (j := 3) (v := x3 + 1) rfl rfl (Nat.le_of_ble_eq_true rfl) (ls2 := [(3, .int (x3 + 1)), (0, .ref 6), (1, .ref 11), (2, .int x2)]) rfl dX3_workOut_196 rfl ?_
  refine Rf_goto X (tgt := 4) dX3_workOut_199 rfl ?_
  refine Rf_sub [1, 2, 3, 0] rfl ?_
  exact hkb_4 _ _ (sF σ 8 (xs1.toNatClampNeg) xs0) h
def wj_X3_workOut_137 (Q : Int32 → rfS → Prop) (kb_4 : Int32 → Int32 → rfS → Prop) (x2 : Int32) (x3 : Int32) (x4 : Int32) (x5 : Int32) (xs0 : Int32) (σ : rfS) : Prop :=
  ((¬ x4 = (-126) → wj_X3_workOut_161 Q kb_4 x2 x3 xs0 (x2 - 1) σ) ∧ (x4 = (-126) → wj_X3_workOut_161 Q kb_4 x2 x3 (-x5) (x2 - 1) σ))
set_option maxRecDepth 20000 in
theorem sj_X3_workOut_137 {E : rfE} {Q : Int32 → rfS → Prop} (X : rfX ΛC E yX3_workOut cX3_workOut 7 (some .int)) {kb_4 : Int32 → Int32 → rfS → Prop} (hkb_4 : ∀ (x2 : Int32) (x3 : Int32) (σ : rfS), kb_4 x2 x3 σ → Rf ΛC 1 E 7 (qi Q) 4 [(0, .ref 6), (1, .ref 11), (2, .int x2), (3, .int x3)] [] σ) (x2 : Int32) (x3 : Int32) (x4 : Int32) (x5 : Int32) (xs0 : Int32) (σ : rfS) (h : wj_X3_workOut_137 Q kb_4 x2 x3 x4 x5 xs0 σ) : Rf ΛC 1 E 7 (qi Q) 137 [(0, .ref 6), (1, .ref 11), (2, .int x2), (3, .int x3), (4, .int x4), (5, .int x5)] [.int xs0] σ := by
  unfold wj_X3_workOut_137 at h
  refine Rf_istore X (i := 6) (Nat.le_of_ble_eq_true rfl) (ls2 := [(6, .int xs0), (0, .ref 6), (1, .ref 11), (2, .int x2), (3, .int x3), (4, .int x4), (5, .int x5)]) rfl dX3_workOut_137 rfl ?_
  refine Rf_aload_n X (j := 1) rfl rfl dX3_workOut_139 rfl ?_
  refine Rf_get X kc3 (Nat.le_of_ble_eq_true rfl) rfl (j := 2) (Nat.le_of_ble_eq_true rfl) lf_X3_15 (v := .ref 8) rfl dX3_workOut_140 rfl ?_
  refine Rf_iload_n X (j := 3) rfl rfl dX3_workOut_143 rfl ?_
  refine Rf_iconst X (v := 1) rfl dX3_workOut_144 rfl ?_
  refine Rf_isub X dX3_workOut_145 rfl ?_
  refine Rf_iload X (j := 5) rfl dX3_workOut_146 rfl ?_
  refine Rf_bipush X (v := (-126)) (by decide) dX3_workOut_148 rfl ?_
  refine Rf_icmp_ne X (tgt := 159) dX3_workOut_150 rfl rfl (fun c4 => ?_) (fun c4 => ?_)
  · have h := h.1 c4
    refine Rf_iload X (j := 0) rfl dX3_workOut_159 rfl ?_
    refine Rf_sub [1, 2, 3, 4] rfl ?_
    exact sj_X3_workOut_161 X hkb_4 _ _ _ _ _ h
  · have h := h.2 c4
    refine Rf_iload X (j := 6) rfl dX3_workOut_153 rfl ?_
    refine Rf_ineg X dX3_workOut_155 rfl ?_
    refine Rf_goto X (tgt := 161) dX3_workOut_156 rfl ?_
    refine Rf_sub [1, 2, 3, 4] rfl ?_
    exact sj_X3_workOut_161 X hkb_4 _ _ _ _ _ h
def wj_X3_workOut_117 (Q : Int32 → rfS → Prop) (kb_4 : Int32 → Int32 → rfS → Prop) (x2 : Int32) (x3 : Int32) (x4 : Int32) (σ : rfS) : Prop :=
  vp_in (x2 - 1) 121 ∧ ((¬ (gF σ 8 ((x2 - 1).toNatClampNeg)) = 0 → wj_X3_workOut_137 Q kb_4 x2 x3 x4 (gF σ 8 ((x2 - 1).toNatClampNeg)) 0 σ) ∧ ((gF σ 8 ((x2 - 1).toNatClampNeg)) = 0 → wj_X3_workOut_137 Q kb_4 x2 x3 x4 (gF σ 8 ((x2 - 1).toNatClampNeg)) 1 σ))
set_option maxRecDepth 20000 in
theorem sj_X3_workOut_117 {E : rfE} {Q : Int32 → rfS → Prop} (X : rfX ΛC E yX3_workOut cX3_workOut 7 (some .int)) {kb_4 : Int32 → Int32 → rfS → Prop} (hkb_4 : ∀ (x2 : Int32) (x3 : Int32) (σ : rfS), kb_4 x2 x3 σ → Rf ΛC 1 E 7 (qi Q) 4 [(0, .ref 6), (1, .ref 11), (2, .int x2), (3, .int x3)] [] σ) (x2 : Int32) (x3 : Int32) (x4 : Int32) (σ : rfS) (h : wj_X3_workOut_117 Q kb_4 x2 x3 x4 σ) : Rf ΛC 1 E 7 (qi Q) 117 [(0, .ref 6), (1, .ref 11), (2, .int x2), (3, .int x3), (4, .int x4)] [] σ := by
  unfold wj_X3_workOut_117 at h
  refine Rf_aload_n X (j := 0) rfl rfl dX3_workOut_117 rfl ?_
  refine Rf_get X kc3 (Nat.le_of_ble_eq_true rfl) rfl (j := 2) (Nat.le_of_ble_eq_true rfl) lf_X3_15 (v := .ref 8) rfl dX3_workOut_118 rfl ?_
  refine Rf_iload_n X (j := 2) rfl rfl dX3_workOut_121 rfl ?_
  refine Rf_iconst X (v := 1) rfl dX3_workOut_122 rfl ?_
  refine Rf_isub X dX3_workOut_123 rfl ?_
  obtain ⟨s2, h⟩ := h
  refine Rf_iaload X (Nat.le_of_ble_eq_true rfl) rfl rfl s2 dX3_workOut_124 rfl (v := gF σ 8 ((x2 - 1).toNatClampNeg)) rfl ?_
  refine Rf_istore X (i := 5) (Nat.le_of_ble_eq_true rfl) (ls2 := [(5, .int (gF σ 8 ((x2 - 1).toNatClampNeg))), (0, .ref 6), (1, .ref 11), (2, .int x2), (3, .int x3), (4, .int x4)]) rfl dX3_workOut_125 rfl ?_
  refine Rf_iload X (j := 0) rfl dX3_workOut_127 rfl ?_
  refine Rf_if_ne X (tgt := 136) dX3_workOut_129 rfl rfl (fun c5 => ?_) (fun c5 => ?_)
  · have h := h.1 c5
    refine Rf_iconst X (v := 0) rfl dX3_workOut_136 rfl ?_
    refine Rf_sub [1, 2, 3, 4, 5, 0] rfl ?_
    exact sj_X3_workOut_137 X hkb_4 _ _ _ _ _ _ h
  · have h := h.2 c5
    refine Rf_iconst X (v := 1) rfl dX3_workOut_132 rfl ?_
    refine Rf_goto X (tgt := 137) dX3_workOut_133 rfl ?_
    refine Rf_sub [1, 2, 3, 4, 5, 0] rfl ?_
    exact sj_X3_workOut_137 X hkb_4 _ _ _ _ _ _ h
def wj_X3_workOut_48 (Q : Int32 → rfS → Prop) (kb_4 : Int32 → Int32 → rfS → Prop) (x2 : Int32) (x3 : Int32) (xs0 : Int32) (xs1 : Int32) (σ : rfS) : Prop :=
  vp_in xs1 121 ∧ (kb_4 (x2 + 1) (x3 + 1) (sF σ 8 (xs1.toNatClampNeg) xs0))
set_option maxRecDepth 20000 in
theorem sj_X3_workOut_48 {E : rfE} {Q : Int32 → rfS → Prop} (X : rfX ΛC E yX3_workOut cX3_workOut 7 (some .int)) {kb_4 : Int32 → Int32 → rfS → Prop} (hkb_4 : ∀ (x2 : Int32) (x3 : Int32) (σ : rfS), kb_4 x2 x3 σ → Rf ΛC 1 E 7 (qi Q) 4 [(0, .ref 6), (1, .ref 11), (2, .int x2), (3, .int x3)] [] σ) (x2 : Int32) (x3 : Int32) (xs0 : Int32) (xs1 : Int32) (σ : rfS) (h : wj_X3_workOut_48 Q kb_4 x2 x3 xs0 xs1 σ) : Rf ΛC 1 E 7 (qi Q) 48 [(0, .ref 6), (1, .ref 11), (2, .int x2), (3, .int x3)] [.int xs0, .int xs1, .ref 8] σ := by
  unfold wj_X3_workOut_48 at h
  obtain ⟨s20, h⟩ := h
  refine Rf_iastore X (Nat.le_of_ble_eq_true rfl) rfl rfl s20 dX3_workOut_48 rfl ?_
  refine Rf_iinc X (i := 2) (j := 2) (v := x2 + 1) rfl rfl (Nat.le_of_ble_eq_true rfl) (ls2 := [(2, .int (x2 + 1)), (0, .ref 6), (1, .ref 11), (3, .int x3)]) rfl dX3_workOut_49 rfl ?_
  refine Rf_goto X (tgt := 196) dX3_workOut_52 rfl ?_
  refine Rf_iinc X (i := 3) (j := 3) (v := x3 + 1) rfl rfl (Nat.le_of_ble_eq_true rfl) (ls2 := [(3, .int (x3 + 1)), (2, .int (x2 + 1)), (0, .ref 6), (1, .ref 11)]) rfl dX3_workOut_196 rfl ?_
  refine Rf_goto X (tgt := 4) dX3_workOut_199 rfl ?_
  refine Rf_sub [2, 3, 1, 0] rfl ?_
  exact hkb_4 _ _ (sF σ 8 (xs1.toNatClampNeg) xs0) h
def wl_X3_workOut_4 (Q : Int32 → rfS → Prop) (kx_62 : Int32 → rfS → Prop) : Nat → Int32 → Int32 → rfS → Prop
  | 0, _, _, _ => False
  | n + 1, x2, x3, σ => (((gI σ 6 1) ≤ x3 → Q 0 σ) ∧ (¬ ((gI σ 6 1) ≤ x3) → vp_in x3 121 ∧ (((gF σ 7 (x3.toNatClampNeg)) < (-6) → ((¬ (gF σ 7 (x3.toNatClampNeg)) = (-59) → ((¬ (gF σ 7 (x3.toNatClampNeg)) = (-63) → (((gF σ 7 (x3.toNatClampNeg)) = (-33) → wj_X3_workOut_117 Q (wl_X3_workOut_4 Q kx_62 n) x2 x3 (gF σ 7 (x3.toNatClampNeg)) σ) ∧ (¬ (gF σ 7 (x3.toNatClampNeg)) = (-33) → ((¬ (gF σ 7 (x3.toNatClampNeg)) = (-126) → vp_in ((x2 + (-1)) - 1) 121 ∧ vp_in (x2 + (-1)) 121 ∧ wp_X3_joined σ (-(gF σ 7 (x3.toNatClampNeg))) (gF σ 8 (((x2 + (-1)) - 1).toNatClampNeg)) (gF σ 8 ((x2 + (-1)).toNatClampNeg)) (fun (r9 : Int32) (σ8 : rfS) => vp_in ((x2 + (-1)) - 1) 121 ∧ (wl_X3_workOut_4 Q kx_62 n (x2 + (-1)) (x3 + 1) (sF σ8 8 (((x2 + (-1)) - 1).toNatClampNeg) r9)))) ∧ ((gF σ 7 (x3.toNatClampNeg)) = (-126) → wj_X3_workOut_117 Q (wl_X3_workOut_4 Q kx_62 n) x2 x3 (gF σ 7 (x3.toNatClampNeg)) σ))))) ∧ ((gF σ 7 (x3.toNatClampNeg)) = (-63) → vp_in (x2 + (-1)) 121 ∧ (((gF σ 8 ((x2 + (-1)).toNatClampNeg)) = 0 → wp_X3_endOfLine σ x3 (fun (r15 : Int32) (σ14 : rfS) => wl_X3_workOut_4 Q kx_62 n (x2 + (-1)) (r15 + 1) σ14)) ∧ (¬ (gF σ 8 ((x2 + (-1)).toNatClampNeg)) = 0 → wl_X3_workOut_4 Q kx_62 n (x2 + (-1)) (x3 + 1) σ))))) ∧ ((gF σ 7 (x3.toNatClampNeg)) = (-59) → kx_62 x2 σ))) ∧ (¬ ((gF σ 7 (x3.toNatClampNeg)) < (-6)) → (((gF σ 7 (x3.toNatClampNeg)) < 0 → vp_in ((-1) - (gF σ 7 (x3.toNatClampNeg))) 6 ∧ (wj_X3_workOut_48 Q (wl_X3_workOut_4 Q kx_62 n) x2 x3 (gF σ 11 (((-1) - (gF σ 7 (x3.toNatClampNeg))).toNatClampNeg)) x2 σ)) ∧ (¬ ((gF σ 7 (x3.toNatClampNeg)) < 0) → wj_X3_workOut_48 Q (wl_X3_workOut_4 Q kx_62 n) x2 x3 (gF σ 7 (x3.toNatClampNeg)) x2 σ))))))
set_option maxRecDepth 20000 in
theorem sl_X3_workOut_4 {E : rfE} {Q : Int32 → rfS → Prop} (X : rfX ΛC E yX3_workOut cX3_workOut 7 (some .int)) {kx_62 : Int32 → rfS → Prop} (hkx_62 : ∀ (x2 : Int32) (σ : rfS), kx_62 x2 σ → Rf ΛC 1 E 7 (qi Q) 62 [(0, .ref 6), (2, .int x2)] [] σ) : ∀ (n : Nat) (x2 : Int32) (x3 : Int32) (σ : rfS), wl_X3_workOut_4 Q kx_62 n x2 x3 σ → Rf ΛC 1 E 7 (qi Q) 4 [(0, .ref 6), (1, .ref 11), (2, .int x2), (3, .int x3)] [] σ := by
  intro n
  induction n with
  | zero =>
    intro x2 x3 σ h
    exact False.elim h
  | succ n hkb_4 =>
    intro x2 x3 σ h
    unfold wl_X3_workOut_4 at h
    refine Rf_iload_n X (j := 3) rfl rfl dX3_workOut_4 rfl ?_
    refine Rf_aload_n X (j := 0) rfl rfl dX3_workOut_5 rfl ?_
    refine Rf_get X kc3 (Nat.le_of_ble_eq_true rfl) rfl (j := 1) (Nat.le_of_ble_eq_true rfl) lf_X3_24 (v := .int (gI σ 6 1)) rfl dX3_workOut_6 rfl ?_
    refine Rf_icmp_ge X (tgt := 202) dX3_workOut_9 rfl rfl (fun c23 => ?_) (fun c23 => ?_)
    · have h := h.1 c23
      refine Rf_iconst X (v := 0) rfl dX3_workOut_202 rfl ?_
      exact Rf_iret X rfl dX3_workOut_203 ⟨_, rfl, h⟩
    · have h := h.2 c23
      refine Rf_aload_n X (j := 0) rfl rfl dX3_workOut_12 rfl ?_
      refine Rf_get X kc3 (Nat.le_of_ble_eq_true rfl) rfl (j := 0) (Nat.le_of_ble_eq_true rfl) lf_X3_11 (v := .ref 7) rfl dX3_workOut_13 rfl ?_
      refine Rf_iload_n X (j := 3) rfl rfl dX3_workOut_16 rfl ?_
      obtain ⟨s1, h⟩ := h
      refine Rf_iaload X (Nat.le_of_ble_eq_true rfl) rfl rfl s1 dX3_workOut_17 rfl (v := gF σ 7 (x3.toNatClampNeg)) rfl ?_
      refine Rf_istore X (i := 4) (Nat.le_of_ble_eq_true rfl) (ls2 := [(4, .int (gF σ 7 (x3.toNatClampNeg))), (0, .ref 6), (1, .ref 11), (2, .int x2), (3, .int x3)]) rfl dX3_workOut_18 rfl ?_
      refine Rf_iload X (j := 0) rfl dX3_workOut_20 rfl ?_
      refine Rf_bipush X (v := (-6)) (by decide) dX3_workOut_22 rfl ?_
      refine Rf_icmp_lt X (tgt := 55) dX3_workOut_24 rfl rfl (fun c22 => ?_) (fun c22 => ?_)
      · have h := h.1 c22
        refine Rf_iload X (j := 0) rfl dX3_workOut_55 rfl ?_
        refine Rf_bipush X (v := (-59)) (by decide) dX3_workOut_57 rfl ?_
        refine Rf_icmp_ne X (tgt := 71) dX3_workOut_59 rfl rfl (fun c18 => ?_) (fun c18 => ?_)
        · have h := h.1 c18
          refine Rf_iload X (j := 0) rfl dX3_workOut_71 rfl ?_
          refine Rf_bipush X (v := (-63)) (by decide) dX3_workOut_73 rfl ?_
          refine Rf_icmp_ne X (tgt := 103) dX3_workOut_75 rfl rfl (fun c17 => ?_) (fun c17 => ?_)
          · have h := h.1 c17
            refine Rf_iload X (j := 0) rfl dX3_workOut_103 rfl ?_
            refine Rf_bipush X (v := (-33)) (by decide) dX3_workOut_105 rfl ?_
            refine Rf_icmp_eq X (tgt := 117) dX3_workOut_107 rfl rfl (fun c12 => ?_) (fun c12 => ?_)
            · have h := h.1 c12
              refine Rf_sub [1, 2, 3, 4, 0] rfl ?_
              exact sj_X3_workOut_117 X hkb_4 _ _ _ _ h
            · have h := h.2 c12
              refine Rf_iload X (j := 0) rfl dX3_workOut_110 rfl ?_
              refine Rf_bipush X (v := (-126)) (by decide) dX3_workOut_112 rfl ?_
              refine Rf_icmp_ne X (tgt := 165) dX3_workOut_114 rfl rfl (fun c11 => ?_) (fun c11 => ?_)
              · have h := h.1 c11
                refine Rf_iinc X (i := 2) (j := 3) (v := x2 + (-1)) rfl (by rw [show Int32.ofInt (-1) = (-1 : Int32) from by decide]) (Nat.le_of_ble_eq_true rfl) (ls2 := [(2, .int (x2 + (-1))), (4, .int (gF σ 7 (x3.toNatClampNeg))), (0, .ref 6), (1, .ref 11), (3, .int x3)]) rfl dX3_workOut_165 rfl ?_
                refine Rf_aload_n X (j := 2) rfl rfl dX3_workOut_168 rfl ?_
                refine Rf_get X kc3 (Nat.le_of_ble_eq_true rfl) rfl (j := 2) (Nat.le_of_ble_eq_true rfl) lf_X3_15 (v := .ref 8) rfl dX3_workOut_169 rfl ?_
                refine Rf_iload_n X (j := 0) rfl rfl dX3_workOut_172 rfl ?_
                refine Rf_iconst X (v := 1) rfl dX3_workOut_173 rfl ?_
                refine Rf_isub X dX3_workOut_174 rfl ?_
                refine Rf_iload X (j := 1) rfl dX3_workOut_175 rfl ?_
                refine Rf_ineg X dX3_workOut_177 rfl ?_
                refine Rf_aload_n X (j := 2) rfl rfl dX3_workOut_178 rfl ?_
                refine Rf_get X kc3 (Nat.le_of_ble_eq_true rfl) rfl (j := 2) (Nat.le_of_ble_eq_true rfl) lf_X3_15 (v := .ref 8) rfl dX3_workOut_179 rfl ?_
                refine Rf_iload_n X (j := 0) rfl rfl dX3_workOut_182 rfl ?_
                refine Rf_iconst X (v := 1) rfl dX3_workOut_183 rfl ?_
                refine Rf_isub X dX3_workOut_184 rfl ?_
                obtain ⟨s6, h⟩ := h
                refine Rf_iaload X (Nat.le_of_ble_eq_true rfl) rfl rfl s6 dX3_workOut_185 rfl (v := gF σ 8 (((x2 + (-1)) - 1).toNatClampNeg)) rfl ?_
                refine Rf_aload_n X (j := 2) rfl rfl dX3_workOut_186 rfl ?_
                refine Rf_get X kc3 (Nat.le_of_ble_eq_true rfl) rfl (j := 2) (Nat.le_of_ble_eq_true rfl) lf_X3_15 (v := .ref 8) rfl dX3_workOut_187 rfl ?_
                refine Rf_iload_n X (j := 0) rfl rfl dX3_workOut_190 rfl ?_
                obtain ⟨s7, h⟩ := h
                refine Rf_iaload X (Nat.le_of_ble_eq_true rfl) rfl rfl s7 dX3_workOut_191 rfl (v := gF σ 8 ((x2 + (-1)).toNatClampNeg)) rfl ?_
                refine Rf_cSi (as := [.int (-(gF σ 7 (x3.toNatClampNeg))), .int (gF σ 8 (((x2 + (-1)) - 1).toNatClampNeg)), .int (gF σ 8 ((x2 + (-1)).toNatClampNeg))]) (st := [.int ((x2 + (-1)) - 1), .ref 8]) X ms_X3_joined lm_X3_85 (k_X3_joined h) (Nat.le_of_ble_eq_true rfl) rfl rfl (Nat.le_of_ble_eq_true rfl) dX3_workOut_192 rfl (fun r9 σ8 h => ?_)
                obtain ⟨s10, h⟩ := h
                refine Rf_iastore X (Nat.le_of_ble_eq_true rfl) rfl rfl s10 dX3_workOut_195 rfl ?_
                refine Rf_iinc X (i := 3) (j := 4) (v := x3 + 1) rfl rfl (Nat.le_of_ble_eq_true rfl) (ls2 := [(3, .int (x3 + 1)), (2, .int (x2 + (-1))), (4, .int (gF σ 7 (x3.toNatClampNeg))), (0, .ref 6), (1, .ref 11)]) rfl dX3_workOut_196 rfl ?_
                refine Rf_goto X (tgt := 4) dX3_workOut_199 rfl ?_
                refine Rf_sub [3, 4, 1, 0] rfl ?_
                exact hkb_4 _ _ (sF σ8 8 (((x2 + (-1)) - 1).toNatClampNeg) r9) h
              · have h := h.2 c11
                refine Rf_sub [1, 2, 3, 4, 0] rfl ?_
                exact sj_X3_workOut_117 X hkb_4 _ _ _ _ h
          · have h := h.2 c17
            refine Rf_iinc X (i := 2) (j := 3) (v := x2 + (-1)) rfl (by rw [show Int32.ofInt (-1) = (-1 : Int32) from by decide]) (Nat.le_of_ble_eq_true rfl) (ls2 := [(2, .int (x2 + (-1))), (4, .int (gF σ 7 (x3.toNatClampNeg))), (0, .ref 6), (1, .ref 11), (3, .int x3)]) rfl dX3_workOut_78 rfl ?_
            refine Rf_aload_n X (j := 2) rfl rfl dX3_workOut_81 rfl ?_
            refine Rf_get X kc3 (Nat.le_of_ble_eq_true rfl) rfl (j := 2) (Nat.le_of_ble_eq_true rfl) lf_X3_15 (v := .ref 8) rfl dX3_workOut_82 rfl ?_
            refine Rf_iload_n X (j := 0) rfl rfl dX3_workOut_85 rfl ?_
            obtain ⟨s13, h⟩ := h
            refine Rf_iaload X (Nat.le_of_ble_eq_true rfl) rfl rfl s13 dX3_workOut_86 rfl (v := gF σ 8 ((x2 + (-1)).toNatClampNeg)) rfl ?_
            refine Rf_if_eq X (tgt := 94) dX3_workOut_87 rfl rfl (fun c16 => ?_) (fun c16 => ?_)
            · have h := h.1 c16
              refine Rf_aload_n X (j := 2) rfl rfl dX3_workOut_94 rfl ?_
              refine Rf_iload_n X (j := 4) rfl rfl dX3_workOut_95 rfl ?_
              refine Rf_cVi (as := [.int x3]) (st := []) X mi_X3_endOfLine lm_X3_82 rfl (Nat.le_of_ble_eq_true rfl) rfl (k_X3_endOfLine h) (Nat.le_of_ble_eq_true rfl) rfl rfl (Nat.le_of_ble_eq_true rfl) dX3_workOut_96 rfl (fun r15 σ14 h => ?_)
              refine Rf_istore_n X rfl (i := 3) (Nat.le_of_ble_eq_true rfl) (ls2 := [(3, .int r15), (2, .int (x2 + (-1))), (4, .int (gF σ 7 (x3.toNatClampNeg))), (0, .ref 6), (1, .ref 11)]) rfl dX3_workOut_99 rfl ?_
              refine Rf_goto X (tgt := 196) dX3_workOut_100 rfl ?_
              refine Rf_iinc X (i := 3) (j := 0) (v := r15 + 1) rfl rfl (Nat.le_of_ble_eq_true rfl) (ls2 := [(3, .int (r15 + 1)), (2, .int (x2 + (-1))), (4, .int (gF σ 7 (x3.toNatClampNeg))), (0, .ref 6), (1, .ref 11)]) rfl dX3_workOut_196 rfl ?_
              refine Rf_goto X (tgt := 4) dX3_workOut_199 rfl ?_
              refine Rf_sub [3, 4, 1, 0] rfl ?_
              exact hkb_4 _ _ σ14 h
            · have h := h.2 c16
              refine Rf_iload_n X (j := 4) rfl rfl dX3_workOut_90 rfl ?_
              refine Rf_goto X (tgt := 99) dX3_workOut_91 rfl ?_
              refine Rf_istore_n X rfl (i := 3) (Nat.le_of_ble_eq_true rfl) (ls2 := [(3, .int x3), (2, .int (x2 + (-1))), (4, .int (gF σ 7 (x3.toNatClampNeg))), (0, .ref 6), (1, .ref 11)]) rfl dX3_workOut_99 rfl ?_
              refine Rf_goto X (tgt := 196) dX3_workOut_100 rfl ?_
              refine Rf_iinc X (i := 3) (j := 0) (v := x3 + 1) rfl rfl (Nat.le_of_ble_eq_true rfl) (ls2 := [(3, .int (x3 + 1)), (2, .int (x2 + (-1))), (4, .int (gF σ 7 (x3.toNatClampNeg))), (0, .ref 6), (1, .ref 11)]) rfl dX3_workOut_196 rfl ?_
              refine Rf_goto X (tgt := 4) dX3_workOut_199 rfl ?_
              refine Rf_sub [3, 4, 1, 0] rfl ?_
              exact hkb_4 _ _ σ h
        · have h := h.2 c18
          refine Rf_sub [1, 3] rfl ?_
          exact hkx_62 _ σ h
      · have h := h.2 c22
        refine Rf_aload_n X (j := 1) rfl rfl dX3_workOut_27 rfl ?_
        refine Rf_get X kc3 (Nat.le_of_ble_eq_true rfl) rfl (j := 2) (Nat.le_of_ble_eq_true rfl) lf_X3_15 (v := .ref 8) rfl dX3_workOut_28 rfl ?_
        refine Rf_iload_n X (j := 3) rfl rfl dX3_workOut_31 rfl ?_
        refine Rf_iload X (j := 0) rfl dX3_workOut_32 rfl ?_
        refine Rf_if_lt X (tgt := 42) dX3_workOut_34 rfl rfl (fun c21 => ?_) (fun c21 => ?_)
        · have h := h.1 c21
          refine Rf_aload_n X (j := 2) rfl rfl dX3_workOut_42 rfl ?_
          refine Rf_iconst X (v := (-1)) (by decide) dX3_workOut_43 rfl ?_
          refine Rf_iload X (j := 0) rfl dX3_workOut_44 rfl ?_
          refine Rf_isub X dX3_workOut_46 rfl ?_
          obtain ⟨s19, h⟩ := h
          refine Rf_iaload X (Nat.le_of_ble_eq_true rfl) rfl rfl s19 dX3_workOut_47 rfl (v := gF σ 11 (((-1) - (gF σ 7 (x3.toNatClampNeg))).toNatClampNeg)) rfl ?_
          refine Rf_sub [1, 2, 3, 4] rfl ?_
          exact sj_X3_workOut_48 X hkb_4 _ _ _ _ _ h
        · have h := h.2 c21
          refine Rf_iload X (j := 0) rfl dX3_workOut_37 rfl ?_
          refine Rf_goto X (tgt := 48) dX3_workOut_39 rfl ?_
          refine Rf_sub [1, 2, 3, 4] rfl ?_
          exact sj_X3_workOut_48 X hkb_4 _ _ _ _ _ h
def wp_X3_workOut (σ : rfS) (Q : Int32 → rfS → Prop) : Prop :=
  (∃ n24, wl_X3_workOut_4 Q (fun (x2_25 : Int32) (σ26 : rfS) => vp_in (x2_25 - 1) 121 ∧ Q (gF σ26 8 ((x2_25 - 1).toNatClampNeg)) σ26) n24 0 0 σ)
set_option maxRecDepth 20000 in
theorem k_X3_workOut {σ : rfS} {Q : Int32 → rfS → Prop} (h : wp_X3_workOut σ Q) : RM ΛC 1 yX3_workOut cX3_workOut 7 (some .int) [.ref 6, .ref 11] σ (qi Q) := by
  unfold wp_X3_workOut at h
  refine RM.intro (by decide) (Nat.le_of_ble_eq_true rfl) (fun E X => ?_)
  show Rf ΛC 1 E 7 (qi Q) 0 [(0, .ref 6), (1, .ref 11)] [] σ
  refine Rf_iconst X (v := 0) rfl dX3_workOut_0 rfl ?_
  refine Rf_istore_n X rfl (i := 2) (Nat.le_of_ble_eq_true rfl) (ls2 := [(2, .int 0), (0, .ref 6), (1, .ref 11)]) rfl dX3_workOut_1 rfl ?_
  refine Rf_iconst X (v := 0) rfl dX3_workOut_2 rfl ?_
  refine Rf_istore_n X rfl (i := 3) (Nat.le_of_ble_eq_true rfl) (ls2 := [(3, .int 0), (2, .int 0), (0, .ref 6), (1, .ref 11)]) rfl dX3_workOut_3 rfl ?_
  obtain ⟨n24, h⟩ := h
  refine Rf_sub [2, 3, 1, 0] rfl ?_
  refine sl_X3_workOut_4 X (fun x2_25 σ26 h => ?_) n24 _ _ _ h
  · refine Rf_aload_n X (j := 0) rfl rfl dX3_workOut_62 rfl ?_
    refine Rf_get X kc3 (Nat.le_of_ble_eq_true rfl) rfl (j := 2) (Nat.le_of_ble_eq_true rfl) lf_X3_15 (v := .ref 8) rfl dX3_workOut_63 rfl ?_
    refine Rf_iload_n X (j := 1) rfl rfl dX3_workOut_66 rfl ?_
    refine Rf_iconst X (v := 1) rfl dX3_workOut_67 rfl ?_
    refine Rf_isub X dX3_workOut_68 rfl ?_
    obtain ⟨s27, h⟩ := h
    refine Rf_iaload X (Nat.le_of_ble_eq_true rfl) rfl rfl s27 dX3_workOut_69 rfl (v := gF σ26 8 ((x2_25 - 1).toNatClampNeg)) rfl ?_
    exact Rf_iret X rfl dX3_workOut_70 ⟨_, rfl, h⟩
def wj_X2_doneBy_140 (Q : Int32 → rfS → Prop) (x5 : Int32) (σ : rfS) : Prop :=
  Q (if 0 < (if x5 < 20 then x5 else 20) then (if x5 < 20 then x5 else 20) else 0) σ
set_option maxRecDepth 20000 in
theorem sj_X2_doneBy_140 {E : rfE} {Q : Int32 → rfS → Prop} (X : rfX ΛC E yX2_doneBy cX2_doneBy 6 (some .int)) (x5 : Int32) (σ : rfS) (h : wj_X2_doneBy_140 Q x5 σ) : Rf ΛC 2 E 6 (qi Q) 140 [(5, .int x5)] [] σ := by
  unfold wj_X2_doneBy_140 at h
  refine Rf_iconst X (v := 0) rfl dX2_doneBy_140 rfl ?_
  refine Rf_bipush X (v := 20) rfl dX2_doneBy_141 rfl ?_
  refine Rf_iload X (j := 0) rfl dX2_doneBy_143 rfl ?_
  refine Rf_min X lm_X2_68 mm_min.1 mm_min.2.1 mm_min.2.2 (Nat.le_of_ble_eq_true rfl) (Nat.le_of_ble_eq_true rfl) dX2_doneBy_145 rfl ?_
  refine Rf_max X lm_X2_74 mm_max.1 mm_max.2.1 mm_max.2.2 (Nat.le_of_ble_eq_true rfl) (Nat.le_of_ble_eq_true rfl) dX2_doneBy_148 rfl ?_
  exact Rf_iret X rfl dX2_doneBy_151 ⟨_, rfl, h⟩
def wp_X2_doneBy (σ : rfS) (a1 : Nat) (x2 : Int32) (Q : Int32 → rfS → Prop) : Prop :=
  vp_in (gI σ a1 3) 7 ∧ vp_in x2 7 ∧ wp_X3_isWritten σ (fun (r4 : Int32) (σ3 : rfS) => ((r4 = 0 → vp_in x2 7 ∧ (wj_X2_doneBy_140 Q ((((2 * (gF σ 4 ((gI σ a1 3).toNatClampNeg))) + (3 * (((gF σ 2 (x2.toNatClampNeg)) >>> ((gI σ a1 3) &&& 31)) &&& 1))) + ((gF σ3 (a1 + 1) (x2.toNatClampNeg)) / 5)) - ((gI σ3 a1 2) / 10)) σ3)) ∧ (¬ r4 = 0 → vp_in x2 7 ∧ vp_in x2 7 ∧ wp_J6_bitCount_0f7a4 (sF (sF (sF (sF σ3 11 0 (gF σ 4 ((gI σ a1 3).toNatClampNeg))) 11 1 (gF (sF σ3 11 0 (gF σ 4 ((gI σ a1 3).toNatClampNeg))) (a1 + 1) (x2.toNatClampNeg))) 11 2 (gI σ3 a1 2)) 11 3 (((gF σ 2 (x2.toNatClampNeg)) >>> ((gI σ a1 3) &&& 31)) &&& 1)) (gF (sF (sF (sF (sF σ3 11 0 (gF σ 4 ((gI σ a1 3).toNatClampNeg))) 11 1 (gF (sF σ3 11 0 (gF σ 4 ((gI σ a1 3).toNatClampNeg))) (a1 + 1) (x2.toNatClampNeg))) 11 2 (gI σ3 a1 2)) 11 3 (((gF σ 2 (x2.toNatClampNeg)) >>> ((gI σ a1 3) &&& 31)) &&& 1)) (a1 + 2) (x2.toNatClampNeg)) (fun (r9 : Int32) (σ8 : rfS) => wp_X3_workOut (sF (sF σ8 11 4 r9) 11 5 (gI σ8 a1 3)) (fun (r11 : Int32) (σ10 : rfS) => wj_X2_doneBy_140 Q r11 σ10)))))
set_option maxRecDepth 20000 in
theorem k_X2_doneBy {σ : rfS} {a1 : Nat} {x2 : Int32} {Q : Int32 → rfS → Prop} (ha1 : isSt a1) (h : wp_X2_doneBy σ a1 x2 Q) : RM ΛC 2 yX2_doneBy cX2_doneBy 6 (some .int) [.ref 1, .ref a1, .int x2] σ (qi Q) := by
  unfold wp_X2_doneBy at h
  refine RM.intro (by decide) (Nat.le_of_ble_eq_true rfl) (fun E X => ?_)
  show Rf ΛC 2 E 6 (qi Q) 0 [(0, .ref 1), (1, .ref a1), (2, .int x2)] [] σ
  refine Rf_aload_n X (j := 0) rfl rfl dX2_doneBy_0 rfl ?_
  refine Rf_get X kc2 (Nat.le_of_ble_eq_true rfl) rfl (j := 3) (Nat.le_of_ble_eq_true rfl) lf_X2_18 (v := .ref 4) rfl dX2_doneBy_1 rfl ?_
  refine Rf_aload_n X (j := 1) rfl rfl dX2_doneBy_4 rfl ?_
  refine Rf_get X kc5 (isSt_f _ ha1).1.1 (isSt_f _ ha1).1.2 (j := 3) (Nat.le_of_ble_eq_true rfl) lf_X2_40 (v := .int (gI σ a1 3)) rfl dX2_doneBy_5 rfl ?_
  obtain ⟨s1, h⟩ := h
  refine Rf_iaload X (Nat.le_of_ble_eq_true rfl) rfl rfl s1 dX2_doneBy_8 rfl (v := gF σ 4 ((gI σ a1 3).toNatClampNeg)) rfl ?_
  refine Rf_istore_n X rfl (i := 3) (Nat.le_of_ble_eq_true rfl) (ls2 := [(3, .int (gF σ 4 ((gI σ a1 3).toNatClampNeg))), (0, .ref 1), (1, .ref a1), (2, .int x2)]) rfl dX2_doneBy_9 rfl ?_
  refine Rf_aload_n X (j := 1) rfl rfl dX2_doneBy_10 rfl ?_
  refine Rf_get X kc2 (Nat.le_of_ble_eq_true rfl) rfl (j := 1) (Nat.le_of_ble_eq_true rfl) lf_X2_9 (v := .ref 2) rfl dX2_doneBy_11 rfl ?_
  refine Rf_iload_n X (j := 3) rfl rfl dX2_doneBy_14 rfl ?_
  obtain ⟨s2, h⟩ := h
  refine Rf_iaload X (Nat.le_of_ble_eq_true rfl) rfl rfl s2 dX2_doneBy_15 rfl (v := gF σ 2 (x2.toNatClampNeg)) rfl ?_
  refine Rf_aload_n X (j := 2) rfl rfl dX2_doneBy_16 rfl ?_
  refine Rf_get X kc5 (isSt_f _ ha1).1.1 (isSt_f _ ha1).1.2 (j := 3) (Nat.le_of_ble_eq_true rfl) lf_X2_40 (v := .int (gI σ a1 3)) rfl dX2_doneBy_17 rfl ?_
  refine Rf_ishr X dX2_doneBy_20 rfl ?_
  refine Rf_iconst X (v := 1) rfl dX2_doneBy_21 rfl ?_
  refine Rf_iand X dX2_doneBy_22 rfl ?_
  refine Rf_istore X (i := 4) (Nat.le_of_ble_eq_true rfl) (ls2 := [(4, .int (((gF σ 2 (x2.toNatClampNeg)) >>> ((gI σ a1 3) &&& 31)) &&& 1)), (3, .int (gF σ 4 ((gI σ a1 3).toNatClampNeg))), (0, .ref 1), (1, .ref a1), (2, .int x2)]) rfl dX2_doneBy_23 rfl ?_
  refine Rf_aload_n X (j := 2) rfl rfl dX2_doneBy_25 rfl ?_
  refine Rf_get X kc2 (Nat.le_of_ble_eq_true rfl) rfl (j := 5) (Nat.le_of_ble_eq_true rfl) lf_X2_27 (v := .ref 6) rfl dX2_doneBy_26 rfl ?_
  refine Rf_cVi (as := []) (st := []) X mi_X3_isWritten lm_X2_45 rfl (Nat.le_of_ble_eq_true rfl) rfl (k_X3_isWritten h) (Nat.le_of_ble_eq_true rfl) rfl rfl (Nat.le_of_ble_eq_true rfl) dX2_doneBy_29 rfl (fun r4 σ3 h => ?_)
  refine Rf_if_eq X (tgt := 113) dX2_doneBy_32 rfl rfl (fun c12 => ?_) (fun c12 => ?_)
  · have h := h.1 c12
    refine Rf_iconst X (v := 2) rfl dX2_doneBy_113 rfl ?_
    refine Rf_iload_n X (j := 1) rfl rfl dX2_doneBy_114 rfl ?_
    refine Rf_imul X dX2_doneBy_115 rfl ?_
    refine Rf_iconst X (v := 3) rfl dX2_doneBy_116 rfl ?_
    refine Rf_iload X (j := 0) rfl dX2_doneBy_117 rfl ?_
    refine Rf_imul X dX2_doneBy_119 rfl ?_
    refine Rf_iadd X dX2_doneBy_120 rfl ?_
    refine Rf_aload_n X (j := 3) rfl rfl dX2_doneBy_121 rfl ?_
    refine Rf_get X kc5 (isSt_f _ ha1).1.1 (isSt_f _ ha1).1.2 (j := 0) (Nat.le_of_ble_eq_true rfl) lf_X2_49 (v := .ref (a1 + 1)) rfl dX2_doneBy_122 rfl ?_
    refine Rf_iload_n X (j := 4) rfl rfl dX2_doneBy_125 rfl ?_
    obtain ⟨s5, h⟩ := h
    refine Rf_iaload X (isSt_f _ ha1).2.1.1 (isSt_f _ ha1).2.1.2.1 (isSt_f _ ha1).2.1.2.2 s5 dX2_doneBy_126 rfl (v := gF σ3 (a1 + 1) (x2.toNatClampNeg)) rfl ?_
    refine Rf_iconst X (v := 5) rfl dX2_doneBy_127 rfl ?_
    refine Rf_idiv X (by decide) dX2_doneBy_128 rfl ?_
    refine Rf_iadd X dX2_doneBy_129 rfl ?_
    refine Rf_aload_n X (j := 3) rfl rfl dX2_doneBy_130 rfl ?_
    refine Rf_get X kc5 (isSt_f _ ha1).1.1 (isSt_f _ ha1).1.2 (j := 2) (Nat.le_of_ble_eq_true rfl) lf_X2_52 (v := .int (gI σ3 a1 2)) rfl dX2_doneBy_131 rfl ?_
    refine Rf_bipush X (v := 10) rfl dX2_doneBy_134 rfl ?_
    refine Rf_idiv X (by decide) dX2_doneBy_136 rfl ?_
    refine Rf_isub X dX2_doneBy_137 rfl ?_
    refine Rf_istore X (i := 5) (Nat.le_of_ble_eq_true rfl) (ls2 := [(5, .int ((((2 * (gF σ 4 ((gI σ a1 3).toNatClampNeg))) + (3 * (((gF σ 2 (x2.toNatClampNeg)) >>> ((gI σ a1 3) &&& 31)) &&& 1))) + ((gF σ3 (a1 + 1) (x2.toNatClampNeg)) / 5)) - ((gI σ3 a1 2) / 10))), (4, .int (((gF σ 2 (x2.toNatClampNeg)) >>> ((gI σ a1 3) &&& 31)) &&& 1)), (3, .int (gF σ 4 ((gI σ a1 3).toNatClampNeg))), (0, .ref 1), (1, .ref a1), (2, .int x2)]) rfl dX2_doneBy_138 rfl ?_
    refine Rf_sub [0] rfl ?_
    exact sj_X2_doneBy_140 X _ _ h
  · have h := h.2 c12
    refine Rf_aload_n X (j := 2) rfl rfl dX2_doneBy_35 rfl ?_
    refine Rf_get X kc2 (Nat.le_of_ble_eq_true rfl) rfl (j := 6) (Nat.le_of_ble_eq_true rfl) lf_X2_31 (v := .ref 11) rfl dX2_doneBy_36 rfl ?_
    refine Rf_iconst X (v := 0) rfl dX2_doneBy_39 rfl ?_
    refine Rf_iload_n X (j := 1) rfl rfl dX2_doneBy_40 rfl ?_
    refine Rf_iastore X (Nat.le_of_ble_eq_true rfl) rfl rfl (by unfold vp_in; decide) dX2_doneBy_41 rfl ?_
    refine Rf_aload_n X (j := 2) rfl rfl dX2_doneBy_42 rfl ?_
    refine Rf_get X kc2 (Nat.le_of_ble_eq_true rfl) rfl (j := 6) (Nat.le_of_ble_eq_true rfl) lf_X2_31 (v := .ref 11) rfl dX2_doneBy_43 rfl ?_
    refine Rf_iconst X (v := 1) rfl dX2_doneBy_46 rfl ?_
    refine Rf_aload_n X (j := 3) rfl rfl dX2_doneBy_47 rfl ?_
    refine Rf_get X kc5 (isSt_f _ ha1).1.1 (isSt_f _ ha1).1.2 (j := 0) (Nat.le_of_ble_eq_true rfl) lf_X2_49 (v := .ref (a1 + 1)) rfl dX2_doneBy_48 rfl ?_
    refine Rf_iload_n X (j := 4) rfl rfl dX2_doneBy_51 rfl ?_
    obtain ⟨s6, h⟩ := h
    refine Rf_iaload X (isSt_f _ ha1).2.1.1 (isSt_f _ ha1).2.1.2.1 (isSt_f _ ha1).2.1.2.2 s6 dX2_doneBy_52 rfl (v := gF (sF σ3 11 0 (gF σ 4 ((gI σ a1 3).toNatClampNeg))) (a1 + 1) (x2.toNatClampNeg)) rfl ?_
    refine Rf_iastore X (Nat.le_of_ble_eq_true rfl) rfl rfl (by unfold vp_in; decide) dX2_doneBy_53 rfl ?_
    refine Rf_aload_n X (j := 2) rfl rfl dX2_doneBy_54 rfl ?_
    refine Rf_get X kc2 (Nat.le_of_ble_eq_true rfl) rfl (j := 6) (Nat.le_of_ble_eq_true rfl) lf_X2_31 (v := .ref 11) rfl dX2_doneBy_55 rfl ?_
    refine Rf_iconst X (v := 2) rfl dX2_doneBy_58 rfl ?_
    refine Rf_aload_n X (j := 3) rfl rfl dX2_doneBy_59 rfl ?_
    refine Rf_get X kc5 (isSt_f _ ha1).1.1 (isSt_f _ ha1).1.2 (j := 2) (Nat.le_of_ble_eq_true rfl) lf_X2_52 (v := .int (gI σ3 a1 2)) (congrArg Value.int (show gI (sF (sF σ3 11 0 (gF σ 4 ((gI σ a1 3).toNatClampNeg))) 11 1 (gF (sF σ3 11 0 (gF σ 4 ((gI σ a1 3).toNatClampNeg))) (a1 + 1) (x2.toNatClampNeg))) a1 2 = gI σ3 a1 2 from (gI_sF _ _ _ _ _ _).trans (gI_sF _ _ _ _ _ _))) dX2_doneBy_60 rfl ?_
    refine Rf_iastore X (Nat.le_of_ble_eq_true rfl) rfl rfl (by unfold vp_in; decide) dX2_doneBy_63 rfl ?_
    refine Rf_aload_n X (j := 2) rfl rfl dX2_doneBy_64 rfl ?_
    refine Rf_get X kc2 (Nat.le_of_ble_eq_true rfl) rfl (j := 6) (Nat.le_of_ble_eq_true rfl) lf_X2_31 (v := .ref 11) rfl dX2_doneBy_65 rfl ?_
    refine Rf_iconst X (v := 3) rfl dX2_doneBy_68 rfl ?_
    refine Rf_iload X (j := 0) rfl dX2_doneBy_69 rfl ?_
    refine Rf_iastore X (Nat.le_of_ble_eq_true rfl) rfl rfl (by unfold vp_in; decide) dX2_doneBy_71 rfl ?_
    refine Rf_aload_n X (j := 2) rfl rfl dX2_doneBy_72 rfl ?_
    refine Rf_get X kc2 (Nat.le_of_ble_eq_true rfl) rfl (j := 6) (Nat.le_of_ble_eq_true rfl) lf_X2_31 (v := .ref 11) rfl dX2_doneBy_73 rfl ?_
    refine Rf_iconst X (v := 4) rfl dX2_doneBy_76 rfl ?_
    refine Rf_aload_n X (j := 3) rfl rfl dX2_doneBy_77 rfl ?_
    refine Rf_get X kc5 (isSt_f _ ha1).1.1 (isSt_f _ ha1).1.2 (j := 1) (Nat.le_of_ble_eq_true rfl) lf_X2_55 (v := .ref (a1 + 2)) rfl dX2_doneBy_78 rfl ?_
    refine Rf_iload_n X (j := 4) rfl rfl dX2_doneBy_81 rfl ?_
    obtain ⟨s7, h⟩ := h
    refine Rf_iaload X (isSt_f _ ha1).2.2.1 (isSt_f _ ha1).2.2.2.1 (isSt_f _ ha1).2.2.2.2 s7 dX2_doneBy_82 rfl (v := gF (sF (sF (sF (sF σ3 11 0 (gF σ 4 ((gI σ a1 3).toNatClampNeg))) 11 1 (gF (sF σ3 11 0 (gF σ 4 ((gI σ a1 3).toNatClampNeg))) (a1 + 1) (x2.toNatClampNeg))) 11 2 (gI σ3 a1 2)) 11 3 (((gF σ 2 (x2.toNatClampNeg)) >>> ((gI σ a1 3) &&& 31)) &&& 1)) (a1 + 2) (x2.toNatClampNeg)) rfl ?_
    refine Rf_cSi (as := [.int (gF (sF (sF (sF (sF σ3 11 0 (gF σ 4 ((gI σ a1 3).toNatClampNeg))) 11 1 (gF (sF σ3 11 0 (gF σ 4 ((gI σ a1 3).toNatClampNeg))) (a1 + 1) (x2.toNatClampNeg))) 11 2 (gI σ3 a1 2)) 11 3 (((gF σ 2 (x2.toNatClampNeg)) >>> ((gI σ a1 3) &&& 31)) &&& 1)) (a1 + 2) (x2.toNatClampNeg))]) (st := [.int 4, .ref 11]) X ms_J6_bitCount_0f7a4 lm_X2_58 (k_J6_bitCount_0f7a4 h) (Nat.le_of_ble_eq_true rfl) rfl rfl (Nat.le_of_ble_eq_true rfl) dX2_doneBy_83 rfl (fun r9 σ8 h => ?_)
    refine Rf_iastore X (Nat.le_of_ble_eq_true rfl) rfl rfl (by unfold vp_in; decide) dX2_doneBy_86 rfl ?_
    refine Rf_aload_n X (j := 2) rfl rfl dX2_doneBy_87 rfl ?_
    refine Rf_get X kc2 (Nat.le_of_ble_eq_true rfl) rfl (j := 6) (Nat.le_of_ble_eq_true rfl) lf_X2_31 (v := .ref 11) rfl dX2_doneBy_88 rfl ?_
    refine Rf_iconst X (v := 5) rfl dX2_doneBy_91 rfl ?_
    refine Rf_aload_n X (j := 3) rfl rfl dX2_doneBy_92 rfl ?_
    refine Rf_get X kc5 (isSt_f _ ha1).1.1 (isSt_f _ ha1).1.2 (j := 3) (Nat.le_of_ble_eq_true rfl) lf_X2_40 (v := .int (gI σ8 a1 3)) (congrArg Value.int (show gI (sF σ8 11 4 r9) a1 3 = gI σ8 a1 3 from gI_sF _ _ _ _ _ _)) dX2_doneBy_93 rfl ?_
    refine Rf_iastore X (Nat.le_of_ble_eq_true rfl) rfl rfl (by unfold vp_in; decide) dX2_doneBy_96 rfl ?_
    refine Rf_aload_n X (j := 2) rfl rfl dX2_doneBy_97 rfl ?_
    refine Rf_get X kc2 (Nat.le_of_ble_eq_true rfl) rfl (j := 5) (Nat.le_of_ble_eq_true rfl) lf_X2_27 (v := .ref 6) rfl dX2_doneBy_98 rfl ?_
    refine Rf_aload_n X (j := 2) rfl rfl dX2_doneBy_101 rfl ?_
    refine Rf_get X kc2 (Nat.le_of_ble_eq_true rfl) rfl (j := 6) (Nat.le_of_ble_eq_true rfl) lf_X2_31 (v := .ref 11) rfl dX2_doneBy_102 rfl ?_
    refine Rf_cVi (as := [.ref 11]) (st := []) X mi_X3_workOut lm_X2_64 rfl (Nat.le_of_ble_eq_true rfl) rfl (k_X3_workOut h) (Nat.le_of_ble_eq_true rfl) rfl rfl (Nat.le_of_ble_eq_true rfl) dX2_doneBy_105 rfl (fun r11 σ10 h => ?_)
    refine Rf_istore X (i := 5) (Nat.le_of_ble_eq_true rfl) (ls2 := [(5, .int r11), (4, .int (((gF σ 2 (x2.toNatClampNeg)) >>> ((gI σ a1 3) &&& 31)) &&& 1)), (3, .int (gF σ 4 ((gI σ a1 3).toNatClampNeg))), (0, .ref 1), (1, .ref a1), (2, .int x2)]) rfl dX2_doneBy_108 rfl ?_
    refine Rf_goto X (tgt := 140) dX2_doneBy_110 rfl ?_
    refine Rf_sub [0] rfl ?_
    exact sj_X2_doneBy_140 X _ _ h
def wj_X2_owedBehind_31 (Q : Int32 → rfS → Prop) (x1 : Int32) (xs0 : Int32) (σ : rfS) : Prop :=
  ((xs0 = 0 → Q x1 σ) ∧ (¬ xs0 = 0 → Q (if (x1 + 1) < 99 then (x1 + 1) else 99) σ))
set_option maxRecDepth 20000 in
theorem sj_X2_owedBehind_31 {E : rfE} {Q : Int32 → rfS → Prop} (X : rfX ΛC E yX2_owedBehind cX2_owedBehind 7 (some .int)) (x1 : Int32) (xs0 : Int32) (σ : rfS) (h : wj_X2_owedBehind_31 Q x1 xs0 σ) : Rf ΛC 1 E 7 (qi Q) 31 [(1, .int x1)] [.int xs0] σ := by
  unfold wj_X2_owedBehind_31 at h
  refine Rf_istore X (i := 6) (Nat.le_of_ble_eq_true rfl) (ls2 := [(6, .int xs0), (1, .int x1)]) rfl dX2_owedBehind_31 rfl ?_
  refine Rf_iload X (j := 0) rfl dX2_owedBehind_33 rfl ?_
  refine Rf_if_eq X (tgt := 49) dX2_owedBehind_35 rfl rfl (fun c1 => ?_) (fun c1 => ?_)
  · have h := h.1 c1
    refine Rf_iload_n X (j := 1) rfl rfl dX2_owedBehind_49 rfl ?_
    exact Rf_iret X rfl dX2_owedBehind_50 ⟨_, rfl, h⟩
  · have h := h.2 c1
    refine Rf_bipush X (v := 99) rfl dX2_owedBehind_38 rfl ?_
    refine Rf_iload_n X (j := 1) rfl rfl dX2_owedBehind_40 rfl ?_
    refine Rf_iconst X (v := 1) rfl dX2_owedBehind_41 rfl ?_
    refine Rf_iadd X dX2_owedBehind_42 rfl ?_
    refine Rf_min X lm_X2_68 mm_min.1 mm_min.2.1 mm_min.2.2 (Nat.le_of_ble_eq_true rfl) (Nat.le_of_ble_eq_true rfl) dX2_owedBehind_43 rfl ?_
    refine Rf_goto X (tgt := 50) dX2_owedBehind_46 rfl ?_
    exact Rf_iret X rfl dX2_owedBehind_50 ⟨_, rfl, h⟩
def wp_X2_owedBehind (σ : rfS) (x1 : Int32) (x2 : Int32) (x3 : Int32) (x4 : Int32) (x5 : Int32) (Q : Int32 → rfS → Prop) : Prop :=
  ((¬ x2 = x4 → ((((x3 >>> ((x5 - x5 / 7 * 7) &&& 31)) &&& 1) = 0 → wj_X2_owedBehind_31 Q x1 0 σ) ∧ (¬ ((x3 >>> ((x5 - x5 / 7 * 7) &&& 31)) &&& 1) = 0 → wj_X2_owedBehind_31 Q x1 1 σ))) ∧ (x2 = x4 → Q (if 0 < (x1 - 2) then (x1 - 2) else 0) σ))
set_option maxRecDepth 20000 in
theorem k_X2_owedBehind {σ : rfS} {x1 : Int32} {x2 : Int32} {x3 : Int32} {x4 : Int32} {x5 : Int32} {Q : Int32 → rfS → Prop} (h : wp_X2_owedBehind σ x1 x2 x3 x4 x5 Q) : RM ΛC 1 yX2_owedBehind cX2_owedBehind 7 (some .int) [.ref 1, .int x1, .int x2, .int x3, .int x4, .int x5] σ (qi Q) := by
  unfold wp_X2_owedBehind at h
  refine RM.intro (by decide) (Nat.le_of_ble_eq_true rfl) (fun E X => ?_)
  show Rf ΛC 1 E 7 (qi Q) 0 [(0, .ref 1), (1, .int x1), (2, .int x2), (3, .int x3), (4, .int x4), (5, .int x5)] [] σ
  refine Rf_iload_n X (j := 2) rfl rfl dX2_owedBehind_0 rfl ?_
  refine Rf_iload X (j := 4) rfl dX2_owedBehind_1 rfl ?_
  refine Rf_icmp_ne X (tgt := 14) dX2_owedBehind_3 rfl rfl (fun c3 => ?_) (fun c3 => ?_)
  · have h := h.1 c3
    refine Rf_iload_n X (j := 3) rfl rfl dX2_owedBehind_14 rfl ?_
    refine Rf_iload X (j := 5) rfl dX2_owedBehind_15 rfl ?_
    refine Rf_bipush X (v := 7) rfl dX2_owedBehind_17 rfl ?_
    refine Rf_irem X (by decide) dX2_owedBehind_19 rfl ?_
    refine Rf_ishr X dX2_owedBehind_20 rfl ?_
    refine Rf_iconst X (v := 1) rfl dX2_owedBehind_21 rfl ?_
    refine Rf_iand X dX2_owedBehind_22 rfl ?_
    refine Rf_if_eq X (tgt := 30) dX2_owedBehind_23 rfl rfl (fun c2 => ?_) (fun c2 => ?_)
    · have h := h.1 c2
      refine Rf_iconst X (v := 0) rfl dX2_owedBehind_30 rfl ?_
      refine Rf_sub [1] rfl ?_
      exact sj_X2_owedBehind_31 X _ _ _ h
    · have h := h.2 c2
      refine Rf_iconst X (v := 1) rfl dX2_owedBehind_26 rfl ?_
      refine Rf_goto X (tgt := 31) dX2_owedBehind_27 rfl ?_
      refine Rf_sub [1] rfl ?_
      exact sj_X2_owedBehind_31 X _ _ _ h
  · have h := h.2 c3
    refine Rf_iconst X (v := 0) rfl dX2_owedBehind_6 rfl ?_
    refine Rf_iload_n X (j := 1) rfl rfl dX2_owedBehind_7 rfl ?_
    refine Rf_iconst X (v := 2) rfl dX2_owedBehind_8 rfl ?_
    refine Rf_isub X dX2_owedBehind_9 rfl ?_
    refine Rf_max X lm_X2_74 mm_max.1 mm_max.2.1 mm_max.2.2 (Nat.le_of_ble_eq_true rfl) (Nat.le_of_ble_eq_true rfl) dX2_owedBehind_10 rfl ?_
    exact Rf_iret X rfl dX2_owedBehind_13 ⟨_, rfl, h⟩
def wl_X2_pass_22 (Q : Int32 → rfS → Prop) (kx_69 : Nat → Int32 → Int32 → rfS → Prop) : Nat → Nat → Int32 → Int32 → Int32 → rfS → Prop
  | 0, _, _, _, _, _ => False
  | n + 1, a1, x2, x3, x4, σ => (((gI σ 1 0) ≤ x4 → kx_69 a1 x2 x3 σ) ∧ (¬ ((gI σ 1 0) ≤ x4) → vp_in x4 7 ∧ vp_in x4 7 ∧ wp_X2_owedBehind σ (gF σ (a1 + 1) (x4.toNatClampNeg)) x4 (gF σ 2 (x4.toNatClampNeg)) x2 (gI σ a1 3) (fun (r6 : Int32) (σ5 : rfS) => vp_in x4 7 ∧ (wl_X2_pass_22 Q kx_69 n a1 x2 x3 (x4 + 1) (sF σ5 (a1 + 1) (x4.toNatClampNeg) r6)))))
set_option maxRecDepth 20000 in
theorem sl_X2_pass_22 {E : rfE} {Q : Int32 → rfS → Prop} (X : rfX ΛC E yX2_pass cX2_pass 5 (some .int)) {kx_69 : Nat → Int32 → Int32 → rfS → Prop} (hkx_69 : ∀ (a1 : Nat) (x2 : Int32) (x3 : Int32) (σ : rfS), isSt a1 → kx_69 a1 x2 x3 σ → Rf ΛC 3 E 5 (qi Q) 69 [(0, .ref 1), (1, .ref a1), (2, .int x2), (3, .int x3)] [] σ) : ∀ (n : Nat) (a1 : Nat) (x2 : Int32) (x3 : Int32) (x4 : Int32) (σ : rfS), isSt a1 → wl_X2_pass_22 Q kx_69 n a1 x2 x3 x4 σ → Rf ΛC 3 E 5 (qi Q) 22 [(0, .ref 1), (1, .ref a1), (2, .int x2), (3, .int x3), (4, .int x4)] [] σ := by
  intro n
  induction n with
  | zero =>
    intro a1 x2 x3 x4 σ ha1 h
    exact False.elim h
  | succ n hkb_22 =>
    intro a1 x2 x3 x4 σ ha1 h
    unfold wl_X2_pass_22 at h
    refine Rf_iload X (j := 4) rfl dX2_pass_22 rfl ?_
    refine Rf_aload_n X (j := 0) rfl rfl dX2_pass_24 rfl ?_
    refine Rf_get X kc2 (Nat.le_of_ble_eq_true rfl) rfl (j := 0) (Nat.le_of_ble_eq_true rfl) lf_X2_34 (v := .int (gI σ 1 0)) rfl dX2_pass_25 rfl ?_
    refine Rf_icmp_ge X (tgt := 69) dX2_pass_28 rfl rfl (fun c8 => ?_) (fun c8 => ?_)
    · have h := h.1 c8
      refine Rf_sub [0, 1, 2, 3] rfl ?_
      exact hkx_69 _ _ _ σ ha1 h
    · have h := h.2 c8
      refine Rf_aload_n X (j := 1) rfl rfl dX2_pass_31 rfl ?_
      refine Rf_get X kc5 (isSt_f _ ha1).1.1 (isSt_f _ ha1).1.2 (j := 0) (Nat.le_of_ble_eq_true rfl) lf_X2_49 (v := .ref (a1 + 1)) rfl dX2_pass_32 rfl ?_
      refine Rf_iload X (j := 4) rfl dX2_pass_35 rfl ?_
      refine Rf_aload_n X (j := 0) rfl rfl dX2_pass_37 rfl ?_
      refine Rf_aload_n X (j := 1) rfl rfl dX2_pass_38 rfl ?_
      refine Rf_get X kc5 (isSt_f _ ha1).1.1 (isSt_f _ ha1).1.2 (j := 0) (Nat.le_of_ble_eq_true rfl) lf_X2_49 (v := .ref (a1 + 1)) rfl dX2_pass_39 rfl ?_
      refine Rf_iload X (j := 4) rfl dX2_pass_42 rfl ?_
      obtain ⟨s3, h⟩ := h
      refine Rf_iaload X (isSt_f _ ha1).2.1.1 (isSt_f _ ha1).2.1.2.1 (isSt_f _ ha1).2.1.2.2 s3 dX2_pass_44 rfl (v := gF σ (a1 + 1) (x4.toNatClampNeg)) rfl ?_
      refine Rf_iload X (j := 4) rfl dX2_pass_45 rfl ?_
      refine Rf_aload_n X (j := 0) rfl rfl dX2_pass_47 rfl ?_
      refine Rf_get X kc2 (Nat.le_of_ble_eq_true rfl) rfl (j := 1) (Nat.le_of_ble_eq_true rfl) lf_X2_9 (v := .ref 2) rfl dX2_pass_48 rfl ?_
      refine Rf_iload X (j := 4) rfl dX2_pass_51 rfl ?_
      obtain ⟨s4, h⟩ := h
      refine Rf_iaload X (Nat.le_of_ble_eq_true rfl) rfl rfl s4 dX2_pass_53 rfl (v := gF σ 2 (x4.toNatClampNeg)) rfl ?_
      refine Rf_iload_n X (j := 2) rfl rfl dX2_pass_54 rfl ?_
      refine Rf_aload_n X (j := 1) rfl rfl dX2_pass_55 rfl ?_
      refine Rf_get X kc5 (isSt_f _ ha1).1.1 (isSt_f _ ha1).1.2 (j := 3) (Nat.le_of_ble_eq_true rfl) lf_X2_40 (v := .int (gI σ a1 3)) rfl dX2_pass_56 rfl ?_
      refine Rf_cVi (as := [.int (gF σ (a1 + 1) (x4.toNatClampNeg)), .int x4, .int (gF σ 2 (x4.toNatClampNeg)), .int x2, .int (gI σ a1 3)]) (st := [.int x4, .ref (a1 + 1)]) X mi_X2_owedBehind lm_X2_85 rfl (Nat.le_of_ble_eq_true rfl) rfl (k_X2_owedBehind h) (Nat.le_of_ble_eq_true rfl) rfl rfl (Nat.le_of_ble_eq_true rfl) dX2_pass_59 rfl (fun r6 σ5 h => ?_)
      obtain ⟨s7, h⟩ := h
      refine Rf_iastore X (isSt_f _ ha1).2.1.1 (isSt_f _ ha1).2.1.2.1 (isSt_f _ ha1).2.1.2.2 s7 dX2_pass_62 rfl ?_
      refine Rf_iinc X (i := 4) (j := 4) (v := x4 + 1) rfl rfl (Nat.le_of_ble_eq_true rfl) (ls2 := [(4, .int (x4 + 1)), (0, .ref 1), (1, .ref a1), (2, .int x2), (3, .int x3)]) rfl dX2_pass_63 rfl ?_
      refine Rf_goto X (tgt := 22) dX2_pass_66 rfl ?_
      refine Rf_sub [1, 2, 3, 4, 0] rfl ?_
      exact hkb_22 _ _ _ _ (sF σ5 (a1 + 1) (x4.toNatClampNeg) r6) ha1 h
def wj_X2_pass_168 (Q : Int32 → rfS → Prop) (a1 : Nat) (x3 : Int32) (σ : rfS) : Prop :=
  Q x3 (sI σ a1 3 (((gI σ a1 3) + 1) - ((gI σ a1 3) + 1) / 7 * 7))
set_option maxRecDepth 20000 in
theorem sj_X2_pass_168 {E : rfE} {Q : Int32 → rfS → Prop} (X : rfX ΛC E yX2_pass cX2_pass 5 (some .int)) (a1 : Nat) (x3 : Int32) (σ : rfS) (ha1 : isSt a1) (h : wj_X2_pass_168 Q a1 x3 σ) : Rf ΛC 3 E 5 (qi Q) 168 [(1, .ref a1), (3, .int x3)] [] σ := by
  unfold wj_X2_pass_168 at h
  refine Rf_aload_n X (j := 0) rfl rfl dX2_pass_168 rfl ?_
  refine Rf_aload_n X (j := 0) rfl rfl dX2_pass_169 rfl ?_
  refine Rf_get X kc5 (isSt_f _ ha1).1.1 (isSt_f _ ha1).1.2 (j := 3) (Nat.le_of_ble_eq_true rfl) lf_X2_40 (v := .int (gI σ a1 3)) rfl dX2_pass_170 rfl ?_
  refine Rf_iconst X (v := 1) rfl dX2_pass_173 rfl ?_
  refine Rf_iadd X dX2_pass_174 rfl ?_
  refine Rf_bipush X (v := 7) rfl dX2_pass_175 rfl ?_
  refine Rf_irem X (by decide) dX2_pass_177 rfl ?_
  refine Rf_put X kc5 (isSt_f _ ha1).1.1 (isSt_f _ ha1).1.2 (j := 3) (Nat.le_of_ble_eq_true rfl) rfl lf_X2_40 rfl rfl rfl dX2_pass_178 rfl ?_
  refine Rf_iload_n X (j := 1) rfl rfl dX2_pass_181 rfl ?_
  exact Rf_iret X rfl dX2_pass_182 ⟨_, rfl, h⟩
def wj_X2_pass_150 (Q : Int32 → rfS → Prop) (a1 : Nat) (x2 : Int32) (x3 : Int32) (xs0 : Int32) (σ : rfS) : Prop :=
  vp_in xs0 7 ∧ vp_in x2 7 ∧ vp_in xs0 7 ∧ (wj_X2_pass_168 Q a1 x3 (sF σ (a1 + 2) (xs0.toNatClampNeg) ((gF σ (a1 + 2) (xs0.toNatClampNeg)) ||| (gF σ (a1 + 2) (x2.toNatClampNeg)))))
set_option maxRecDepth 20000 in
theorem sj_X2_pass_150 {E : rfE} {Q : Int32 → rfS → Prop} (X : rfX ΛC E yX2_pass cX2_pass 5 (some .int)) (a1 : Nat) (x2 : Int32) (x3 : Int32) (xs0 : Int32) (σ : rfS) (ha1 : isSt a1) (h : wj_X2_pass_150 Q a1 x2 x3 xs0 σ) : Rf ΛC 3 E 5 (qi Q) 150 [(1, .ref a1), (2, .int x2), (3, .int x3)] [.int xs0] σ := by
  unfold wj_X2_pass_150 at h
  refine Rf_istore X (i := 4) (Nat.le_of_ble_eq_true rfl) (ls2 := [(4, .int xs0), (1, .ref a1), (2, .int x2), (3, .int x3)]) rfl dX2_pass_150 rfl ?_
  refine Rf_aload_n X (j := 1) rfl rfl dX2_pass_152 rfl ?_
  refine Rf_get X kc5 (isSt_f _ ha1).1.1 (isSt_f _ ha1).1.2 (j := 1) (Nat.le_of_ble_eq_true rfl) lf_X2_55 (v := .ref (a1 + 2)) rfl dX2_pass_153 rfl ?_
  refine Rf_iload X (j := 0) rfl dX2_pass_156 rfl ?_
  refine Rf_dup2 X rfl rfl dX2_pass_158 rfl ?_
  obtain ⟨s18, h⟩ := h
  refine Rf_iaload X (isSt_f _ ha1).2.2.1 (isSt_f _ ha1).2.2.2.1 (isSt_f _ ha1).2.2.2.2 s18 dX2_pass_159 rfl (v := gF σ (a1 + 2) (xs0.toNatClampNeg)) rfl ?_
  refine Rf_aload_n X (j := 1) rfl rfl dX2_pass_160 rfl ?_
  refine Rf_get X kc5 (isSt_f _ ha1).1.1 (isSt_f _ ha1).1.2 (j := 1) (Nat.le_of_ble_eq_true rfl) lf_X2_55 (v := .ref (a1 + 2)) rfl dX2_pass_161 rfl ?_
  refine Rf_iload_n X (j := 2) rfl rfl dX2_pass_164 rfl ?_
  obtain ⟨s19, h⟩ := h
  refine Rf_iaload X (isSt_f _ ha1).2.2.1 (isSt_f _ ha1).2.2.2.1 (isSt_f _ ha1).2.2.2.2 s19 dX2_pass_165 rfl (v := gF σ (a1 + 2) (x2.toNatClampNeg)) rfl ?_
  refine Rf_ior X dX2_pass_166 rfl ?_
  obtain ⟨s20, h⟩ := h
  refine Rf_iastore X (isSt_f _ ha1).2.2.1 (isSt_f _ ha1).2.2.2.1 (isSt_f _ ha1).2.2.2.2 s20 dX2_pass_167 rfl ?_
  refine Rf_sub [1, 3] rfl ?_
  exact sj_X2_pass_168 X _ _ _ ha1 h
def wj_X2_pass_110 (Q : Int32 → rfS → Prop) (a1 : Nat) (x2 : Int32) (x3 : Int32) (σ : rfS) : Prop :=
  vp_in (gI σ a1 3) 7 ∧ (((gI σ 1 0) ≤ (x2 + 1) → wj_X2_pass_150 Q a1 x2 x3 0 (sI σ a1 2 (if ((gI σ a1 2) + (gF σ 4 ((gI σ a1 3).toNatClampNeg))) < 99 then ((gI σ a1 2) + (gF σ 4 ((gI σ a1 3).toNatClampNeg))) else 99))) ∧ (¬ ((gI σ 1 0) ≤ (x2 + 1)) → wj_X2_pass_150 Q a1 x2 x3 (x2 + 1) (sI σ a1 2 (if ((gI σ a1 2) + (gF σ 4 ((gI σ a1 3).toNatClampNeg))) < 99 then ((gI σ a1 2) + (gF σ 4 ((gI σ a1 3).toNatClampNeg))) else 99))))
set_option maxRecDepth 20000 in
theorem sj_X2_pass_110 {E : rfE} {Q : Int32 → rfS → Prop} (X : rfX ΛC E yX2_pass cX2_pass 5 (some .int)) (a1 : Nat) (x2 : Int32) (x3 : Int32) (σ : rfS) (ha1 : isSt a1) (h : wj_X2_pass_110 Q a1 x2 x3 σ) : Rf ΛC 3 E 5 (qi Q) 110 [(0, .ref 1), (1, .ref a1), (2, .int x2), (3, .int x3)] [] σ := by
  unfold wj_X2_pass_110 at h
  refine Rf_aload_n X (j := 1) rfl rfl dX2_pass_110 rfl ?_
  refine Rf_bipush X (v := 99) rfl dX2_pass_111 rfl ?_
  refine Rf_aload_n X (j := 1) rfl rfl dX2_pass_113 rfl ?_
  refine Rf_get X kc5 (isSt_f _ ha1).1.1 (isSt_f _ ha1).1.2 (j := 2) (Nat.le_of_ble_eq_true rfl) lf_X2_52 (v := .int (gI σ a1 2)) rfl dX2_pass_114 rfl ?_
  refine Rf_aload_n X (j := 0) rfl rfl dX2_pass_117 rfl ?_
  refine Rf_get X kc2 (Nat.le_of_ble_eq_true rfl) rfl (j := 3) (Nat.le_of_ble_eq_true rfl) lf_X2_18 (v := .ref 4) rfl dX2_pass_118 rfl ?_
  refine Rf_aload_n X (j := 1) rfl rfl dX2_pass_121 rfl ?_
  refine Rf_get X kc5 (isSt_f _ ha1).1.1 (isSt_f _ ha1).1.2 (j := 3) (Nat.le_of_ble_eq_true rfl) lf_X2_40 (v := .int (gI σ a1 3)) rfl dX2_pass_122 rfl ?_
  obtain ⟨s17, h⟩ := h
  refine Rf_iaload X (Nat.le_of_ble_eq_true rfl) rfl rfl s17 dX2_pass_125 rfl (v := gF σ 4 ((gI σ a1 3).toNatClampNeg)) rfl ?_
  refine Rf_iadd X dX2_pass_126 rfl ?_
  refine Rf_min X lm_X2_68 mm_min.1 mm_min.2.1 mm_min.2.2 (Nat.le_of_ble_eq_true rfl) (Nat.le_of_ble_eq_true rfl) dX2_pass_127 rfl ?_
  refine Rf_put X kc5 (isSt_f _ ha1).1.1 (isSt_f _ ha1).1.2 (j := 2) (Nat.le_of_ble_eq_true rfl) rfl lf_X2_52 rfl rfl rfl dX2_pass_130 rfl ?_
  refine Rf_iload_n X (j := 2) rfl rfl dX2_pass_133 rfl ?_
  refine Rf_iconst X (v := 1) rfl dX2_pass_134 rfl ?_
  refine Rf_iadd X dX2_pass_135 rfl ?_
  refine Rf_aload_n X (j := 0) rfl rfl dX2_pass_136 rfl ?_
  refine Rf_get X kc2 (Nat.le_of_ble_eq_true rfl) rfl (j := 0) (Nat.le_of_ble_eq_true rfl) lf_X2_34 (v := .int (gI σ 1 0)) (congrArg Value.int (show gI (sI σ a1 2 (if ((gI σ a1 2) + (gF σ 4 ((gI σ a1 3).toNatClampNeg))) < 99 then ((gI σ a1 2) + (gF σ 4 ((gI σ a1 3).toNatClampNeg))) else 99)) 1 0 = gI σ 1 0 from gI_sIj (by decide))) dX2_pass_137 rfl ?_
  refine Rf_icmp_ge X (tgt := 149) dX2_pass_140 rfl rfl (fun c21 => ?_) (fun c21 => ?_)
  · have h := h.1 c21
    refine Rf_iconst X (v := 0) rfl dX2_pass_149 rfl ?_
    refine Rf_sub [1, 2, 3] rfl ?_
    exact sj_X2_pass_150 X _ _ _ _ _ ha1 h
  · have h := h.2 c21
    refine Rf_iload_n X (j := 2) rfl rfl dX2_pass_143 rfl ?_
    refine Rf_iconst X (v := 1) rfl dX2_pass_144 rfl ?_
    refine Rf_iadd X dX2_pass_145 rfl ?_
    refine Rf_goto X (tgt := 150) dX2_pass_146 rfl ?_
    refine Rf_sub [1, 2, 3] rfl ?_
    exact sj_X2_pass_150 X _ _ _ _ _ ha1 h
def wj_X2_pass_18 (Q : Int32 → rfS → Prop) (a1 : Nat) (x2 : Int32) (xs0 : Int32) (σ : rfS) : Prop :=
  (∃ n9, wl_X2_pass_22 Q (fun (a1_10 : Nat) (x2_11 : Int32) (x3_12 : Int32) (σ13 : rfS) => wp_X2_isOne σ13 x2_11 (fun (r15 : Int32) (σ14 : rfS) => ((r15 = 0 → wj_X2_pass_168 Q a1_10 x3_12 σ14) ∧ (¬ r15 = 0 → vp_in (gI σ14 a1_10 3) 7 ∧ ((¬ (gF σ14 4 ((gI σ14 a1_10 3).toNatClampNeg)) = 2 → wj_X2_pass_110 Q a1_10 x2_11 x3_12 σ14) ∧ ((gF σ14 4 ((gI σ14 a1_10 3).toNatClampNeg)) = 2 → vp_in x2_11 7 ∧ vp_in (gI σ14 a1_10 3) 7 ∧ vp_in x2_11 7 ∧ (wj_X2_pass_110 Q a1_10 x2_11 x3_12 (sF σ14 (a1_10 + 2) (x2_11.toNatClampNeg) ((gF σ14 (a1_10 + 2) (x2_11.toNatClampNeg)) ||| (1 <<< ((gF σ14 5 ((gI σ14 a1_10 3).toNatClampNeg)) &&& 31))))))))))) n9 a1 x2 xs0 0 σ)
set_option maxRecDepth 20000 in
theorem sj_X2_pass_18 {E : rfE} {Q : Int32 → rfS → Prop} (X : rfX ΛC E yX2_pass cX2_pass 5 (some .int)) (a1 : Nat) (x2 : Int32) (xs0 : Int32) (σ : rfS) (ha1 : isSt a1) (h : wj_X2_pass_18 Q a1 x2 xs0 σ) : Rf ΛC 3 E 5 (qi Q) 18 [(0, .ref 1), (1, .ref a1), (2, .int x2)] [.int xs0] σ := by
  unfold wj_X2_pass_18 at h
  refine Rf_istore_n X rfl (i := 3) (Nat.le_of_ble_eq_true rfl) (ls2 := [(3, .int xs0), (0, .ref 1), (1, .ref a1), (2, .int x2)]) rfl dX2_pass_18 rfl ?_
  refine Rf_iconst X (v := 0) rfl dX2_pass_19 rfl ?_
  refine Rf_istore X (i := 4) (Nat.le_of_ble_eq_true rfl) (ls2 := [(4, .int 0), (3, .int xs0), (0, .ref 1), (1, .ref a1), (2, .int x2)]) rfl dX2_pass_20 rfl ?_
  obtain ⟨n9, h⟩ := h
  refine Rf_sub [2, 3, 4, 1, 0] rfl ?_
  refine sl_X2_pass_22 X (fun a1_10 x2_11 x3_12 σ13 ha1_10 h => ?_) n9 _ _ _ _ _ ha1 h
  · refine Rf_aload_n X (j := 0) rfl rfl dX2_pass_69 rfl ?_
    refine Rf_iload_n X (j := 2) rfl rfl dX2_pass_70 rfl ?_
    refine Rf_cVi (as := [.int x2_11]) (st := []) X mi_X2_isOne lm_X2_77 rfl (Nat.le_of_ble_eq_true rfl) rfl (k_X2_isOne h) (Nat.le_of_ble_eq_true rfl) rfl rfl (Nat.le_of_ble_eq_true rfl) dX2_pass_71 rfl (fun r15 σ14 h => ?_)
    refine Rf_if_eq X (tgt := 168) dX2_pass_74 rfl rfl (fun c26 => ?_) (fun c26 => ?_)
    · have h := h.1 c26
      refine Rf_sub [1, 3] rfl ?_
      exact sj_X2_pass_168 X _ _ _ ha1_10 h
    · have h := h.2 c26
      refine Rf_aload_n X (j := 0) rfl rfl dX2_pass_77 rfl ?_
      refine Rf_get X kc2 (Nat.le_of_ble_eq_true rfl) rfl (j := 3) (Nat.le_of_ble_eq_true rfl) lf_X2_18 (v := .ref 4) rfl dX2_pass_78 rfl ?_
      refine Rf_aload_n X (j := 1) rfl rfl dX2_pass_81 rfl ?_
      refine Rf_get X kc5 (isSt_f _ ha1_10).1.1 (isSt_f _ ha1_10).1.2 (j := 3) (Nat.le_of_ble_eq_true rfl) lf_X2_40 (v := .int (gI σ14 a1_10 3)) rfl dX2_pass_82 rfl ?_
      obtain ⟨s16, h⟩ := h
      refine Rf_iaload X (Nat.le_of_ble_eq_true rfl) rfl rfl s16 dX2_pass_85 rfl (v := gF σ14 4 ((gI σ14 a1_10 3).toNatClampNeg)) rfl ?_
      refine Rf_iconst X (v := 2) rfl dX2_pass_86 rfl ?_
      refine Rf_icmp_ne X (tgt := 110) dX2_pass_87 rfl rfl (fun c25 => ?_) (fun c25 => ?_)
      · have h := h.1 c25
        exact sj_X2_pass_110 X _ _ _ _ ha1_10 h
      · have h := h.2 c25
        refine Rf_aload_n X (j := 1) rfl rfl dX2_pass_90 rfl ?_
        refine Rf_get X kc5 (isSt_f _ ha1_10).1.1 (isSt_f _ ha1_10).1.2 (j := 1) (Nat.le_of_ble_eq_true rfl) lf_X2_55 (v := .ref (a1_10 + 2)) rfl dX2_pass_91 rfl ?_
        refine Rf_iload_n X (j := 2) rfl rfl dX2_pass_94 rfl ?_
        refine Rf_dup2 X rfl rfl dX2_pass_95 rfl ?_
        obtain ⟨s22, h⟩ := h
        refine Rf_iaload X (isSt_f _ ha1_10).2.2.1 (isSt_f _ ha1_10).2.2.2.1 (isSt_f _ ha1_10).2.2.2.2 s22 dX2_pass_96 rfl (v := gF σ14 (a1_10 + 2) (x2_11.toNatClampNeg)) rfl ?_
        refine Rf_iconst X (v := 1) rfl dX2_pass_97 rfl ?_
        refine Rf_aload_n X (j := 0) rfl rfl dX2_pass_98 rfl ?_
        refine Rf_get X kc2 (Nat.le_of_ble_eq_true rfl) rfl (j := 4) (Nat.le_of_ble_eq_true rfl) lf_X2_21 (v := .ref 5) rfl dX2_pass_99 rfl ?_
        refine Rf_aload_n X (j := 1) rfl rfl dX2_pass_102 rfl ?_
        refine Rf_get X kc5 (isSt_f _ ha1_10).1.1 (isSt_f _ ha1_10).1.2 (j := 3) (Nat.le_of_ble_eq_true rfl) lf_X2_40 (v := .int (gI σ14 a1_10 3)) rfl dX2_pass_103 rfl ?_
        obtain ⟨s23, h⟩ := h
        refine Rf_iaload X (Nat.le_of_ble_eq_true rfl) rfl rfl s23 dX2_pass_106 rfl (v := gF σ14 5 ((gI σ14 a1_10 3).toNatClampNeg)) rfl ?_
        refine Rf_ishl X dX2_pass_107 rfl ?_
        refine Rf_ior X dX2_pass_108 rfl ?_
        obtain ⟨s24, h⟩ := h
        refine Rf_iastore X (isSt_f _ ha1_10).2.2.1 (isSt_f _ ha1_10).2.2.2.1 (isSt_f _ ha1_10).2.2.2.2 s24 dX2_pass_109 rfl ?_
        exact sj_X2_pass_110 X _ _ _ _ ha1_10 h
def wp_X2_pass (σ : rfS) (a1 : Nat) (x2 : Int32) (Q : Int32 → rfS → Prop) : Prop :=
  wp_X2_isOne σ x2 (fun (r2 : Int32) (σ1 : rfS) => ((r2 = 0 → wj_X2_pass_18 Q a1 x2 0 σ1) ∧ (¬ r2 = 0 → wp_X2_doneBy σ1 a1 x2 (fun (r28 : Int32) (σ27 : rfS) => wj_X2_pass_18 Q a1 x2 r28 σ27))))
set_option maxRecDepth 20000 in
theorem k_X2_pass {σ : rfS} {a1 : Nat} {x2 : Int32} {Q : Int32 → rfS → Prop} (ha1 : isSt a1) (h : wp_X2_pass σ a1 x2 Q) : RM ΛC 3 yX2_pass cX2_pass 5 (some .int) [.ref 1, .ref a1, .int x2] σ (qi Q) := by
  unfold wp_X2_pass at h
  refine RM.intro (by decide) (Nat.le_of_ble_eq_true rfl) (fun E X => ?_)
  show Rf ΛC 3 E 5 (qi Q) 0 [(0, .ref 1), (1, .ref a1), (2, .int x2)] [] σ
  refine Rf_aload_n X (j := 0) rfl rfl dX2_pass_0 rfl ?_
  refine Rf_iload_n X (j := 2) rfl rfl dX2_pass_1 rfl ?_
  refine Rf_cVi (as := [.int x2]) (st := []) X mi_X2_isOne lm_X2_77 rfl (Nat.le_of_ble_eq_true rfl) rfl (k_X2_isOne h) (Nat.le_of_ble_eq_true rfl) rfl rfl (Nat.le_of_ble_eq_true rfl) dX2_pass_2 rfl (fun r2 σ1 h => ?_)
  refine Rf_if_eq X (tgt := 17) dX2_pass_5 rfl rfl (fun c29 => ?_) (fun c29 => ?_)
  · have h := h.1 c29
    refine Rf_iconst X (v := 0) rfl dX2_pass_17 rfl ?_
    exact sj_X2_pass_18 X _ _ _ _ ha1 h
  · have h := h.2 c29
    refine Rf_aload_n X (j := 0) rfl rfl dX2_pass_8 rfl ?_
    refine Rf_aload_n X (j := 1) rfl rfl dX2_pass_9 rfl ?_
    refine Rf_iload_n X (j := 2) rfl rfl dX2_pass_10 rfl ?_
    refine Rf_cVi (as := [.ref a1, .int x2]) (st := []) X mi_X2_doneBy lm_X2_81 rfl (Nat.le_of_ble_eq_true rfl) rfl (k_X2_doneBy ha1 h) (Nat.le_of_ble_eq_true rfl) rfl rfl (Nat.le_of_ble_eq_true rfl) dX2_pass_11 rfl (fun r28 σ27 h => ?_)
    refine Rf_goto X (tgt := 18) dX2_pass_14 rfl ?_
    exact sj_X2_pass_18 X _ _ _ _ ha1 h
def wl_X2_daysOf_12 (Q : Int32 → rfS → Prop) : Nat → Nat → Int32 → Int32 → rfS → Prop
  | 0, _, _, _, _ => False
  | n + 1, a1, x2, x3, σ => ((x2 ≤ x3 → Q x3 σ) ∧ (¬ (x2 ≤ x3) → vp_in x3 60 ∧ wp_X2_mayHave σ (gL σ (a1 + 1) (x3.toNatClampNeg)) (fun (r3 : Int32) (σ2 : rfS) => ((r3 = 0 → Q x3 σ2) ∧ (¬ r3 = 0 → wl_X2_daysOf_12 Q n a1 x2 (x3 + 1) σ2)))))
set_option maxRecDepth 20000 in
theorem sl_X2_daysOf_12 {E : rfE} {Q : Int32 → rfS → Prop} (X : rfX ΛC E yX2_daysOf cX2_daysOf 4 (some .int)) : ∀ (n : Nat) (a1 : Nat) (x2 : Int32) (x3 : Int32) (σ : rfS), isSh a1 → wl_X2_daysOf_12 Q n a1 x2 x3 σ → Rf ΛC 1 E 4 (qi Q) 12 [(0, .ref 1), (1, .ref a1), (2, .int x2), (3, .int x3)] [] σ := by
  intro n
  induction n with
  | zero =>
    intro a1 x2 x3 σ ha1 h
    exact False.elim h
  | succ n hkb_12 =>
    intro a1 x2 x3 σ ha1 h
    unfold wl_X2_daysOf_12 at h
    refine Rf_iload_n X (j := 3) rfl rfl dX2_daysOf_12 rfl ?_
    refine Rf_iload_n X (j := 2) rfl rfl dX2_daysOf_13 rfl ?_
    refine Rf_icmp_ge X (tgt := 36) dX2_daysOf_14 rfl rfl (fun c5 => ?_) (fun c5 => ?_)
    · have h := h.1 c5
      refine Rf_iload_n X (j := 3) rfl rfl dX2_daysOf_36 rfl ?_
      exact Rf_iret X rfl dX2_daysOf_37 ⟨_, rfl, h⟩
    · have h := h.2 c5
      refine Rf_aload_n X (j := 0) rfl rfl dX2_daysOf_17 rfl ?_
      refine Rf_aload_n X (j := 1) rfl rfl dX2_daysOf_18 rfl ?_
      refine Rf_get X kc4 (isSh_f _ ha1).1.1 (isSh_f _ ha1).1.2 (j := 3) (Nat.le_of_ble_eq_true rfl) lf_X2_92 (v := .ref (a1 + 1)) rfl dX2_daysOf_19 rfl ?_
      refine Rf_iload_n X (j := 3) rfl rfl dX2_daysOf_22 rfl ?_
      obtain ⟨s1, h⟩ := h
      refine Rf_laload X (isSh_f _ ha1).2.1 (isSh_f _ ha1).2.2.1 (isSh_f _ ha1).2.2.2 s1 dX2_daysOf_23 rfl (v := gL σ (a1 + 1) (x3.toNatClampNeg)) rfl ?_
      refine Rf_cVi (as := [.long (gL σ (a1 + 1) (x3.toNatClampNeg))]) (st := []) X mi_X2_mayHave lm_X2_96 rfl (Nat.le_of_ble_eq_true rfl) rfl (k_X2_mayHave h) (Nat.le_of_ble_eq_true rfl) rfl rfl (Nat.le_of_ble_eq_true rfl) dX2_daysOf_24 rfl (fun r3 σ2 h => ?_)
      refine Rf_if_eq X (tgt := 36) dX2_daysOf_27 rfl rfl (fun c4 => ?_) (fun c4 => ?_)
      · have h := h.1 c4
        refine Rf_iload_n X (j := 3) rfl rfl dX2_daysOf_36 rfl ?_
        exact Rf_iret X rfl dX2_daysOf_37 ⟨_, rfl, h⟩
      · have h := h.2 c4
        refine Rf_iinc X (i := 3) (j := 3) (v := x3 + 1) rfl rfl (Nat.le_of_ble_eq_true rfl) (ls2 := [(3, .int (x3 + 1)), (0, .ref 1), (1, .ref a1), (2, .int x2)]) rfl dX2_daysOf_30 rfl ?_
        refine Rf_goto X (tgt := 12) dX2_daysOf_33 rfl ?_
        refine Rf_sub [1, 2, 3, 0] rfl ?_
        exact hkb_12 _ _ _ σ2 ha1 h
def wp_X2_daysOf (σ : rfS) (a1 : Nat) (Q : Int32 → rfS → Prop) : Prop :=
  (∃ n6, wl_X2_daysOf_12 Q n6 a1 (if 28 < (gI σ a1 2) then 28 else (gI σ a1 2)) 0 σ)
set_option maxRecDepth 20000 in
theorem k_X2_daysOf {σ : rfS} {a1 : Nat} {Q : Int32 → rfS → Prop} (ha1 : isSh a1) (h : wp_X2_daysOf σ a1 Q) : RM ΛC 1 yX2_daysOf cX2_daysOf 4 (some .int) [.ref 1, .ref a1] σ (qi Q) := by
  unfold wp_X2_daysOf at h
  refine RM.intro (by decide) (Nat.le_of_ble_eq_true rfl) (fun E X => ?_)
  show Rf ΛC 1 E 4 (qi Q) 0 [(0, .ref 1), (1, .ref a1)] [] σ
  refine Rf_aload_n X (j := 1) rfl rfl dX2_daysOf_0 rfl ?_
  refine Rf_get X kc4 (isSh_f _ ha1).1.1 (isSh_f _ ha1).1.2 (j := 2) (Nat.le_of_ble_eq_true rfl) lf_X2_89 (v := .int (gI σ a1 2)) rfl dX2_daysOf_1 rfl ?_
  refine Rf_bipush X (v := 28) rfl dX2_daysOf_4 rfl ?_
  refine Rf_min X lm_X2_68 mm_min.1 mm_min.2.1 mm_min.2.2 (Nat.le_of_ble_eq_true rfl) (Nat.le_of_ble_eq_true rfl) dX2_daysOf_6 rfl ?_
  refine Rf_istore_n X rfl (i := 2) (Nat.le_of_ble_eq_true rfl) (ls2 := [(2, .int (if 28 < (gI σ a1 2) then 28 else (gI σ a1 2))), (0, .ref 1), (1, .ref a1)]) rfl dX2_daysOf_9 rfl ?_
  refine Rf_iconst X (v := 0) rfl dX2_daysOf_10 rfl ?_
  refine Rf_istore_n X rfl (i := 3) (Nat.le_of_ble_eq_true rfl) (ls2 := [(3, .int 0), (2, .int (if 28 < (gI σ a1 2) then 28 else (gI σ a1 2))), (0, .ref 1), (1, .ref a1)]) rfl dX2_daysOf_11 rfl ?_
  obtain ⟨n6, h⟩ := h
  refine Rf_sub [2, 3, 1, 0] rfl ?_
  exact sl_X2_daysOf_12 X n6 _ _ _ _ ha1 h
def wp_X3_write (σ : rfS) (x1 : Int32) (Q : Int32 → rfS → Prop) : Prop :=
  vp_in (gI σ 6 4) 120 ∧ Q ((gI σ 6 4) + 1) (sI (sF σ 9 ((gI σ 6 4).toNatClampNeg) x1) 6 4 ((gI σ 6 4) + 1))
set_option maxRecDepth 20000 in
theorem k_X3_write {σ : rfS} {x1 : Int32} {Q : Int32 → rfS → Prop} (h : wp_X3_write σ x1 Q) : RM ΛC 0 yX3_write cX3_write 2 (some .int) [.ref 6, .int x1] σ (qi Q) := by
  unfold wp_X3_write at h
  refine RM.intro (by decide) (Nat.le_of_ble_eq_true rfl) (fun E X => ?_)
  show Rf ΛC 0 E 2 (qi Q) 0 [(0, .ref 6), (1, .int x1)] [] σ
  refine Rf_aload_n X (j := 0) rfl rfl dX3_write_0 rfl ?_
  refine Rf_get X kc3 (Nat.le_of_ble_eq_true rfl) rfl (j := 3) (Nat.le_of_ble_eq_true rfl) lf_X3_18 (v := .ref 9) rfl dX3_write_1 rfl ?_
  refine Rf_aload_n X (j := 0) rfl rfl dX3_write_4 rfl ?_
  refine Rf_get X kc3 (Nat.le_of_ble_eq_true rfl) rfl (j := 4) (Nat.le_of_ble_eq_true rfl) lf_X3_28 (v := .int (gI σ 6 4)) rfl dX3_write_5 rfl ?_
  refine Rf_iload_n X (j := 1) rfl rfl dX3_write_8 rfl ?_
  obtain ⟨s1, h⟩ := h
  refine Rf_iastore X (Nat.le_of_ble_eq_true rfl) rfl rfl s1 dX3_write_9 rfl ?_
  refine Rf_aload_n X (j := 0) rfl rfl dX3_write_10 rfl ?_
  refine Rf_dup X rfl dX3_write_11 rfl ?_
  refine Rf_get X kc3 (Nat.le_of_ble_eq_true rfl) rfl (j := 4) (Nat.le_of_ble_eq_true rfl) lf_X3_28 (v := .int (gI σ 6 4)) (congrArg Value.int (show gI (sF σ 9 ((gI σ 6 4).toNatClampNeg) x1) 6 4 = gI σ 6 4 from gI_sF _ _ _ _ _ _)) dX3_write_12 rfl ?_
  refine Rf_iconst X (v := 1) rfl dX3_write_15 rfl ?_
  refine Rf_iadd X dX3_write_16 rfl ?_
  refine Rf_put X kc3 (Nat.le_of_ble_eq_true rfl) rfl (j := 4) (Nat.le_of_ble_eq_true rfl) rfl lf_X3_28 rfl rfl rfl dX3_write_17 rfl ?_
  refine Rf_aload_n X (j := 0) rfl rfl dX3_write_20 rfl ?_
  refine Rf_get X kc3 (Nat.le_of_ble_eq_true rfl) rfl (j := 4) (Nat.le_of_ble_eq_true rfl) lf_X3_28 (v := .int ((gI σ 6 4) + 1)) (congrArg Value.int (show gI (sI (sF σ 9 ((gI σ 6 4).toNatClampNeg) x1) 6 4 ((gI σ 6 4) + 1)) 6 4 = (gI σ 6 4) + 1 from gI_sIs)) dX3_write_21 rfl ?_
  exact Rf_iret X rfl dX3_write_24 ⟨_, rfl, h⟩
def wp_X3_addStep (σ : rfS) (x1 : Int32) (Q : rfS → Prop) : Prop :=
  vp_in (gI σ 6 7) 121 ∧ Q (sI (sF σ 10 ((gI σ 6 7).toNatClampNeg) x1) 6 7 ((gI σ 6 7) + 1))
set_option maxRecDepth 20000 in
theorem k_X3_addStep {σ : rfS} {x1 : Int32} {Q : rfS → Prop} (h : wp_X3_addStep σ x1 Q) : RM ΛC 0 yX3_addStep cX3_addStep 2 none [.ref 6, .int x1] σ (qv Q) := by
  unfold wp_X3_addStep at h
  refine RM.intro (by decide) (Nat.le_of_ble_eq_true rfl) (fun E X => ?_)
  show Rf ΛC 0 E 2 (qv Q) 0 [(0, .ref 6), (1, .int x1)] [] σ
  refine Rf_aload_n X (j := 0) rfl rfl dX3_addStep_0 rfl ?_
  refine Rf_get X kc3 (Nat.le_of_ble_eq_true rfl) rfl (j := 6) (Nat.le_of_ble_eq_true rfl) lf_X3_21 (v := .ref 10) rfl dX3_addStep_1 rfl ?_
  refine Rf_aload_n X (j := 0) rfl rfl dX3_addStep_4 rfl ?_
  refine Rf_get X kc3 (Nat.le_of_ble_eq_true rfl) rfl (j := 7) (Nat.le_of_ble_eq_true rfl) lf_X3_34 (v := .int (gI σ 6 7)) rfl dX3_addStep_5 rfl ?_
  refine Rf_iload_n X (j := 1) rfl rfl dX3_addStep_8 rfl ?_
  obtain ⟨s1, h⟩ := h
  refine Rf_iastore X (Nat.le_of_ble_eq_true rfl) rfl rfl s1 dX3_addStep_9 rfl ?_
  refine Rf_aload_n X (j := 0) rfl rfl dX3_addStep_10 rfl ?_
  refine Rf_dup X rfl dX3_addStep_11 rfl ?_
  refine Rf_get X kc3 (Nat.le_of_ble_eq_true rfl) rfl (j := 7) (Nat.le_of_ble_eq_true rfl) lf_X3_34 (v := .int (gI σ 6 7)) (congrArg Value.int (show gI (sF σ 10 ((gI σ 6 7).toNatClampNeg) x1) 6 7 = gI σ 6 7 from gI_sF _ _ _ _ _ _)) dX3_addStep_12 rfl ?_
  refine Rf_iconst X (v := 1) rfl dX3_addStep_15 rfl ?_
  refine Rf_iadd X dX3_addStep_16 rfl ?_
  refine Rf_put X kc3 (Nat.le_of_ble_eq_true rfl) rfl (j := 7) (Nat.le_of_ble_eq_true rfl) rfl lf_X3_34 rfl rfl rfl dX3_addStep_17 rfl ?_
  exact Rf_vret X dX3_addStep_20 ⟨rfl, h⟩
def wp_X3_sign (σ : rfS) (Q : Int32 → rfS → Prop) : Prop :=
  (((gI σ 6 4) ≤ (gI σ 6 5) → Q (-1) σ) ∧ (¬ ((gI σ 6 4) ≤ (gI σ 6 5)) → vp_in (gI σ 6 5) 120 ∧ (Q (gF σ 9 ((gI σ 6 5).toNatClampNeg)) σ)))
set_option maxRecDepth 20000 in
theorem k_X3_sign {σ : rfS} {Q : Int32 → rfS → Prop} (h : wp_X3_sign σ Q) : RM ΛC 0 yX3_sign cX3_sign 1 (some .int) [.ref 6] σ (qi Q) := by
  unfold wp_X3_sign at h
  refine RM.intro (by decide) (Nat.le_of_ble_eq_true rfl) (fun E X => ?_)
  show Rf ΛC 0 E 1 (qi Q) 0 [(0, .ref 6)] [] σ
  refine Rf_aload_n X (j := 0) rfl rfl dX3_sign_0 rfl ?_
  refine Rf_get X kc3 (Nat.le_of_ble_eq_true rfl) rfl (j := 5) (Nat.le_of_ble_eq_true rfl) lf_X3_31 (v := .int (gI σ 6 5)) rfl dX3_sign_1 rfl ?_
  refine Rf_aload_n X (j := 0) rfl rfl dX3_sign_4 rfl ?_
  refine Rf_get X kc3 (Nat.le_of_ble_eq_true rfl) rfl (j := 4) (Nat.le_of_ble_eq_true rfl) lf_X3_28 (v := .int (gI σ 6 4)) rfl dX3_sign_5 rfl ?_
  refine Rf_icmp_ge X (tgt := 23) dX3_sign_8 rfl rfl (fun c2 => ?_) (fun c2 => ?_)
  · have h := h.1 c2
    refine Rf_iconst X (v := (-1)) (by decide) dX3_sign_23 rfl ?_
    exact Rf_iret X rfl dX3_sign_24 ⟨_, rfl, h⟩
  · have h := h.2 c2
    refine Rf_aload_n X (j := 0) rfl rfl dX3_sign_11 rfl ?_
    refine Rf_get X kc3 (Nat.le_of_ble_eq_true rfl) rfl (j := 3) (Nat.le_of_ble_eq_true rfl) lf_X3_18 (v := .ref 9) rfl dX3_sign_12 rfl ?_
    refine Rf_aload_n X (j := 0) rfl rfl dX3_sign_15 rfl ?_
    refine Rf_get X kc3 (Nat.le_of_ble_eq_true rfl) rfl (j := 5) (Nat.le_of_ble_eq_true rfl) lf_X3_31 (v := .int (gI σ 6 5)) rfl dX3_sign_16 rfl ?_
    obtain ⟨s1, h⟩ := h
    refine Rf_iaload X (Nat.le_of_ble_eq_true rfl) rfl rfl s1 dX3_sign_19 rfl (v := gF σ 9 ((gI σ 6 5).toNatClampNeg)) rfl ?_
    refine Rf_goto X (tgt := 24) dX3_sign_20 rfl ?_
    exact Rf_iret X rfl dX3_sign_24 ⟨_, rfl, h⟩
def wp_X3_isAccepted (σ : rfS) (x1 : Int32) (Q : Int32 → rfS → Prop) : Prop :=
  wp_X3_sign σ (fun (r2 : Int32) (σ1 : rfS) => ((r2 = x1 → Q 1 (sI σ1 6 5 ((gI σ1 6 5) + 1))) ∧ (¬ r2 = x1 → Q 0 σ1)))
set_option maxRecDepth 20000 in
theorem k_X3_isAccepted {σ : rfS} {x1 : Int32} {Q : Int32 → rfS → Prop} (h : wp_X3_isAccepted σ x1 Q) : RM ΛC 1 yX3_isAccepted cX3_isAccepted 2 (some .boolean) [.ref 6, .int x1] σ (qi Q) := by
  unfold wp_X3_isAccepted at h
  refine RM.intro (by decide) (Nat.le_of_ble_eq_true rfl) (fun E X => ?_)
  show Rf ΛC 1 E 2 (qi Q) 0 [(0, .ref 6), (1, .int x1)] [] σ
  refine Rf_aload_n X (j := 0) rfl rfl dX3_isAccepted_0 rfl ?_
  refine Rf_cVi (as := []) (st := []) X mi_X3_sign lm_X3_65 rfl (Nat.le_of_ble_eq_true rfl) rfl (k_X3_sign h) (Nat.le_of_ble_eq_true rfl) rfl rfl (Nat.le_of_ble_eq_true rfl) dX3_isAccepted_1 rfl (fun r2 σ1 h => ?_)
  refine Rf_iload_n X (j := 1) rfl rfl dX3_isAccepted_4 rfl ?_
  refine Rf_icmp_eq X (tgt := 10) dX3_isAccepted_5 rfl rfl (fun c3 => ?_) (fun c3 => ?_)
  · have h := h.1 c3
    refine Rf_aload_n X (j := 0) rfl rfl dX3_isAccepted_10 rfl ?_
    refine Rf_dup X rfl dX3_isAccepted_11 rfl ?_
    refine Rf_get X kc3 (Nat.le_of_ble_eq_true rfl) rfl (j := 5) (Nat.le_of_ble_eq_true rfl) lf_X3_31 (v := .int (gI σ1 6 5)) rfl dX3_isAccepted_12 rfl ?_
    refine Rf_iconst X (v := 1) rfl dX3_isAccepted_15 rfl ?_
    refine Rf_iadd X dX3_isAccepted_16 rfl ?_
    refine Rf_put X kc3 (Nat.le_of_ble_eq_true rfl) rfl (j := 5) (Nat.le_of_ble_eq_true rfl) rfl lf_X3_31 rfl rfl rfl dX3_isAccepted_17 rfl ?_
    refine Rf_iconst X (v := 1) rfl dX3_isAccepted_20 rfl ?_
    exact Rf_iret X rfl dX3_isAccepted_21 ⟨_, rfl, h⟩
  · have h := h.2 c3
    refine Rf_iconst X (v := 0) rfl dX3_isAccepted_8 rfl ?_
    exact Rf_iret X rfl dX3_isAccepted_9 ⟨_, rfl, h⟩
def wp_X3_levelOf (σ : rfS) (x0 : Int32) (Q : Int32 → rfS → Prop) : Prop :=
  ((x0 = 37 → Q 4 σ) ∧ (¬ x0 = 37 → ((x0 = 38 → Q 1 σ) ∧ (¬ x0 = 38 → ((x0 = 42 → Q 4 σ) ∧ (¬ x0 = 42 → ((x0 = 43 → Q 3 σ) ∧ (¬ x0 = 43 → ((x0 = 45 → Q 3 σ) ∧ (¬ x0 = 45 → ((x0 = 47 → Q 4 σ) ∧ (¬ x0 = 47 → ((x0 = 60 → Q 2 σ) ∧ (¬ x0 = 60 → ((x0 = 61 → Q 2 σ) ∧ (¬ x0 = 61 → ((x0 = 62 → Q 2 σ) ∧ (¬ x0 = 62 → ((x0 = 124 → Q 0 σ) ∧ (¬ x0 = 124 → Q (-1) σ))))))))))))))))))))
set_option maxRecDepth 20000 in
theorem k_X3_levelOf {σ : rfS} {x0 : Int32} {Q : Int32 → rfS → Prop} (h : wp_X3_levelOf σ x0 Q) : RM ΛC 0 yX3_levelOf cX3_levelOf 1 (some .int) [.int x0] σ (qi Q) := by
  unfold wp_X3_levelOf at h
  refine RM.intro (by decide) (Nat.le_of_ble_eq_true rfl) (fun E X => ?_)
  show Rf ΛC 0 E 1 (qi Q) 0 [(0, .int x0)] [] σ
  refine Rf_iload_n X (j := 0) rfl rfl dX3_levelOf_0 rfl ?_
  refine Rf_lsw X (dt := 102) [(37, 100), (38, 94), (42, 100), (43, 98), (45, 98), (47, 100), (60, 96), (61, 96), (62, 96), (124, 92)] dX3_levelOf_1 (by decide +kernel) rfl (by decide +kernel) ?_
  refine And.intro (fun c1 => ?_) (fun c1 => ?_)
  · have h := h.1 c1
    refine Rf_iconst X (v := 4) rfl dX3_levelOf_100 rfl ?_
    exact Rf_iret X rfl dX3_levelOf_101 ⟨_, rfl, h⟩
  · have h := h.2 c1
    refine And.intro (fun c2 => ?_) (fun c2 => ?_)
    · have h := h.1 c2
      refine Rf_iconst X (v := 1) rfl dX3_levelOf_94 rfl ?_
      exact Rf_iret X rfl dX3_levelOf_95 ⟨_, rfl, h⟩
    · have h := h.2 c2
      refine And.intro (fun c3 => ?_) (fun c3 => ?_)
      · have h := h.1 c3
        refine Rf_iconst X (v := 4) rfl dX3_levelOf_100 rfl ?_
        exact Rf_iret X rfl dX3_levelOf_101 ⟨_, rfl, h⟩
      · have h := h.2 c3
        refine And.intro (fun c4 => ?_) (fun c4 => ?_)
        · have h := h.1 c4
          refine Rf_iconst X (v := 3) rfl dX3_levelOf_98 rfl ?_
          exact Rf_iret X rfl dX3_levelOf_99 ⟨_, rfl, h⟩
        · have h := h.2 c4
          refine And.intro (fun c5 => ?_) (fun c5 => ?_)
          · have h := h.1 c5
            refine Rf_iconst X (v := 3) rfl dX3_levelOf_98 rfl ?_
            exact Rf_iret X rfl dX3_levelOf_99 ⟨_, rfl, h⟩
          · have h := h.2 c5
            refine And.intro (fun c6 => ?_) (fun c6 => ?_)
            · have h := h.1 c6
              refine Rf_iconst X (v := 4) rfl dX3_levelOf_100 rfl ?_
              exact Rf_iret X rfl dX3_levelOf_101 ⟨_, rfl, h⟩
            · have h := h.2 c6
              refine And.intro (fun c7 => ?_) (fun c7 => ?_)
              · have h := h.1 c7
                refine Rf_iconst X (v := 2) rfl dX3_levelOf_96 rfl ?_
                exact Rf_iret X rfl dX3_levelOf_97 ⟨_, rfl, h⟩
              · have h := h.2 c7
                refine And.intro (fun c8 => ?_) (fun c8 => ?_)
                · have h := h.1 c8
                  refine Rf_iconst X (v := 2) rfl dX3_levelOf_96 rfl ?_
                  exact Rf_iret X rfl dX3_levelOf_97 ⟨_, rfl, h⟩
                · have h := h.2 c8
                  refine And.intro (fun c9 => ?_) (fun c9 => ?_)
                  · have h := h.1 c9
                    refine Rf_iconst X (v := 2) rfl dX3_levelOf_96 rfl ?_
                    exact Rf_iret X rfl dX3_levelOf_97 ⟨_, rfl, h⟩
                  · have h := h.2 c9
                    refine And.intro (fun c10 => ?_) (fun c10 => ?_)
                    · have h := h.1 c10
                      refine Rf_iconst X (v := 0) rfl dX3_levelOf_92 rfl ?_
                      exact Rf_iret X rfl dX3_levelOf_93 ⟨_, rfl, h⟩
                    · have h := h.2 c10
                      show Rf ΛC 0 E 1 (qi Q) 102 [(0, .int x0)] [] σ
                      refine Rf_iconst X (v := (-1)) (by decide) dX3_levelOf_102 rfl ?_
                      exact Rf_iret X rfl dX3_levelOf_103 ⟨_, rfl, h⟩
def wp_X3_isDigit (σ : rfS) (x0 : Int32) (Q : Int32 → rfS → Prop) : Prop :=
  ((x0 < 48 → Q 0 σ) ∧ (¬ (x0 < 48) → ((57 < x0 → Q 0 σ) ∧ (¬ (57 < x0) → Q 1 σ))))
set_option maxRecDepth 20000 in
theorem k_X3_isDigit {σ : rfS} {x0 : Int32} {Q : Int32 → rfS → Prop} (h : wp_X3_isDigit σ x0 Q) : RM ΛC 0 yX3_isDigit cX3_isDigit 1 (some .boolean) [.int x0] σ (qi Q) := by
  unfold wp_X3_isDigit at h
  refine RM.intro (by decide) (Nat.le_of_ble_eq_true rfl) (fun E X => ?_)
  show Rf ΛC 0 E 1 (qi Q) 0 [(0, .int x0)] [] σ
  refine Rf_iload_n X (j := 0) rfl rfl dX3_isDigit_0 rfl ?_
  refine Rf_bipush X (v := 48) rfl dX3_isDigit_1 rfl ?_
  refine Rf_icmp_lt X (tgt := 16) dX3_isDigit_3 rfl rfl (fun c2 => ?_) (fun c2 => ?_)
  · have h := h.1 c2
    refine Rf_iconst X (v := 0) rfl dX3_isDigit_16 rfl ?_
    exact Rf_iret X rfl dX3_isDigit_17 ⟨_, rfl, h⟩
  · have h := h.2 c2
    refine Rf_iload_n X (j := 0) rfl rfl dX3_isDigit_6 rfl ?_
    refine Rf_bipush X (v := 57) rfl dX3_isDigit_7 rfl ?_
    refine Rf_icmp_gt X (tgt := 16) dX3_isDigit_9 rfl rfl (fun c1 => ?_) (fun c1 => ?_)
    · have h := h.1 c1
      refine Rf_iconst X (v := 0) rfl dX3_isDigit_16 rfl ?_
      exact Rf_iret X rfl dX3_isDigit_17 ⟨_, rfl, h⟩
    · have h := h.2 c1
      refine Rf_iconst X (v := 1) rfl dX3_isDigit_12 rfl ?_
      refine Rf_goto X (tgt := 17) dX3_isDigit_13 rfl ?_
      exact Rf_iret X rfl dX3_isDigit_17 ⟨_, rfl, h⟩
def wp_X3_nameOf (σ : rfS) (x0 : Int32) (Q : Int32 → rfS → Prop) : Prop :=
  ((x0 = 100 → Q 5 σ) ∧ (¬ x0 = 100 → ((x0 = 102 → Q 4 σ) ∧ (¬ x0 = 102 → ((x0 = 107 → Q 0 σ) ∧ (¬ x0 = 107 → ((x0 = 111 → Q 1 σ) ∧ (¬ x0 = 111 → ((x0 = 118 → Q 3 σ) ∧ (¬ x0 = 118 → ((x0 = 119 → Q 2 σ) ∧ (¬ x0 = 119 → Q (-1) σ))))))))))))
set_option maxRecDepth 20000 in
theorem k_X3_nameOf {σ : rfS} {x0 : Int32} {Q : Int32 → rfS → Prop} (h : wp_X3_nameOf σ x0 Q) : RM ΛC 0 yX3_nameOf cX3_nameOf 1 (some .int) [.int x0] σ (qi Q) := by
  unfold wp_X3_nameOf at h
  refine RM.intro (by decide) (Nat.le_of_ble_eq_true rfl) (fun E X => ?_)
  show Rf ΛC 0 E 1 (qi Q) 0 [(0, .int x0)] [] σ
  refine Rf_iload_n X (j := 0) rfl rfl dX3_nameOf_0 rfl ?_
  refine Rf_tsw X (dt := 108) [(100, 106), (102, 104), (107, 96), (111, 98), (118, 102), (119, 100)] dX3_nameOf_1 rfl (by decide +kernel) (by decide +kernel) (by decide +kernel) ?_
  refine And.intro (fun c1 => ?_) (fun c1 => ?_)
  · have h := h.1 c1
    refine Rf_iconst X (v := 5) rfl dX3_nameOf_106 rfl ?_
    exact Rf_iret X rfl dX3_nameOf_107 ⟨_, rfl, h⟩
  · have h := h.2 c1
    refine And.intro (fun c2 => ?_) (fun c2 => ?_)
    · have h := h.1 c2
      refine Rf_iconst X (v := 4) rfl dX3_nameOf_104 rfl ?_
      exact Rf_iret X rfl dX3_nameOf_105 ⟨_, rfl, h⟩
    · have h := h.2 c2
      refine And.intro (fun c3 => ?_) (fun c3 => ?_)
      · have h := h.1 c3
        refine Rf_iconst X (v := 0) rfl dX3_nameOf_96 rfl ?_
        exact Rf_iret X rfl dX3_nameOf_97 ⟨_, rfl, h⟩
      · have h := h.2 c3
        refine And.intro (fun c4 => ?_) (fun c4 => ?_)
        · have h := h.1 c4
          refine Rf_iconst X (v := 1) rfl dX3_nameOf_98 rfl ?_
          exact Rf_iret X rfl dX3_nameOf_99 ⟨_, rfl, h⟩
        · have h := h.2 c4
          refine And.intro (fun c5 => ?_) (fun c5 => ?_)
          · have h := h.1 c5
            refine Rf_iconst X (v := 3) rfl dX3_nameOf_102 rfl ?_
            exact Rf_iret X rfl dX3_nameOf_103 ⟨_, rfl, h⟩
          · have h := h.2 c5
            refine And.intro (fun c6 => ?_) (fun c6 => ?_)
            · have h := h.1 c6
              refine Rf_iconst X (v := 2) rfl dX3_nameOf_100 rfl ?_
              exact Rf_iret X rfl dX3_nameOf_101 ⟨_, rfl, h⟩
            · have h := h.2 c6
              show Rf ΛC 0 E 1 (qi Q) 108 [(0, .int x0)] [] σ
              refine Rf_iconst X (v := (-1)) (by decide) dX3_nameOf_108 rfl ?_
              exact Rf_iret X rfl dX3_nameOf_109 ⟨_, rfl, h⟩
def wl_X3_readNumber_4 (Q : rfS → Prop) (kx_48 : Int32 → rfS → Prop) : Nat → Int32 → Int32 → rfS → Prop
  | 0, _, _, _ => False
  | n + 1, x1, x2, σ => ((4 ≤ x2 → kx_48 x1 σ) ∧ (¬ (4 ≤ x2) → wp_X3_sign σ (fun (r2 : Int32) (σ1 : rfS) => wp_X3_isDigit σ1 r2 (fun (r4 : Int32) (σ3 : rfS) => ((r4 = 0 → kx_48 x1 σ3) ∧ (¬ r4 = 0 → wp_X3_sign σ3 (fun (r6 : Int32) (σ5 : rfS) => wl_X3_readNumber_4 Q kx_48 n (((10 * x1) + r6) - 48) (x2 + 1) (sI σ5 6 5 ((gI σ5 6 5) + 1)))))))))
set_option maxRecDepth 20000 in
theorem sl_X3_readNumber_4 {E : rfE} {Q : rfS → Prop} (X : rfX ΛC E yX3_readNumber cX3_readNumber 3 none) {kx_48 : Int32 → rfS → Prop} (hkx_48 : ∀ (x1 : Int32) (σ : rfS), kx_48 x1 σ → Rf ΛC 1 E 3 (qv Q) 48 [(0, .ref 6), (1, .int x1)] [] σ) : ∀ (n : Nat) (x1 : Int32) (x2 : Int32) (σ : rfS), wl_X3_readNumber_4 Q kx_48 n x1 x2 σ → Rf ΛC 1 E 3 (qv Q) 4 [(0, .ref 6), (1, .int x1), (2, .int x2)] [] σ := by
  intro n
  induction n with
  | zero =>
    intro x1 x2 σ h
    exact False.elim h
  | succ n hkb_4 =>
    intro x1 x2 σ h
    unfold wl_X3_readNumber_4 at h
    refine Rf_iload_n X (j := 2) rfl rfl dX3_readNumber_4 rfl ?_
    refine Rf_iconst X (v := 4) rfl dX3_readNumber_5 rfl ?_
    refine Rf_icmp_ge X (tgt := 48) dX3_readNumber_6 rfl rfl (fun c8 => ?_) (fun c8 => ?_)
    · have h := h.1 c8
      refine Rf_sub [0, 1] rfl ?_
      exact hkx_48 _ σ h
    · have h := h.2 c8
      refine Rf_aload_n X (j := 0) rfl rfl dX3_readNumber_9 rfl ?_
      refine Rf_cVi (as := []) (st := []) X mi_X3_sign lm_X3_65 rfl (Nat.le_of_ble_eq_true rfl) rfl (k_X3_sign h) (Nat.le_of_ble_eq_true rfl) rfl rfl (Nat.le_of_ble_eq_true rfl) dX3_readNumber_10 rfl (fun r2 σ1 h => ?_)
      refine Rf_cSi (as := [.int r2]) (st := []) X ms_X3_isDigit lm_X3_73 (k_X3_isDigit h) (Nat.le_of_ble_eq_true rfl) rfl rfl (Nat.le_of_ble_eq_true rfl) dX3_readNumber_13 rfl (fun r4 σ3 h => ?_)
      refine Rf_if_eq X (tgt := 48) dX3_readNumber_16 rfl rfl (fun c7 => ?_) (fun c7 => ?_)
      · have h := h.1 c7
        refine Rf_sub [0, 1] rfl ?_
        exact hkx_48 _ σ3 h
      · have h := h.2 c7
        refine Rf_bipush X (v := 10) rfl dX3_readNumber_19 rfl ?_
        refine Rf_iload_n X (j := 1) rfl rfl dX3_readNumber_21 rfl ?_
        refine Rf_imul X dX3_readNumber_22 rfl ?_
        refine Rf_aload_n X (j := 0) rfl rfl dX3_readNumber_23 rfl ?_
        refine Rf_cVi (as := []) (st := [.int (10 * x1)]) X mi_X3_sign lm_X3_65 rfl (Nat.le_of_ble_eq_true rfl) rfl (k_X3_sign h) (Nat.le_of_ble_eq_true rfl) rfl rfl (Nat.le_of_ble_eq_true rfl) dX3_readNumber_24 rfl (fun r6 σ5 h => ?_)
        refine Rf_iadd X dX3_readNumber_27 rfl ?_
        refine Rf_bipush X (v := 48) rfl dX3_readNumber_28 rfl ?_
        refine Rf_isub X dX3_readNumber_30 rfl ?_
        refine Rf_istore_n X rfl (i := 1) (Nat.le_of_ble_eq_true rfl) (ls2 := [(1, .int (((10 * x1) + r6) - 48)), (0, .ref 6), (2, .int x2)]) rfl dX3_readNumber_31 rfl ?_
        refine Rf_aload_n X (j := 1) rfl rfl dX3_readNumber_32 rfl ?_
        refine Rf_dup X rfl dX3_readNumber_33 rfl ?_
        refine Rf_get X kc3 (Nat.le_of_ble_eq_true rfl) rfl (j := 5) (Nat.le_of_ble_eq_true rfl) lf_X3_31 (v := .int (gI σ5 6 5)) rfl dX3_readNumber_34 rfl ?_
        refine Rf_iconst X (v := 1) rfl dX3_readNumber_37 rfl ?_
        refine Rf_iadd X dX3_readNumber_38 rfl ?_
        refine Rf_put X kc3 (Nat.le_of_ble_eq_true rfl) rfl (j := 5) (Nat.le_of_ble_eq_true rfl) rfl lf_X3_31 rfl rfl rfl dX3_readNumber_39 rfl ?_
        refine Rf_iinc X (i := 2) (j := 2) (v := x2 + 1) rfl rfl (Nat.le_of_ble_eq_true rfl) (ls2 := [(2, .int (x2 + 1)), (1, .int (((10 * x1) + r6) - 48)), (0, .ref 6)]) rfl dX3_readNumber_42 rfl ?_
        refine Rf_goto X (tgt := 4) dX3_readNumber_45 rfl ?_
        refine Rf_sub [2, 1, 0] rfl ?_
        exact hkb_4 _ _ (sI σ5 6 5 ((gI σ5 6 5) + 1)) h
def wj_X3_readNumber_48 (Q : rfS → Prop) (x1 : Int32) (σ : rfS) : Prop :=
  wp_X3_addStep σ x1 (fun (σ12 : rfS) => Q σ12)
set_option maxRecDepth 20000 in
theorem sj_X3_readNumber_48 {E : rfE} {Q : rfS → Prop} (X : rfX ΛC E yX3_readNumber cX3_readNumber 3 none) (x1 : Int32) (σ : rfS) (h : wj_X3_readNumber_48 Q x1 σ) : Rf ΛC 1 E 3 (qv Q) 48 [(0, .ref 6), (1, .int x1)] [] σ := by
  unfold wj_X3_readNumber_48 at h
  refine Rf_aload_n X (j := 0) rfl rfl dX3_readNumber_48 rfl ?_
  refine Rf_iload_n X (j := 1) rfl rfl dX3_readNumber_49 rfl ?_
  refine Rf_cVv (as := [.int x1]) (st := []) X mi_X3_addStep lm_X3_50 rfl (Nat.le_of_ble_eq_true rfl) rfl (k_X3_addStep h) (Nat.le_of_ble_eq_true rfl) rfl rfl (Nat.le_of_ble_eq_true rfl) dX3_readNumber_50 rfl (fun σ12 h => ?_)
  exact Rf_vret X dX3_readNumber_53 ⟨rfl, h⟩
def wp_X3_readNumber (σ : rfS) (Q : rfS → Prop) : Prop :=
  (∃ n9, wl_X3_readNumber_4 Q (fun (x1_10 : Int32) (σ11 : rfS) => wj_X3_readNumber_48 Q x1_10 σ11) n9 0 0 σ)
set_option maxRecDepth 20000 in
theorem k_X3_readNumber {σ : rfS} {Q : rfS → Prop} (h : wp_X3_readNumber σ Q) : RM ΛC 1 yX3_readNumber cX3_readNumber 3 none [.ref 6] σ (qv Q) := by
  unfold wp_X3_readNumber at h
  refine RM.intro (by decide) (Nat.le_of_ble_eq_true rfl) (fun E X => ?_)
  show Rf ΛC 1 E 3 (qv Q) 0 [(0, .ref 6)] [] σ
  refine Rf_iconst X (v := 0) rfl dX3_readNumber_0 rfl ?_
  refine Rf_istore_n X rfl (i := 1) (Nat.le_of_ble_eq_true rfl) (ls2 := [(1, .int 0), (0, .ref 6)]) rfl dX3_readNumber_1 rfl ?_
  refine Rf_iconst X (v := 0) rfl dX3_readNumber_2 rfl ?_
  refine Rf_istore_n X rfl (i := 2) (Nat.le_of_ble_eq_true rfl) (ls2 := [(2, .int 0), (1, .int 0), (0, .ref 6)]) rfl dX3_readNumber_3 rfl ?_
  obtain ⟨n9, h⟩ := h
  refine Rf_sub [2, 1, 0] rfl ?_
  refine sl_X3_readNumber_4 X (fun x1_10 σ11 h => ?_) n9 _ _ _ h
  · exact sj_X3_readNumber_48 X _ _ h
def wj_X3_readOperand_153 (κ_X3_readChain : rfS → Int32 → Int32 → (Int32 → rfS → Prop) → Prop) (κ_X3_readOperand : rfS → Int32 → (Int32 → rfS → Prop) → Prop) (Q : Int32 → rfS → Prop) (xs0 : Int32) (σ : rfS) : Prop :=
  wp_X3_addStep σ xs0 (fun (σ9 : rfS) => Q 1 σ9)
set_option maxRecDepth 20000 in
theorem sj_X3_readOperand_153 {d : Nat} {E : rfE} {Q : Int32 → rfS → Prop} (X : rfX ΛC E yX3_readOperand cX3_readOperand 5 (some .boolean)) {κ_X3_readChain : rfS → Int32 → Int32 → (Int32 → rfS → Prop) → Prop} {κ_X3_readOperand : rfS → Int32 → (Int32 → rfS → Prop) → Prop} (hκ_X3_readChain : ∀ (σ : rfS) (x1 : Int32) (x2 : Int32) (Q : Int32 → rfS → Prop), κ_X3_readChain σ x1 x2 Q → RM ΛC d yX3_readChain cX3_readChain 5 (some .boolean) [.ref 6, .int x1, .int x2] σ (qi Q)) (hκ_X3_readOperand : ∀ (σ : rfS) (x1 : Int32) (Q : Int32 → rfS → Prop), κ_X3_readOperand σ x1 Q → RM ΛC d yX3_readOperand cX3_readOperand 5 (some .boolean) [.ref 6, .int x1] σ (qi Q)) (hB : 1 ≤ d) (xs0 : Int32) (σ : rfS) (h : wj_X3_readOperand_153 κ_X3_readChain κ_X3_readOperand Q xs0 σ) : Rf ΛC (d + 1) E 5 (qi Q) 153 [] [.int xs0, .ref 6] σ := by
  unfold wj_X3_readOperand_153 at h
  refine Rf_cVv (as := [.int xs0]) (st := []) X mi_X3_addStep lm_X3_50 rfl (Nat.le_of_ble_eq_true rfl) rfl (k_X3_addStep h) (by omega) rfl rfl (Nat.le_of_ble_eq_true rfl) dX3_readOperand_153 rfl (fun σ9 h => ?_)
  refine Rf_iconst X (v := 1) rfl dX3_readOperand_156 rfl ?_
  exact Rf_iret X rfl dX3_readOperand_157 ⟨_, rfl, h⟩
def wj_X3_readOperand_70 (κ_X3_readChain : rfS → Int32 → Int32 → (Int32 → rfS → Prop) → Prop) (κ_X3_readOperand : rfS → Int32 → (Int32 → rfS → Prop) → Prop) (Q : Int32 → rfS → Prop) (x1 : Int32) (x2 : Int32) (xs0 : Int32) (σ : rfS) : Prop :=
  ((xs0 = 0 → Q 0 σ) ∧ (¬ xs0 = 0 → ((x1 < 6 → ((¬ x2 = 40 → κ_X3_readOperand (sI σ 6 5 ((gI σ 6 5) + 1)) (x1 + 1) (fun (r8 : Int32) (σ7 : rfS) => ((¬ r8 = 0 → ((¬ x2 = 33 → wj_X3_readOperand_153 κ_X3_readChain κ_X3_readOperand Q (-126) σ7) ∧ (x2 = 33 → wj_X3_readOperand_153 κ_X3_readChain κ_X3_readOperand Q (-33) σ7))) ∧ (r8 = 0 → Q 0 σ7)))) ∧ (x2 = 40 → κ_X3_readChain (sI σ 6 5 ((gI σ 6 5) + 1)) 0 (x1 + 1) (fun (r13 : Int32) (σ12 : rfS) => ((r13 = 0 → Q 0 σ12) ∧ (¬ r13 = 0 → wp_X3_isAccepted σ12 41 (fun (r15 : Int32) (σ14 : rfS) => ((r15 = 0 → Q 0 σ14) ∧ (¬ r15 = 0 → Q 1 σ14))))))))) ∧ (¬ (x1 < 6) → Q 0 σ))))
set_option maxRecDepth 20000 in
theorem sj_X3_readOperand_70 {d : Nat} {E : rfE} {Q : Int32 → rfS → Prop} (X : rfX ΛC E yX3_readOperand cX3_readOperand 5 (some .boolean)) {κ_X3_readChain : rfS → Int32 → Int32 → (Int32 → rfS → Prop) → Prop} {κ_X3_readOperand : rfS → Int32 → (Int32 → rfS → Prop) → Prop} (hκ_X3_readChain : ∀ (σ : rfS) (x1 : Int32) (x2 : Int32) (Q : Int32 → rfS → Prop), κ_X3_readChain σ x1 x2 Q → RM ΛC d yX3_readChain cX3_readChain 5 (some .boolean) [.ref 6, .int x1, .int x2] σ (qi Q)) (hκ_X3_readOperand : ∀ (σ : rfS) (x1 : Int32) (Q : Int32 → rfS → Prop), κ_X3_readOperand σ x1 Q → RM ΛC d yX3_readOperand cX3_readOperand 5 (some .boolean) [.ref 6, .int x1] σ (qi Q)) (hB : 1 ≤ d) (x1 : Int32) (x2 : Int32) (xs0 : Int32) (σ : rfS) (h : wj_X3_readOperand_70 κ_X3_readChain κ_X3_readOperand Q x1 x2 xs0 σ) : Rf ΛC (d + 1) E 5 (qi Q) 70 [(0, .ref 6), (1, .int x1), (2, .int x2)] [.int xs0] σ := by
  unfold wj_X3_readOperand_70 at h
  refine Rf_istore X (i := 4) (Nat.le_of_ble_eq_true rfl) (ls2 := [(4, .int xs0), (0, .ref 6), (1, .int x1), (2, .int x2)]) rfl dX3_readOperand_70 rfl ?_
  refine Rf_iload X (j := 0) rfl dX3_readOperand_72 rfl ?_
  refine Rf_if_eq X (tgt := 83) dX3_readOperand_74 rfl rfl (fun c20 => ?_) (fun c20 => ?_)
  · have h := h.1 c20
    refine Rf_iconst X (v := 0) rfl dX3_readOperand_83 rfl ?_
    exact Rf_iret X rfl dX3_readOperand_84 ⟨_, rfl, h⟩
  · have h := h.2 c20
    refine Rf_iload_n X (j := 2) rfl rfl dX3_readOperand_77 rfl ?_
    refine Rf_bipush X (v := 6) rfl dX3_readOperand_78 rfl ?_
    refine Rf_icmp_lt X (tgt := 85) dX3_readOperand_80 rfl rfl (fun c19 => ?_) (fun c19 => ?_)
    · have h := h.1 c19
      refine Rf_aload_n X (j := 1) rfl rfl dX3_readOperand_85 rfl ?_
      refine Rf_dup X rfl dX3_readOperand_86 rfl ?_
      refine Rf_get X kc3 (Nat.le_of_ble_eq_true rfl) rfl (j := 5) (Nat.le_of_ble_eq_true rfl) lf_X3_31 (v := .int (gI σ 6 5)) rfl dX3_readOperand_87 rfl ?_
      refine Rf_iconst X (v := 1) rfl dX3_readOperand_90 rfl ?_
      refine Rf_iadd X dX3_readOperand_91 rfl ?_
      refine Rf_put X kc3 (Nat.le_of_ble_eq_true rfl) rfl (j := 5) (Nat.le_of_ble_eq_true rfl) rfl lf_X3_31 rfl rfl rfl dX3_readOperand_92 rfl ?_
      refine Rf_iload_n X (j := 3) rfl rfl dX3_readOperand_95 rfl ?_
      refine Rf_bipush X (v := 40) rfl dX3_readOperand_96 rfl ?_
      refine Rf_icmp_ne X (tgt := 127) dX3_readOperand_98 rfl rfl (fun c18 => ?_) (fun c18 => ?_)
      · have h := h.1 c18
        refine Rf_aload_n X (j := 1) rfl rfl dX3_readOperand_127 rfl ?_
        refine Rf_iload_n X (j := 2) rfl rfl dX3_readOperand_128 rfl ?_
        refine Rf_iconst X (v := 1) rfl dX3_readOperand_129 rfl ?_
        refine Rf_iadd X dX3_readOperand_130 rfl ?_
        refine Rf_cVi (as := [.int (x1 + 1)]) (st := []) X mi_X3_readOperand lm_X3_62 rfl (Nat.le_of_ble_eq_true rfl) rfl (hκ_X3_readOperand _ _ _ h) (Nat.le_refl _) rfl rfl (Nat.le_of_ble_eq_true rfl) dX3_readOperand_131 rfl (fun r8 σ7 h => ?_)
        refine Rf_if_ne X (tgt := 139) dX3_readOperand_134 rfl rfl (fun c11 => ?_) (fun c11 => ?_)
        · have h := h.1 c11
          refine Rf_aload_n X (j := 1) rfl rfl dX3_readOperand_139 rfl ?_
          refine Rf_iload_n X (j := 3) rfl rfl dX3_readOperand_140 rfl ?_
          refine Rf_bipush X (v := 33) rfl dX3_readOperand_141 rfl ?_
          refine Rf_icmp_ne X (tgt := 151) dX3_readOperand_143 rfl rfl (fun c10 => ?_) (fun c10 => ?_)
          · have h := h.1 c10
            refine Rf_bipush X (v := (-126)) (by decide) dX3_readOperand_151 rfl ?_
            refine Rf_sub [] rfl ?_
            exact sj_X3_readOperand_153 X hκ_X3_readChain hκ_X3_readOperand hB _ _ h
          · have h := h.2 c10
            refine Rf_bipush X (v := (-33)) (by decide) dX3_readOperand_146 rfl ?_
            refine Rf_goto X (tgt := 153) dX3_readOperand_148 rfl ?_
            refine Rf_sub [] rfl ?_
            exact sj_X3_readOperand_153 X hκ_X3_readChain hκ_X3_readOperand hB _ _ h
        · have h := h.2 c11
          refine Rf_iconst X (v := 0) rfl dX3_readOperand_137 rfl ?_
          exact Rf_iret X rfl dX3_readOperand_138 ⟨_, rfl, h⟩
      · have h := h.2 c18
        refine Rf_aload_n X (j := 1) rfl rfl dX3_readOperand_101 rfl ?_
        refine Rf_iconst X (v := 0) rfl dX3_readOperand_102 rfl ?_
        refine Rf_iload_n X (j := 2) rfl rfl dX3_readOperand_103 rfl ?_
        refine Rf_iconst X (v := 1) rfl dX3_readOperand_104 rfl ?_
        refine Rf_iadd X dX3_readOperand_105 rfl ?_
        refine Rf_cVi (as := [.int 0, .int (x1 + 1)]) (st := []) X mi_X3_readChain lm_X3_58 rfl (Nat.le_of_ble_eq_true rfl) rfl (hκ_X3_readChain _ _ _ _ h) (Nat.le_refl _) rfl rfl (Nat.le_of_ble_eq_true rfl) dX3_readOperand_106 rfl (fun r13 σ12 h => ?_)
        refine Rf_if_eq X (tgt := 125) dX3_readOperand_109 rfl rfl (fun c17 => ?_) (fun c17 => ?_)
        · have h := h.1 c17
          refine Rf_iconst X (v := 0) rfl dX3_readOperand_125 rfl ?_
          exact Rf_iret X rfl dX3_readOperand_126 ⟨_, rfl, h⟩
        · have h := h.2 c17
          refine Rf_aload_n X (j := 1) rfl rfl dX3_readOperand_112 rfl ?_
          refine Rf_bipush X (v := 41) rfl dX3_readOperand_113 rfl ?_
          refine Rf_cVi (as := [.int 41]) (st := []) X mi_X3_isAccepted lm_X3_54 rfl (Nat.le_of_ble_eq_true rfl) rfl (k_X3_isAccepted h) (by omega) rfl rfl (Nat.le_of_ble_eq_true rfl) dX3_readOperand_115 rfl (fun r15 σ14 h => ?_)
          refine Rf_if_eq X (tgt := 125) dX3_readOperand_118 rfl rfl (fun c16 => ?_) (fun c16 => ?_)
          · have h := h.1 c16
            refine Rf_iconst X (v := 0) rfl dX3_readOperand_125 rfl ?_
            exact Rf_iret X rfl dX3_readOperand_126 ⟨_, rfl, h⟩
          · have h := h.2 c16
            refine Rf_iconst X (v := 1) rfl dX3_readOperand_121 rfl ?_
            refine Rf_goto X (tgt := 126) dX3_readOperand_122 rfl ?_
            exact Rf_iret X rfl dX3_readOperand_126 ⟨_, rfl, h⟩
    · have h := h.2 c19
      refine Rf_iconst X (v := 0) rfl dX3_readOperand_83 rfl ?_
      exact Rf_iret X rfl dX3_readOperand_84 ⟨_, rfl, h⟩
def wj_X3_readOperand_65 (κ_X3_readChain : rfS → Int32 → Int32 → (Int32 → rfS → Prop) → Prop) (κ_X3_readOperand : rfS → Int32 → (Int32 → rfS → Prop) → Prop) (Q : Int32 → rfS → Prop) (x1 : Int32) (x2 : Int32) (σ : rfS) : Prop :=
  wj_X3_readOperand_70 κ_X3_readChain κ_X3_readOperand Q x1 x2 1 σ
set_option maxRecDepth 20000 in
theorem sj_X3_readOperand_65 {d : Nat} {E : rfE} {Q : Int32 → rfS → Prop} (X : rfX ΛC E yX3_readOperand cX3_readOperand 5 (some .boolean)) {κ_X3_readChain : rfS → Int32 → Int32 → (Int32 → rfS → Prop) → Prop} {κ_X3_readOperand : rfS → Int32 → (Int32 → rfS → Prop) → Prop} (hκ_X3_readChain : ∀ (σ : rfS) (x1 : Int32) (x2 : Int32) (Q : Int32 → rfS → Prop), κ_X3_readChain σ x1 x2 Q → RM ΛC d yX3_readChain cX3_readChain 5 (some .boolean) [.ref 6, .int x1, .int x2] σ (qi Q)) (hκ_X3_readOperand : ∀ (σ : rfS) (x1 : Int32) (Q : Int32 → rfS → Prop), κ_X3_readOperand σ x1 Q → RM ΛC d yX3_readOperand cX3_readOperand 5 (some .boolean) [.ref 6, .int x1] σ (qi Q)) (hB : 1 ≤ d) (x1 : Int32) (x2 : Int32) (σ : rfS) (h : wj_X3_readOperand_65 κ_X3_readChain κ_X3_readOperand Q x1 x2 σ) : Rf ΛC (d + 1) E 5 (qi Q) 65 [(0, .ref 6), (1, .int x1), (2, .int x2)] [] σ := by
  unfold wj_X3_readOperand_65 at h
  refine Rf_iconst X (v := 1) rfl dX3_readOperand_65 rfl ?_
  refine Rf_goto X (tgt := 70) dX3_readOperand_66 rfl ?_
  exact sj_X3_readOperand_70 X hκ_X3_readChain hκ_X3_readOperand hB _ _ _ _ h
def wp_X3_readOperand (κ_X3_readChain : rfS → Int32 → Int32 → (Int32 → rfS → Prop) → Prop) (κ_X3_readOperand : rfS → Int32 → (Int32 → rfS → Prop) → Prop) (σ : rfS) (x1 : Int32) (Q : Int32 → rfS → Prop) : Prop :=
  wp_X3_sign σ (fun (r2 : Int32) (σ1 : rfS) => wp_X3_isDigit σ1 r2 (fun (r4 : Int32) (σ3 : rfS) => ((r4 = 0 → wp_X3_nameOf σ3 r2 (fun (r6 : Int32) (σ5 : rfS) => ((r6 = (-1) → ((r2 = 40 → wj_X3_readOperand_65 κ_X3_readChain κ_X3_readOperand Q x1 r2 σ5) ∧ (¬ r2 = 40 → ((r2 = 33 → wj_X3_readOperand_65 κ_X3_readChain κ_X3_readOperand Q x1 r2 σ5) ∧ (¬ r2 = 33 → ((¬ r2 = 45 → wj_X3_readOperand_70 κ_X3_readChain κ_X3_readOperand Q x1 r2 0 σ5) ∧ (r2 = 45 → wj_X3_readOperand_65 κ_X3_readChain κ_X3_readOperand Q x1 r2 σ5))))))) ∧ (¬ r6 = (-1) → wp_X3_addStep (sI σ5 6 5 ((gI σ5 6 5) + 1)) ((-1) - r6) (fun (σ24 : rfS) => Q 1 σ24))))) ∧ (¬ r4 = 0 → wp_X3_readNumber σ3 (fun (σ26 : rfS) => Q 1 σ26)))))
set_option maxRecDepth 20000 in
theorem k_X3_readOperand {d : Nat} {κ_X3_readChain : rfS → Int32 → Int32 → (Int32 → rfS → Prop) → Prop} {κ_X3_readOperand : rfS → Int32 → (Int32 → rfS → Prop) → Prop} (hκ_X3_readChain : ∀ (σ : rfS) (x1 : Int32) (x2 : Int32) (Q : Int32 → rfS → Prop), κ_X3_readChain σ x1 x2 Q → RM ΛC d yX3_readChain cX3_readChain 5 (some .boolean) [.ref 6, .int x1, .int x2] σ (qi Q)) (hκ_X3_readOperand : ∀ (σ : rfS) (x1 : Int32) (Q : Int32 → rfS → Prop), κ_X3_readOperand σ x1 Q → RM ΛC d yX3_readOperand cX3_readOperand 5 (some .boolean) [.ref 6, .int x1] σ (qi Q)) (hB : 1 ≤ d) {σ : rfS} {x1 : Int32} {Q : Int32 → rfS → Prop} (h : wp_X3_readOperand κ_X3_readChain κ_X3_readOperand σ x1 Q) : RM ΛC (d + 1) yX3_readOperand cX3_readOperand 5 (some .boolean) [.ref 6, .int x1] σ (qi Q) := by
  unfold wp_X3_readOperand at h
  refine RM.intro (by decide) (Nat.le_of_ble_eq_true rfl) (fun E X => ?_)
  show Rf ΛC (d + 1) E 5 (qi Q) 0 [(0, .ref 6), (1, .int x1)] [] σ
  refine Rf_aload_n X (j := 0) rfl rfl dX3_readOperand_0 rfl ?_
  refine Rf_cVi (as := []) (st := []) X mi_X3_sign lm_X3_65 rfl (Nat.le_of_ble_eq_true rfl) rfl (k_X3_sign h) (by omega) rfl rfl (Nat.le_of_ble_eq_true rfl) dX3_readOperand_1 rfl (fun r2 σ1 h => ?_)
  refine Rf_istore_n X rfl (i := 2) (Nat.le_of_ble_eq_true rfl) (ls2 := [(2, .int r2), (0, .ref 6), (1, .int x1)]) rfl dX3_readOperand_4 rfl ?_
  refine Rf_iload_n X (j := 0) rfl rfl dX3_readOperand_5 rfl ?_
  refine Rf_cSi (as := [.int r2]) (st := []) X ms_X3_isDigit lm_X3_73 (k_X3_isDigit h) (by omega) rfl rfl (Nat.le_of_ble_eq_true rfl) dX3_readOperand_6 rfl (fun r4 σ3 h => ?_)
  refine Rf_if_eq X (tgt := 18) dX3_readOperand_9 rfl rfl (fun c27 => ?_) (fun c27 => ?_)
  · have h := h.1 c27
    refine Rf_iload_n X (j := 0) rfl rfl dX3_readOperand_18 rfl ?_
    refine Rf_cSi (as := [.int r2]) (st := []) X ms_X3_nameOf lm_X3_79 (k_X3_nameOf h) (by omega) rfl rfl (Nat.le_of_ble_eq_true rfl) dX3_readOperand_19 rfl (fun r6 σ5 h => ?_)
    refine Rf_istore_n X rfl (i := 3) (Nat.le_of_ble_eq_true rfl) (ls2 := [(3, .int r6), (2, .int r2), (0, .ref 6), (1, .int x1)]) rfl dX3_readOperand_22 rfl ?_
    refine Rf_iload_n X (j := 0) rfl rfl dX3_readOperand_23 rfl ?_
    refine Rf_iconst X (v := (-1)) (by decide) dX3_readOperand_24 rfl ?_
    refine Rf_icmp_eq X (tgt := 47) dX3_readOperand_25 rfl rfl (fun c25 => ?_) (fun c25 => ?_)
    · have h := h.1 c25
      refine Rf_iload_n X (j := 1) rfl rfl dX3_readOperand_47 rfl ?_
      refine Rf_bipush X (v := 40) rfl dX3_readOperand_48 rfl ?_
      refine Rf_icmp_eq X (tgt := 65) dX3_readOperand_50 rfl rfl (fun c23 => ?_) (fun c23 => ?_)
      · have h := h.1 c23
        refine Rf_sub [2, 3, 1] rfl ?_
        exact sj_X3_readOperand_65 X hκ_X3_readChain hκ_X3_readOperand hB _ _ _ h
      · have h := h.2 c23
        refine Rf_iload_n X (j := 1) rfl rfl dX3_readOperand_53 rfl ?_
        refine Rf_bipush X (v := 33) rfl dX3_readOperand_54 rfl ?_
        refine Rf_icmp_eq X (tgt := 65) dX3_readOperand_56 rfl rfl (fun c22 => ?_) (fun c22 => ?_)
        · have h := h.1 c22
          refine Rf_sub [2, 3, 1] rfl ?_
          exact sj_X3_readOperand_65 X hκ_X3_readChain hκ_X3_readOperand hB _ _ _ h
        · have h := h.2 c22
          refine Rf_iload_n X (j := 1) rfl rfl dX3_readOperand_59 rfl ?_
          refine Rf_bipush X (v := 45) rfl dX3_readOperand_60 rfl ?_
          refine Rf_icmp_ne X (tgt := 69) dX3_readOperand_62 rfl rfl (fun c21 => ?_) (fun c21 => ?_)
          · have h := h.1 c21
            refine Rf_iconst X (v := 0) rfl dX3_readOperand_69 rfl ?_
            refine Rf_sub [2, 3, 1] rfl ?_
            exact sj_X3_readOperand_70 X hκ_X3_readChain hκ_X3_readOperand hB _ _ _ _ h
          · have h := h.2 c21
            refine Rf_sub [2, 3, 1] rfl ?_
            exact sj_X3_readOperand_65 X hκ_X3_readChain hκ_X3_readOperand hB _ _ _ h
    · have h := h.2 c25
      refine Rf_aload_n X (j := 2) rfl rfl dX3_readOperand_28 rfl ?_
      refine Rf_dup X rfl dX3_readOperand_29 rfl ?_
      refine Rf_get X kc3 (Nat.le_of_ble_eq_true rfl) rfl (j := 5) (Nat.le_of_ble_eq_true rfl) lf_X3_31 (v := .int (gI σ5 6 5)) rfl dX3_readOperand_30 rfl ?_
      refine Rf_iconst X (v := 1) rfl dX3_readOperand_33 rfl ?_
      refine Rf_iadd X dX3_readOperand_34 rfl ?_
      refine Rf_put X kc3 (Nat.le_of_ble_eq_true rfl) rfl (j := 5) (Nat.le_of_ble_eq_true rfl) rfl lf_X3_31 rfl rfl rfl dX3_readOperand_35 rfl ?_
      refine Rf_aload_n X (j := 2) rfl rfl dX3_readOperand_38 rfl ?_
      refine Rf_iconst X (v := (-1)) (by decide) dX3_readOperand_39 rfl ?_
      refine Rf_iload_n X (j := 0) rfl rfl dX3_readOperand_40 rfl ?_
      refine Rf_isub X dX3_readOperand_41 rfl ?_
      refine Rf_cVv (as := [.int ((-1) - r6)]) (st := []) X mi_X3_addStep lm_X3_50 rfl (Nat.le_of_ble_eq_true rfl) rfl (k_X3_addStep h) (by omega) rfl rfl (Nat.le_of_ble_eq_true rfl) dX3_readOperand_42 rfl (fun σ24 h => ?_)
      refine Rf_iconst X (v := 1) rfl dX3_readOperand_45 rfl ?_
      exact Rf_iret X rfl dX3_readOperand_46 ⟨_, rfl, h⟩
  · have h := h.2 c27
    refine Rf_aload_n X (j := 1) rfl rfl dX3_readOperand_12 rfl ?_
    refine Rf_cVv (as := []) (st := []) X mi_X3_readNumber lm_X3_76 rfl (Nat.le_of_ble_eq_true rfl) rfl (k_X3_readNumber h) (by omega) rfl rfl (Nat.le_of_ble_eq_true rfl) dX3_readOperand_13 rfl (fun σ26 h => ?_)
    refine Rf_iconst X (v := 1) rfl dX3_readOperand_16 rfl ?_
    exact Rf_iret X rfl dX3_readOperand_17 ⟨_, rfl, h⟩
def wl_X3_readChain_26 (κ_X3_readChain : rfS → Int32 → Int32 → (Int32 → rfS → Prop) → Prop) (κ_X3_readOperand : rfS → Int32 → (Int32 → rfS → Prop) → Prop) (Q : Int32 → rfS → Prop) : Nat → Int32 → Int32 → Int32 → rfS → Prop
  | 0, _, _, _, _ => False
  | n + 1, x1, x2, x3, σ => (((gI σ 6 4) ≤ x3 → Q 1 σ) ∧ (¬ ((gI σ 6 4) ≤ x3) → wp_X3_sign σ (fun (r4 : Int32) (σ3 : rfS) => wp_X3_levelOf σ3 r4 (fun (r6 : Int32) (σ5 : rfS) => ((¬ r6 = x1 → Q 1 σ5) ∧ (r6 = x1 → wp_X3_sign σ5 (fun (r8 : Int32) (σ7 : rfS) => κ_X3_readChain (sI σ7 6 5 ((gI σ7 6 5) + 1)) (x1 + 1) x2 (fun (r10 : Int32) (σ9 : rfS) => ((¬ r10 = 0 → wp_X3_addStep σ9 (-r8) (fun (σ11 : rfS) => ((¬ x1 = 2 → wl_X3_readChain_26 κ_X3_readChain κ_X3_readOperand Q n x1 x2 (x3 + 1) σ11) ∧ (x1 = 2 → Q 1 σ11)))) ∧ (r10 = 0 → Q 0 σ9))))))))))
set_option maxRecDepth 20000 in
theorem sl_X3_readChain_26 {d : Nat} {E : rfE} {Q : Int32 → rfS → Prop} (X : rfX ΛC E yX3_readChain cX3_readChain 5 (some .boolean)) {κ_X3_readChain : rfS → Int32 → Int32 → (Int32 → rfS → Prop) → Prop} {κ_X3_readOperand : rfS → Int32 → (Int32 → rfS → Prop) → Prop} (hκ_X3_readChain : ∀ (σ : rfS) (x1 : Int32) (x2 : Int32) (Q : Int32 → rfS → Prop), κ_X3_readChain σ x1 x2 Q → RM ΛC d yX3_readChain cX3_readChain 5 (some .boolean) [.ref 6, .int x1, .int x2] σ (qi Q)) (hκ_X3_readOperand : ∀ (σ : rfS) (x1 : Int32) (Q : Int32 → rfS → Prop), κ_X3_readOperand σ x1 Q → RM ΛC d yX3_readOperand cX3_readOperand 5 (some .boolean) [.ref 6, .int x1] σ (qi Q)) (hB : 0 ≤ d) : ∀ (n : Nat) (x1 : Int32) (x2 : Int32) (x3 : Int32) (σ : rfS), wl_X3_readChain_26 κ_X3_readChain κ_X3_readOperand Q n x1 x2 x3 σ → Rf ΛC (d + 1) E 5 (qi Q) 26 [(0, .ref 6), (1, .int x1), (2, .int x2), (3, .int x3)] [] σ := by
  intro n
  induction n with
  | zero =>
    intro x1 x2 x3 σ h
    exact False.elim h
  | succ n hkb_26 =>
    intro x1 x2 x3 σ h
    unfold wl_X3_readChain_26 at h
    refine Rf_iload_n X (j := 3) rfl rfl dX3_readChain_26 rfl ?_
    refine Rf_aload_n X (j := 0) rfl rfl dX3_readChain_27 rfl ?_
    refine Rf_get X kc3 (Nat.le_of_ble_eq_true rfl) rfl (j := 4) (Nat.le_of_ble_eq_true rfl) lf_X3_28 (v := .int (gI σ 6 4)) rfl dX3_readChain_28 rfl ?_
    refine Rf_icmp_ge X (tgt := 94) dX3_readChain_31 rfl rfl (fun c15 => ?_) (fun c15 => ?_)
    · have h := h.1 c15
      refine Rf_iconst X (v := 1) rfl dX3_readChain_94 rfl ?_
      exact Rf_iret X rfl dX3_readChain_95 ⟨_, rfl, h⟩
    · have h := h.2 c15
      refine Rf_aload_n X (j := 0) rfl rfl dX3_readChain_34 rfl ?_
      refine Rf_cVi (as := []) (st := []) X mi_X3_sign lm_X3_65 rfl (Nat.le_of_ble_eq_true rfl) rfl (k_X3_sign h) (by omega) rfl rfl (Nat.le_of_ble_eq_true rfl) dX3_readChain_35 rfl (fun r4 σ3 h => ?_)
      refine Rf_cSi (as := [.int r4]) (st := []) X ms_X3_levelOf lm_X3_69 (k_X3_levelOf h) (by omega) rfl rfl (Nat.le_of_ble_eq_true rfl) dX3_readChain_38 rfl (fun r6 σ5 h => ?_)
      refine Rf_iload_n X (j := 1) rfl rfl dX3_readChain_41 rfl ?_
      refine Rf_icmp_ne X (tgt := 94) dX3_readChain_42 rfl rfl (fun c14 => ?_) (fun c14 => ?_)
      · have h := h.1 c14
        refine Rf_iconst X (v := 1) rfl dX3_readChain_94 rfl ?_
        exact Rf_iret X rfl dX3_readChain_95 ⟨_, rfl, h⟩
      · have h := h.2 c14
        refine Rf_aload_n X (j := 0) rfl rfl dX3_readChain_45 rfl ?_
        refine Rf_cVi (as := []) (st := []) X mi_X3_sign lm_X3_65 rfl (Nat.le_of_ble_eq_true rfl) rfl (k_X3_sign h) (by omega) rfl rfl (Nat.le_of_ble_eq_true rfl) dX3_readChain_46 rfl (fun r8 σ7 h => ?_)
        refine Rf_istore X (i := 4) (Nat.le_of_ble_eq_true rfl) (ls2 := [(4, .int r8), (0, .ref 6), (1, .int x1), (2, .int x2), (3, .int x3)]) rfl dX3_readChain_49 rfl ?_
        refine Rf_aload_n X (j := 1) rfl rfl dX3_readChain_51 rfl ?_
        refine Rf_dup X rfl dX3_readChain_52 rfl ?_
        refine Rf_get X kc3 (Nat.le_of_ble_eq_true rfl) rfl (j := 5) (Nat.le_of_ble_eq_true rfl) lf_X3_31 (v := .int (gI σ7 6 5)) rfl dX3_readChain_53 rfl ?_
        refine Rf_iconst X (v := 1) rfl dX3_readChain_56 rfl ?_
        refine Rf_iadd X dX3_readChain_57 rfl ?_
        refine Rf_put X kc3 (Nat.le_of_ble_eq_true rfl) rfl (j := 5) (Nat.le_of_ble_eq_true rfl) rfl lf_X3_31 rfl rfl rfl dX3_readChain_58 rfl ?_
        refine Rf_aload_n X (j := 1) rfl rfl dX3_readChain_61 rfl ?_
        refine Rf_iload_n X (j := 2) rfl rfl dX3_readChain_62 rfl ?_
        refine Rf_iconst X (v := 1) rfl dX3_readChain_63 rfl ?_
        refine Rf_iadd X dX3_readChain_64 rfl ?_
        refine Rf_iload_n X (j := 3) rfl rfl dX3_readChain_65 rfl ?_
        refine Rf_cVi (as := [.int (x1 + 1), .int x2]) (st := []) X mi_X3_readChain lm_X3_58 rfl (Nat.le_of_ble_eq_true rfl) rfl (hκ_X3_readChain _ _ _ _ h) (Nat.le_refl _) rfl rfl (Nat.le_of_ble_eq_true rfl) dX3_readChain_66 rfl (fun r10 σ9 h => ?_)
        refine Rf_if_ne X (tgt := 74) dX3_readChain_69 rfl rfl (fun c13 => ?_) (fun c13 => ?_)
        · have h := h.1 c13
          refine Rf_aload_n X (j := 1) rfl rfl dX3_readChain_74 rfl ?_
          refine Rf_iload X (j := 0) rfl dX3_readChain_75 rfl ?_
          refine Rf_ineg X dX3_readChain_77 rfl ?_
          refine Rf_cVv (as := [.int (-r8)]) (st := []) X mi_X3_addStep lm_X3_50 rfl (Nat.le_of_ble_eq_true rfl) rfl (k_X3_addStep h) (by omega) rfl rfl (Nat.le_of_ble_eq_true rfl) dX3_readChain_78 rfl (fun σ11 h => ?_)
          refine Rf_iload_n X (j := 2) rfl rfl dX3_readChain_81 rfl ?_
          refine Rf_iconst X (v := 2) rfl dX3_readChain_82 rfl ?_
          refine Rf_icmp_ne X (tgt := 88) dX3_readChain_83 rfl rfl (fun c12 => ?_) (fun c12 => ?_)
          · have h := h.1 c12
            refine Rf_iinc X (i := 3) (j := 4) (v := x3 + 1) rfl rfl (Nat.le_of_ble_eq_true rfl) (ls2 := [(3, .int (x3 + 1)), (4, .int r8), (0, .ref 6), (1, .int x1), (2, .int x2)]) rfl dX3_readChain_88 rfl ?_
            refine Rf_goto X (tgt := 26) dX3_readChain_91 rfl ?_
            refine Rf_sub [2, 3, 4, 0] rfl ?_
            exact hkb_26 _ _ _ σ11 h
          · have h := h.2 c12
            refine Rf_iconst X (v := 1) rfl dX3_readChain_86 rfl ?_
            exact Rf_iret X rfl dX3_readChain_87 ⟨_, rfl, h⟩
        · have h := h.2 c13
          refine Rf_iconst X (v := 0) rfl dX3_readChain_72 rfl ?_
          exact Rf_iret X rfl dX3_readChain_73 ⟨_, rfl, h⟩
def wp_X3_readChain (κ_X3_readChain : rfS → Int32 → Int32 → (Int32 → rfS → Prop) → Prop) (κ_X3_readOperand : rfS → Int32 → (Int32 → rfS → Prop) → Prop) (σ : rfS) (x1 : Int32) (x2 : Int32) (Q : Int32 → rfS → Prop) : Prop :=
  ((x1 < 5 → κ_X3_readChain σ (x1 + 1) x2 (fun (r2 : Int32) (σ1 : rfS) => ((¬ r2 = 0 → (∃ n16, wl_X3_readChain_26 κ_X3_readChain κ_X3_readOperand Q n16 x1 x2 0 σ1)) ∧ (r2 = 0 → Q 0 σ1)))) ∧ (¬ (x1 < 5) → κ_X3_readOperand σ x2 (fun (r19 : Int32) (σ18 : rfS) => (rfZ r19) ∧ Q r19 σ18)))
set_option maxRecDepth 20000 in
theorem k_X3_readChain {d : Nat} {κ_X3_readChain : rfS → Int32 → Int32 → (Int32 → rfS → Prop) → Prop} {κ_X3_readOperand : rfS → Int32 → (Int32 → rfS → Prop) → Prop} (hκ_X3_readChain : ∀ (σ : rfS) (x1 : Int32) (x2 : Int32) (Q : Int32 → rfS → Prop), κ_X3_readChain σ x1 x2 Q → RM ΛC d yX3_readChain cX3_readChain 5 (some .boolean) [.ref 6, .int x1, .int x2] σ (qi Q)) (hκ_X3_readOperand : ∀ (σ : rfS) (x1 : Int32) (Q : Int32 → rfS → Prop), κ_X3_readOperand σ x1 Q → RM ΛC d yX3_readOperand cX3_readOperand 5 (some .boolean) [.ref 6, .int x1] σ (qi Q)) (hB : 0 ≤ d) {σ : rfS} {x1 : Int32} {x2 : Int32} {Q : Int32 → rfS → Prop} (h : wp_X3_readChain κ_X3_readChain κ_X3_readOperand σ x1 x2 Q) : RM ΛC (d + 1) yX3_readChain cX3_readChain 5 (some .boolean) [.ref 6, .int x1, .int x2] σ (qi Q) := by
  unfold wp_X3_readChain at h
  refine RM.intro (by decide) (Nat.le_of_ble_eq_true rfl) (fun E X => ?_)
  show Rf ΛC (d + 1) E 5 (qi Q) 0 [(0, .ref 6), (1, .int x1), (2, .int x2)] [] σ
  refine Rf_iload_n X (j := 1) rfl rfl dX3_readChain_0 rfl ?_
  refine Rf_iconst X (v := 5) rfl dX3_readChain_1 rfl ?_
  refine Rf_icmp_lt X (tgt := 11) dX3_readChain_2 rfl rfl (fun c21 => ?_) (fun c21 => ?_)
  · have h := h.1 c21
    refine Rf_aload_n X (j := 0) rfl rfl dX3_readChain_11 rfl ?_
    refine Rf_iload_n X (j := 1) rfl rfl dX3_readChain_12 rfl ?_
    refine Rf_iconst X (v := 1) rfl dX3_readChain_13 rfl ?_
    refine Rf_iadd X dX3_readChain_14 rfl ?_
    refine Rf_iload_n X (j := 2) rfl rfl dX3_readChain_15 rfl ?_
    refine Rf_cVi (as := [.int (x1 + 1), .int x2]) (st := []) X mi_X3_readChain lm_X3_58 rfl (Nat.le_of_ble_eq_true rfl) rfl (hκ_X3_readChain _ _ _ _ h) (Nat.le_refl _) rfl rfl (Nat.le_of_ble_eq_true rfl) dX3_readChain_16 rfl (fun r2 σ1 h => ?_)
    refine Rf_if_ne X (tgt := 24) dX3_readChain_19 rfl rfl (fun c17 => ?_) (fun c17 => ?_)
    · have h := h.1 c17
      refine Rf_iconst X (v := 0) rfl dX3_readChain_24 rfl ?_
      refine Rf_istore_n X rfl (i := 3) (Nat.le_of_ble_eq_true rfl) (ls2 := [(3, .int 0), (0, .ref 6), (1, .int x1), (2, .int x2)]) rfl dX3_readChain_25 rfl ?_
      obtain ⟨n16, h⟩ := h
      refine Rf_sub [1, 2, 3, 0] rfl ?_
      exact sl_X3_readChain_26 X hκ_X3_readChain hκ_X3_readOperand hB n16 _ _ _ _ h
    · have h := h.2 c17
      refine Rf_iconst X (v := 0) rfl dX3_readChain_22 rfl ?_
      exact Rf_iret X rfl dX3_readChain_23 ⟨_, rfl, h⟩
  · have h := h.2 c21
    refine Rf_aload_n X (j := 0) rfl rfl dX3_readChain_5 rfl ?_
    refine Rf_iload_n X (j := 2) rfl rfl dX3_readChain_6 rfl ?_
    refine Rf_cVi (as := [.int x2]) (st := []) X mi_X3_readOperand lm_X3_62 rfl (Nat.le_of_ble_eq_true rfl) rfl (hκ_X3_readOperand _ _ _ h) (Nat.le_refl _) rfl rfl (Nat.le_of_ble_eq_true rfl) dX3_readChain_7 rfl (fun r19 σ18 h => ?_)
    obtain ⟨s20, h⟩ := h
    exact Rf_iret X (rfZ_n s20) dX3_readChain_10 ⟨_, rfl, h⟩
def wp_X3_readLine (κ_X3_readChain : rfS → Int32 → Int32 → (Int32 → rfS → Prop) → Prop) (σ : rfS) (Q : Int32 → rfS → Prop) : Prop :=
  κ_X3_readChain σ 0 0 (fun (r2 : Int32) (σ1 : rfS) => ((¬ r2 = 0 → wp_X3_isAccepted σ1 63 (fun (r4 : Int32) (σ3 : rfS) => ((¬ r4 = 0 → wp_X3_addStep σ3 (-63) (fun (σ5 : rfS) => κ_X3_readChain σ5 0 0 (fun (r7 : Int32) (σ6 : rfS) => (rfZ r7) ∧ Q r7 σ6))) ∧ (r4 = 0 → Q 1 σ3)))) ∧ (r2 = 0 → Q 0 σ1)))
set_option maxRecDepth 20000 in
theorem k_X3_readLine {d : Nat} {κ_X3_readChain : rfS → Int32 → Int32 → (Int32 → rfS → Prop) → Prop} (hκ_X3_readChain : ∀ (σ : rfS) (x1 : Int32) (x2 : Int32) (Q : Int32 → rfS → Prop), κ_X3_readChain σ x1 x2 Q → RM ΛC d yX3_readChain cX3_readChain 5 (some .boolean) [.ref 6, .int x1, .int x2] σ (qi Q)) (hB : 1 ≤ d) {σ : rfS} {Q : Int32 → rfS → Prop} (h : wp_X3_readLine κ_X3_readChain σ Q) : RM ΛC (d + 1) yX3_readLine cX3_readLine 1 (some .boolean) [.ref 6] σ (qi Q) := by
  unfold wp_X3_readLine at h
  refine RM.intro (by decide) (Nat.le_of_ble_eq_true rfl) (fun E X => ?_)
  show Rf ΛC (d + 1) E 1 (qi Q) 0 [(0, .ref 6)] [] σ
  refine Rf_aload_n X (j := 0) rfl rfl dX3_readLine_0 rfl ?_
  refine Rf_iconst X (v := 0) rfl dX3_readLine_1 rfl ?_
  refine Rf_iconst X (v := 0) rfl dX3_readLine_2 rfl ?_
  refine Rf_cVi (as := [.int 0, .int 0]) (st := []) X mi_X3_readChain lm_X3_58 rfl (Nat.le_of_ble_eq_true rfl) rfl (hκ_X3_readChain _ _ _ _ h) (Nat.le_refl _) rfl rfl (Nat.le_of_ble_eq_true rfl) dX3_readLine_3 rfl (fun r2 σ1 h => ?_)
  refine Rf_if_ne X (tgt := 11) dX3_readLine_6 rfl rfl (fun c10 => ?_) (fun c10 => ?_)
  · have h := h.1 c10
    refine Rf_aload_n X (j := 0) rfl rfl dX3_readLine_11 rfl ?_
    refine Rf_bipush X (v := 63) rfl dX3_readLine_12 rfl ?_
    refine Rf_cVi (as := [.int 63]) (st := []) X mi_X3_isAccepted lm_X3_54 rfl (Nat.le_of_ble_eq_true rfl) rfl (k_X3_isAccepted h) (by omega) rfl rfl (Nat.le_of_ble_eq_true rfl) dX3_readLine_14 rfl (fun r4 σ3 h => ?_)
    refine Rf_if_ne X (tgt := 22) dX3_readLine_17 rfl rfl (fun c9 => ?_) (fun c9 => ?_)
    · have h := h.1 c9
      refine Rf_aload_n X (j := 0) rfl rfl dX3_readLine_22 rfl ?_
      refine Rf_bipush X (v := (-63)) (by decide) dX3_readLine_23 rfl ?_
      refine Rf_cVv (as := [.int (-63)]) (st := []) X mi_X3_addStep lm_X3_50 rfl (Nat.le_of_ble_eq_true rfl) rfl (k_X3_addStep h) (by omega) rfl rfl (Nat.le_of_ble_eq_true rfl) dX3_readLine_25 rfl (fun σ5 h => ?_)
      refine Rf_aload_n X (j := 0) rfl rfl dX3_readLine_28 rfl ?_
      refine Rf_iconst X (v := 0) rfl dX3_readLine_29 rfl ?_
      refine Rf_iconst X (v := 0) rfl dX3_readLine_30 rfl ?_
      refine Rf_cVi (as := [.int 0, .int 0]) (st := []) X mi_X3_readChain lm_X3_58 rfl (Nat.le_of_ble_eq_true rfl) rfl (hκ_X3_readChain _ _ _ _ h) (Nat.le_refl _) rfl rfl (Nat.le_of_ble_eq_true rfl) dX3_readLine_31 rfl (fun r7 σ6 h => ?_)
      obtain ⟨s8, h⟩ := h
      exact Rf_iret X (rfZ_n s8) dX3_readLine_34 ⟨_, rfl, h⟩
    · have h := h.2 c9
      refine Rf_iconst X (v := 1) rfl dX3_readLine_20 rfl ?_
      exact Rf_iret X rfl dX3_readLine_21 ⟨_, rfl, h⟩
  · have h := h.2 c10
    refine Rf_iconst X (v := 0) rfl dX3_readLine_9 rfl ?_
    exact Rf_iret X rfl dX3_readLine_10 ⟨_, rfl, h⟩
def wl_X3_readLines_2 (κ_X3_readLine : rfS → (Int32 → rfS → Prop) → Prop) (Q : Int32 → rfS → Prop) : Nat → Int32 → rfS → Prop
  | 0, _, _ => False
  | n + 1, x1, σ => (((gI σ 6 4) < x1 → Q 0 σ) ∧ (¬ ((gI σ 6 4) < x1) → κ_X3_readLine σ (fun (r2 : Int32) (σ1 : rfS) => ((¬ r2 = 0 → wp_X3_addStep σ1 (-59) (fun (σ3 : rfS) => ((¬ (gI σ3 6 5) = (gI σ3 6 4) → wp_X3_isAccepted σ3 59 (fun (r5 : Int32) (σ4 : rfS) => ((¬ r5 = 0 → wl_X3_readLines_2 κ_X3_readLine Q n (x1 + 1) σ4) ∧ (r5 = 0 → Q 0 σ4)))) ∧ ((gI σ3 6 5) = (gI σ3 6 4) → Q 1 σ3)))) ∧ (r2 = 0 → Q 0 σ1)))))
set_option maxRecDepth 20000 in
theorem sl_X3_readLines_2 {d : Nat} {E : rfE} {Q : Int32 → rfS → Prop} (X : rfX ΛC E yX3_readLines cX3_readLines 2 (some .boolean)) {κ_X3_readLine : rfS → (Int32 → rfS → Prop) → Prop} (hκ_X3_readLine : ∀ (σ : rfS) (Q : Int32 → rfS → Prop), κ_X3_readLine σ Q → RM ΛC d yX3_readLine cX3_readLine 1 (some .boolean) [.ref 6] σ (qi Q)) (hB : 1 ≤ d) : ∀ (n : Nat) (x1 : Int32) (σ : rfS), wl_X3_readLines_2 κ_X3_readLine Q n x1 σ → Rf ΛC (d + 1) E 2 (qi Q) 2 [(0, .ref 6), (1, .int x1)] [] σ := by
  intro n
  induction n with
  | zero =>
    intro x1 σ h
    exact False.elim h
  | succ n hkb_2 =>
    intro x1 σ h
    unfold wl_X3_readLines_2 at h
    refine Rf_iload_n X (j := 1) rfl rfl dX3_readLines_2 rfl ?_
    refine Rf_aload_n X (j := 0) rfl rfl dX3_readLines_3 rfl ?_
    refine Rf_get X kc3 (Nat.le_of_ble_eq_true rfl) rfl (j := 4) (Nat.le_of_ble_eq_true rfl) lf_X3_28 (v := .int (gI σ 6 4)) rfl dX3_readLines_4 rfl ?_
    refine Rf_icmp_gt X (tgt := 55) dX3_readLines_7 rfl rfl (fun c9 => ?_) (fun c9 => ?_)
    · have h := h.1 c9
      refine Rf_iconst X (v := 0) rfl dX3_readLines_55 rfl ?_
      exact Rf_iret X rfl dX3_readLines_56 ⟨_, rfl, h⟩
    · have h := h.2 c9
      refine Rf_aload_n X (j := 0) rfl rfl dX3_readLines_10 rfl ?_
      refine Rf_cVi (as := []) (st := []) X mi_X3_readLine lm_X3_47 rfl (Nat.le_of_ble_eq_true rfl) rfl (hκ_X3_readLine _ _ h) (Nat.le_refl _) rfl rfl (Nat.le_of_ble_eq_true rfl) dX3_readLines_11 rfl (fun r2 σ1 h => ?_)
      refine Rf_if_ne X (tgt := 19) dX3_readLines_14 rfl rfl (fun c8 => ?_) (fun c8 => ?_)
      · have h := h.1 c8
        refine Rf_aload_n X (j := 0) rfl rfl dX3_readLines_19 rfl ?_
        refine Rf_bipush X (v := (-59)) (by decide) dX3_readLines_20 rfl ?_
        refine Rf_cVv (as := [.int (-59)]) (st := []) X mi_X3_addStep lm_X3_50 rfl (Nat.le_of_ble_eq_true rfl) rfl (k_X3_addStep h) (by omega) rfl rfl (Nat.le_of_ble_eq_true rfl) dX3_readLines_22 rfl (fun σ3 h => ?_)
        refine Rf_aload_n X (j := 0) rfl rfl dX3_readLines_25 rfl ?_
        refine Rf_get X kc3 (Nat.le_of_ble_eq_true rfl) rfl (j := 5) (Nat.le_of_ble_eq_true rfl) lf_X3_31 (v := .int (gI σ3 6 5)) rfl dX3_readLines_26 rfl ?_
        refine Rf_aload_n X (j := 0) rfl rfl dX3_readLines_29 rfl ?_
        refine Rf_get X kc3 (Nat.le_of_ble_eq_true rfl) rfl (j := 4) (Nat.le_of_ble_eq_true rfl) lf_X3_28 (v := .int (gI σ3 6 4)) rfl dX3_readLines_30 rfl ?_
        refine Rf_icmp_ne X (tgt := 38) dX3_readLines_33 rfl rfl (fun c7 => ?_) (fun c7 => ?_)
        · have h := h.1 c7
          refine Rf_aload_n X (j := 0) rfl rfl dX3_readLines_38 rfl ?_
          refine Rf_bipush X (v := 59) rfl dX3_readLines_39 rfl ?_
          refine Rf_cVi (as := [.int 59]) (st := []) X mi_X3_isAccepted lm_X3_54 rfl (Nat.le_of_ble_eq_true rfl) rfl (k_X3_isAccepted h) (by omega) rfl rfl (Nat.le_of_ble_eq_true rfl) dX3_readLines_41 rfl (fun r5 σ4 h => ?_)
          refine Rf_if_ne X (tgt := 49) dX3_readLines_44 rfl rfl (fun c6 => ?_) (fun c6 => ?_)
          · have h := h.1 c6
            refine Rf_iinc X (i := 1) (j := 1) (v := x1 + 1) rfl rfl (Nat.le_of_ble_eq_true rfl) (ls2 := [(1, .int (x1 + 1)), (0, .ref 6)]) rfl dX3_readLines_49 rfl ?_
            refine Rf_goto X (tgt := 2) dX3_readLines_52 rfl ?_
            refine Rf_sub [1, 0] rfl ?_
            exact hkb_2 _ σ4 h
          · have h := h.2 c6
            refine Rf_iconst X (v := 0) rfl dX3_readLines_47 rfl ?_
            exact Rf_iret X rfl dX3_readLines_48 ⟨_, rfl, h⟩
        · have h := h.2 c7
          refine Rf_iconst X (v := 1) rfl dX3_readLines_36 rfl ?_
          exact Rf_iret X rfl dX3_readLines_37 ⟨_, rfl, h⟩
      · have h := h.2 c8
        refine Rf_iconst X (v := 0) rfl dX3_readLines_17 rfl ?_
        exact Rf_iret X rfl dX3_readLines_18 ⟨_, rfl, h⟩
def wp_X3_readLines (κ_X3_readLine : rfS → (Int32 → rfS → Prop) → Prop) (σ : rfS) (Q : Int32 → rfS → Prop) : Prop :=
  (∃ n10, wl_X3_readLines_2 κ_X3_readLine Q n10 0 σ)
set_option maxRecDepth 20000 in
theorem k_X3_readLines {d : Nat} {κ_X3_readLine : rfS → (Int32 → rfS → Prop) → Prop} (hκ_X3_readLine : ∀ (σ : rfS) (Q : Int32 → rfS → Prop), κ_X3_readLine σ Q → RM ΛC d yX3_readLine cX3_readLine 1 (some .boolean) [.ref 6] σ (qi Q)) (hB : 1 ≤ d) {σ : rfS} {Q : Int32 → rfS → Prop} (h : wp_X3_readLines κ_X3_readLine σ Q) : RM ΛC (d + 1) yX3_readLines cX3_readLines 2 (some .boolean) [.ref 6] σ (qi Q) := by
  unfold wp_X3_readLines at h
  refine RM.intro (by decide) (Nat.le_of_ble_eq_true rfl) (fun E X => ?_)
  show Rf ΛC (d + 1) E 2 (qi Q) 0 [(0, .ref 6)] [] σ
  refine Rf_iconst X (v := 0) rfl dX3_readLines_0 rfl ?_
  refine Rf_istore_n X rfl (i := 1) (Nat.le_of_ble_eq_true rfl) (ls2 := [(1, .int 0), (0, .ref 6)]) rfl dX3_readLines_1 rfl ?_
  obtain ⟨n10, h⟩ := h
  refine Rf_sub [1, 0] rfl ?_
  exact sl_X3_readLines_2 X hκ_X3_readLine hB n10 _ _ h
def wp_X3_read (κ_X3_readLines : rfS → (Int32 → rfS → Prop) → Prop) (σ : rfS) (Q : Int32 → rfS → Prop) : Prop :=
  κ_X3_readLines (sI (sI σ 6 5 0) 6 7 0) (fun (r2 : Int32) (σ1 : rfS) => ((¬ r2 = 0 → (¬ (gI σ1 6 7) < 0) ∧ (0 + (gI σ1 6 7).toNatClampNeg ≤ 121) ∧ (0 + (gI σ1 6 7).toNatClampNeg ≤ 121) ∧ Q (-1) (sI (cF (sI σ1 6 4 0) 10 7 0 0 ((gI σ1 6 7).toNatClampNeg)) 6 1 (gI σ1 6 7))) ∧ (r2 = 0 → Q (gI σ1 6 5) (sI σ1 6 4 0))))
set_option maxRecDepth 20000 in
theorem k_X3_read {d : Nat} {κ_X3_readLines : rfS → (Int32 → rfS → Prop) → Prop} (hκ_X3_readLines : ∀ (σ : rfS) (Q : Int32 → rfS → Prop), κ_X3_readLines σ Q → RM ΛC d yX3_readLines cX3_readLines 2 (some .boolean) [.ref 6] σ (qi Q)) (hB : 0 ≤ d) {σ : rfS} {Q : Int32 → rfS → Prop} (h : wp_X3_read κ_X3_readLines σ Q) : RM ΛC (d + 1) yX3_read cX3_read 2 (some .int) [.ref 6] σ (qi Q) := by
  unfold wp_X3_read at h
  refine RM.intro (by decide) (Nat.le_of_ble_eq_true rfl) (fun E X => ?_)
  show Rf ΛC (d + 1) E 2 (qi Q) 0 [(0, .ref 6)] [] σ
  refine Rf_aload_n X (j := 0) rfl rfl dX3_read_0 rfl ?_
  refine Rf_iconst X (v := 0) rfl dX3_read_1 rfl ?_
  refine Rf_put X kc3 (Nat.le_of_ble_eq_true rfl) rfl (j := 5) (Nat.le_of_ble_eq_true rfl) rfl lf_X3_31 rfl rfl rfl dX3_read_2 rfl ?_
  refine Rf_aload_n X (j := 0) rfl rfl dX3_read_5 rfl ?_
  refine Rf_iconst X (v := 0) rfl dX3_read_6 rfl ?_
  refine Rf_put X kc3 (Nat.le_of_ble_eq_true rfl) rfl (j := 7) (Nat.le_of_ble_eq_true rfl) rfl lf_X3_34 rfl rfl rfl dX3_read_7 rfl ?_
  refine Rf_aload_n X (j := 0) rfl rfl dX3_read_10 rfl ?_
  refine Rf_cVi (as := []) (st := []) X mi_X3_readLines lm_X3_37 rfl (Nat.le_of_ble_eq_true rfl) rfl (hκ_X3_readLines _ _ h) (Nat.le_refl _) rfl rfl (Nat.le_of_ble_eq_true rfl) dX3_read_11 rfl (fun r2 σ1 h => ?_)
  refine Rf_istore_n X rfl (i := 1) (Nat.le_of_ble_eq_true rfl) (ls2 := [(1, .int r2), (0, .ref 6)]) rfl dX3_read_14 rfl ?_
  refine Rf_aload_n X (j := 1) rfl rfl dX3_read_15 rfl ?_
  refine Rf_iconst X (v := 0) rfl dX3_read_16 rfl ?_
  refine Rf_put X kc3 (Nat.le_of_ble_eq_true rfl) rfl (j := 4) (Nat.le_of_ble_eq_true rfl) rfl lf_X3_28 rfl rfl rfl dX3_read_17 rfl ?_
  refine Rf_iload_n X (j := 0) rfl rfl dX3_read_20 rfl ?_
  refine Rf_if_ne X (tgt := 29) dX3_read_21 rfl rfl (fun c6 => ?_) (fun c6 => ?_)
  · have h := h.1 c6
    refine Rf_aload_n X (j := 1) rfl rfl dX3_read_29 rfl ?_
    refine Rf_get X kc3 (Nat.le_of_ble_eq_true rfl) rfl (j := 6) (Nat.le_of_ble_eq_true rfl) lf_X3_21 (v := .ref 10) rfl dX3_read_30 rfl ?_
    refine Rf_iconst X (v := 0) rfl dX3_read_33 rfl ?_
    refine Rf_aload_n X (j := 1) rfl rfl dX3_read_34 rfl ?_
    refine Rf_get X kc3 (Nat.le_of_ble_eq_true rfl) rfl (j := 0) (Nat.le_of_ble_eq_true rfl) lf_X3_11 (v := .ref 7) rfl dX3_read_35 rfl ?_
    refine Rf_iconst X (v := 0) rfl dX3_read_38 rfl ?_
    refine Rf_aload_n X (j := 1) rfl rfl dX3_read_39 rfl ?_
    refine Rf_get X kc3 (Nat.le_of_ble_eq_true rfl) rfl (j := 7) (Nat.le_of_ble_eq_true rfl) lf_X3_34 (v := .int (gI σ1 6 7)) (congrArg Value.int (show gI (sI σ1 6 4 0) 6 7 = gI σ1 6 7 from gI_sIj (by decide))) dX3_read_40 rfl ?_
    obtain ⟨s3, h⟩ := h
    obtain ⟨s4, h⟩ := h
    obtain ⟨s5, h⟩ := h
    refine Rf_copyi X (sp := 0) (dp := 0) (n := gI σ1 6 7) lm_X3_41 mm_copy.1 mm_copy.2.1 mm_copy.2.2 (Nat.le_of_ble_eq_true rfl) rfl rfl (Nat.le_of_ble_eq_true rfl) rfl rfl (by decide) (by decide) s3 s4 s5 (Nat.le_add_left 1 d) (Nat.le_of_ble_eq_true rfl) dX3_read_43 rfl ?_
    refine Rf_aload_n X (j := 1) rfl rfl dX3_read_46 rfl ?_
    refine Rf_aload_n X (j := 1) rfl rfl dX3_read_47 rfl ?_
    refine Rf_get X kc3 (Nat.le_of_ble_eq_true rfl) rfl (j := 7) (Nat.le_of_ble_eq_true rfl) lf_X3_34 (v := .int (gI σ1 6 7)) (congrArg Value.int (show gI (cF (sI σ1 6 4 0) 10 7 0 0 ((gI σ1 6 7).toNatClampNeg)) 6 7 = gI σ1 6 7 from (gI_cF _ _ _ _ _ _ _ _).trans (gI_sIj (by decide)))) dX3_read_48 rfl ?_
    refine Rf_put X kc3 (Nat.le_of_ble_eq_true rfl) rfl (j := 1) (Nat.le_of_ble_eq_true rfl) rfl lf_X3_24 rfl rfl rfl dX3_read_51 rfl ?_
    refine Rf_iconst X (v := (-1)) (by decide) dX3_read_54 rfl ?_
    exact Rf_iret X rfl dX3_read_55 ⟨_, rfl, h⟩
  · have h := h.2 c6
    refine Rf_aload_n X (j := 1) rfl rfl dX3_read_24 rfl ?_
    refine Rf_get X kc3 (Nat.le_of_ble_eq_true rfl) rfl (j := 5) (Nat.le_of_ble_eq_true rfl) lf_X3_31 (v := .int (gI σ1 6 5)) (congrArg Value.int (show gI (sI σ1 6 4 0) 6 5 = gI σ1 6 5 from gI_sIj (by decide))) dX3_read_25 rfl ?_
    exact Rf_iret X rfl dX3_read_28 ⟨_, rfl, h⟩
def wl_X4_becomeRow_12 (Q : rfS → Prop) : Nat → Nat → Int32 → Int32 → rfS → Prop
  | 0, _, _, _, _ => False
  | n + 1, a0, x2, x3, σ => ((x2 ≤ x3 → Q σ) ∧ (¬ (x2 ≤ x3) → vp_in x3 60 ∧ (wl_X4_becomeRow_12 Q n a0 x2 (x3 + 1) (sL σ (a0 + 1) (x3.toNatClampNeg) 0))))
set_option maxRecDepth 20000 in
theorem sl_X4_becomeRow_12 {E : rfE} {Q : rfS → Prop} (X : rfX ΛC E yX4_becomeRow cX4_becomeRow 4 none) : ∀ (n : Nat) (a0 : Nat) (x2 : Int32) (x3 : Int32) (σ : rfS), isSh a0 → wl_X4_becomeRow_12 Q n a0 x2 x3 σ → Rf ΛC 0 E 4 (qv Q) 12 [(0, .ref a0), (2, .int x2), (3, .int x3)] [] σ := by
  intro n
  induction n with
  | zero =>
    intro a0 x2 x3 σ ha0 h
    exact False.elim h
  | succ n hkb_12 =>
    intro a0 x2 x3 σ ha0 h
    unfold wl_X4_becomeRow_12 at h
    refine Rf_iload_n X (j := 2) rfl rfl dX4_becomeRow_12 rfl ?_
    refine Rf_iload_n X (j := 1) rfl rfl dX4_becomeRow_13 rfl ?_
    refine Rf_icmp_ge X (tgt := 30) dX4_becomeRow_14 rfl rfl (fun c2 => ?_) (fun c2 => ?_)
    · have h := h.1 c2
      exact Rf_vret X dX4_becomeRow_30 ⟨rfl, h⟩
    · have h := h.2 c2
      refine Rf_aload_n X (j := 0) rfl rfl dX4_becomeRow_17 rfl ?_
      refine Rf_get X kc4 (isSh_f _ ha0).1.1 (isSh_f _ ha0).1.2 (j := 3) (Nat.le_of_ble_eq_true rfl) lf_X4_15 (v := .ref (a0 + 1)) rfl dX4_becomeRow_18 rfl ?_
      refine Rf_iload_n X (j := 2) rfl rfl dX4_becomeRow_21 rfl ?_
      refine Rf_lconst X (v := 0) rfl dX4_becomeRow_22 rfl ?_
      obtain ⟨s1, h⟩ := h
      refine Rf_lastore X (isSh_f _ ha0).2.1 (isSh_f _ ha0).2.2.1 (isSh_f _ ha0).2.2.2 s1 dX4_becomeRow_23 rfl ?_
      refine Rf_iinc X (i := 3) (j := 2) (v := x3 + 1) rfl rfl (Nat.le_of_ble_eq_true rfl) (ls2 := [(3, .int (x3 + 1)), (0, .ref a0), (2, .int x2)]) rfl dX4_becomeRow_24 rfl ?_
      refine Rf_goto X (tgt := 12) dX4_becomeRow_27 rfl ?_
      refine Rf_sub [1, 2, 0] rfl ?_
      exact hkb_12 _ _ _ (sL σ (a0 + 1) (x3.toNatClampNeg) 0) ha0 h
def wp_X4_becomeRow (σ : rfS) (a0 : Nat) (x1 : Int32) (x2 : Int32) (Q : rfS → Prop) : Prop :=
  (∃ n3, wl_X4_becomeRow_12 Q n3 a0 x2 0 (sI (sI σ a0 0 x1) a0 2 x2))
set_option maxRecDepth 20000 in
theorem k_X4_becomeRow {σ : rfS} {a0 : Nat} {x1 : Int32} {x2 : Int32} {Q : rfS → Prop} (ha0 : isSh a0) (h : wp_X4_becomeRow σ a0 x1 x2 Q) : RM ΛC 0 yX4_becomeRow cX4_becomeRow 4 none [.ref a0, .int x1, .int x2] σ (qv Q) := by
  unfold wp_X4_becomeRow at h
  refine RM.intro (by decide) (Nat.le_of_ble_eq_true rfl) (fun E X => ?_)
  show Rf ΛC 0 E 4 (qv Q) 0 [(0, .ref a0), (1, .int x1), (2, .int x2)] [] σ
  refine Rf_aload_n X (j := 0) rfl rfl dX4_becomeRow_0 rfl ?_
  refine Rf_iload_n X (j := 1) rfl rfl dX4_becomeRow_1 rfl ?_
  refine Rf_put X kc4 (isSh_f _ ha0).1.1 (isSh_f _ ha0).1.2 (j := 0) (Nat.le_of_ble_eq_true rfl) rfl lf_X4_11 rfl rfl rfl dX4_becomeRow_2 rfl ?_
  refine Rf_aload_n X (j := 0) rfl rfl dX4_becomeRow_5 rfl ?_
  refine Rf_iload_n X (j := 2) rfl rfl dX4_becomeRow_6 rfl ?_
  refine Rf_put X kc4 (isSh_f _ ha0).1.1 (isSh_f _ ha0).1.2 (j := 2) (Nat.le_of_ble_eq_true rfl) rfl lf_X4_19 rfl rfl rfl dX4_becomeRow_7 rfl ?_
  refine Rf_iconst X (v := 0) rfl dX4_becomeRow_10 rfl ?_
  refine Rf_istore_n X rfl (i := 3) (Nat.le_of_ble_eq_true rfl) (ls2 := [(3, .int 0), (0, .ref a0), (1, .int x1), (2, .int x2)]) rfl dX4_becomeRow_11 rfl ?_
  obtain ⟨n3, h⟩ := h
  refine Rf_sub [1, 3, 0] rfl ?_
  exact sl_X4_becomeRow_12 X n3 _ _ _ _ ha0 h
def wp_X4_refusalFor (σ : rfS) (a0 : Nat) (x1 : Int32) (Q : Int32 → rfS → Prop) : Prop :=
  ((¬ (gI σ a0 0) = (-2) → ((¬ (gI σ a0 0) = x1 → Q (-12) σ) ∧ ((gI σ a0 0) = x1 → Q 0 σ))) ∧ ((gI σ a0 0) = (-2) → Q (-11) σ))
set_option maxRecDepth 20000 in
theorem k_X4_refusalFor {σ : rfS} {a0 : Nat} {x1 : Int32} {Q : Int32 → rfS → Prop} (ha0 : isSh a0) (h : wp_X4_refusalFor σ a0 x1 Q) : RM ΛC 0 yX4_refusalFor cX4_refusalFor 2 (some .int) [.ref a0, .int x1] σ (qi Q) := by
  unfold wp_X4_refusalFor at h
  refine RM.intro (by decide) (Nat.le_of_ble_eq_true rfl) (fun E X => ?_)
  show Rf ΛC 0 E 2 (qi Q) 0 [(0, .ref a0), (1, .int x1)] [] σ
  refine Rf_aload_n X (j := 0) rfl rfl dX4_refusalFor_0 rfl ?_
  refine Rf_get X kc4 (isSh_f _ ha0).1.1 (isSh_f _ ha0).1.2 (j := 0) (Nat.le_of_ble_eq_true rfl) lf_X4_11 (v := .int (gI σ a0 0)) rfl dX4_refusalFor_1 rfl ?_
  refine Rf_bipush X (v := (-2)) (by decide) dX4_refusalFor_4 rfl ?_
  refine Rf_icmp_ne X (tgt := 12) dX4_refusalFor_6 rfl rfl (fun c2 => ?_) (fun c2 => ?_)
  · have h := h.1 c2
    refine Rf_aload_n X (j := 0) rfl rfl dX4_refusalFor_12 rfl ?_
    refine Rf_get X kc4 (isSh_f _ ha0).1.1 (isSh_f _ ha0).1.2 (j := 0) (Nat.le_of_ble_eq_true rfl) lf_X4_11 (v := .int (gI σ a0 0)) rfl dX4_refusalFor_13 rfl ?_
    refine Rf_iload_n X (j := 1) rfl rfl dX4_refusalFor_16 rfl ?_
    refine Rf_icmp_ne X (tgt := 24) dX4_refusalFor_17 rfl rfl (fun c1 => ?_) (fun c1 => ?_)
    · have h := h.1 c1
      refine Rf_bipush X (v := (-12)) (by decide) dX4_refusalFor_24 rfl ?_
      exact Rf_iret X rfl dX4_refusalFor_26 ⟨_, rfl, h⟩
    · have h := h.2 c1
      refine Rf_iconst X (v := 0) rfl dX4_refusalFor_20 rfl ?_
      refine Rf_goto X (tgt := 26) dX4_refusalFor_21 rfl ?_
      exact Rf_iret X rfl dX4_refusalFor_26 ⟨_, rfl, h⟩
  · have h := h.2 c2
    refine Rf_bipush X (v := (-11)) (by decide) dX4_refusalFor_9 rfl ?_
    exact Rf_iret X rfl dX4_refusalFor_11 ⟨_, rfl, h⟩
def wp_X4_hasPlaces (σ : rfS) (a0 : Nat) (x1 : Int32) (x2 : Int32) (Q : Int32 → rfS → Prop) : Prop :=
  ((x1 < 0 → Q 0 σ) ∧ (¬ (x1 < 0) → ((x2 < 0 → Q 0 σ) ∧ (¬ (x2 < 0) → ((((gI σ a0 2) - x2) < x1 → Q 0 σ) ∧ (¬ (((gI σ a0 2) - x2) < x1) → Q 1 σ))))))
set_option maxRecDepth 20000 in
theorem k_X4_hasPlaces {σ : rfS} {a0 : Nat} {x1 : Int32} {x2 : Int32} {Q : Int32 → rfS → Prop} (ha0 : isSh a0) (h : wp_X4_hasPlaces σ a0 x1 x2 Q) : RM ΛC 0 yX4_hasPlaces cX4_hasPlaces 3 (some .boolean) [.ref a0, .int x1, .int x2] σ (qi Q) := by
  unfold wp_X4_hasPlaces at h
  refine RM.intro (by decide) (Nat.le_of_ble_eq_true rfl) (fun E X => ?_)
  show Rf ΛC 0 E 3 (qi Q) 0 [(0, .ref a0), (1, .int x1), (2, .int x2)] [] σ
  refine Rf_iload_n X (j := 1) rfl rfl dX4_hasPlaces_0 rfl ?_
  refine Rf_if_lt X (tgt := 22) dX4_hasPlaces_1 rfl rfl (fun c3 => ?_) (fun c3 => ?_)
  · have h := h.1 c3
    refine Rf_iconst X (v := 0) rfl dX4_hasPlaces_22 rfl ?_
    exact Rf_iret X rfl dX4_hasPlaces_23 ⟨_, rfl, h⟩
  · have h := h.2 c3
    refine Rf_iload_n X (j := 2) rfl rfl dX4_hasPlaces_4 rfl ?_
    refine Rf_if_lt X (tgt := 22) dX4_hasPlaces_5 rfl rfl (fun c2 => ?_) (fun c2 => ?_)
    · have h := h.1 c2
      refine Rf_iconst X (v := 0) rfl dX4_hasPlaces_22 rfl ?_
      exact Rf_iret X rfl dX4_hasPlaces_23 ⟨_, rfl, h⟩
    · have h := h.2 c2
      refine Rf_iload_n X (j := 1) rfl rfl dX4_hasPlaces_8 rfl ?_
      refine Rf_aload_n X (j := 0) rfl rfl dX4_hasPlaces_9 rfl ?_
      refine Rf_get X kc4 (isSh_f _ ha0).1.1 (isSh_f _ ha0).1.2 (j := 2) (Nat.le_of_ble_eq_true rfl) lf_X4_19 (v := .int (gI σ a0 2)) rfl dX4_hasPlaces_10 rfl ?_
      refine Rf_iload_n X (j := 2) rfl rfl dX4_hasPlaces_13 rfl ?_
      refine Rf_isub X dX4_hasPlaces_14 rfl ?_
      refine Rf_icmp_gt X (tgt := 22) dX4_hasPlaces_15 rfl rfl (fun c1 => ?_) (fun c1 => ?_)
      · have h := h.1 c1
        refine Rf_iconst X (v := 0) rfl dX4_hasPlaces_22 rfl ?_
        exact Rf_iret X rfl dX4_hasPlaces_23 ⟨_, rfl, h⟩
      · have h := h.2 c1
        refine Rf_iconst X (v := 1) rfl dX4_hasPlaces_18 rfl ?_
        refine Rf_goto X (tgt := 23) dX4_hasPlaces_19 rfl ?_
        exact Rf_iret X rfl dX4_hasPlaces_23 ⟨_, rfl, h⟩
def wp_X4_cut (σ : rfS) (a0 : Nat) (y1 : Int64) (Q : Int64 → rfS → Prop) : Prop :=
  (((gI σ a0 0) = 0 → Q (((y1.toInt32).toInt8.toInt32).toInt64) σ) ∧ (¬ (gI σ a0 0) = 0 → (((gI σ a0 0) = 1 → Q (((y1.toInt32).toInt16.toInt32).toInt64) σ) ∧ (¬ (gI σ a0 0) = 1 → (((gI σ a0 0) = 2 → Q ((y1.toInt32).toInt64) σ) ∧ (¬ (gI σ a0 0) = 2 → (((gI σ a0 0) = 3 → Q y1 σ) ∧ (¬ (gI σ a0 0) = 3 → (((lg_cmp y1 0) = 0 → Q 0 σ) ∧ (¬ (lg_cmp y1 0) = 0 → Q 1 σ))))))))))
set_option maxRecDepth 20000 in
theorem k_X4_cut {σ : rfS} {a0 : Nat} {y1 : Int64} {Q : Int64 → rfS → Prop} (ha0 : isSh a0) (h : wp_X4_cut σ a0 y1 Q) : RM ΛC 0 yX4_cut cX4_cut 3 (some .long) [.ref a0, .long y1] σ (ql Q) := by
  unfold wp_X4_cut at h
  refine RM.intro (by decide) (Nat.le_of_ble_eq_true rfl) (fun E X => ?_)
  show Rf ΛC 0 E 3 (ql Q) 0 [(0, .ref a0), (1, .long y1)] [] σ
  refine Rf_aload_n X (j := 0) rfl rfl dX4_cut_0 rfl ?_
  refine Rf_get X kc4 (isSh_f _ ha0).1.1 (isSh_f _ ha0).1.2 (j := 0) (Nat.le_of_ble_eq_true rfl) lf_X4_11 (v := .int (gI σ a0 0)) rfl dX4_cut_1 rfl ?_
  refine Rf_tsw X (dt := 52) [(0, 36), (1, 41), (2, 46), (3, 50)] dX4_cut_4 rfl (by decide +kernel) (by decide +kernel) (by decide +kernel) ?_
  refine And.intro (fun c1 => ?_) (fun c1 => ?_)
  · have h := h.1 c1
    refine Rf_lload_n X (j := 1) rfl rfl dX4_cut_36 rfl ?_
    refine Rf_l2i X dX4_cut_37 rfl ?_
    refine Rf_i2b X dX4_cut_38 rfl ?_
    refine Rf_i2l X dX4_cut_39 rfl ?_
    exact Rf_lret X dX4_cut_40 ⟨_, rfl, h⟩
  · have h := h.2 c1
    refine And.intro (fun c2 => ?_) (fun c2 => ?_)
    · have h := h.1 c2
      refine Rf_lload_n X (j := 1) rfl rfl dX4_cut_41 rfl ?_
      refine Rf_l2i X dX4_cut_42 rfl ?_
      refine Rf_i2s X dX4_cut_43 rfl ?_
      refine Rf_i2l X dX4_cut_44 rfl ?_
      exact Rf_lret X dX4_cut_45 ⟨_, rfl, h⟩
    · have h := h.2 c2
      refine And.intro (fun c3 => ?_) (fun c3 => ?_)
      · have h := h.1 c3
        refine Rf_lload_n X (j := 1) rfl rfl dX4_cut_46 rfl ?_
        refine Rf_l2i X dX4_cut_47 rfl ?_
        refine Rf_i2l X dX4_cut_48 rfl ?_
        exact Rf_lret X dX4_cut_49 ⟨_, rfl, h⟩
      · have h := h.2 c3
        refine And.intro (fun c4 => ?_) (fun c4 => ?_)
        · have h := h.1 c4
          refine Rf_lload_n X (j := 1) rfl rfl dX4_cut_50 rfl ?_
          exact Rf_lret X dX4_cut_51 ⟨_, rfl, h⟩
        · have h := h.2 c4
          show Rf ΛC 0 E 3 (ql Q) 52 [(0, .ref a0), (1, .long y1)] [] σ
          refine Rf_lload_n X (j := 1) rfl rfl dX4_cut_52 rfl ?_
          refine Rf_lconst X (v := 0) rfl dX4_cut_53 rfl ?_
          refine Rf_lcmp X dX4_cut_54 rfl ?_
          refine Rf_if_eq X (tgt := 62) dX4_cut_55 rfl rfl (fun c5 => ?_) (fun c5 => ?_)
          · have h := h.1 c5
            refine Rf_lconst X (v := 0) rfl dX4_cut_62 rfl ?_
            exact Rf_lret X dX4_cut_63 ⟨_, rfl, h⟩
          · have h := h.2 c5
            refine Rf_lconst X (v := 1) rfl dX4_cut_58 rfl ?_
            refine Rf_goto X (tgt := 63) dX4_cut_59 rfl ?_
            exact Rf_lret X dX4_cut_63 ⟨_, rfl, h⟩
def wp_X5_copyFrom (σ : rfS) (a0 : Nat) (a1 : Nat) (x2 : Int32) (Q : rfS → Prop) : Prop :=
  (¬ x2 < 0) ∧ (0 + x2.toNatClampNeg ≤ 7) ∧ (0 + x2.toNatClampNeg ≤ 7) ∧ (¬ x2 < 0) ∧ (0 + x2.toNatClampNeg ≤ 7) ∧ (0 + x2.toNatClampNeg ≤ 7) ∧ Q (sI (sI (cF (cF σ (a1 + 1) (a0 + 1) 0 0 (x2.toNatClampNeg)) (a1 + 2) (a0 + 2) 0 0 (x2.toNatClampNeg)) a0 2 (gI σ a1 2)) a0 3 (gI σ a1 3))
set_option maxRecDepth 20000 in
theorem k_X5_copyFrom {σ : rfS} {a0 : Nat} {a1 : Nat} {x2 : Int32} {Q : rfS → Prop} (ha0 : isSt a0) (ha1 : isSt a1) (h : wp_X5_copyFrom σ a0 a1 x2 Q) : RM ΛC 1 yX5_copyFrom cX5_copyFrom 3 none [.ref a0, .ref a1, .int x2] σ (qv Q) := by
  unfold wp_X5_copyFrom at h
  refine RM.intro (by decide) (Nat.le_of_ble_eq_true rfl) (fun E X => ?_)
  show Rf ΛC 1 E 3 (qv Q) 0 [(0, .ref a0), (1, .ref a1), (2, .int x2)] [] σ
  refine Rf_aload_n X (j := 1) rfl rfl dX5_copyFrom_0 rfl ?_
  refine Rf_get X kc5 (isSt_f _ ha1).1.1 (isSt_f _ ha1).1.2 (j := 0) (Nat.le_of_ble_eq_true rfl) lf_X5_9 (v := .ref (a1 + 1)) rfl dX5_copyFrom_1 rfl ?_
  refine Rf_iconst X (v := 0) rfl dX5_copyFrom_4 rfl ?_
  refine Rf_aload_n X (j := 0) rfl rfl dX5_copyFrom_5 rfl ?_
  refine Rf_get X kc5 (isSt_f _ ha0).1.1 (isSt_f _ ha0).1.2 (j := 0) (Nat.le_of_ble_eq_true rfl) lf_X5_9 (v := .ref (a0 + 1)) rfl dX5_copyFrom_6 rfl ?_
  refine Rf_iconst X (v := 0) rfl dX5_copyFrom_9 rfl ?_
  refine Rf_iload_n X (j := 2) rfl rfl dX5_copyFrom_10 rfl ?_
  obtain ⟨s1, h⟩ := h
  obtain ⟨s2, h⟩ := h
  obtain ⟨s3, h⟩ := h
  refine Rf_copyi X (sp := 0) (dp := 0) (n := x2) lm_X5_18 mm_copy.1 mm_copy.2.1 mm_copy.2.2 (isSt_f _ ha1).2.1.1 (isSt_f _ ha1).2.1.2.1 (isSt_f _ ha1).2.1.2.2 (isSt_f _ ha0).2.1.1 (isSt_f _ ha0).2.1.2.1 (isSt_f _ ha0).2.1.2.2 (by decide) (by decide) s1 s2 s3 (Nat.le_of_ble_eq_true rfl) (Nat.le_of_ble_eq_true rfl) dX5_copyFrom_11 rfl ?_
  refine Rf_aload_n X (j := 1) rfl rfl dX5_copyFrom_14 rfl ?_
  refine Rf_get X kc5 (isSt_f _ ha1).1.1 (isSt_f _ ha1).1.2 (j := 1) (Nat.le_of_ble_eq_true rfl) lf_X5_15 (v := .ref (a1 + 2)) rfl dX5_copyFrom_15 rfl ?_
  refine Rf_iconst X (v := 0) rfl dX5_copyFrom_18 rfl ?_
  refine Rf_aload_n X (j := 0) rfl rfl dX5_copyFrom_19 rfl ?_
  refine Rf_get X kc5 (isSt_f _ ha0).1.1 (isSt_f _ ha0).1.2 (j := 1) (Nat.le_of_ble_eq_true rfl) lf_X5_15 (v := .ref (a0 + 2)) rfl dX5_copyFrom_20 rfl ?_
  refine Rf_iconst X (v := 0) rfl dX5_copyFrom_23 rfl ?_
  refine Rf_iload_n X (j := 2) rfl rfl dX5_copyFrom_24 rfl ?_
  obtain ⟨s4, h⟩ := h
  obtain ⟨s5, h⟩ := h
  obtain ⟨s6, h⟩ := h
  refine Rf_copyi X (sp := 0) (dp := 0) (n := x2) lm_X5_18 mm_copy.1 mm_copy.2.1 mm_copy.2.2 (isSt_f _ ha1).2.2.1 (isSt_f _ ha1).2.2.2.1 (isSt_f _ ha1).2.2.2.2 (isSt_f _ ha0).2.2.1 (isSt_f _ ha0).2.2.2.1 (isSt_f _ ha0).2.2.2.2 (by decide) (by decide) s4 s5 s6 (Nat.le_of_ble_eq_true rfl) (Nat.le_of_ble_eq_true rfl) dX5_copyFrom_25 rfl ?_
  refine Rf_aload_n X (j := 0) rfl rfl dX5_copyFrom_28 rfl ?_
  refine Rf_aload_n X (j := 1) rfl rfl dX5_copyFrom_29 rfl ?_
  refine Rf_get X kc5 (isSt_f _ ha1).1.1 (isSt_f _ ha1).1.2 (j := 2) (Nat.le_of_ble_eq_true rfl) lf_X5_24 (v := .int (gI σ a1 2)) (congrArg Value.int (show gI (cF (cF σ (a1 + 1) (a0 + 1) 0 0 (x2.toNatClampNeg)) (a1 + 2) (a0 + 2) 0 0 (x2.toNatClampNeg)) a1 2 = gI σ a1 2 from (gI_cF _ _ _ _ _ _ _ _).trans (gI_cF _ _ _ _ _ _ _ _))) dX5_copyFrom_30 rfl ?_
  refine Rf_put X kc5 (isSt_f _ ha0).1.1 (isSt_f _ ha0).1.2 (j := 2) (Nat.le_of_ble_eq_true rfl) rfl lf_X5_24 rfl rfl rfl dX5_copyFrom_33 rfl ?_
  refine Rf_aload_n X (j := 0) rfl rfl dX5_copyFrom_36 rfl ?_
  refine Rf_aload_n X (j := 1) rfl rfl dX5_copyFrom_37 rfl ?_
  refine Rf_get X kc5 (isSt_f _ ha1).1.1 (isSt_f _ ha1).1.2 (j := 3) (Nat.le_of_ble_eq_true rfl) lf_X5_28 (v := .int (gI σ a1 3)) (congrArg Value.int (show gI (sI (cF (cF σ (a1 + 1) (a0 + 1) 0 0 (x2.toNatClampNeg)) (a1 + 2) (a0 + 2) 0 0 (x2.toNatClampNeg)) a0 2 (gI σ a1 2)) a1 3 = gI σ a1 3 from (gI_sIj (by decide)).trans ((gI_cF _ _ _ _ _ _ _ _).trans (gI_cF _ _ _ _ _ _ _ _)))) dX5_copyFrom_38 rfl ?_
  refine Rf_put X kc5 (isSt_f _ ha0).1.1 (isSt_f _ ha0).1.2 (j := 3) (Nat.le_of_ble_eq_true rfl) rfl lf_X5_28 rfl rfl rfl dX5_copyFrom_41 rfl ?_
  exact Rf_vret X dX5_copyFrom_44 ⟨rfl, h⟩
def wl_X5_owedOfAll_4 (Q : Int32 → rfS → Prop) : Nat → Nat → Int32 → Int32 → Int32 → rfS → Prop
  | 0, _, _, _, _, _ => False
  | n + 1, a0, x1, x2, x3, σ => ((x1 ≤ x3 → Q x2 σ) ∧ (¬ (x1 ≤ x3) → vp_in x3 7 ∧ (wl_X5_owedOfAll_4 Q n a0 x1 (x2 + (gF σ (a0 + 1) (x3.toNatClampNeg))) (x3 + 1) σ)))
set_option maxRecDepth 20000 in
theorem sl_X5_owedOfAll_4 {E : rfE} {Q : Int32 → rfS → Prop} (X : rfX ΛC E yX5_owedOfAll cX5_owedOfAll 4 (some .int)) : ∀ (n : Nat) (a0 : Nat) (x1 : Int32) (x2 : Int32) (x3 : Int32) (σ : rfS), isSt a0 → wl_X5_owedOfAll_4 Q n a0 x1 x2 x3 σ → Rf ΛC 0 E 4 (qi Q) 4 [(0, .ref a0), (1, .int x1), (2, .int x2), (3, .int x3)] [] σ := by
  intro n
  induction n with
  | zero =>
    intro a0 x1 x2 x3 σ ha0 h
    exact False.elim h
  | succ n hkb_4 =>
    intro a0 x1 x2 x3 σ ha0 h
    unfold wl_X5_owedOfAll_4 at h
    refine Rf_iload_n X (j := 3) rfl rfl dX5_owedOfAll_4 rfl ?_
    refine Rf_iload_n X (j := 1) rfl rfl dX5_owedOfAll_5 rfl ?_
    refine Rf_icmp_ge X (tgt := 24) dX5_owedOfAll_6 rfl rfl (fun c2 => ?_) (fun c2 => ?_)
    · have h := h.1 c2
      refine Rf_iload_n X (j := 2) rfl rfl dX5_owedOfAll_24 rfl ?_
      exact Rf_iret X rfl dX5_owedOfAll_25 ⟨_, rfl, h⟩
    · have h := h.2 c2
      refine Rf_iload_n X (j := 2) rfl rfl dX5_owedOfAll_9 rfl ?_
      refine Rf_aload_n X (j := 0) rfl rfl dX5_owedOfAll_10 rfl ?_
      refine Rf_get X kc5 (isSt_f _ ha0).1.1 (isSt_f _ ha0).1.2 (j := 0) (Nat.le_of_ble_eq_true rfl) lf_X5_9 (v := .ref (a0 + 1)) rfl dX5_owedOfAll_11 rfl ?_
      refine Rf_iload_n X (j := 3) rfl rfl dX5_owedOfAll_14 rfl ?_
      obtain ⟨s1, h⟩ := h
      refine Rf_iaload X (isSt_f _ ha0).2.1.1 (isSt_f _ ha0).2.1.2.1 (isSt_f _ ha0).2.1.2.2 s1 dX5_owedOfAll_15 rfl (v := gF σ (a0 + 1) (x3.toNatClampNeg)) rfl ?_
      refine Rf_iadd X dX5_owedOfAll_16 rfl ?_
      refine Rf_istore_n X rfl (i := 2) (Nat.le_of_ble_eq_true rfl) (ls2 := [(2, .int (x2 + (gF σ (a0 + 1) (x3.toNatClampNeg)))), (0, .ref a0), (1, .int x1), (3, .int x3)]) rfl dX5_owedOfAll_17 rfl ?_
      refine Rf_iinc X (i := 3) (j := 3) (v := x3 + 1) rfl rfl (Nat.le_of_ble_eq_true rfl) (ls2 := [(3, .int (x3 + 1)), (2, .int (x2 + (gF σ (a0 + 1) (x3.toNatClampNeg)))), (0, .ref a0), (1, .int x1)]) rfl dX5_owedOfAll_18 rfl ?_
      refine Rf_goto X (tgt := 4) dX5_owedOfAll_21 rfl ?_
      refine Rf_sub [2, 3, 1, 0] rfl ?_
      exact hkb_4 _ _ _ _ σ ha0 h
def wp_X5_owedOfAll (σ : rfS) (a0 : Nat) (x1 : Int32) (Q : Int32 → rfS → Prop) : Prop :=
  (∃ n3, wl_X5_owedOfAll_4 Q n3 a0 x1 0 0 σ)
set_option maxRecDepth 20000 in
theorem k_X5_owedOfAll {σ : rfS} {a0 : Nat} {x1 : Int32} {Q : Int32 → rfS → Prop} (ha0 : isSt a0) (h : wp_X5_owedOfAll σ a0 x1 Q) : RM ΛC 0 yX5_owedOfAll cX5_owedOfAll 4 (some .int) [.ref a0, .int x1] σ (qi Q) := by
  unfold wp_X5_owedOfAll at h
  refine RM.intro (by decide) (Nat.le_of_ble_eq_true rfl) (fun E X => ?_)
  show Rf ΛC 0 E 4 (qi Q) 0 [(0, .ref a0), (1, .int x1)] [] σ
  refine Rf_iconst X (v := 0) rfl dX5_owedOfAll_0 rfl ?_
  refine Rf_istore_n X rfl (i := 2) (Nat.le_of_ble_eq_true rfl) (ls2 := [(2, .int 0), (0, .ref a0), (1, .int x1)]) rfl dX5_owedOfAll_1 rfl ?_
  refine Rf_iconst X (v := 0) rfl dX5_owedOfAll_2 rfl ?_
  refine Rf_istore_n X rfl (i := 3) (Nat.le_of_ble_eq_true rfl) (ls2 := [(3, .int 0), (2, .int 0), (0, .ref a0), (1, .int x1)]) rfl dX5_owedOfAll_3 rfl ?_
  obtain ⟨n3, h⟩ := h
  refine Rf_sub [2, 3, 1, 0] rfl ?_
  exact sl_X5_owedOfAll_4 X n3 _ _ _ _ _ ha0 h
def wp_X6_latest (σ : rfS) (Q : Nat → rfS → Prop) : Prop :=
  Q 26 σ
set_option maxRecDepth 20000 in
theorem k_X6_latest {σ : rfS} {Q : Nat → rfS → Prop} (h : wp_X6_latest σ Q) : RM ΛC 0 yX6_latest cX6_latest 1 (some (.object "OneLeg$Standing")) [.ref 20] σ (qr Q) := by
  unfold wp_X6_latest at h
  refine RM.intro (by decide) (Nat.le_of_ble_eq_true rfl) (fun E X => ?_)
  show Rf ΛC 0 E 1 (qr Q) 0 [(0, .ref 20)] [] σ
  refine Rf_aload_n X (j := 0) rfl rfl dX6_latest_0 rfl ?_
  refine Rf_get X kc6 (Nat.le_of_ble_eq_true rfl) rfl (j := 5) (Nat.le_of_ble_eq_true rfl) lf_X6_17 (v := .ref 22) rfl dX6_latest_1 rfl ?_
  refine Rf_iconst X (v := 0) rfl dX6_latest_4 rfl ?_
  refine Rf_aaload2 X (Nat.le_of_ble_eq_true rfl) rfl rfl (by unfold vp_in; decide) dX6_latest_5 rfl ?_
  exact Rf_aret X dX6_latest_6 ⟨_, rfl, h⟩
def wl_X6_follow_37 (Q : Int32 → rfS → Prop) : Nat → Nat → Int32 → Int32 → Int32 → rfS → Prop
  | 0, _, _, _, _, _ => False
  | n + 1, a2, x4, x5, x6, σ => ((x4 ≤ x6 → Q x5 σ) ∧ (¬ (x4 ≤ x6) → vp_in x6 60 ∧ wp_X2_pass σ 26 ((gL σ (a2 + 1) (x6.toNatClampNeg)).toInt32) (fun (r6 : Int32) (σ5 : rfS) => wl_X6_follow_37 Q n a2 x4 (x5 + r6) (x6 + 1) σ5)))
set_option maxRecDepth 20000 in
theorem sl_X6_follow_37 {E : rfE} {Q : Int32 → rfS → Prop} (X : rfX ΛC E yX6_follow cX6_follow 7 (some .int)) : ∀ (n : Nat) (a2 : Nat) (x4 : Int32) (x5 : Int32) (x6 : Int32) (σ : rfS), isSh a2 → wl_X6_follow_37 Q n a2 x4 x5 x6 σ → Rf ΛC 4 E 7 (qi Q) 37 [(0, .ref 20), (2, .ref a2), (4, .int x4), (5, .int x5), (6, .int x6)] [] σ := by
  intro n
  induction n with
  | zero =>
    intro a2 x4 x5 x6 σ ha2 h
    exact False.elim h
  | succ n hkb_37 =>
    intro a2 x4 x5 x6 σ ha2 h
    unfold wl_X6_follow_37 at h
    refine Rf_iload X (j := 4) rfl dX6_follow_37 rfl ?_
    refine Rf_iload X (j := 2) rfl dX6_follow_39 rfl ?_
    refine Rf_icmp_ge X (tgt := 76) dX6_follow_41 rfl rfl (fun c7 => ?_) (fun c7 => ?_)
    · have h := h.1 c7
      refine Rf_iload X (j := 3) rfl dX6_follow_76 rfl ?_
      exact Rf_iret X rfl dX6_follow_78 ⟨_, rfl, h⟩
    · have h := h.2 c7
      refine Rf_iload X (j := 3) rfl dX6_follow_44 rfl ?_
      refine Rf_aload_n X (j := 0) rfl rfl dX6_follow_46 rfl ?_
      refine Rf_get X kc6 (Nat.le_of_ble_eq_true rfl) rfl (j := 4) (Nat.le_of_ble_eq_true rfl) lf_X6_30 (v := .ref 1) rfl dX6_follow_47 rfl ?_
      refine Rf_aload_n X (j := 0) rfl rfl dX6_follow_50 rfl ?_
      refine Rf_get X kc6 (Nat.le_of_ble_eq_true rfl) rfl (j := 5) (Nat.le_of_ble_eq_true rfl) lf_X6_17 (v := .ref 22) rfl dX6_follow_51 rfl ?_
      refine Rf_iconst X (v := 0) rfl dX6_follow_54 rfl ?_
      refine Rf_aaload2 X (Nat.le_of_ble_eq_true rfl) rfl rfl (by unfold vp_in; decide) dX6_follow_55 rfl ?_
      refine Rf_aload_n X (j := 1) rfl rfl dX6_follow_56 rfl ?_
      refine Rf_get X kc4 (isSh_f _ ha2).1.1 (isSh_f _ ha2).1.2 (j := 3) (Nat.le_of_ble_eq_true rfl) lf_X6_55 (v := .ref (a2 + 1)) rfl dX6_follow_57 rfl ?_
      refine Rf_iload X (j := 4) rfl dX6_follow_60 rfl ?_
      obtain ⟨s4, h⟩ := h
      refine Rf_laload X (isSh_f _ ha2).2.1 (isSh_f _ ha2).2.2.1 (isSh_f _ ha2).2.2.2 s4 dX6_follow_62 rfl (v := gL σ (a2 + 1) (x6.toNatClampNeg)) rfl ?_
      refine Rf_l2i X dX6_follow_63 rfl ?_
      refine Rf_cVi (as := [.ref 26, .int ((gL σ (a2 + 1) (x6.toNatClampNeg)).toInt32)]) (st := [.int x5]) X mi_X2_pass lm_X6_61 rfl (Nat.le_of_ble_eq_true rfl) rfl (k_X2_pass (by unfold isSt; decide) h) (Nat.le_of_ble_eq_true rfl) rfl rfl (Nat.le_of_ble_eq_true rfl) dX6_follow_64 rfl (fun r6 σ5 h => ?_)
      refine Rf_iadd X dX6_follow_67 rfl ?_
      refine Rf_istore X (i := 5) (Nat.le_of_ble_eq_true rfl) (ls2 := [(5, .int (x5 + r6)), (0, .ref 20), (2, .ref a2), (4, .int x4), (6, .int x6)]) rfl dX6_follow_68 rfl ?_
      refine Rf_iinc X (i := 6) (j := 4) (v := x6 + 1) rfl rfl (Nat.le_of_ble_eq_true rfl) (ls2 := [(6, .int (x6 + 1)), (5, .int (x5 + r6)), (0, .ref 20), (2, .ref a2), (4, .int x4)]) rfl dX6_follow_70 rfl ?_
      refine Rf_goto X (tgt := 37) dX6_follow_73 rfl ?_
      refine Rf_sub [2, 3, 4, 1, 0] rfl ?_
      exact hkb_37 _ _ _ _ σ5 ha2 h
def wp_X6_follow (σ : rfS) (a1 : Nat) (a2 : Nat) (x3 : Int32) (Q : Int32 → rfS → Prop) : Prop :=
  wp_X5_copyFrom σ 26 a1 (gI σ 1 0) (fun (σ1 : rfS) => wp_X2_daysOf σ1 a2 (fun (r3 : Int32) (σ2 : rfS) => (∃ n8, wl_X6_follow_37 Q n8 a2 (if r3 < x3 then r3 else x3) 0 0 σ2)))
set_option maxRecDepth 20000 in
theorem k_X6_follow {σ : rfS} {a1 : Nat} {a2 : Nat} {x3 : Int32} {Q : Int32 → rfS → Prop} (ha1 : isSt a1) (ha2 : isSh a2) (h : wp_X6_follow σ a1 a2 x3 Q) : RM ΛC 4 yX6_follow cX6_follow 7 (some .int) [.ref 20, .ref a1, .ref a2, .int x3] σ (qi Q) := by
  unfold wp_X6_follow at h
  refine RM.intro (by decide) (Nat.le_of_ble_eq_true rfl) (fun E X => ?_)
  show Rf ΛC 4 E 7 (qi Q) 0 [(0, .ref 20), (1, .ref a1), (2, .ref a2), (3, .int x3)] [] σ
  refine Rf_aload_n X (j := 0) rfl rfl dX6_follow_0 rfl ?_
  refine Rf_get X kc6 (Nat.le_of_ble_eq_true rfl) rfl (j := 5) (Nat.le_of_ble_eq_true rfl) lf_X6_17 (v := .ref 22) rfl dX6_follow_1 rfl ?_
  refine Rf_iconst X (v := 0) rfl dX6_follow_4 rfl ?_
  refine Rf_aaload2 X (Nat.le_of_ble_eq_true rfl) rfl rfl (by unfold vp_in; decide) dX6_follow_5 rfl ?_
  refine Rf_aload_n X (j := 1) rfl rfl dX6_follow_6 rfl ?_
  refine Rf_aload_n X (j := 0) rfl rfl dX6_follow_7 rfl ?_
  refine Rf_get X kc6 (Nat.le_of_ble_eq_true rfl) rfl (j := 4) (Nat.le_of_ble_eq_true rfl) lf_X6_30 (v := .ref 1) rfl dX6_follow_8 rfl ?_
  refine Rf_get X kc2 (Nat.le_of_ble_eq_true rfl) rfl (j := 0) (Nat.le_of_ble_eq_true rfl) lf_X6_35 (v := .int (gI σ 1 0)) rfl dX6_follow_11 rfl ?_
  refine Rf_cVv (as := [.ref a1, .int (gI σ 1 0)]) (st := []) X mi_X5_copyFrom lm_X6_41 rfl (Nat.le_of_ble_eq_true rfl) rfl (k_X5_copyFrom (by unfold isSt; decide) ha1 h) (Nat.le_of_ble_eq_true rfl) rfl rfl (Nat.le_of_ble_eq_true rfl) dX6_follow_14 rfl (fun σ1 h => ?_)
  refine Rf_iload_n X (j := 3) rfl rfl dX6_follow_17 rfl ?_
  refine Rf_aload_n X (j := 0) rfl rfl dX6_follow_18 rfl ?_
  refine Rf_get X kc6 (Nat.le_of_ble_eq_true rfl) rfl (j := 4) (Nat.le_of_ble_eq_true rfl) lf_X6_30 (v := .ref 1) rfl dX6_follow_19 rfl ?_
  refine Rf_aload_n X (j := 2) rfl rfl dX6_follow_22 rfl ?_
  refine Rf_cVi (as := [.ref a2]) (st := [.int x3]) X mi_X2_daysOf lm_X6_45 rfl (Nat.le_of_ble_eq_true rfl) rfl (k_X2_daysOf ha2 h) (Nat.le_of_ble_eq_true rfl) rfl rfl (Nat.le_of_ble_eq_true rfl) dX6_follow_23 rfl (fun r3 σ2 h => ?_)
  refine Rf_min X lm_X6_49 mm_min.1 mm_min.2.1 mm_min.2.2 (Nat.le_of_ble_eq_true rfl) (Nat.le_of_ble_eq_true rfl) dX6_follow_26 rfl ?_
  refine Rf_istore X (i := 4) (Nat.le_of_ble_eq_true rfl) (ls2 := [(4, .int (if r3 < x3 then r3 else x3)), (0, .ref 20), (1, .ref a1), (2, .ref a2), (3, .int x3)]) rfl dX6_follow_29 rfl ?_
  refine Rf_iconst X (v := 0) rfl dX6_follow_31 rfl ?_
  refine Rf_istore X (i := 5) (Nat.le_of_ble_eq_true rfl) (ls2 := [(5, .int 0), (4, .int (if r3 < x3 then r3 else x3)), (0, .ref 20), (1, .ref a1), (2, .ref a2), (3, .int x3)]) rfl dX6_follow_32 rfl ?_
  refine Rf_iconst X (v := 0) rfl dX6_follow_34 rfl ?_
  refine Rf_istore X (i := 6) (Nat.le_of_ble_eq_true rfl) (ls2 := [(6, .int 0), (5, .int 0), (4, .int (if r3 < x3 then r3 else x3)), (0, .ref 20), (1, .ref a1), (2, .ref a2), (3, .int x3)]) rfl dX6_follow_35 rfl ?_
  obtain ⟨n8, h⟩ := h
  refine Rf_sub [3, 5, 2, 1, 0] rfl ?_
  exact sl_X6_follow_37 X n8 _ _ _ _ _ ha2 h
def wj_X6_weigh_53 (Q : rfS → Prop) (x1 : Int32) (x2 : Int32) (x3 : Int32) (xs0 : Int32) (σ : rfS) : Prop :=
  ((xs0 = 0 → Q σ) ∧ (¬ xs0 = 0 → (¬ x1 < 0) ∧ (0 + x1.toNatClampNeg ≤ 4) ∧ (0 + x1.toNatClampNeg ≤ 4) ∧ (Q (cF (sI (sI (sI σ 20 7 1) 20 0 x2) 20 1 x3) 23 21 0 0 (x1.toNatClampNeg)))))
set_option maxRecDepth 20000 in
theorem sj_X6_weigh_53 {E : rfE} {Q : rfS → Prop} (X : rfX ΛC E yX6_weigh cX6_weigh 5 none) (x1 : Int32) (x2 : Int32) (x3 : Int32) (xs0 : Int32) (σ : rfS) (h : wj_X6_weigh_53 Q x1 x2 x3 xs0 σ) : Rf ΛC 1 E 5 (qv Q) 53 [(0, .ref 20), (1, .int x1), (2, .int x2), (3, .int x3)] [.int xs0] σ := by
  unfold wj_X6_weigh_53 at h
  refine Rf_istore X (i := 4) (Nat.le_of_ble_eq_true rfl) (ls2 := [(4, .int xs0), (0, .ref 20), (1, .int x1), (2, .int x2), (3, .int x3)]) rfl dX6_weigh_53 rfl ?_
  refine Rf_iload X (j := 0) rfl dX6_weigh_55 rfl ?_
  refine Rf_if_eq X (tgt := 89) dX6_weigh_57 rfl rfl (fun c7 => ?_) (fun c7 => ?_)
  · have h := h.1 c7
    exact Rf_vret X dX6_weigh_89 ⟨rfl, h⟩
  · have h := h.2 c7
    refine Rf_aload_n X (j := 1) rfl rfl dX6_weigh_60 rfl ?_
    refine Rf_iconst X (v := 1) rfl dX6_weigh_61 rfl ?_
    refine Rf_put X kc6 (Nat.le_of_ble_eq_true rfl) rfl (j := 7) (Nat.le_of_ble_eq_true rfl) rfl lf_X6_65 rfl rfl rfl dX6_weigh_62 rfl ?_
    refine Rf_aload_n X (j := 1) rfl rfl dX6_weigh_65 rfl ?_
    refine Rf_iload_n X (j := 3) rfl rfl dX6_weigh_66 rfl ?_
    refine Rf_put X kc6 (Nat.le_of_ble_eq_true rfl) rfl (j := 0) (Nat.le_of_ble_eq_true rfl) rfl lf_X6_81 rfl rfl rfl dX6_weigh_67 rfl ?_
    refine Rf_aload_n X (j := 1) rfl rfl dX6_weigh_70 rfl ?_
    refine Rf_iload_n X (j := 4) rfl rfl dX6_weigh_71 rfl ?_
    refine Rf_put X kc6 (Nat.le_of_ble_eq_true rfl) rfl (j := 1) (Nat.le_of_ble_eq_true rfl) rfl lf_X6_84 rfl rfl rfl dX6_weigh_72 rfl ?_
    refine Rf_aload_n X (j := 1) rfl rfl dX6_weigh_75 rfl ?_
    refine Rf_get X kc6 (Nat.le_of_ble_eq_true rfl) rfl (j := 6) (Nat.le_of_ble_eq_true rfl) lf_X6_21 (v := .ref 23) rfl dX6_weigh_76 rfl ?_
    refine Rf_iconst X (v := 0) rfl dX6_weigh_79 rfl ?_
    refine Rf_aload_n X (j := 1) rfl rfl dX6_weigh_80 rfl ?_
    refine Rf_get X kc6 (Nat.le_of_ble_eq_true rfl) rfl (j := 2) (Nat.le_of_ble_eq_true rfl) lf_X6_9 (v := .ref 21) rfl dX6_weigh_81 rfl ?_
    refine Rf_iconst X (v := 0) rfl dX6_weigh_84 rfl ?_
    refine Rf_iload_n X (j := 2) rfl rfl dX6_weigh_85 rfl ?_
    obtain ⟨s4, h⟩ := h
    obtain ⟨s5, h⟩ := h
    obtain ⟨s6, h⟩ := h
    refine Rf_copyi X (sp := 0) (dp := 0) (n := x1) lm_X6_87 mm_copy.1 mm_copy.2.1 mm_copy.2.2 (Nat.le_of_ble_eq_true rfl) rfl rfl (Nat.le_of_ble_eq_true rfl) rfl rfl (by decide) (by decide) s4 s5 s6 (Nat.le_of_ble_eq_true rfl) (Nat.le_of_ble_eq_true rfl) dX6_weigh_86 rfl ?_
    exact Rf_vret X dX6_weigh_89 ⟨rfl, h⟩
def wj_X6_weigh_48 (Q : rfS → Prop) (x1 : Int32) (x2 : Int32) (x3 : Int32) (σ : rfS) : Prop :=
  wj_X6_weigh_53 Q x1 x2 x3 1 σ
set_option maxRecDepth 20000 in
theorem sj_X6_weigh_48 {E : rfE} {Q : rfS → Prop} (X : rfX ΛC E yX6_weigh cX6_weigh 5 none) (x1 : Int32) (x2 : Int32) (x3 : Int32) (σ : rfS) (h : wj_X6_weigh_48 Q x1 x2 x3 σ) : Rf ΛC 1 E 5 (qv Q) 48 [(0, .ref 20), (1, .int x1), (2, .int x2), (3, .int x3)] [] σ := by
  unfold wj_X6_weigh_48 at h
  refine Rf_iconst X (v := 1) rfl dX6_weigh_48 rfl ?_
  refine Rf_goto X (tgt := 53) dX6_weigh_49 rfl ?_
  exact sj_X6_weigh_53 X _ _ _ _ _ h
def wj_X6_weigh_52 (Q : rfS → Prop) (x1 : Int32) (x2 : Int32) (x3 : Int32) (σ : rfS) : Prop :=
  wj_X6_weigh_53 Q x1 x2 x3 0 σ
set_option maxRecDepth 20000 in
theorem sj_X6_weigh_52 {E : rfE} {Q : rfS → Prop} (X : rfX ΛC E yX6_weigh cX6_weigh 5 none) (x1 : Int32) (x2 : Int32) (x3 : Int32) (σ : rfS) (h : wj_X6_weigh_52 Q x1 x2 x3 σ) : Rf ΛC 1 E 5 (qv Q) 52 [(0, .ref 20), (1, .int x1), (2, .int x2), (3, .int x3)] [] σ := by
  unfold wj_X6_weigh_52 at h
  refine Rf_iconst X (v := 0) rfl dX6_weigh_52 rfl ?_
  exact sj_X6_weigh_53 X _ _ _ _ _ h
def wp_X6_weigh (σ : rfS) (x1 : Int32) (x2 : Int32) (Q : rfS → Prop) : Prop :=
  vp_in x1 6 ∧ wp_X5_owedOfAll σ (26 + 3 * x1.toNatClampNeg) (gI σ 1 0) (fun (r3 : Int32) (σ2 : rfS) => (((gI σ2 20 7) = 0 → wj_X6_weigh_48 Q x1 x2 r3 σ2) ∧ (¬ (gI σ2 20 7) = 0 → (((gI σ2 20 0) < x2 → wj_X6_weigh_48 Q x1 x2 r3 σ2) ∧ (¬ ((gI σ2 20 0) < x2) → ((¬ x2 = (gI σ2 20 0) → wj_X6_weigh_52 Q x1 x2 r3 σ2) ∧ (x2 = (gI σ2 20 0) → (((gI σ2 20 1) ≤ r3 → wj_X6_weigh_52 Q x1 x2 r3 σ2) ∧ (¬ ((gI σ2 20 1) ≤ r3) → wj_X6_weigh_48 Q x1 x2 r3 σ2)))))))))
set_option maxRecDepth 20000 in
theorem k_X6_weigh {σ : rfS} {x1 : Int32} {x2 : Int32} {Q : rfS → Prop} (h : wp_X6_weigh σ x1 x2 Q) : RM ΛC 1 yX6_weigh cX6_weigh 5 none [.ref 20, .int x1, .int x2] σ (qv Q) := by
  unfold wp_X6_weigh at h
  refine RM.intro (by decide) (Nat.le_of_ble_eq_true rfl) (fun E X => ?_)
  show Rf ΛC 1 E 5 (qv Q) 0 [(0, .ref 20), (1, .int x1), (2, .int x2)] [] σ
  refine Rf_aload_n X (j := 0) rfl rfl dX6_weigh_0 rfl ?_
  refine Rf_get X kc6 (Nat.le_of_ble_eq_true rfl) rfl (j := 5) (Nat.le_of_ble_eq_true rfl) lf_X6_17 (v := .ref 22) rfl dX6_weigh_1 rfl ?_
  refine Rf_iload_n X (j := 1) rfl rfl dX6_weigh_4 rfl ?_
  obtain ⟨s1, h⟩ := h
  refine Rf_aaload2 X (Nat.le_of_ble_eq_true rfl) rfl rfl s1 dX6_weigh_5 rfl ?_
  refine Rf_aload_n X (j := 0) rfl rfl dX6_weigh_6 rfl ?_
  refine Rf_get X kc6 (Nat.le_of_ble_eq_true rfl) rfl (j := 4) (Nat.le_of_ble_eq_true rfl) lf_X6_30 (v := .ref 1) rfl dX6_weigh_7 rfl ?_
  refine Rf_get X kc2 (Nat.le_of_ble_eq_true rfl) rfl (j := 0) (Nat.le_of_ble_eq_true rfl) lf_X6_35 (v := .int (gI σ 1 0)) rfl dX6_weigh_10 rfl ?_
  refine Rf_cVi (as := [.int (gI σ 1 0)]) (st := []) X mi_X5_owedOfAll lm_X6_77 rfl (isSt_f _ (isSt_of s1)).1.1 (isSt_f _ (isSt_of s1)).1.2 (k_X5_owedOfAll (isSt_of s1) h) (Nat.le_of_ble_eq_true rfl) rfl rfl (Nat.le_of_ble_eq_true rfl) dX6_weigh_13 rfl (fun r3 σ2 h => ?_)
  refine Rf_istore_n X rfl (i := 3) (Nat.le_of_ble_eq_true rfl) (ls2 := [(3, .int r3), (0, .ref 20), (1, .int x1), (2, .int x2)]) rfl dX6_weigh_16 rfl ?_
  refine Rf_aload_n X (j := 1) rfl rfl dX6_weigh_17 rfl ?_
  refine Rf_get X kc6 (Nat.le_of_ble_eq_true rfl) rfl (j := 7) (Nat.le_of_ble_eq_true rfl) lf_X6_65 (v := .int (gI σ2 20 7)) rfl dX6_weigh_18 rfl ?_
  refine Rf_if_eq X (tgt := 48) dX6_weigh_21 rfl rfl (fun c11 => ?_) (fun c11 => ?_)
  · have h := h.1 c11
    refine Rf_sub [1, 2, 3, 0] rfl ?_
    exact sj_X6_weigh_48 X _ _ _ _ h
  · have h := h.2 c11
    refine Rf_iload_n X (j := 3) rfl rfl dX6_weigh_24 rfl ?_
    refine Rf_aload_n X (j := 1) rfl rfl dX6_weigh_25 rfl ?_
    refine Rf_get X kc6 (Nat.le_of_ble_eq_true rfl) rfl (j := 0) (Nat.le_of_ble_eq_true rfl) lf_X6_81 (v := .int (gI σ2 20 0)) rfl dX6_weigh_26 rfl ?_
    refine Rf_icmp_gt X (tgt := 48) dX6_weigh_29 rfl rfl (fun c10 => ?_) (fun c10 => ?_)
    · have h := h.1 c10
      refine Rf_sub [1, 2, 3, 0] rfl ?_
      exact sj_X6_weigh_48 X _ _ _ _ h
    · have h := h.2 c10
      refine Rf_iload_n X (j := 3) rfl rfl dX6_weigh_32 rfl ?_
      refine Rf_aload_n X (j := 1) rfl rfl dX6_weigh_33 rfl ?_
      refine Rf_get X kc6 (Nat.le_of_ble_eq_true rfl) rfl (j := 0) (Nat.le_of_ble_eq_true rfl) lf_X6_81 (v := .int (gI σ2 20 0)) rfl dX6_weigh_34 rfl ?_
      refine Rf_icmp_ne X (tgt := 52) dX6_weigh_37 rfl rfl (fun c9 => ?_) (fun c9 => ?_)
      · have h := h.1 c9
        refine Rf_sub [1, 2, 3, 0] rfl ?_
        exact sj_X6_weigh_52 X _ _ _ _ h
      · have h := h.2 c9
        refine Rf_iload_n X (j := 0) rfl rfl dX6_weigh_40 rfl ?_
        refine Rf_aload_n X (j := 1) rfl rfl dX6_weigh_41 rfl ?_
        refine Rf_get X kc6 (Nat.le_of_ble_eq_true rfl) rfl (j := 1) (Nat.le_of_ble_eq_true rfl) lf_X6_84 (v := .int (gI σ2 20 1)) rfl dX6_weigh_42 rfl ?_
        refine Rf_icmp_ge X (tgt := 52) dX6_weigh_45 rfl rfl (fun c8 => ?_) (fun c8 => ?_)
        · have h := h.1 c8
          refine Rf_sub [1, 2, 3, 0] rfl ?_
          exact sj_X6_weigh_52 X _ _ _ _ h
        · have h := h.2 c8
          refine Rf_sub [1, 2, 3, 0] rfl ?_
          exact sj_X6_weigh_48 X _ _ _ _ h
def wj_X6_seekFrom_51 (κ_X6_seekFrom : rfS → Int32 → Int32 → Int32 → (rfS → Prop) → Prop) (Q : rfS → Prop) (kb_15 : Int32 → Int32 → Int32 → Int32 → rfS → Prop) (x1 : Int32) (x2 : Int32) (x3 : Int32) (x4 : Int32) (xs0 : Int32) (xs1 : Int32) (σ : rfS) : Prop :=
  vp_in xs1 4 ∧ vp_in (x1 + 1) 6 ∧ vp_in x1 6 ∧ wp_X5_copyFrom (sF σ 23 (xs1.toNatClampNeg) xs0) (26 + 3 * (x1 + 1).toNatClampNeg) (26 + 3 * x1.toNatClampNeg) (gI σ 1 0) (fun (σ4 : rfS) => vp_in (x1 + 1) 6 ∧ vp_in x1 4 ∧ wp_X2_pass σ4 (26 + 3 * (x1 + 1).toNatClampNeg) (gF σ4 23 (x1.toNatClampNeg)) (fun (r8 : Int32) (σ7 : rfS) => κ_X6_seekFrom σ7 (x1 + 1) x2 (x3 + r8) (fun (σ9 : rfS) => kb_15 x1 x2 x3 (x4 + 1) σ9)))
set_option maxRecDepth 20000 in
theorem sj_X6_seekFrom_51 {d : Nat} {E : rfE} {Q : rfS → Prop} (X : rfX ΛC E yX6_seekFrom cX6_seekFrom 5 none) {κ_X6_seekFrom : rfS → Int32 → Int32 → Int32 → (rfS → Prop) → Prop} (hκ_X6_seekFrom : ∀ (σ : rfS) (x1 : Int32) (x2 : Int32) (x3 : Int32) (Q : rfS → Prop), κ_X6_seekFrom σ x1 x2 x3 Q → RM ΛC d yX6_seekFrom cX6_seekFrom 5 none [.ref 20, .int x1, .int x2, .int x3] σ (qv Q)) (hB : 3 ≤ d) {kb_15 : Int32 → Int32 → Int32 → Int32 → rfS → Prop} (hkb_15 : ∀ (x1 : Int32) (x2 : Int32) (x3 : Int32) (x4 : Int32) (σ : rfS), kb_15 x1 x2 x3 x4 σ → Rf ΛC (d + 1) E 5 (qv Q) 15 [(0, .ref 20), (1, .int x1), (2, .int x2), (3, .int x3), (4, .int x4)] [] σ) (x1 : Int32) (x2 : Int32) (x3 : Int32) (x4 : Int32) (xs0 : Int32) (xs1 : Int32) (σ : rfS) (h : wj_X6_seekFrom_51 κ_X6_seekFrom Q kb_15 x1 x2 x3 x4 xs0 xs1 σ) : Rf ΛC (d + 1) E 5 (qv Q) 51 [(0, .ref 20), (1, .int x1), (2, .int x2), (3, .int x3), (4, .int x4)] [.int xs0, .int xs1, .ref 23] σ := by
  unfold wj_X6_seekFrom_51 at h
  obtain ⟨s1, h⟩ := h
  refine Rf_iastore X (Nat.le_of_ble_eq_true rfl) rfl rfl s1 dX6_seekFrom_51 rfl ?_
  refine Rf_aload_n X (j := 0) rfl rfl dX6_seekFrom_52 rfl ?_
  refine Rf_get X kc6 (Nat.le_of_ble_eq_true rfl) rfl (j := 5) (Nat.le_of_ble_eq_true rfl) lf_X6_17 (v := .ref 22) rfl dX6_seekFrom_53 rfl ?_
  refine Rf_iload_n X (j := 1) rfl rfl dX6_seekFrom_56 rfl ?_
  refine Rf_iconst X (v := 1) rfl dX6_seekFrom_57 rfl ?_
  refine Rf_iadd X dX6_seekFrom_58 rfl ?_
  obtain ⟨s2, h⟩ := h
  refine Rf_aaload2 X (Nat.le_of_ble_eq_true rfl) rfl rfl s2 dX6_seekFrom_59 rfl ?_
  refine Rf_aload_n X (j := 0) rfl rfl dX6_seekFrom_60 rfl ?_
  refine Rf_get X kc6 (Nat.le_of_ble_eq_true rfl) rfl (j := 5) (Nat.le_of_ble_eq_true rfl) lf_X6_17 (v := .ref 22) rfl dX6_seekFrom_61 rfl ?_
  refine Rf_iload_n X (j := 1) rfl rfl dX6_seekFrom_64 rfl ?_
  obtain ⟨s3, h⟩ := h
  refine Rf_aaload2 X (Nat.le_of_ble_eq_true rfl) rfl rfl s3 dX6_seekFrom_65 rfl ?_
  refine Rf_aload_n X (j := 0) rfl rfl dX6_seekFrom_66 rfl ?_
  refine Rf_get X kc6 (Nat.le_of_ble_eq_true rfl) rfl (j := 4) (Nat.le_of_ble_eq_true rfl) lf_X6_30 (v := .ref 1) rfl dX6_seekFrom_67 rfl ?_
  refine Rf_get X kc2 (Nat.le_of_ble_eq_true rfl) rfl (j := 0) (Nat.le_of_ble_eq_true rfl) lf_X6_35 (v := .int (gI σ 1 0)) (congrArg Value.int (show gI (sF σ 23 (xs1.toNatClampNeg) xs0) 1 0 = gI σ 1 0 from gI_sF _ _ _ _ _ _)) dX6_seekFrom_70 rfl ?_
  refine Rf_cVv (as := [.ref (26 + 3 * x1.toNatClampNeg), .int (gI σ 1 0)]) (st := []) X mi_X5_copyFrom lm_X6_41 rfl (isSt_f _ (isSt_of s2)).1.1 (isSt_f _ (isSt_of s2)).1.2 (k_X5_copyFrom (isSt_of s2) (isSt_of s3) h) (by omega) rfl rfl (Nat.le_of_ble_eq_true rfl) dX6_seekFrom_73 rfl (fun σ4 h => ?_)
  refine Rf_aload_n X (j := 0) rfl rfl dX6_seekFrom_76 rfl ?_
  refine Rf_iload_n X (j := 1) rfl rfl dX6_seekFrom_77 rfl ?_
  refine Rf_iconst X (v := 1) rfl dX6_seekFrom_78 rfl ?_
  refine Rf_iadd X dX6_seekFrom_79 rfl ?_
  refine Rf_iload_n X (j := 2) rfl rfl dX6_seekFrom_80 rfl ?_
  refine Rf_iload_n X (j := 3) rfl rfl dX6_seekFrom_81 rfl ?_
  refine Rf_aload_n X (j := 0) rfl rfl dX6_seekFrom_82 rfl ?_
  refine Rf_get X kc6 (Nat.le_of_ble_eq_true rfl) rfl (j := 4) (Nat.le_of_ble_eq_true rfl) lf_X6_30 (v := .ref 1) rfl dX6_seekFrom_83 rfl ?_
  refine Rf_aload_n X (j := 0) rfl rfl dX6_seekFrom_86 rfl ?_
  refine Rf_get X kc6 (Nat.le_of_ble_eq_true rfl) rfl (j := 5) (Nat.le_of_ble_eq_true rfl) lf_X6_17 (v := .ref 22) rfl dX6_seekFrom_87 rfl ?_
  refine Rf_iload_n X (j := 1) rfl rfl dX6_seekFrom_90 rfl ?_
  refine Rf_iconst X (v := 1) rfl dX6_seekFrom_91 rfl ?_
  refine Rf_iadd X dX6_seekFrom_92 rfl ?_
  obtain ⟨s5, h⟩ := h
  refine Rf_aaload2 X (Nat.le_of_ble_eq_true rfl) rfl rfl s5 dX6_seekFrom_93 rfl ?_
  refine Rf_aload_n X (j := 0) rfl rfl dX6_seekFrom_94 rfl ?_
  refine Rf_get X kc6 (Nat.le_of_ble_eq_true rfl) rfl (j := 6) (Nat.le_of_ble_eq_true rfl) lf_X6_21 (v := .ref 23) rfl dX6_seekFrom_95 rfl ?_
  refine Rf_iload_n X (j := 1) rfl rfl dX6_seekFrom_98 rfl ?_
  obtain ⟨s6, h⟩ := h
  refine Rf_iaload X (Nat.le_of_ble_eq_true rfl) rfl rfl s6 dX6_seekFrom_99 rfl (v := gF σ4 23 (x1.toNatClampNeg)) rfl ?_
  refine Rf_cVi (as := [.ref (26 + 3 * (x1 + 1).toNatClampNeg), .int (gF σ4 23 (x1.toNatClampNeg))]) (st := [.int x3, .int x2, .int (x1 + 1), .ref 20]) X mi_X2_pass lm_X6_61 rfl (Nat.le_of_ble_eq_true rfl) rfl (k_X2_pass (isSt_of s5) h) (by omega) rfl rfl (Nat.le_of_ble_eq_true rfl) dX6_seekFrom_100 rfl (fun r8 σ7 h => ?_)
  refine Rf_iadd X dX6_seekFrom_103 rfl ?_
  refine Rf_cVv (as := [.int (x1 + 1), .int x2, .int (x3 + r8)]) (st := []) X mi_X6_seekFrom lm_X6_69 rfl (Nat.le_of_ble_eq_true rfl) rfl (hκ_X6_seekFrom _ _ _ _ _ h) (Nat.le_refl _) rfl rfl (Nat.le_of_ble_eq_true rfl) dX6_seekFrom_104 rfl (fun σ9 h => ?_)
  refine Rf_iinc X (i := 4) (j := 4) (v := x4 + 1) rfl rfl (Nat.le_of_ble_eq_true rfl) (ls2 := [(4, .int (x4 + 1)), (0, .ref 20), (1, .int x1), (2, .int x2), (3, .int x3)]) rfl dX6_seekFrom_107 rfl ?_
  refine Rf_goto X (tgt := 15) dX6_seekFrom_110 rfl ?_
  refine Rf_sub [1, 2, 3, 4, 0] rfl ?_
  exact hkb_15 _ _ _ _ σ9 h
def wl_X6_seekFrom_15 (κ_X6_seekFrom : rfS → Int32 → Int32 → Int32 → (rfS → Prop) → Prop) (Q : rfS → Prop) : Nat → Int32 → Int32 → Int32 → Int32 → rfS → Prop
  | 0, _, _, _, _, _ => False
  | n + 1, x1, x2, x3, x4, σ => (((gI σ 1 0) < x4 → Q σ) ∧ (¬ ((gI σ 1 0) < x4) → (((gI σ 1 0) ≤ x4 → wj_X6_seekFrom_51 κ_X6_seekFrom Q (wl_X6_seekFrom_15 κ_X6_seekFrom Q n) x1 x2 x3 x4 7 x1 σ) ∧ (¬ ((gI σ 1 0) ≤ x4) → wj_X6_seekFrom_51 κ_X6_seekFrom Q (wl_X6_seekFrom_15 κ_X6_seekFrom Q n) x1 x2 x3 x4 x4 x1 σ))))
set_option maxRecDepth 20000 in
theorem sl_X6_seekFrom_15 {d : Nat} {E : rfE} {Q : rfS → Prop} (X : rfX ΛC E yX6_seekFrom cX6_seekFrom 5 none) {κ_X6_seekFrom : rfS → Int32 → Int32 → Int32 → (rfS → Prop) → Prop} (hκ_X6_seekFrom : ∀ (σ : rfS) (x1 : Int32) (x2 : Int32) (x3 : Int32) (Q : rfS → Prop), κ_X6_seekFrom σ x1 x2 x3 Q → RM ΛC d yX6_seekFrom cX6_seekFrom 5 none [.ref 20, .int x1, .int x2, .int x3] σ (qv Q)) (hB : 3 ≤ d) : ∀ (n : Nat) (x1 : Int32) (x2 : Int32) (x3 : Int32) (x4 : Int32) (σ : rfS), wl_X6_seekFrom_15 κ_X6_seekFrom Q n x1 x2 x3 x4 σ → Rf ΛC (d + 1) E 5 (qv Q) 15 [(0, .ref 20), (1, .int x1), (2, .int x2), (3, .int x3), (4, .int x4)] [] σ := by
  intro n
  induction n with
  | zero =>
    intro x1 x2 x3 x4 σ h
    exact False.elim h
  | succ n hkb_15 =>
    intro x1 x2 x3 x4 σ h
    unfold wl_X6_seekFrom_15 at h
    refine Rf_iload X (j := 4) rfl dX6_seekFrom_15 rfl ?_
    refine Rf_aload_n X (j := 0) rfl rfl dX6_seekFrom_17 rfl ?_
    refine Rf_get X kc6 (Nat.le_of_ble_eq_true rfl) rfl (j := 4) (Nat.le_of_ble_eq_true rfl) lf_X6_30 (v := .ref 1) rfl dX6_seekFrom_18 rfl ?_
    refine Rf_get X kc2 (Nat.le_of_ble_eq_true rfl) rfl (j := 0) (Nat.le_of_ble_eq_true rfl) lf_X6_35 (v := .int (gI σ 1 0)) rfl dX6_seekFrom_21 rfl ?_
    refine Rf_icmp_gt X (tgt := 113) dX6_seekFrom_24 rfl rfl (fun c11 => ?_) (fun c11 => ?_)
    · have h := h.1 c11
      exact Rf_vret X dX6_seekFrom_113 ⟨rfl, h⟩
    · have h := h.2 c11
      refine Rf_aload_n X (j := 0) rfl rfl dX6_seekFrom_27 rfl ?_
      refine Rf_get X kc6 (Nat.le_of_ble_eq_true rfl) rfl (j := 6) (Nat.le_of_ble_eq_true rfl) lf_X6_21 (v := .ref 23) rfl dX6_seekFrom_28 rfl ?_
      refine Rf_iload_n X (j := 1) rfl rfl dX6_seekFrom_31 rfl ?_
      refine Rf_iload X (j := 4) rfl dX6_seekFrom_32 rfl ?_
      refine Rf_aload_n X (j := 0) rfl rfl dX6_seekFrom_34 rfl ?_
      refine Rf_get X kc6 (Nat.le_of_ble_eq_true rfl) rfl (j := 4) (Nat.le_of_ble_eq_true rfl) lf_X6_30 (v := .ref 1) rfl dX6_seekFrom_35 rfl ?_
      refine Rf_get X kc2 (Nat.le_of_ble_eq_true rfl) rfl (j := 0) (Nat.le_of_ble_eq_true rfl) lf_X6_35 (v := .int (gI σ 1 0)) rfl dX6_seekFrom_38 rfl ?_
      refine Rf_icmp_ge X (tgt := 49) dX6_seekFrom_41 rfl rfl (fun c10 => ?_) (fun c10 => ?_)
      · have h := h.1 c10
        refine Rf_bipush X (v := 7) rfl dX6_seekFrom_49 rfl ?_
        exact sj_X6_seekFrom_51 X hκ_X6_seekFrom hB hkb_15 _ _ _ _ _ _ _ h
      · have h := h.2 c10
        refine Rf_iload X (j := 4) rfl dX6_seekFrom_44 rfl ?_
        refine Rf_goto X (tgt := 51) dX6_seekFrom_46 rfl ?_
        exact sj_X6_seekFrom_51 X hκ_X6_seekFrom hB hkb_15 _ _ _ _ _ _ _ h
def wp_X6_seekFrom (κ_X6_seekFrom : rfS → Int32 → Int32 → Int32 → (rfS → Prop) → Prop) (σ : rfS) (x1 : Int32) (x2 : Int32) (x3 : Int32) (Q : rfS → Prop) : Prop :=
  ((x1 < x2 → (∃ n12, wl_X6_seekFrom_15 κ_X6_seekFrom Q n12 x1 x2 x3 0 σ)) ∧ (¬ (x1 < x2) → wp_X6_weigh σ x2 x3 (fun (σ13 : rfS) => Q σ13)))
set_option maxRecDepth 20000 in
theorem k_X6_seekFrom {d : Nat} {κ_X6_seekFrom : rfS → Int32 → Int32 → Int32 → (rfS → Prop) → Prop} (hκ_X6_seekFrom : ∀ (σ : rfS) (x1 : Int32) (x2 : Int32) (x3 : Int32) (Q : rfS → Prop), κ_X6_seekFrom σ x1 x2 x3 Q → RM ΛC d yX6_seekFrom cX6_seekFrom 5 none [.ref 20, .int x1, .int x2, .int x3] σ (qv Q)) (hB : 3 ≤ d) {σ : rfS} {x1 : Int32} {x2 : Int32} {x3 : Int32} {Q : rfS → Prop} (h : wp_X6_seekFrom κ_X6_seekFrom σ x1 x2 x3 Q) : RM ΛC (d + 1) yX6_seekFrom cX6_seekFrom 5 none [.ref 20, .int x1, .int x2, .int x3] σ (qv Q) := by
  unfold wp_X6_seekFrom at h
  refine RM.intro (by decide) (Nat.le_of_ble_eq_true rfl) (fun E X => ?_)
  show Rf ΛC (d + 1) E 5 (qv Q) 0 [(0, .ref 20), (1, .int x1), (2, .int x2), (3, .int x3)] [] σ
  refine Rf_iload_n X (j := 1) rfl rfl dX6_seekFrom_0 rfl ?_
  refine Rf_iload_n X (j := 2) rfl rfl dX6_seekFrom_1 rfl ?_
  refine Rf_icmp_lt X (tgt := 12) dX6_seekFrom_2 rfl rfl (fun c14 => ?_) (fun c14 => ?_)
  · have h := h.1 c14
    refine Rf_iconst X (v := 0) rfl dX6_seekFrom_12 rfl ?_
    refine Rf_istore X (i := 4) (Nat.le_of_ble_eq_true rfl) (ls2 := [(4, .int 0), (0, .ref 20), (1, .int x1), (2, .int x2), (3, .int x3)]) rfl dX6_seekFrom_13 rfl ?_
    obtain ⟨n12, h⟩ := h
    refine Rf_sub [1, 2, 3, 4, 0] rfl ?_
    exact sl_X6_seekFrom_15 X hκ_X6_seekFrom hB n12 _ _ _ _ _ h
  · have h := h.2 c14
    refine Rf_aload_n X (j := 0) rfl rfl dX6_seekFrom_5 rfl ?_
    refine Rf_iload_n X (j := 2) rfl rfl dX6_seekFrom_6 rfl ?_
    refine Rf_iload_n X (j := 3) rfl rfl dX6_seekFrom_7 rfl ?_
    refine Rf_cVv (as := [.int x2, .int x3]) (st := []) X mi_X6_weigh lm_X6_73 rfl (Nat.le_of_ble_eq_true rfl) rfl (k_X6_weigh h) (by omega) rfl rfl (Nat.le_of_ble_eq_true rfl) dX6_seekFrom_8 rfl (fun σ13 h => ?_)
    exact Rf_vret X dX6_seekFrom_11 ⟨rfl, h⟩
def wp_X6_seekBest (κ_X6_seekFrom : rfS → Int32 → Int32 → Int32 → (rfS → Prop) → Prop) (σ : rfS) (a1 : Nat) (x2 : Int32) (Q : rfS → Prop) : Prop :=
  wp_X5_copyFrom σ 26 a1 (gI σ 1 0) (fun (σ1 : rfS) => κ_X6_seekFrom (sI σ1 20 7 0) 0 x2 0 (fun (σ2 : rfS) => Q σ2))
set_option maxRecDepth 20000 in
theorem k_X6_seekBest {d : Nat} {κ_X6_seekFrom : rfS → Int32 → Int32 → Int32 → (rfS → Prop) → Prop} (hκ_X6_seekFrom : ∀ (σ : rfS) (x1 : Int32) (x2 : Int32) (x3 : Int32) (Q : rfS → Prop), κ_X6_seekFrom σ x1 x2 x3 Q → RM ΛC d yX6_seekFrom cX6_seekFrom 5 none [.ref 20, .int x1, .int x2, .int x3] σ (qv Q)) (hB : 1 ≤ d) {σ : rfS} {a1 : Nat} {x2 : Int32} {Q : rfS → Prop} (ha1 : isSt a1) (h : wp_X6_seekBest κ_X6_seekFrom σ a1 x2 Q) : RM ΛC (d + 1) yX6_seekBest cX6_seekBest 3 none [.ref 20, .ref a1, .int x2] σ (qv Q) := by
  unfold wp_X6_seekBest at h
  refine RM.intro (by decide) (Nat.le_of_ble_eq_true rfl) (fun E X => ?_)
  show Rf ΛC (d + 1) E 3 (qv Q) 0 [(0, .ref 20), (1, .ref a1), (2, .int x2)] [] σ
  refine Rf_aload_n X (j := 0) rfl rfl dX6_seekBest_0 rfl ?_
  refine Rf_get X kc6 (Nat.le_of_ble_eq_true rfl) rfl (j := 5) (Nat.le_of_ble_eq_true rfl) lf_X6_17 (v := .ref 22) rfl dX6_seekBest_1 rfl ?_
  refine Rf_iconst X (v := 0) rfl dX6_seekBest_4 rfl ?_
  refine Rf_aaload2 X (Nat.le_of_ble_eq_true rfl) rfl rfl (by unfold vp_in; decide) dX6_seekBest_5 rfl ?_
  refine Rf_aload_n X (j := 1) rfl rfl dX6_seekBest_6 rfl ?_
  refine Rf_aload_n X (j := 0) rfl rfl dX6_seekBest_7 rfl ?_
  refine Rf_get X kc6 (Nat.le_of_ble_eq_true rfl) rfl (j := 4) (Nat.le_of_ble_eq_true rfl) lf_X6_30 (v := .ref 1) rfl dX6_seekBest_8 rfl ?_
  refine Rf_get X kc2 (Nat.le_of_ble_eq_true rfl) rfl (j := 0) (Nat.le_of_ble_eq_true rfl) lf_X6_35 (v := .int (gI σ 1 0)) rfl dX6_seekBest_11 rfl ?_
  refine Rf_cVv (as := [.ref a1, .int (gI σ 1 0)]) (st := []) X mi_X5_copyFrom lm_X6_41 rfl (Nat.le_of_ble_eq_true rfl) rfl (k_X5_copyFrom (by unfold isSt; decide) ha1 h) (by omega) rfl rfl (Nat.le_of_ble_eq_true rfl) dX6_seekBest_14 rfl (fun σ1 h => ?_)
  refine Rf_aload_n X (j := 0) rfl rfl dX6_seekBest_17 rfl ?_
  refine Rf_iconst X (v := 0) rfl dX6_seekBest_18 rfl ?_
  refine Rf_put X kc6 (Nat.le_of_ble_eq_true rfl) rfl (j := 7) (Nat.le_of_ble_eq_true rfl) rfl lf_X6_65 rfl rfl rfl dX6_seekBest_19 rfl ?_
  refine Rf_aload_n X (j := 0) rfl rfl dX6_seekBest_22 rfl ?_
  refine Rf_iconst X (v := 0) rfl dX6_seekBest_23 rfl ?_
  refine Rf_iload_n X (j := 2) rfl rfl dX6_seekBest_24 rfl ?_
  refine Rf_iconst X (v := 0) rfl dX6_seekBest_25 rfl ?_
  refine Rf_cVv (as := [.int 0, .int x2, .int 0]) (st := []) X mi_X6_seekFrom lm_X6_69 rfl (Nat.le_of_ble_eq_true rfl) rfl (hκ_X6_seekFrom _ _ _ _ _ h) (Nat.le_refl _) rfl rfl (Nat.le_of_ble_eq_true rfl) dX6_seekBest_26 rfl (fun σ2 h => ?_)
  exact Rf_vret X dX6_seekBest_29 ⟨rfl, h⟩
def wp_X6_worthBehind (κ_X6_worthFrom : rfS → Int32 → Int32 → Int32 → Int32 → (Int32 → rfS → Prop) → Prop) (σ : rfS) (x1 : Int32) (x2 : Int32) (x3 : Int32) (x4 : Int32) (x5 : Int32) (Q : Int32 → rfS → Prop) : Prop :=
  vp_in (x1 + 1) 6 ∧ vp_in x1 6 ∧ wp_X5_copyFrom σ (26 + 3 * (x1 + 1).toNatClampNeg) (26 + 3 * x1.toNatClampNeg) (gI σ 1 0) (fun (σ3 : rfS) => vp_in (x1 + 1) 6 ∧ wp_X2_pass σ3 (26 + 3 * (x1 + 1).toNatClampNeg) x3 (fun (r6 : Int32) (σ5 : rfS) => κ_X6_worthFrom σ5 (x1 + 1) x2 x5 x4 (fun (r8 : Int32) (σ7 : rfS) => Q (r6 - r8) σ7)))
set_option maxRecDepth 20000 in
theorem k_X6_worthBehind {d : Nat} {κ_X6_worthFrom : rfS → Int32 → Int32 → Int32 → Int32 → (Int32 → rfS → Prop) → Prop} (hκ_X6_worthFrom : ∀ (σ : rfS) (x1 : Int32) (x2 : Int32) (x3 : Int32) (x4 : Int32) (Q : Int32 → rfS → Prop), κ_X6_worthFrom σ x1 x2 x3 x4 Q → RM ΛC d yX6_worthFrom cX6_worthFrom 7 (some .int) [.ref 20, .int x1, .int x2, .int x3, .int x4] σ (qi Q)) (hB : 3 ≤ d) {σ : rfS} {x1 : Int32} {x2 : Int32} {x3 : Int32} {x4 : Int32} {x5 : Int32} {Q : Int32 → rfS → Prop} (h : wp_X6_worthBehind κ_X6_worthFrom σ x1 x2 x3 x4 x5 Q) : RM ΛC (d + 1) yX6_worthBehind cX6_worthBehind 7 (some .int) [.ref 20, .int x1, .int x2, .int x3, .int x4, .int x5] σ (qi Q) := by
  unfold wp_X6_worthBehind at h
  refine RM.intro (by decide) (Nat.le_of_ble_eq_true rfl) (fun E X => ?_)
  show Rf ΛC (d + 1) E 7 (qi Q) 0 [(0, .ref 20), (1, .int x1), (2, .int x2), (3, .int x3), (4, .int x4), (5, .int x5)] [] σ
  refine Rf_aload_n X (j := 0) rfl rfl dX6_worthBehind_0 rfl ?_
  refine Rf_get X kc6 (Nat.le_of_ble_eq_true rfl) rfl (j := 5) (Nat.le_of_ble_eq_true rfl) lf_X6_17 (v := .ref 22) rfl dX6_worthBehind_1 rfl ?_
  refine Rf_iload_n X (j := 1) rfl rfl dX6_worthBehind_4 rfl ?_
  refine Rf_iconst X (v := 1) rfl dX6_worthBehind_5 rfl ?_
  refine Rf_iadd X dX6_worthBehind_6 rfl ?_
  obtain ⟨s1, h⟩ := h
  refine Rf_aaload2 X (Nat.le_of_ble_eq_true rfl) rfl rfl s1 dX6_worthBehind_7 rfl ?_
  refine Rf_aload_n X (j := 0) rfl rfl dX6_worthBehind_8 rfl ?_
  refine Rf_get X kc6 (Nat.le_of_ble_eq_true rfl) rfl (j := 5) (Nat.le_of_ble_eq_true rfl) lf_X6_17 (v := .ref 22) rfl dX6_worthBehind_9 rfl ?_
  refine Rf_iload_n X (j := 1) rfl rfl dX6_worthBehind_12 rfl ?_
  obtain ⟨s2, h⟩ := h
  refine Rf_aaload2 X (Nat.le_of_ble_eq_true rfl) rfl rfl s2 dX6_worthBehind_13 rfl ?_
  refine Rf_aload_n X (j := 0) rfl rfl dX6_worthBehind_14 rfl ?_
  refine Rf_get X kc6 (Nat.le_of_ble_eq_true rfl) rfl (j := 4) (Nat.le_of_ble_eq_true rfl) lf_X6_30 (v := .ref 1) rfl dX6_worthBehind_15 rfl ?_
  refine Rf_get X kc2 (Nat.le_of_ble_eq_true rfl) rfl (j := 0) (Nat.le_of_ble_eq_true rfl) lf_X6_35 (v := .int (gI σ 1 0)) rfl dX6_worthBehind_18 rfl ?_
  refine Rf_cVv (as := [.ref (26 + 3 * x1.toNatClampNeg), .int (gI σ 1 0)]) (st := []) X mi_X5_copyFrom lm_X6_41 rfl (isSt_f _ (isSt_of s1)).1.1 (isSt_f _ (isSt_of s1)).1.2 (k_X5_copyFrom (isSt_of s1) (isSt_of s2) h) (by omega) rfl rfl (Nat.le_of_ble_eq_true rfl) dX6_worthBehind_21 rfl (fun σ3 h => ?_)
  refine Rf_aload_n X (j := 0) rfl rfl dX6_worthBehind_24 rfl ?_
  refine Rf_get X kc6 (Nat.le_of_ble_eq_true rfl) rfl (j := 4) (Nat.le_of_ble_eq_true rfl) lf_X6_30 (v := .ref 1) rfl dX6_worthBehind_25 rfl ?_
  refine Rf_aload_n X (j := 0) rfl rfl dX6_worthBehind_28 rfl ?_
  refine Rf_get X kc6 (Nat.le_of_ble_eq_true rfl) rfl (j := 5) (Nat.le_of_ble_eq_true rfl) lf_X6_17 (v := .ref 22) rfl dX6_worthBehind_29 rfl ?_
  refine Rf_iload_n X (j := 1) rfl rfl dX6_worthBehind_32 rfl ?_
  refine Rf_iconst X (v := 1) rfl dX6_worthBehind_33 rfl ?_
  refine Rf_iadd X dX6_worthBehind_34 rfl ?_
  obtain ⟨s4, h⟩ := h
  refine Rf_aaload2 X (Nat.le_of_ble_eq_true rfl) rfl rfl s4 dX6_worthBehind_35 rfl ?_
  refine Rf_iload_n X (j := 3) rfl rfl dX6_worthBehind_36 rfl ?_
  refine Rf_cVi (as := [.ref (26 + 3 * (x1 + 1).toNatClampNeg), .int x3]) (st := []) X mi_X2_pass lm_X6_61 rfl (Nat.le_of_ble_eq_true rfl) rfl (k_X2_pass (isSt_of s4) h) (by omega) rfl rfl (Nat.le_of_ble_eq_true rfl) dX6_worthBehind_37 rfl (fun r6 σ5 h => ?_)
  refine Rf_istore X (i := 6) (Nat.le_of_ble_eq_true rfl) (ls2 := [(6, .int r6), (0, .ref 20), (1, .int x1), (2, .int x2), (3, .int x3), (4, .int x4), (5, .int x5)]) rfl dX6_worthBehind_40 rfl ?_
  refine Rf_iload X (j := 0) rfl dX6_worthBehind_42 rfl ?_
  refine Rf_aload_n X (j := 1) rfl rfl dX6_worthBehind_44 rfl ?_
  refine Rf_iload_n X (j := 2) rfl rfl dX6_worthBehind_45 rfl ?_
  refine Rf_iconst X (v := 1) rfl dX6_worthBehind_46 rfl ?_
  refine Rf_iadd X dX6_worthBehind_47 rfl ?_
  refine Rf_iload_n X (j := 3) rfl rfl dX6_worthBehind_48 rfl ?_
  refine Rf_iload X (j := 6) rfl dX6_worthBehind_49 rfl ?_
  refine Rf_iload X (j := 5) rfl dX6_worthBehind_51 rfl ?_
  refine Rf_cVi (as := [.int (x1 + 1), .int x2, .int x5, .int x4]) (st := [.int r6]) X mi_X6_worthFrom lm_X6_93 rfl (Nat.le_of_ble_eq_true rfl) rfl (hκ_X6_worthFrom _ _ _ _ _ _ h) (Nat.le_refl _) rfl rfl (Nat.le_of_ble_eq_true rfl) dX6_worthBehind_53 rfl (fun r8 σ7 h => ?_)
  refine Rf_isub X dX6_worthBehind_56 rfl ?_
  exact Rf_iret X rfl dX6_worthBehind_57 ⟨_, rfl, h⟩
def wj_X6_worthFrom_52 (κ_X6_worthBehind : rfS → Int32 → Int32 → Int32 → Int32 → Int32 → (Int32 → rfS → Prop) → Prop) (Q : Int32 → rfS → Prop) (x5 : Int32) (x6 : Int32) (σ : rfS) : Prop :=
  Q (if x5 < x6 then x6 else x5) σ
set_option maxRecDepth 20000 in
theorem sj_X6_worthFrom_52 {d : Nat} {E : rfE} {Q : Int32 → rfS → Prop} (X : rfX ΛC E yX6_worthFrom cX6_worthFrom 7 (some .int)) {κ_X6_worthBehind : rfS → Int32 → Int32 → Int32 → Int32 → Int32 → (Int32 → rfS → Prop) → Prop} (hκ_X6_worthBehind : ∀ (σ : rfS) (x1 : Int32) (x2 : Int32) (x3 : Int32) (x4 : Int32) (x5 : Int32) (Q : Int32 → rfS → Prop), κ_X6_worthBehind σ x1 x2 x3 x4 x5 Q → RM ΛC d yX6_worthBehind cX6_worthBehind 7 (some .int) [.ref 20, .int x1, .int x2, .int x3, .int x4, .int x5] σ (qi Q)) (hB : 0 ≤ d) (x5 : Int32) (x6 : Int32) (σ : rfS) (h : wj_X6_worthFrom_52 κ_X6_worthBehind Q x5 x6 σ) : Rf ΛC (d + 1) E 7 (qi Q) 52 [(5, .int x5), (6, .int x6)] [] σ := by
  unfold wj_X6_worthFrom_52 at h
  refine Rf_iload X (j := 0) rfl dX6_worthFrom_52 rfl ?_
  refine Rf_iload X (j := 1) rfl dX6_worthFrom_54 rfl ?_
  refine Rf_max X lm_X6_104 mm_max.1 mm_max.2.1 mm_max.2.2 (Nat.le_add_left 1 d) (Nat.le_of_ble_eq_true rfl) dX6_worthFrom_56 rfl ?_
  exact Rf_iret X rfl dX6_worthFrom_59 ⟨_, rfl, h⟩
def wj_X6_worthFrom_49 (κ_X6_worthBehind : rfS → Int32 → Int32 → Int32 → Int32 → Int32 → (Int32 → rfS → Prop) → Prop) (Q : Int32 → rfS → Prop) (x5 : Int32) (x6 : Int32) (xs0 : Int32) (σ : rfS) : Prop :=
  (rfZ xs0) ∧ (wj_X6_worthFrom_52 κ_X6_worthBehind Q x5 x6 (sI σ 20 3 xs0))
set_option maxRecDepth 20000 in
theorem sj_X6_worthFrom_49 {d : Nat} {E : rfE} {Q : Int32 → rfS → Prop} (X : rfX ΛC E yX6_worthFrom cX6_worthFrom 7 (some .int)) {κ_X6_worthBehind : rfS → Int32 → Int32 → Int32 → Int32 → Int32 → (Int32 → rfS → Prop) → Prop} (hκ_X6_worthBehind : ∀ (σ : rfS) (x1 : Int32) (x2 : Int32) (x3 : Int32) (x4 : Int32) (x5 : Int32) (Q : Int32 → rfS → Prop), κ_X6_worthBehind σ x1 x2 x3 x4 x5 Q → RM ΛC d yX6_worthBehind cX6_worthBehind 7 (some .int) [.ref 20, .int x1, .int x2, .int x3, .int x4, .int x5] σ (qi Q)) (hB : 0 ≤ d) (x5 : Int32) (x6 : Int32) (xs0 : Int32) (σ : rfS) (h : wj_X6_worthFrom_49 κ_X6_worthBehind Q x5 x6 xs0 σ) : Rf ΛC (d + 1) E 7 (qi Q) 49 [(5, .int x5), (6, .int x6)] [.int xs0, .ref 20] σ := by
  unfold wj_X6_worthFrom_49 at h
  obtain ⟨s5, h⟩ := h
  refine Rf_put X kc6 (Nat.le_of_ble_eq_true rfl) rfl (j := 3) (Nat.le_of_ble_eq_true rfl) rfl lf_X6_101 rfl (rfZ_n s5) (rfZ_f s5) dX6_worthFrom_49 rfl ?_
  exact sj_X6_worthFrom_52 X hκ_X6_worthBehind hB _ _ _ h
def wp_X6_worthFrom (κ_X6_worthBehind : rfS → Int32 → Int32 → Int32 → Int32 → Int32 → (Int32 → rfS → Prop) → Prop) (σ : rfS) (x1 : Int32) (x2 : Int32) (x3 : Int32) (x4 : Int32) (Q : Int32 → rfS → Prop) : Prop :=
  ((x1 < x2 → κ_X6_worthBehind σ x1 x2 7 x3 x4 (fun (r2 : Int32) (σ1 : rfS) => κ_X6_worthBehind σ1 x1 x2 x3 x3 x4 (fun (r4 : Int32) (σ3 : rfS) => ((¬ x1 = 0 → wj_X6_worthFrom_52 κ_X6_worthBehind Q r2 r4 σ3) ∧ (x1 = 0 → ((r4 ≤ r2 → wj_X6_worthFrom_49 κ_X6_worthBehind Q r2 r4 0 σ3) ∧ (¬ (r4 ≤ r2) → wj_X6_worthFrom_49 κ_X6_worthBehind Q r2 r4 1 σ3))))))) ∧ (¬ (x1 < x2) → Q 0 σ))
set_option maxRecDepth 20000 in
theorem k_X6_worthFrom {d : Nat} {κ_X6_worthBehind : rfS → Int32 → Int32 → Int32 → Int32 → Int32 → (Int32 → rfS → Prop) → Prop} (hκ_X6_worthBehind : ∀ (σ : rfS) (x1 : Int32) (x2 : Int32) (x3 : Int32) (x4 : Int32) (x5 : Int32) (Q : Int32 → rfS → Prop), κ_X6_worthBehind σ x1 x2 x3 x4 x5 Q → RM ΛC d yX6_worthBehind cX6_worthBehind 7 (some .int) [.ref 20, .int x1, .int x2, .int x3, .int x4, .int x5] σ (qi Q)) (hB : 0 ≤ d) {σ : rfS} {x1 : Int32} {x2 : Int32} {x3 : Int32} {x4 : Int32} {Q : Int32 → rfS → Prop} (h : wp_X6_worthFrom κ_X6_worthBehind σ x1 x2 x3 x4 Q) : RM ΛC (d + 1) yX6_worthFrom cX6_worthFrom 7 (some .int) [.ref 20, .int x1, .int x2, .int x3, .int x4] σ (qi Q) := by
  unfold wp_X6_worthFrom at h
  refine RM.intro (by decide) (Nat.le_of_ble_eq_true rfl) (fun E X => ?_)
  show Rf ΛC (d + 1) E 7 (qi Q) 0 [(0, .ref 20), (1, .int x1), (2, .int x2), (3, .int x3), (4, .int x4)] [] σ
  refine Rf_iload_n X (j := 1) rfl rfl dX6_worthFrom_0 rfl ?_
  refine Rf_iload_n X (j := 2) rfl rfl dX6_worthFrom_1 rfl ?_
  refine Rf_icmp_lt X (tgt := 7) dX6_worthFrom_2 rfl rfl (fun c8 => ?_) (fun c8 => ?_)
  · have h := h.1 c8
    refine Rf_aload_n X (j := 0) rfl rfl dX6_worthFrom_7 rfl ?_
    refine Rf_iload_n X (j := 1) rfl rfl dX6_worthFrom_8 rfl ?_
    refine Rf_iload_n X (j := 2) rfl rfl dX6_worthFrom_9 rfl ?_
    refine Rf_bipush X (v := 7) rfl dX6_worthFrom_10 rfl ?_
    refine Rf_iload_n X (j := 3) rfl rfl dX6_worthFrom_12 rfl ?_
    refine Rf_iload X (j := 4) rfl dX6_worthFrom_13 rfl ?_
    refine Rf_cVi (as := [.int x1, .int x2, .int 7, .int x3, .int x4]) (st := []) X mi_X6_worthBehind lm_X6_97 rfl (Nat.le_of_ble_eq_true rfl) rfl (hκ_X6_worthBehind _ _ _ _ _ _ _ h) (Nat.le_refl _) rfl rfl (Nat.le_of_ble_eq_true rfl) dX6_worthFrom_15 rfl (fun r2 σ1 h => ?_)
    refine Rf_istore X (i := 5) (Nat.le_of_ble_eq_true rfl) (ls2 := [(5, .int r2), (0, .ref 20), (1, .int x1), (2, .int x2), (3, .int x3), (4, .int x4)]) rfl dX6_worthFrom_18 rfl ?_
    refine Rf_aload_n X (j := 1) rfl rfl dX6_worthFrom_20 rfl ?_
    refine Rf_iload_n X (j := 2) rfl rfl dX6_worthFrom_21 rfl ?_
    refine Rf_iload_n X (j := 3) rfl rfl dX6_worthFrom_22 rfl ?_
    refine Rf_iload_n X (j := 4) rfl rfl dX6_worthFrom_23 rfl ?_
    refine Rf_iload_n X (j := 4) rfl rfl dX6_worthFrom_24 rfl ?_
    refine Rf_iload X (j := 5) rfl dX6_worthFrom_25 rfl ?_
    refine Rf_cVi (as := [.int x1, .int x2, .int x3, .int x3, .int x4]) (st := []) X mi_X6_worthBehind lm_X6_97 rfl (Nat.le_of_ble_eq_true rfl) rfl (hκ_X6_worthBehind _ _ _ _ _ _ _ h) (Nat.le_refl _) rfl rfl (Nat.le_of_ble_eq_true rfl) dX6_worthFrom_27 rfl (fun r4 σ3 h => ?_)
    refine Rf_istore X (i := 6) (Nat.le_of_ble_eq_true rfl) (ls2 := [(6, .int r4), (5, .int r2), (0, .ref 20), (1, .int x1), (2, .int x2), (3, .int x3), (4, .int x4)]) rfl dX6_worthFrom_30 rfl ?_
    refine Rf_iload_n X (j := 3) rfl rfl dX6_worthFrom_32 rfl ?_
    refine Rf_if_ne X (tgt := 52) dX6_worthFrom_33 rfl rfl (fun c7 => ?_) (fun c7 => ?_)
    · have h := h.1 c7
      refine Rf_sub [1, 0] rfl ?_
      exact sj_X6_worthFrom_52 X hκ_X6_worthBehind hB _ _ _ h
    · have h := h.2 c7
      refine Rf_aload_n X (j := 2) rfl rfl dX6_worthFrom_36 rfl ?_
      refine Rf_iload X (j := 0) rfl dX6_worthFrom_37 rfl ?_
      refine Rf_iload X (j := 1) rfl dX6_worthFrom_39 rfl ?_
      refine Rf_icmp_le X (tgt := 48) dX6_worthFrom_41 rfl rfl (fun c6 => ?_) (fun c6 => ?_)
      · have h := h.1 c6
        refine Rf_iconst X (v := 0) rfl dX6_worthFrom_48 rfl ?_
        refine Rf_sub [1, 0] rfl ?_
        exact sj_X6_worthFrom_49 X hκ_X6_worthBehind hB _ _ _ _ h
      · have h := h.2 c6
        refine Rf_iconst X (v := 1) rfl dX6_worthFrom_44 rfl ?_
        refine Rf_goto X (tgt := 49) dX6_worthFrom_45 rfl ?_
        refine Rf_sub [1, 0] rfl ?_
        exact sj_X6_worthFrom_49 X hκ_X6_worthBehind hB _ _ _ _ h
  · have h := h.2 c8
    refine Rf_iconst X (v := 0) rfl dX6_worthFrom_5 rfl ?_
    exact Rf_iret X rfl dX6_worthFrom_6 ⟨_, rfl, h⟩
def wp_X6_worthOfTurns (κ_X6_worthFrom : rfS → Int32 → Int32 → Int32 → Int32 → (Int32 → rfS → Prop) → Prop) (σ : rfS) (a1 : Nat) (x2 : Int32) (x3 : Int32) (x4 : Int32) (Q : Int32 → rfS → Prop) : Prop :=
  wp_X5_copyFrom σ 26 a1 (gI σ 1 0) (fun (σ1 : rfS) => κ_X6_worthFrom σ1 0 x2 x3 x4 (fun (r3 : Int32) (σ2 : rfS) => Q r3 σ2))
set_option maxRecDepth 20000 in
theorem k_X6_worthOfTurns {d : Nat} {κ_X6_worthFrom : rfS → Int32 → Int32 → Int32 → Int32 → (Int32 → rfS → Prop) → Prop} (hκ_X6_worthFrom : ∀ (σ : rfS) (x1 : Int32) (x2 : Int32) (x3 : Int32) (x4 : Int32) (Q : Int32 → rfS → Prop), κ_X6_worthFrom σ x1 x2 x3 x4 Q → RM ΛC d yX6_worthFrom cX6_worthFrom 7 (some .int) [.ref 20, .int x1, .int x2, .int x3, .int x4] σ (qi Q)) (hB : 1 ≤ d) {σ : rfS} {a1 : Nat} {x2 : Int32} {x3 : Int32} {x4 : Int32} {Q : Int32 → rfS → Prop} (ha1 : isSt a1) (h : wp_X6_worthOfTurns κ_X6_worthFrom σ a1 x2 x3 x4 Q) : RM ΛC (d + 1) yX6_worthOfTurns cX6_worthOfTurns 5 (some .int) [.ref 20, .ref a1, .int x2, .int x3, .int x4] σ (qi Q) := by
  unfold wp_X6_worthOfTurns at h
  refine RM.intro (by decide) (Nat.le_of_ble_eq_true rfl) (fun E X => ?_)
  show Rf ΛC (d + 1) E 5 (qi Q) 0 [(0, .ref 20), (1, .ref a1), (2, .int x2), (3, .int x3), (4, .int x4)] [] σ
  refine Rf_aload_n X (j := 0) rfl rfl dX6_worthOfTurns_0 rfl ?_
  refine Rf_get X kc6 (Nat.le_of_ble_eq_true rfl) rfl (j := 5) (Nat.le_of_ble_eq_true rfl) lf_X6_17 (v := .ref 22) rfl dX6_worthOfTurns_1 rfl ?_
  refine Rf_iconst X (v := 0) rfl dX6_worthOfTurns_4 rfl ?_
  refine Rf_aaload2 X (Nat.le_of_ble_eq_true rfl) rfl rfl (by unfold vp_in; decide) dX6_worthOfTurns_5 rfl ?_
  refine Rf_aload_n X (j := 1) rfl rfl dX6_worthOfTurns_6 rfl ?_
  refine Rf_aload_n X (j := 0) rfl rfl dX6_worthOfTurns_7 rfl ?_
  refine Rf_get X kc6 (Nat.le_of_ble_eq_true rfl) rfl (j := 4) (Nat.le_of_ble_eq_true rfl) lf_X6_30 (v := .ref 1) rfl dX6_worthOfTurns_8 rfl ?_
  refine Rf_get X kc2 (Nat.le_of_ble_eq_true rfl) rfl (j := 0) (Nat.le_of_ble_eq_true rfl) lf_X6_35 (v := .int (gI σ 1 0)) rfl dX6_worthOfTurns_11 rfl ?_
  refine Rf_cVv (as := [.ref a1, .int (gI σ 1 0)]) (st := []) X mi_X5_copyFrom lm_X6_41 rfl (Nat.le_of_ble_eq_true rfl) rfl (k_X5_copyFrom (by unfold isSt; decide) ha1 h) (by omega) rfl rfl (Nat.le_of_ble_eq_true rfl) dX6_worthOfTurns_14 rfl (fun σ1 h => ?_)
  refine Rf_aload_n X (j := 0) rfl rfl dX6_worthOfTurns_17 rfl ?_
  refine Rf_iconst X (v := 0) rfl dX6_worthOfTurns_18 rfl ?_
  refine Rf_iload_n X (j := 2) rfl rfl dX6_worthOfTurns_19 rfl ?_
  refine Rf_iload_n X (j := 3) rfl rfl dX6_worthOfTurns_20 rfl ?_
  refine Rf_iload X (j := 4) rfl dX6_worthOfTurns_21 rfl ?_
  refine Rf_cVi (as := [.int 0, .int x2, .int x3, .int x4]) (st := []) X mi_X6_worthFrom lm_X6_93 rfl (Nat.le_of_ble_eq_true rfl) rfl (hκ_X6_worthFrom _ _ _ _ _ _ h) (Nat.le_refl _) rfl rfl (Nat.le_of_ble_eq_true rfl) dX6_worthOfTurns_23 rfl (fun r3 σ2 h => ?_)
  exact Rf_iret X rfl dX6_worthOfTurns_26 ⟨_, rfl, h⟩
def wp_X6_drawnBy (σ : rfS) (x1 : Int32) (x2 : Int32) (Q : Int32 → rfS → Prop) : Prop :=
  (((gI σ 1 0) = 0 → Q 7 σ) ∧ (¬ (gI σ 1 0) = 0 → ((x2 ≤ (((x1.toUInt32 >>> ((16 : Int32).toUInt32 &&& Int32.toUInt32 31)).toInt32) - ((x1.toUInt32 >>> ((16 : Int32).toUInt32 &&& Int32.toUInt32 31)).toInt32) / 12 * 12) → (¬ (gI σ 1 0) = 0) ∧ Q (((x1.toUInt32 >>> ((8 : Int32).toUInt32 &&& Int32.toUInt32 31)).toInt32) - ((x1.toUInt32 >>> ((8 : Int32).toUInt32 &&& Int32.toUInt32 31)).toInt32) / (gI σ 1 0) * (gI σ 1 0)) σ) ∧ (¬ (x2 ≤ (((x1.toUInt32 >>> ((16 : Int32).toUInt32 &&& Int32.toUInt32 31)).toInt32) - ((x1.toUInt32 >>> ((16 : Int32).toUInt32 &&& Int32.toUInt32 31)).toInt32) / 12 * 12)) → Q 7 σ))))
set_option maxRecDepth 20000 in
theorem k_X6_drawnBy {σ : rfS} {x1 : Int32} {x2 : Int32} {Q : Int32 → rfS → Prop} (h : wp_X6_drawnBy σ x1 x2 Q) : RM ΛC 0 yX6_drawnBy cX6_drawnBy 3 (some .int) [.ref 20, .int x1, .int x2] σ (qi Q) := by
  unfold wp_X6_drawnBy at h
  refine RM.intro (by decide) (Nat.le_of_ble_eq_true rfl) (fun E X => ?_)
  show Rf ΛC 0 E 3 (qi Q) 0 [(0, .ref 20), (1, .int x1), (2, .int x2)] [] σ
  refine Rf_aload_n X (j := 0) rfl rfl dX6_drawnBy_0 rfl ?_
  refine Rf_get X kc6 (Nat.le_of_ble_eq_true rfl) rfl (j := 4) (Nat.le_of_ble_eq_true rfl) lf_X6_30 (v := .ref 1) rfl dX6_drawnBy_1 rfl ?_
  refine Rf_get X kc2 (Nat.le_of_ble_eq_true rfl) rfl (j := 0) (Nat.le_of_ble_eq_true rfl) lf_X6_35 (v := .int (gI σ 1 0)) rfl dX6_drawnBy_4 rfl ?_
  refine Rf_if_eq X (tgt := 21) dX6_drawnBy_7 rfl rfl (fun c3 => ?_) (fun c3 => ?_)
  · have h := h.1 c3
    refine Rf_bipush X (v := 7) rfl dX6_drawnBy_21 rfl ?_
    exact Rf_iret X rfl dX6_drawnBy_23 ⟨_, rfl, h⟩
  · have h := h.2 c3
    refine Rf_iload_n X (j := 1) rfl rfl dX6_drawnBy_10 rfl ?_
    refine Rf_bipush X (v := 16) rfl dX6_drawnBy_11 rfl ?_
    refine Rf_iushr X dX6_drawnBy_13 rfl ?_
    refine Rf_bipush X (v := 12) rfl dX6_drawnBy_14 rfl ?_
    refine Rf_irem X (by decide) dX6_drawnBy_16 rfl ?_
    refine Rf_iload_n X (j := 2) rfl rfl dX6_drawnBy_17 rfl ?_
    refine Rf_icmp_ge X (tgt := 24) dX6_drawnBy_18 rfl rfl (fun c2 => ?_) (fun c2 => ?_)
    · have h := h.1 c2
      refine Rf_iload_n X (j := 1) rfl rfl dX6_drawnBy_24 rfl ?_
      refine Rf_bipush X (v := 8) rfl dX6_drawnBy_25 rfl ?_
      refine Rf_iushr X dX6_drawnBy_27 rfl ?_
      refine Rf_aload_n X (j := 0) rfl rfl dX6_drawnBy_28 rfl ?_
      refine Rf_get X kc6 (Nat.le_of_ble_eq_true rfl) rfl (j := 4) (Nat.le_of_ble_eq_true rfl) lf_X6_30 (v := .ref 1) rfl dX6_drawnBy_29 rfl ?_
      refine Rf_get X kc2 (Nat.le_of_ble_eq_true rfl) rfl (j := 0) (Nat.le_of_ble_eq_true rfl) lf_X6_35 (v := .int (gI σ 1 0)) rfl dX6_drawnBy_32 rfl ?_
      obtain ⟨s1, h⟩ := h
      refine Rf_irem X s1 dX6_drawnBy_35 rfl ?_
      exact Rf_iret X rfl dX6_drawnBy_36 ⟨_, rfl, h⟩
    · have h := h.2 c2
      refine Rf_bipush X (v := 7) rfl dX6_drawnBy_21 rfl ?_
      exact Rf_iret X rfl dX6_drawnBy_23 ⟨_, rfl, h⟩
def wl_X6_draw_38 (Q : Int32 → rfS → Prop) (kx_109 : Nat → Int32 → Int32 → Int32 → Int32 → Int32 → Int32 → Int32 → Int32 → rfS → Prop) : Nat → Nat → Int32 → Int32 → Int32 → Int32 → Int32 → Int32 → Int32 → Int32 → Int32 → rfS → Prop
  | 0, _, _, _, _, _, _, _, _, _, _, _ => False
  | n + 1, a1, x3, x4, x5, x6, x7, x8, x9, x10, x11, σ => ((x4 ≤ x11 → kx_109 a1 x3 x4 x5 x6 x7 x8 x9 x10 σ) ∧ (¬ (x4 ≤ x11) → wp_X6_drawnBy σ ((x7 * 1103515245) + 12345) x5 (fun (r3 : Int32) (σ2 : rfS) => wp_X2_pass σ2 26 r3 (fun (r5 : Int32) (σ4 : rfS) => ((¬ r3 = x6 → wl_X6_draw_38 Q kx_109 n a1 x3 x4 x5 x6 ((x7 * 1103515245) + 12345) (x8 + r5) (x9 + 0) x10 (x11 + 1) σ4) ∧ (r3 = x6 → wl_X6_draw_38 Q kx_109 n a1 x3 x4 x5 x6 ((x7 * 1103515245) + 12345) (x8 + r5) (x9 + 1) x10 (x11 + 1) σ4))))))
set_option maxRecDepth 20000 in
theorem sl_X6_draw_38 {E : rfE} {Q : Int32 → rfS → Prop} (X : rfX ΛC E yX6_draw cX6_draw 13 (some .int)) {kx_109 : Nat → Int32 → Int32 → Int32 → Int32 → Int32 → Int32 → Int32 → Int32 → rfS → Prop} (hkx_109 : ∀ (a1 : Nat) (x3 : Int32) (x4 : Int32) (x5 : Int32) (x6 : Int32) (x7 : Int32) (x8 : Int32) (x9 : Int32) (x10 : Int32) (σ : rfS), isSt a1 → kx_109 a1 x3 x4 x5 x6 x7 x8 x9 x10 σ → Rf ΛC 4 E 13 (qi Q) 109 [(0, .ref 20), (1, .ref a1), (3, .int x3), (4, .int x4), (5, .int x5), (6, .int x6), (7, .int x7), (8, .int x8), (9, .int x9), (10, .int x10)] [] σ) : ∀ (n : Nat) (a1 : Nat) (x3 : Int32) (x4 : Int32) (x5 : Int32) (x6 : Int32) (x7 : Int32) (x8 : Int32) (x9 : Int32) (x10 : Int32) (x11 : Int32) (σ : rfS), isSt a1 → wl_X6_draw_38 Q kx_109 n a1 x3 x4 x5 x6 x7 x8 x9 x10 x11 σ → Rf ΛC 4 E 13 (qi Q) 38 [(0, .ref 20), (1, .ref a1), (3, .int x3), (4, .int x4), (5, .int x5), (6, .int x6), (7, .int x7), (8, .int x8), (9, .int x9), (10, .int x10), (11, .int x11)] [] σ := by
  intro n
  induction n with
  | zero =>
    intro a1 x3 x4 x5 x6 x7 x8 x9 x10 x11 σ ha1 h
    exact False.elim h
  | succ n hkb_38 =>
    intro a1 x3 x4 x5 x6 x7 x8 x9 x10 x11 σ ha1 h
    unfold wl_X6_draw_38 at h
    refine Rf_iload X (j := 10) rfl dX6_draw_38 rfl ?_
    refine Rf_iload X (j := 3) rfl dX6_draw_40 rfl ?_
    refine Rf_icmp_ge X (tgt := 109) dX6_draw_42 rfl rfl (fun c7 => ?_) (fun c7 => ?_)
    · have h := h.1 c7
      refine Rf_sub [0, 1, 2, 3, 4, 5, 6, 7, 8, 9] rfl ?_
      exact hkx_109 _ _ _ _ _ _ _ _ _ σ ha1 h
    · have h := h.2 c7
      refine Rf_iload X (j := 6) rfl dX6_draw_45 rfl ?_
      refine Rf_ldc X lc_X6_107 dX6_draw_47 rfl ?_
      refine Rf_imul X dX6_draw_49 rfl ?_
      refine Rf_sipush X (v := 12345) rfl dX6_draw_50 rfl ?_
      refine Rf_iadd X dX6_draw_53 rfl ?_
      refine Rf_istore X (i := 7) (Nat.le_of_ble_eq_true rfl) (ls2 := [(7, .int ((x7 * 1103515245) + 12345)), (0, .ref 20), (1, .ref a1), (3, .int x3), (4, .int x4), (5, .int x5), (6, .int x6), (8, .int x8), (9, .int x9), (10, .int x10), (11, .int x11)]) rfl dX6_draw_54 rfl ?_
      refine Rf_aload_n X (j := 1) rfl rfl dX6_draw_56 rfl ?_
      refine Rf_iload X (j := 0) rfl dX6_draw_57 rfl ?_
      refine Rf_iload X (j := 5) rfl dX6_draw_59 rfl ?_
      refine Rf_cVi (as := [.int ((x7 * 1103515245) + 12345), .int x5]) (st := []) X mi_X6_drawnBy lm_X6_108 rfl (Nat.le_of_ble_eq_true rfl) rfl (k_X6_drawnBy h) (Nat.le_of_ble_eq_true rfl) rfl rfl (Nat.le_of_ble_eq_true rfl) dX6_draw_61 rfl (fun r3 σ2 h => ?_)
      refine Rf_istore X (i := 12) (Nat.le_of_ble_eq_true rfl) (ls2 := [(12, .int r3), (7, .int ((x7 * 1103515245) + 12345)), (0, .ref 20), (1, .ref a1), (3, .int x3), (4, .int x4), (5, .int x5), (6, .int x6), (8, .int x8), (9, .int x9), (10, .int x10), (11, .int x11)]) rfl dX6_draw_64 rfl ?_
      refine Rf_iload X (j := 8) rfl dX6_draw_66 rfl ?_
      refine Rf_aload_n X (j := 2) rfl rfl dX6_draw_68 rfl ?_
      refine Rf_get X kc6 (Nat.le_of_ble_eq_true rfl) rfl (j := 4) (Nat.le_of_ble_eq_true rfl) lf_X6_30 (v := .ref 1) rfl dX6_draw_69 rfl ?_
      refine Rf_aload_n X (j := 2) rfl rfl dX6_draw_72 rfl ?_
      refine Rf_get X kc6 (Nat.le_of_ble_eq_true rfl) rfl (j := 5) (Nat.le_of_ble_eq_true rfl) lf_X6_17 (v := .ref 22) rfl dX6_draw_73 rfl ?_
      refine Rf_iconst X (v := 0) rfl dX6_draw_76 rfl ?_
      refine Rf_aaload2 X (Nat.le_of_ble_eq_true rfl) rfl rfl (by unfold vp_in; decide) dX6_draw_77 rfl ?_
      refine Rf_iload X (j := 0) rfl dX6_draw_78 rfl ?_
      refine Rf_cVi (as := [.ref 26, .int r3]) (st := [.int x8]) X mi_X2_pass lm_X6_61 rfl (Nat.le_of_ble_eq_true rfl) rfl (k_X2_pass (by unfold isSt; decide) h) (Nat.le_of_ble_eq_true rfl) rfl rfl (Nat.le_of_ble_eq_true rfl) dX6_draw_80 rfl (fun r5 σ4 h => ?_)
      refine Rf_iadd X dX6_draw_83 rfl ?_
      refine Rf_istore X (i := 8) (Nat.le_of_ble_eq_true rfl) (ls2 := [(8, .int (x8 + r5)), (12, .int r3), (7, .int ((x7 * 1103515245) + 12345)), (0, .ref 20), (1, .ref a1), (3, .int x3), (4, .int x4), (5, .int x5), (6, .int x6), (9, .int x9), (10, .int x10), (11, .int x11)]) rfl dX6_draw_84 rfl ?_
      refine Rf_iload X (j := 9) rfl dX6_draw_86 rfl ?_
      refine Rf_iload X (j := 1) rfl dX6_draw_88 rfl ?_
      refine Rf_iload X (j := 8) rfl dX6_draw_90 rfl ?_
      refine Rf_icmp_ne X (tgt := 99) dX6_draw_92 rfl rfl (fun c6 => ?_) (fun c6 => ?_)
      · have h := h.1 c6
        refine Rf_iconst X (v := 0) rfl dX6_draw_99 rfl ?_
        refine Rf_iadd X dX6_draw_100 rfl ?_
        refine Rf_istore X (i := 9) (Nat.le_of_ble_eq_true rfl) (ls2 := [(9, .int (x9 + 0)), (8, .int (x8 + r5)), (12, .int r3), (7, .int ((x7 * 1103515245) + 12345)), (0, .ref 20), (1, .ref a1), (3, .int x3), (4, .int x4), (5, .int x5), (6, .int x6), (10, .int x10), (11, .int x11)]) rfl dX6_draw_101 rfl ?_
        refine Rf_iinc X (i := 11) (j := 11) (v := x11 + 1) rfl rfl (Nat.le_of_ble_eq_true rfl) (ls2 := [(11, .int (x11 + 1)), (9, .int (x9 + 0)), (8, .int (x8 + r5)), (12, .int r3), (7, .int ((x7 * 1103515245) + 12345)), (0, .ref 20), (1, .ref a1), (3, .int x3), (4, .int x4), (5, .int x5), (6, .int x6), (10, .int x10)]) rfl dX6_draw_103 rfl ?_
        refine Rf_goto X (tgt := 38) dX6_draw_106 rfl ?_
        refine Rf_sub [5, 6, 7, 8, 9, 10, 4, 2, 1, 11, 0] rfl ?_
        exact hkb_38 _ _ _ _ _ _ _ _ _ _ σ4 ha1 h
      · have h := h.2 c6
        refine Rf_iconst X (v := 1) rfl dX6_draw_95 rfl ?_
        refine Rf_goto X (tgt := 100) dX6_draw_96 rfl ?_
        refine Rf_iadd X dX6_draw_100 rfl ?_
        refine Rf_istore X (i := 9) (Nat.le_of_ble_eq_true rfl) (ls2 := [(9, .int (x9 + 1)), (8, .int (x8 + r5)), (12, .int r3), (7, .int ((x7 * 1103515245) + 12345)), (0, .ref 20), (1, .ref a1), (3, .int x3), (4, .int x4), (5, .int x5), (6, .int x6), (10, .int x10), (11, .int x11)]) rfl dX6_draw_101 rfl ?_
        refine Rf_iinc X (i := 11) (j := 11) (v := x11 + 1) rfl rfl (Nat.le_of_ble_eq_true rfl) (ls2 := [(11, .int (x11 + 1)), (9, .int (x9 + 1)), (8, .int (x8 + r5)), (12, .int r3), (7, .int ((x7 * 1103515245) + 12345)), (0, .ref 20), (1, .ref a1), (3, .int x3), (4, .int x4), (5, .int x5), (6, .int x6), (10, .int x10)]) rfl dX6_draw_103 rfl ?_
        refine Rf_goto X (tgt := 38) dX6_draw_106 rfl ?_
        refine Rf_sub [5, 6, 7, 8, 9, 10, 4, 2, 1, 11, 0] rfl ?_
        exact hkb_38 _ _ _ _ _ _ _ _ _ _ σ4 ha1 h
def wl_X6_draw_12 (Q : Int32 → rfS → Prop) (kx_115 : Int32 → Int32 → Int32 → rfS → Prop) : Nat → Nat → Int32 → Int32 → Int32 → Int32 → Int32 → Int32 → Int32 → Int32 → rfS → Prop
  | 0, _, _, _, _, _, _, _, _, _, _ => False
  | n + 1, a1, x3, x4, x5, x6, x7, x8, x9, x10, σ => ((x3 ≤ x10 → kx_115 x6 x8 x9 σ) ∧ (¬ (x3 ≤ x10) → wp_X5_copyFrom σ 26 a1 (gI σ 1 0) (fun (σ1 : rfS) => (∃ n8, wl_X6_draw_38 Q (fun (a1_9 : Nat) (x3_10 : Int32) (x4_11 : Int32) (x5_12 : Int32) (x6_13 : Int32) (x7_14 : Int32) (x8_15 : Int32) (x9_16 : Int32) (x10_17 : Int32) (σ18 : rfS) => wl_X6_draw_12 Q kx_115 n a1_9 x3_10 x4_11 x5_12 x6_13 x7_14 x8_15 x9_16 (x10_17 + 1) σ18) n8 a1 x3 x4 x5 x6 x7 x8 x9 x10 0 σ1))))
set_option maxRecDepth 20000 in
theorem sl_X6_draw_12 {E : rfE} {Q : Int32 → rfS → Prop} (X : rfX ΛC E yX6_draw cX6_draw 13 (some .int)) {kx_115 : Int32 → Int32 → Int32 → rfS → Prop} (hkx_115 : ∀ (x6 : Int32) (x8 : Int32) (x9 : Int32) (σ : rfS), kx_115 x6 x8 x9 σ → Rf ΛC 4 E 13 (qi Q) 115 [(6, .int x6), (8, .int x8), (9, .int x9)] [] σ) : ∀ (n : Nat) (a1 : Nat) (x3 : Int32) (x4 : Int32) (x5 : Int32) (x6 : Int32) (x7 : Int32) (x8 : Int32) (x9 : Int32) (x10 : Int32) (σ : rfS), isSt a1 → wl_X6_draw_12 Q kx_115 n a1 x3 x4 x5 x6 x7 x8 x9 x10 σ → Rf ΛC 4 E 13 (qi Q) 12 [(0, .ref 20), (1, .ref a1), (3, .int x3), (4, .int x4), (5, .int x5), (6, .int x6), (7, .int x7), (8, .int x8), (9, .int x9), (10, .int x10)] [] σ := by
  intro n
  induction n with
  | zero =>
    intro a1 x3 x4 x5 x6 x7 x8 x9 x10 σ ha1 h
    exact False.elim h
  | succ n hkb_12 =>
    intro a1 x3 x4 x5 x6 x7 x8 x9 x10 σ ha1 h
    unfold wl_X6_draw_12 at h
    refine Rf_iload X (j := 9) rfl dX6_draw_12 rfl ?_
    refine Rf_iload_n X (j := 2) rfl rfl dX6_draw_14 rfl ?_
    refine Rf_icmp_ge X (tgt := 115) dX6_draw_15 rfl rfl (fun c19 => ?_) (fun c19 => ?_)
    · have h := h.1 c19
      refine Rf_sub [5, 7, 8] rfl ?_
      exact hkx_115 _ _ _ σ h
    · have h := h.2 c19
      refine Rf_aload_n X (j := 0) rfl rfl dX6_draw_18 rfl ?_
      refine Rf_get X kc6 (Nat.le_of_ble_eq_true rfl) rfl (j := 5) (Nat.le_of_ble_eq_true rfl) lf_X6_17 (v := .ref 22) rfl dX6_draw_19 rfl ?_
      refine Rf_iconst X (v := 0) rfl dX6_draw_22 rfl ?_
      refine Rf_aaload2 X (Nat.le_of_ble_eq_true rfl) rfl rfl (by unfold vp_in; decide) dX6_draw_23 rfl ?_
      refine Rf_aload_n X (j := 1) rfl rfl dX6_draw_24 rfl ?_
      refine Rf_aload_n X (j := 0) rfl rfl dX6_draw_25 rfl ?_
      refine Rf_get X kc6 (Nat.le_of_ble_eq_true rfl) rfl (j := 4) (Nat.le_of_ble_eq_true rfl) lf_X6_30 (v := .ref 1) rfl dX6_draw_26 rfl ?_
      refine Rf_get X kc2 (Nat.le_of_ble_eq_true rfl) rfl (j := 0) (Nat.le_of_ble_eq_true rfl) lf_X6_35 (v := .int (gI σ 1 0)) rfl dX6_draw_29 rfl ?_
      refine Rf_cVv (as := [.ref a1, .int (gI σ 1 0)]) (st := []) X mi_X5_copyFrom lm_X6_41 rfl (Nat.le_of_ble_eq_true rfl) rfl (k_X5_copyFrom (by unfold isSt; decide) ha1 h) (Nat.le_of_ble_eq_true rfl) rfl rfl (Nat.le_of_ble_eq_true rfl) dX6_draw_32 rfl (fun σ1 h => ?_)
      refine Rf_iconst X (v := 0) rfl dX6_draw_35 rfl ?_
      refine Rf_istore X (i := 11) (Nat.le_of_ble_eq_true rfl) (ls2 := [(11, .int 0), (0, .ref 20), (1, .ref a1), (3, .int x3), (4, .int x4), (5, .int x5), (6, .int x6), (7, .int x7), (8, .int x8), (9, .int x9), (10, .int x10)]) rfl dX6_draw_36 rfl ?_
      obtain ⟨n8, h⟩ := h
      refine Rf_sub [1, 2, 3, 4, 5, 6, 7, 8, 9, 10, 0] rfl ?_
      refine sl_X6_draw_38 X (fun a1_9 x3_10 x4_11 x5_12 x6_13 x7_14 x8_15 x9_16 x10_17 σ18 ha1_9 h => ?_) n8 _ _ _ _ _ _ _ _ _ _ _ ha1 h
      · refine Rf_iinc X (i := 10) (j := 9) (v := x10_17 + 1) rfl rfl (Nat.le_of_ble_eq_true rfl) (ls2 := [(10, .int (x10_17 + 1)), (0, .ref 20), (1, .ref a1_9), (3, .int x3_10), (4, .int x4_11), (5, .int x5_12), (6, .int x6_13), (7, .int x7_14), (8, .int x8_15), (9, .int x9_16)]) rfl dX6_draw_109 rfl ?_
        refine Rf_goto X (tgt := 12) dX6_draw_112 rfl ?_
        refine Rf_sub [1, 2, 3, 4, 5, 6, 7, 8, 9, 0] rfl ?_
        exact hkb_12 _ _ _ _ _ _ _ _ _ σ18 ha1_9 h
def wp_X6_draw (σ : rfS) (a1 : Nat) (x2 : Int32) (x3 : Int32) (x4 : Int32) (x5 : Int32) (x6 : Int32) (Q : Int32 → rfS → Prop) : Prop :=
  (∃ n20, wl_X6_draw_12 Q (fun (x6_21 : Int32) (x8_22 : Int32) (x9_23 : Int32) (σ24 : rfS) => ((¬ x6_21 = (-1) → Q x9_23 σ24) ∧ (x6_21 = (-1) → Q x8_22 σ24))) n20 a1 x3 x4 x5 x6 x2 0 0 0 σ)
set_option maxRecDepth 20000 in
theorem k_X6_draw {σ : rfS} {a1 : Nat} {x2 : Int32} {x3 : Int32} {x4 : Int32} {x5 : Int32} {x6 : Int32} {Q : Int32 → rfS → Prop} (ha1 : isSt a1) (h : wp_X6_draw σ a1 x2 x3 x4 x5 x6 Q) : RM ΛC 4 yX6_draw cX6_draw 13 (some .int) [.ref 20, .ref a1, .int x2, .int x3, .int x4, .int x5, .int x6] σ (qi Q) := by
  unfold wp_X6_draw at h
  refine RM.intro (by decide) (Nat.le_of_ble_eq_true rfl) (fun E X => ?_)
  show Rf ΛC 4 E 13 (qi Q) 0 [(0, .ref 20), (1, .ref a1), (2, .int x2), (3, .int x3), (4, .int x4), (5, .int x5), (6, .int x6)] [] σ
  refine Rf_iload_n X (j := 2) rfl rfl dX6_draw_0 rfl ?_
  refine Rf_istore X (i := 7) (Nat.le_of_ble_eq_true rfl) (ls2 := [(7, .int x2), (0, .ref 20), (1, .ref a1), (2, .int x2), (3, .int x3), (4, .int x4), (5, .int x5), (6, .int x6)]) rfl dX6_draw_1 rfl ?_
  refine Rf_iconst X (v := 0) rfl dX6_draw_3 rfl ?_
  refine Rf_istore X (i := 8) (Nat.le_of_ble_eq_true rfl) (ls2 := [(8, .int 0), (7, .int x2), (0, .ref 20), (1, .ref a1), (2, .int x2), (3, .int x3), (4, .int x4), (5, .int x5), (6, .int x6)]) rfl dX6_draw_4 rfl ?_
  refine Rf_iconst X (v := 0) rfl dX6_draw_6 rfl ?_
  refine Rf_istore X (i := 9) (Nat.le_of_ble_eq_true rfl) (ls2 := [(9, .int 0), (8, .int 0), (7, .int x2), (0, .ref 20), (1, .ref a1), (2, .int x2), (3, .int x3), (4, .int x4), (5, .int x5), (6, .int x6)]) rfl dX6_draw_7 rfl ?_
  refine Rf_iconst X (v := 0) rfl dX6_draw_9 rfl ?_
  refine Rf_istore X (i := 10) (Nat.le_of_ble_eq_true rfl) (ls2 := [(10, .int 0), (9, .int 0), (8, .int 0), (7, .int x2), (0, .ref 20), (1, .ref a1), (2, .int x2), (3, .int x3), (4, .int x4), (5, .int x5), (6, .int x6)]) rfl dX6_draw_10 rfl ?_
  obtain ⟨n20, h⟩ := h
  refine Rf_sub [4, 5, 7, 8, 9, 10, 3, 2, 1, 0] rfl ?_
  refine sl_X6_draw_12 X (fun x6_21 x8_22 x9_23 σ24 h => ?_) n20 _ _ _ _ _ _ _ _ _ _ ha1 h
  · refine Rf_iload X (j := 0) rfl dX6_draw_115 rfl ?_
    refine Rf_iconst X (v := (-1)) (by decide) dX6_draw_117 rfl ?_
    refine Rf_icmp_ne X (tgt := 126) dX6_draw_118 rfl rfl (fun c25 => ?_) (fun c25 => ?_)
    · have h := h.1 c25
      refine Rf_iload X (j := 2) rfl dX6_draw_126 rfl ?_
      exact Rf_iret X rfl dX6_draw_128 ⟨_, rfl, h⟩
    · have h := h.2 c25
      refine Rf_iload X (j := 1) rfl dX6_draw_121 rfl ?_
      refine Rf_goto X (tgt := 128) dX6_draw_123 rfl ?_
      exact Rf_iret X rfl dX6_draw_128 ⟨_, rfl, h⟩
def wp_X6_groupOf (σ : rfS) (x0 : Int32) (Q : Int32 → rfS → Prop) : Prop :=
  ((¬ x0 = 7 → Q (1 <<< (x0 &&& 31)) σ) ∧ (x0 = 7 → Q 0 σ))
set_option maxRecDepth 20000 in
theorem k_X6_groupOf {σ : rfS} {x0 : Int32} {Q : Int32 → rfS → Prop} (h : wp_X6_groupOf σ x0 Q) : RM ΛC 0 yX6_groupOf cX6_groupOf 1 (some .int) [.int x0] σ (qi Q) := by
  unfold wp_X6_groupOf at h
  refine RM.intro (by decide) (Nat.le_of_ble_eq_true rfl) (fun E X => ?_)
  show Rf ΛC 0 E 1 (qi Q) 0 [(0, .int x0)] [] σ
  refine Rf_iload_n X (j := 0) rfl rfl dX6_groupOf_0 rfl ?_
  refine Rf_bipush X (v := 7) rfl dX6_groupOf_1 rfl ?_
  refine Rf_icmp_ne X (tgt := 10) dX6_groupOf_3 rfl rfl (fun c1 => ?_) (fun c1 => ?_)
  · have h := h.1 c1
    refine Rf_iconst X (v := 1) rfl dX6_groupOf_10 rfl ?_
    refine Rf_iload_n X (j := 0) rfl rfl dX6_groupOf_11 rfl ?_
    refine Rf_ishl X dX6_groupOf_12 rfl ?_
    exact Rf_iret X rfl dX6_groupOf_13 ⟨_, rfl, h⟩
  · have h := h.2 c1
    refine Rf_iconst X (v := 0) rfl dX6_groupOf_6 rfl ?_
    refine Rf_goto X (tgt := 13) dX6_groupOf_7 rfl ?_
    exact Rf_iret X rfl dX6_groupOf_13 ⟨_, rfl, h⟩
def wj_X6_dealtBy_11 (Q : Int32 → rfS → Prop) (x1 : Int32) (x2 : Int32) (x3 : Int32) (xs0 : Int32) (σ : rfS) : Prop :=
  wp_X6_groupOf σ x3 (fun (r2 : Int32) (σ1 : rfS) => vp_in (((x1 + 1) * 128) + (x2 ||| r2)) 1024 ∧ Q (xs0 + (gF σ1 24 ((((x1 + 1) * 128) + (x2 ||| r2)).toNatClampNeg))) σ1)
set_option maxRecDepth 20000 in
theorem sj_X6_dealtBy_11 {E : rfE} {Q : Int32 → rfS → Prop} (X : rfX ΛC E yX6_dealtBy cX6_dealtBy 5 (some .int)) (x1 : Int32) (x2 : Int32) (x3 : Int32) (xs0 : Int32) (σ : rfS) (h : wj_X6_dealtBy_11 Q x1 x2 x3 xs0 σ) : Rf ΛC 1 E 5 (qi Q) 11 [(0, .ref 20), (1, .int x1), (2, .int x2), (3, .int x3)] [.int xs0] σ := by
  unfold wj_X6_dealtBy_11 at h
  refine Rf_istore X (i := 4) (Nat.le_of_ble_eq_true rfl) (ls2 := [(4, .int xs0), (0, .ref 20), (1, .int x1), (2, .int x2), (3, .int x3)]) rfl dX6_dealtBy_11 rfl ?_
  refine Rf_iload X (j := 0) rfl dX6_dealtBy_13 rfl ?_
  refine Rf_aload_n X (j := 1) rfl rfl dX6_dealtBy_15 rfl ?_
  refine Rf_get X kc6 (Nat.le_of_ble_eq_true rfl) rfl (j := 8) (Nat.le_of_ble_eq_true rfl) lf_X6_24 (v := .ref 24) rfl dX6_dealtBy_16 rfl ?_
  refine Rf_iload_n X (j := 2) rfl rfl dX6_dealtBy_19 rfl ?_
  refine Rf_iconst X (v := 1) rfl dX6_dealtBy_20 rfl ?_
  refine Rf_iadd X dX6_dealtBy_21 rfl ?_
  refine Rf_sipush X (v := 128) rfl dX6_dealtBy_22 rfl ?_
  refine Rf_imul X dX6_dealtBy_25 rfl ?_
  refine Rf_iload_n X (j := 3) rfl rfl dX6_dealtBy_26 rfl ?_
  refine Rf_iload_n X (j := 4) rfl rfl dX6_dealtBy_27 rfl ?_
  refine Rf_cSi (as := [.int x3]) (st := [.int x2, .int ((x1 + 1) * 128), .ref 24, .int xs0]) X ms_X6_groupOf lm_X6_118 (k_X6_groupOf h) (Nat.le_of_ble_eq_true rfl) rfl rfl (Nat.le_of_ble_eq_true rfl) dX6_dealtBy_28 rfl (fun r2 σ1 h => ?_)
  refine Rf_ior X dX6_dealtBy_31 rfl ?_
  refine Rf_iadd X dX6_dealtBy_32 rfl ?_
  obtain ⟨s3, h⟩ := h
  refine Rf_iaload X (Nat.le_of_ble_eq_true rfl) rfl rfl s3 dX6_dealtBy_33 rfl (v := gF σ1 24 ((((x1 + 1) * 128) + (x2 ||| r2)).toNatClampNeg)) rfl ?_
  refine Rf_iadd X dX6_dealtBy_34 rfl ?_
  exact Rf_iret X rfl dX6_dealtBy_35 ⟨_, rfl, h⟩
def wp_X6_dealtBy (σ : rfS) (x1 : Int32) (x2 : Int32) (x3 : Int32) (Q : Int32 → rfS → Prop) : Prop :=
  ((¬ x3 = 7 → wj_X6_dealtBy_11 Q x1 x2 x3 1 σ) ∧ (x3 = 7 → wj_X6_dealtBy_11 Q x1 x2 x3 0 σ))
set_option maxRecDepth 20000 in
theorem k_X6_dealtBy {σ : rfS} {x1 : Int32} {x2 : Int32} {x3 : Int32} {Q : Int32 → rfS → Prop} (h : wp_X6_dealtBy σ x1 x2 x3 Q) : RM ΛC 1 yX6_dealtBy cX6_dealtBy 5 (some .int) [.ref 20, .int x1, .int x2, .int x3] σ (qi Q) := by
  unfold wp_X6_dealtBy at h
  refine RM.intro (by decide) (Nat.le_of_ble_eq_true rfl) (fun E X => ?_)
  show Rf ΛC 1 E 5 (qi Q) 0 [(0, .ref 20), (1, .int x1), (2, .int x2), (3, .int x3)] [] σ
  refine Rf_iload_n X (j := 3) rfl rfl dX6_dealtBy_0 rfl ?_
  refine Rf_bipush X (v := 7) rfl dX6_dealtBy_1 rfl ?_
  refine Rf_icmp_ne X (tgt := 10) dX6_dealtBy_3 rfl rfl (fun c4 => ?_) (fun c4 => ?_)
  · have h := h.1 c4
    refine Rf_iconst X (v := 1) rfl dX6_dealtBy_10 rfl ?_
    exact sj_X6_dealtBy_11 X _ _ _ _ _ h
  · have h := h.2 c4
    refine Rf_iconst X (v := 0) rfl dX6_dealtBy_6 rfl ?_
    refine Rf_goto X (tgt := 11) dX6_dealtBy_7 rfl ?_
    exact sj_X6_dealtBy_11 X _ _ _ _ _ h
def wj_X6_holderOf_52 (Q : Int32 → rfS → Prop) (kb_9 : Int32 → Int32 → Int32 → Int32 → Int32 → rfS → Prop) (x1 : Int32) (x2 : Int32) (x3 : Int32) (x4 : Int32) (x5 : Int32) (xs0 : Int32) (σ : rfS) : Prop :=
  ((xs0 = 0 → kb_9 x1 x2 x3 x4 (x5 + 1) σ) ∧ (¬ xs0 = 0 → wp_X6_dealtBy σ x1 x2 x5 (fun (r3 : Int32) (σ2 : rfS) => ((r3 ≤ x4 → kb_9 x1 x2 x3 x4 (x5 + 1) σ2) ∧ (¬ (r3 ≤ x4) → wp_X6_dealtBy σ2 x1 x2 x5 (fun (r5 : Int32) (σ4 : rfS) => kb_9 x1 x2 x5 r5 (x5 + 1) σ4))))))
set_option maxRecDepth 20000 in
theorem sj_X6_holderOf_52 {E : rfE} {Q : Int32 → rfS → Prop} (X : rfX ΛC E yX6_holderOf cX6_holderOf 7 (some .int)) {kb_9 : Int32 → Int32 → Int32 → Int32 → Int32 → rfS → Prop} (hkb_9 : ∀ (x1 : Int32) (x2 : Int32) (x3 : Int32) (x4 : Int32) (x5 : Int32) (σ : rfS), kb_9 x1 x2 x3 x4 x5 σ → Rf ΛC 2 E 7 (qi Q) 9 [(0, .ref 20), (1, .int x1), (2, .int x2), (3, .int x3), (4, .int x4), (5, .int x5)] [] σ) (x1 : Int32) (x2 : Int32) (x3 : Int32) (x4 : Int32) (x5 : Int32) (xs0 : Int32) (σ : rfS) (h : wj_X6_holderOf_52 Q kb_9 x1 x2 x3 x4 x5 xs0 σ) : Rf ΛC 2 E 7 (qi Q) 52 [(0, .ref 20), (1, .int x1), (2, .int x2), (3, .int x3), (4, .int x4), (5, .int x5)] [.int xs0] σ := by
  unfold wj_X6_holderOf_52 at h
  refine Rf_istore X (i := 6) (Nat.le_of_ble_eq_true rfl) (ls2 := [(6, .int xs0), (0, .ref 20), (1, .int x1), (2, .int x2), (3, .int x3), (4, .int x4), (5, .int x5)]) rfl dX6_holderOf_52 rfl ?_
  refine Rf_iload X (j := 0) rfl dX6_holderOf_54 rfl ?_
  refine Rf_if_eq X (tgt := 85) dX6_holderOf_56 rfl rfl (fun c7 => ?_) (fun c7 => ?_)
  · have h := h.1 c7
    refine Rf_iinc X (i := 5) (j := 6) (v := x5 + 1) rfl rfl (Nat.le_of_ble_eq_true rfl) (ls2 := [(5, .int (x5 + 1)), (6, .int xs0), (0, .ref 20), (1, .int x1), (2, .int x2), (3, .int x3), (4, .int x4)]) rfl dX6_holderOf_85 rfl ?_
    refine Rf_goto X (tgt := 9) dX6_holderOf_88 rfl ?_
    refine Rf_sub [2, 3, 4, 5, 6, 0] rfl ?_
    exact hkb_9 _ _ _ _ _ σ h
  · have h := h.2 c7
    refine Rf_aload_n X (j := 1) rfl rfl dX6_holderOf_59 rfl ?_
    refine Rf_iload_n X (j := 2) rfl rfl dX6_holderOf_60 rfl ?_
    refine Rf_iload_n X (j := 3) rfl rfl dX6_holderOf_61 rfl ?_
    refine Rf_iload X (j := 6) rfl dX6_holderOf_62 rfl ?_
    refine Rf_cVi (as := [.int x1, .int x2, .int x5]) (st := []) X mi_X6_dealtBy lm_X6_114 rfl (Nat.le_of_ble_eq_true rfl) rfl (k_X6_dealtBy h) (Nat.le_of_ble_eq_true rfl) rfl rfl (Nat.le_of_ble_eq_true rfl) dX6_holderOf_64 rfl (fun r3 σ2 h => ?_)
    refine Rf_iload X (j := 5) rfl dX6_holderOf_67 rfl ?_
    refine Rf_icmp_le X (tgt := 85) dX6_holderOf_69 rfl rfl (fun c6 => ?_) (fun c6 => ?_)
    · have h := h.1 c6
      refine Rf_iinc X (i := 5) (j := 6) (v := x5 + 1) rfl rfl (Nat.le_of_ble_eq_true rfl) (ls2 := [(5, .int (x5 + 1)), (6, .int xs0), (0, .ref 20), (1, .int x1), (2, .int x2), (3, .int x3), (4, .int x4)]) rfl dX6_holderOf_85 rfl ?_
      refine Rf_goto X (tgt := 9) dX6_holderOf_88 rfl ?_
      refine Rf_sub [2, 3, 4, 5, 6, 0] rfl ?_
      exact hkb_9 _ _ _ _ _ σ2 h
    · have h := h.2 c6
      refine Rf_aload_n X (j := 1) rfl rfl dX6_holderOf_72 rfl ?_
      refine Rf_iload_n X (j := 2) rfl rfl dX6_holderOf_73 rfl ?_
      refine Rf_iload_n X (j := 3) rfl rfl dX6_holderOf_74 rfl ?_
      refine Rf_iload X (j := 6) rfl dX6_holderOf_75 rfl ?_
      refine Rf_cVi (as := [.int x1, .int x2, .int x5]) (st := []) X mi_X6_dealtBy lm_X6_114 rfl (Nat.le_of_ble_eq_true rfl) rfl (k_X6_dealtBy h) (Nat.le_of_ble_eq_true rfl) rfl rfl (Nat.le_of_ble_eq_true rfl) dX6_holderOf_77 rfl (fun r5 σ4 h => ?_)
      refine Rf_istore X (i := 4) (Nat.le_of_ble_eq_true rfl) (ls2 := [(4, .int r5), (6, .int xs0), (0, .ref 20), (1, .int x1), (2, .int x2), (3, .int x3), (5, .int x5)]) rfl dX6_holderOf_80 rfl ?_
      refine Rf_iload X (j := 6) rfl dX6_holderOf_82 rfl ?_
      refine Rf_istore_n X rfl (i := 3) (Nat.le_of_ble_eq_true rfl) (ls2 := [(3, .int x5), (4, .int r5), (6, .int xs0), (0, .ref 20), (1, .int x1), (2, .int x2), (5, .int x5)]) rfl dX6_holderOf_84 rfl ?_
      refine Rf_iinc X (i := 5) (j := 6) (v := x5 + 1) rfl rfl (Nat.le_of_ble_eq_true rfl) (ls2 := [(5, .int (x5 + 1)), (3, .int x5), (4, .int r5), (6, .int xs0), (0, .ref 20), (1, .int x1), (2, .int x2)]) rfl dX6_holderOf_85 rfl ?_
      refine Rf_goto X (tgt := 9) dX6_holderOf_88 rfl ?_
      refine Rf_sub [4, 5, 6, 1, 2, 0] rfl ?_
      exact hkb_9 _ _ _ _ _ σ4 h
def wj_X6_holderOf_51 (Q : Int32 → rfS → Prop) (kb_9 : Int32 → Int32 → Int32 → Int32 → Int32 → rfS → Prop) (x1 : Int32) (x2 : Int32) (x3 : Int32) (x4 : Int32) (x5 : Int32) (σ : rfS) : Prop :=
  wj_X6_holderOf_52 Q kb_9 x1 x2 x3 x4 x5 0 σ
set_option maxRecDepth 20000 in
theorem sj_X6_holderOf_51 {E : rfE} {Q : Int32 → rfS → Prop} (X : rfX ΛC E yX6_holderOf cX6_holderOf 7 (some .int)) {kb_9 : Int32 → Int32 → Int32 → Int32 → Int32 → rfS → Prop} (hkb_9 : ∀ (x1 : Int32) (x2 : Int32) (x3 : Int32) (x4 : Int32) (x5 : Int32) (σ : rfS), kb_9 x1 x2 x3 x4 x5 σ → Rf ΛC 2 E 7 (qi Q) 9 [(0, .ref 20), (1, .int x1), (2, .int x2), (3, .int x3), (4, .int x4), (5, .int x5)] [] σ) (x1 : Int32) (x2 : Int32) (x3 : Int32) (x4 : Int32) (x5 : Int32) (σ : rfS) (h : wj_X6_holderOf_51 Q kb_9 x1 x2 x3 x4 x5 σ) : Rf ΛC 2 E 7 (qi Q) 51 [(0, .ref 20), (1, .int x1), (2, .int x2), (3, .int x3), (4, .int x4), (5, .int x5)] [] σ := by
  unfold wj_X6_holderOf_51 at h
  refine Rf_iconst X (v := 0) rfl dX6_holderOf_51 rfl ?_
  exact sj_X6_holderOf_52 X hkb_9 _ _ _ _ _ _ _ h
def wl_X6_holderOf_9 (Q : Int32 → rfS → Prop) (kx_91 : Int32 → Int32 → Int32 → Int32 → rfS → Prop) : Nat → Int32 → Int32 → Int32 → Int32 → Int32 → rfS → Prop
  | 0, _, _, _, _, _, _ => False
  | n + 1, x1, x2, x3, x4, x5, σ => (((gI σ 1 0) ≤ x5 → kx_91 x1 x2 x3 x4 σ) ∧ (¬ ((gI σ 1 0) ≤ x5) → vp_in x5 7 ∧ (((((gF σ 2 (x5.toNatClampNeg)) >>> (x1 &&& 31)) &&& 1) = 0 → wj_X6_holderOf_51 Q (wl_X6_holderOf_9 Q kx_91 n) x1 x2 x3 x4 x5 σ) ∧ (¬ (((gF σ 2 (x5.toNatClampNeg)) >>> (x1 &&& 31)) &&& 1) = 0 → ((¬ ((x2 >>> (x5 &&& 31)) &&& 1) = 0 → wj_X6_holderOf_51 Q (wl_X6_holderOf_9 Q kx_91 n) x1 x2 x3 x4 x5 σ) ∧ (((x2 >>> (x5 &&& 31)) &&& 1) = 0 → wj_X6_holderOf_52 Q (wl_X6_holderOf_9 Q kx_91 n) x1 x2 x3 x4 x5 1 σ))))))
set_option maxRecDepth 20000 in
theorem sl_X6_holderOf_9 {E : rfE} {Q : Int32 → rfS → Prop} (X : rfX ΛC E yX6_holderOf cX6_holderOf 7 (some .int)) {kx_91 : Int32 → Int32 → Int32 → Int32 → rfS → Prop} (hkx_91 : ∀ (x1 : Int32) (x2 : Int32) (x3 : Int32) (x4 : Int32) (σ : rfS), kx_91 x1 x2 x3 x4 σ → Rf ΛC 2 E 7 (qi Q) 91 [(0, .ref 20), (1, .int x1), (2, .int x2), (3, .int x3), (4, .int x4)] [] σ) : ∀ (n : Nat) (x1 : Int32) (x2 : Int32) (x3 : Int32) (x4 : Int32) (x5 : Int32) (σ : rfS), wl_X6_holderOf_9 Q kx_91 n x1 x2 x3 x4 x5 σ → Rf ΛC 2 E 7 (qi Q) 9 [(0, .ref 20), (1, .int x1), (2, .int x2), (3, .int x3), (4, .int x4), (5, .int x5)] [] σ := by
  intro n
  induction n with
  | zero =>
    intro x1 x2 x3 x4 x5 σ h
    exact False.elim h
  | succ n hkb_9 =>
    intro x1 x2 x3 x4 x5 σ h
    unfold wl_X6_holderOf_9 at h
    refine Rf_iload X (j := 5) rfl dX6_holderOf_9 rfl ?_
    refine Rf_aload_n X (j := 0) rfl rfl dX6_holderOf_11 rfl ?_
    refine Rf_get X kc6 (Nat.le_of_ble_eq_true rfl) rfl (j := 4) (Nat.le_of_ble_eq_true rfl) lf_X6_30 (v := .ref 1) rfl dX6_holderOf_12 rfl ?_
    refine Rf_get X kc2 (Nat.le_of_ble_eq_true rfl) rfl (j := 0) (Nat.le_of_ble_eq_true rfl) lf_X6_35 (v := .int (gI σ 1 0)) rfl dX6_holderOf_15 rfl ?_
    refine Rf_icmp_ge X (tgt := 91) dX6_holderOf_18 rfl rfl (fun c10 => ?_) (fun c10 => ?_)
    · have h := h.1 c10
      refine Rf_sub [0, 1, 2, 3, 4] rfl ?_
      exact hkx_91 _ _ _ _ σ h
    · have h := h.2 c10
      refine Rf_aload_n X (j := 0) rfl rfl dX6_holderOf_21 rfl ?_
      refine Rf_get X kc6 (Nat.le_of_ble_eq_true rfl) rfl (j := 4) (Nat.le_of_ble_eq_true rfl) lf_X6_30 (v := .ref 1) rfl dX6_holderOf_22 rfl ?_
      refine Rf_get X kc2 (Nat.le_of_ble_eq_true rfl) rfl (j := 1) (Nat.le_of_ble_eq_true rfl) lf_X6_121 (v := .ref 2) rfl dX6_holderOf_25 rfl ?_
      refine Rf_iload X (j := 5) rfl dX6_holderOf_28 rfl ?_
      obtain ⟨s1, h⟩ := h
      refine Rf_iaload X (Nat.le_of_ble_eq_true rfl) rfl rfl s1 dX6_holderOf_30 rfl (v := gF σ 2 (x5.toNatClampNeg)) rfl ?_
      refine Rf_iload_n X (j := 1) rfl rfl dX6_holderOf_31 rfl ?_
      refine Rf_ishr X dX6_holderOf_32 rfl ?_
      refine Rf_iconst X (v := 1) rfl dX6_holderOf_33 rfl ?_
      refine Rf_iand X dX6_holderOf_34 rfl ?_
      refine Rf_if_eq X (tgt := 51) dX6_holderOf_35 rfl rfl (fun c9 => ?_) (fun c9 => ?_)
      · have h := h.1 c9
        exact sj_X6_holderOf_51 X hkb_9 _ _ _ _ _ _ h
      · have h := h.2 c9
        refine Rf_iload_n X (j := 2) rfl rfl dX6_holderOf_38 rfl ?_
        refine Rf_iload X (j := 5) rfl dX6_holderOf_39 rfl ?_
        refine Rf_ishr X dX6_holderOf_41 rfl ?_
        refine Rf_iconst X (v := 1) rfl dX6_holderOf_42 rfl ?_
        refine Rf_iand X dX6_holderOf_43 rfl ?_
        refine Rf_if_ne X (tgt := 51) dX6_holderOf_44 rfl rfl (fun c8 => ?_) (fun c8 => ?_)
        · have h := h.1 c8
          exact sj_X6_holderOf_51 X hkb_9 _ _ _ _ _ _ h
        · have h := h.2 c8
          refine Rf_iconst X (v := 1) rfl dX6_holderOf_47 rfl ?_
          refine Rf_goto X (tgt := 52) dX6_holderOf_48 rfl ?_
          exact sj_X6_holderOf_52 X hkb_9 _ _ _ _ _ _ _ h
def wp_X6_holderOf (σ : rfS) (x1 : Int32) (x2 : Int32) (Q : Int32 → rfS → Prop) : Prop :=
  (∃ n11, wl_X6_holderOf_9 Q (fun (x1_12 : Int32) (x2_13 : Int32) (x3_14 : Int32) (x4_15 : Int32) (σ16 : rfS) => wp_X6_dealtBy σ16 x1_12 x2_13 7 (fun (r18 : Int32) (σ17 : rfS) => ((r18 ≤ x4_15 → Q x3_14 σ17) ∧ (¬ (r18 ≤ x4_15) → Q 7 σ17)))) n11 x1 x2 7 (-1) 0 σ)
set_option maxRecDepth 20000 in
theorem k_X6_holderOf {σ : rfS} {x1 : Int32} {x2 : Int32} {Q : Int32 → rfS → Prop} (h : wp_X6_holderOf σ x1 x2 Q) : RM ΛC 2 yX6_holderOf cX6_holderOf 7 (some .int) [.ref 20, .int x1, .int x2] σ (qi Q) := by
  unfold wp_X6_holderOf at h
  refine RM.intro (by decide) (Nat.le_of_ble_eq_true rfl) (fun E X => ?_)
  show Rf ΛC 2 E 7 (qi Q) 0 [(0, .ref 20), (1, .int x1), (2, .int x2)] [] σ
  refine Rf_bipush X (v := 7) rfl dX6_holderOf_0 rfl ?_
  refine Rf_istore_n X rfl (i := 3) (Nat.le_of_ble_eq_true rfl) (ls2 := [(3, .int 7), (0, .ref 20), (1, .int x1), (2, .int x2)]) rfl dX6_holderOf_2 rfl ?_
  refine Rf_iconst X (v := (-1)) (by decide) dX6_holderOf_3 rfl ?_
  refine Rf_istore X (i := 4) (Nat.le_of_ble_eq_true rfl) (ls2 := [(4, .int (-1)), (3, .int 7), (0, .ref 20), (1, .int x1), (2, .int x2)]) rfl dX6_holderOf_4 rfl ?_
  refine Rf_iconst X (v := 0) rfl dX6_holderOf_6 rfl ?_
  refine Rf_istore X (i := 5) (Nat.le_of_ble_eq_true rfl) (ls2 := [(5, .int 0), (4, .int (-1)), (3, .int 7), (0, .ref 20), (1, .int x1), (2, .int x2)]) rfl dX6_holderOf_7 rfl ?_
  obtain ⟨n11, h⟩ := h
  refine Rf_sub [3, 4, 5, 2, 1, 0] rfl ?_
  refine sl_X6_holderOf_9 X (fun x1_12 x2_13 x3_14 x4_15 σ16 h => ?_) n11 _ _ _ _ _ _ h
  · refine Rf_aload_n X (j := 0) rfl rfl dX6_holderOf_91 rfl ?_
    refine Rf_iload_n X (j := 1) rfl rfl dX6_holderOf_92 rfl ?_
    refine Rf_iload_n X (j := 2) rfl rfl dX6_holderOf_93 rfl ?_
    refine Rf_bipush X (v := 7) rfl dX6_holderOf_94 rfl ?_
    refine Rf_cVi (as := [.int x1_12, .int x2_13, .int 7]) (st := []) X mi_X6_dealtBy lm_X6_114 rfl (Nat.le_of_ble_eq_true rfl) rfl (k_X6_dealtBy h) (Nat.le_of_ble_eq_true rfl) rfl rfl (Nat.le_of_ble_eq_true rfl) dX6_holderOf_96 rfl (fun r18 σ17 h => ?_)
    refine Rf_iload X (j := 4) rfl dX6_holderOf_99 rfl ?_
    refine Rf_icmp_le X (tgt := 109) dX6_holderOf_101 rfl rfl (fun c19 => ?_) (fun c19 => ?_)
    · have h := h.1 c19
      refine Rf_iload_n X (j := 3) rfl rfl dX6_holderOf_109 rfl ?_
      exact Rf_iret X rfl dX6_holderOf_110 ⟨_, rfl, h⟩
    · have h := h.2 c19
      refine Rf_bipush X (v := 7) rfl dX6_holderOf_104 rfl ?_
      refine Rf_goto X (tgt := 110) dX6_holderOf_106 rfl ?_
      exact Rf_iret X rfl dX6_holderOf_110 ⟨_, rfl, h⟩
def wl_X6_dealt_20 (Q : Int32 → rfS → Prop) (kx_59 : Int32 → Int32 → Int32 → rfS → Prop) : Nat → Int32 → Int32 → Int32 → Int32 → rfS → Prop
  | 0, _, _, _, _, _ => False
  | n + 1, x1, x2, x3, x4, σ => ((x2 ≤ x4 → kx_59 x1 x2 x3 σ) ∧ (¬ (x2 ≤ x4) → wp_X6_holderOf σ x3 x4 (fun (r2 : Int32) (σ1 : rfS) => wp_X6_dealtBy σ1 x3 x4 r2 (fun (r4 : Int32) (σ3 : rfS) => vp_in ((x3 * 128) + x4) 1024 ∧ (wl_X6_dealt_20 Q kx_59 n x1 x2 x3 (x4 + 1) (sF σ3 24 (((x3 * 128) + x4).toNatClampNeg) r4))))))
set_option maxRecDepth 20000 in
theorem sl_X6_dealt_20 {E : rfE} {Q : Int32 → rfS → Prop} (X : rfX ΛC E yX6_dealt cX6_dealt 5 (some .int)) {kx_59 : Int32 → Int32 → Int32 → rfS → Prop} (hkx_59 : ∀ (x1 : Int32) (x2 : Int32) (x3 : Int32) (σ : rfS), kx_59 x1 x2 x3 σ → Rf ΛC 3 E 5 (qi Q) 59 [(0, .ref 20), (1, .int x1), (2, .int x2), (3, .int x3)] [] σ) : ∀ (n : Nat) (x1 : Int32) (x2 : Int32) (x3 : Int32) (x4 : Int32) (σ : rfS), wl_X6_dealt_20 Q kx_59 n x1 x2 x3 x4 σ → Rf ΛC 3 E 5 (qi Q) 20 [(0, .ref 20), (1, .int x1), (2, .int x2), (3, .int x3), (4, .int x4)] [] σ := by
  intro n
  induction n with
  | zero =>
    intro x1 x2 x3 x4 σ h
    exact False.elim h
  | succ n hkb_20 =>
    intro x1 x2 x3 x4 σ h
    unfold wl_X6_dealt_20 at h
    refine Rf_iload X (j := 4) rfl dX6_dealt_20 rfl ?_
    refine Rf_iload_n X (j := 2) rfl rfl dX6_dealt_22 rfl ?_
    refine Rf_icmp_ge X (tgt := 59) dX6_dealt_23 rfl rfl (fun c6 => ?_) (fun c6 => ?_)
    · have h := h.1 c6
      refine Rf_sub [0, 1, 2, 3] rfl ?_
      exact hkx_59 _ _ _ σ h
    · have h := h.2 c6
      refine Rf_aload_n X (j := 0) rfl rfl dX6_dealt_26 rfl ?_
      refine Rf_get X kc6 (Nat.le_of_ble_eq_true rfl) rfl (j := 8) (Nat.le_of_ble_eq_true rfl) lf_X6_24 (v := .ref 24) rfl dX6_dealt_27 rfl ?_
      refine Rf_iload_n X (j := 3) rfl rfl dX6_dealt_30 rfl ?_
      refine Rf_sipush X (v := 128) rfl dX6_dealt_31 rfl ?_
      refine Rf_imul X dX6_dealt_34 rfl ?_
      refine Rf_iload X (j := 4) rfl dX6_dealt_35 rfl ?_
      refine Rf_iadd X dX6_dealt_37 rfl ?_
      refine Rf_aload_n X (j := 0) rfl rfl dX6_dealt_38 rfl ?_
      refine Rf_iload_n X (j := 3) rfl rfl dX6_dealt_39 rfl ?_
      refine Rf_iload X (j := 4) rfl dX6_dealt_40 rfl ?_
      refine Rf_aload_n X (j := 0) rfl rfl dX6_dealt_42 rfl ?_
      refine Rf_iload_n X (j := 3) rfl rfl dX6_dealt_43 rfl ?_
      refine Rf_iload X (j := 4) rfl dX6_dealt_44 rfl ?_
      refine Rf_cVi (as := [.int x3, .int x4]) (st := [.int x4, .int x3, .ref 20, .int ((x3 * 128) + x4), .ref 24]) X mi_X6_holderOf lm_X6_111 rfl (Nat.le_of_ble_eq_true rfl) rfl (k_X6_holderOf h) (Nat.le_of_ble_eq_true rfl) rfl rfl (Nat.le_of_ble_eq_true rfl) dX6_dealt_46 rfl (fun r2 σ1 h => ?_)
      refine Rf_cVi (as := [.int x3, .int x4, .int r2]) (st := [.int ((x3 * 128) + x4), .ref 24]) X mi_X6_dealtBy lm_X6_114 rfl (Nat.le_of_ble_eq_true rfl) rfl (k_X6_dealtBy h) (Nat.le_of_ble_eq_true rfl) rfl rfl (Nat.le_of_ble_eq_true rfl) dX6_dealt_49 rfl (fun r4 σ3 h => ?_)
      obtain ⟨s5, h⟩ := h
      refine Rf_iastore X (Nat.le_of_ble_eq_true rfl) rfl rfl s5 dX6_dealt_52 rfl ?_
      refine Rf_iinc X (i := 4) (j := 4) (v := x4 + 1) rfl rfl (Nat.le_of_ble_eq_true rfl) (ls2 := [(4, .int (x4 + 1)), (0, .ref 20), (1, .int x1), (2, .int x2), (3, .int x3)]) rfl dX6_dealt_53 rfl ?_
      refine Rf_goto X (tgt := 20) dX6_dealt_56 rfl ?_
      refine Rf_sub [1, 2, 3, 4, 0] rfl ?_
      exact hkb_20 _ _ _ _ (sF σ3 24 (((x3 * 128) + x4).toNatClampNeg) r4) h
def wl_X6_dealt_13 (Q : Int32 → rfS → Prop) (kx_65 : Int32 → rfS → Prop) : Nat → Int32 → Int32 → Int32 → rfS → Prop
  | 0, _, _, _, _ => False
  | n + 1, x1, x2, x3, σ => ((x3 < 0 → kx_65 x1 σ) ∧ (¬ (x3 < 0) → (∃ n7, wl_X6_dealt_20 Q (fun (x1_8 : Int32) (x2_9 : Int32) (x3_10 : Int32) (σ11 : rfS) => wl_X6_dealt_13 Q kx_65 n x1_8 x2_9 (x3_10 + (-1)) σ11) n7 x1 x2 x3 0 σ)))
set_option maxRecDepth 20000 in
theorem sl_X6_dealt_13 {E : rfE} {Q : Int32 → rfS → Prop} (X : rfX ΛC E yX6_dealt cX6_dealt 5 (some .int)) {kx_65 : Int32 → rfS → Prop} (hkx_65 : ∀ (x1 : Int32) (σ : rfS), kx_65 x1 σ → Rf ΛC 3 E 5 (qi Q) 65 [(0, .ref 20), (1, .int x1)] [] σ) : ∀ (n : Nat) (x1 : Int32) (x2 : Int32) (x3 : Int32) (σ : rfS), wl_X6_dealt_13 Q kx_65 n x1 x2 x3 σ → Rf ΛC 3 E 5 (qi Q) 13 [(0, .ref 20), (1, .int x1), (2, .int x2), (3, .int x3)] [] σ := by
  intro n
  induction n with
  | zero =>
    intro x1 x2 x3 σ h
    exact False.elim h
  | succ n hkb_13 =>
    intro x1 x2 x3 σ h
    unfold wl_X6_dealt_13 at h
    refine Rf_iload_n X (j := 3) rfl rfl dX6_dealt_13 rfl ?_
    refine Rf_if_lt X (tgt := 65) dX6_dealt_14 rfl rfl (fun c12 => ?_) (fun c12 => ?_)
    · have h := h.1 c12
      refine Rf_sub [0, 1] rfl ?_
      exact hkx_65 _ σ h
    · have h := h.2 c12
      refine Rf_iconst X (v := 0) rfl dX6_dealt_17 rfl ?_
      refine Rf_istore X (i := 4) (Nat.le_of_ble_eq_true rfl) (ls2 := [(4, .int 0), (0, .ref 20), (1, .int x1), (2, .int x2), (3, .int x3)]) rfl dX6_dealt_18 rfl ?_
      obtain ⟨n7, h⟩ := h
      refine Rf_sub [1, 2, 3, 4, 0] rfl ?_
      refine sl_X6_dealt_20 X (fun x1_8 x2_9 x3_10 σ11 h => ?_) n7 _ _ _ _ _ h
      · refine Rf_iinc X (i := 3) (j := 3) (v := x3_10 + (-1)) rfl (by rw [show Int32.ofInt (-1) = (-1 : Int32) from by decide]) (Nat.le_of_ble_eq_true rfl) (ls2 := [(3, .int (x3_10 + (-1))), (0, .ref 20), (1, .int x1_8), (2, .int x2_9)]) rfl dX6_dealt_59 rfl ?_
        refine Rf_goto X (tgt := 13) dX6_dealt_62 rfl ?_
        refine Rf_sub [1, 2, 3, 0] rfl ?_
        exact hkb_13 _ _ _ σ11 h
def wl_X6_dealt_81 (Q : Int32 → rfS → Prop) (kx_106 : Int32 → Int32 → rfS → Prop) : Nat → Int32 → Int32 → Int32 → rfS → Prop
  | 0, _, _, _, _ => False
  | n + 1, x1, x3, x4, σ => ((x1 ≤ x4 → kx_106 x1 x3 σ) ∧ (¬ (x1 ≤ x4) → wp_X6_holderOf σ x4 x3 (fun (r17 : Int32) (σ16 : rfS) => wp_X6_groupOf σ16 r17 (fun (r19 : Int32) (σ18 : rfS) => wl_X6_dealt_81 Q kx_106 n x1 (x3 ||| r19) (x4 + 1) σ18))))
set_option maxRecDepth 20000 in
theorem sl_X6_dealt_81 {E : rfE} {Q : Int32 → rfS → Prop} (X : rfX ΛC E yX6_dealt cX6_dealt 5 (some .int)) {kx_106 : Int32 → Int32 → rfS → Prop} (hkx_106 : ∀ (x1 : Int32) (x3 : Int32) (σ : rfS), kx_106 x1 x3 σ → Rf ΛC 3 E 5 (qi Q) 106 [(0, .ref 20), (1, .int x1), (3, .int x3)] [] σ) : ∀ (n : Nat) (x1 : Int32) (x3 : Int32) (x4 : Int32) (σ : rfS), wl_X6_dealt_81 Q kx_106 n x1 x3 x4 σ → Rf ΛC 3 E 5 (qi Q) 81 [(0, .ref 20), (1, .int x1), (3, .int x3), (4, .int x4)] [] σ := by
  intro n
  induction n with
  | zero =>
    intro x1 x3 x4 σ h
    exact False.elim h
  | succ n hkb_81 =>
    intro x1 x3 x4 σ h
    unfold wl_X6_dealt_81 at h
    refine Rf_iload X (j := 3) rfl dX6_dealt_81 rfl ?_
    refine Rf_iload_n X (j := 1) rfl rfl dX6_dealt_83 rfl ?_
    refine Rf_icmp_ge X (tgt := 106) dX6_dealt_84 rfl rfl (fun c20 => ?_) (fun c20 => ?_)
    · have h := h.1 c20
      refine Rf_sub [0, 1, 2] rfl ?_
      exact hkx_106 _ _ σ h
    · have h := h.2 c20
      refine Rf_iload_n X (j := 2) rfl rfl dX6_dealt_87 rfl ?_
      refine Rf_aload_n X (j := 0) rfl rfl dX6_dealt_88 rfl ?_
      refine Rf_iload X (j := 3) rfl dX6_dealt_89 rfl ?_
      refine Rf_iload_n X (j := 2) rfl rfl dX6_dealt_91 rfl ?_
      refine Rf_cVi (as := [.int x4, .int x3]) (st := [.int x3]) X mi_X6_holderOf lm_X6_111 rfl (Nat.le_of_ble_eq_true rfl) rfl (k_X6_holderOf h) (Nat.le_of_ble_eq_true rfl) rfl rfl (Nat.le_of_ble_eq_true rfl) dX6_dealt_92 rfl (fun r17 σ16 h => ?_)
      refine Rf_cSi (as := [.int r17]) (st := [.int x3]) X ms_X6_groupOf lm_X6_118 (k_X6_groupOf h) (Nat.le_of_ble_eq_true rfl) rfl rfl (Nat.le_of_ble_eq_true rfl) dX6_dealt_95 rfl (fun r19 σ18 h => ?_)
      refine Rf_ior X dX6_dealt_98 rfl ?_
      refine Rf_istore_n X rfl (i := 3) (Nat.le_of_ble_eq_true rfl) (ls2 := [(3, .int (x3 ||| r19)), (0, .ref 20), (1, .int x1), (4, .int x4)]) rfl dX6_dealt_99 rfl ?_
      refine Rf_iinc X (i := 4) (j := 3) (v := x4 + 1) rfl rfl (Nat.le_of_ble_eq_true rfl) (ls2 := [(4, .int (x4 + 1)), (3, .int (x3 ||| r19)), (0, .ref 20), (1, .int x1)]) rfl dX6_dealt_100 rfl ?_
      refine Rf_goto X (tgt := 81) dX6_dealt_103 rfl ?_
      refine Rf_sub [2, 3, 1, 0] rfl ?_
      exact hkb_81 _ _ _ σ18 h
def wp_X6_dealt (σ : rfS) (x1 : Int32) (Q : Int32 → rfS → Prop) : Prop :=
  (∃ n13, wl_X6_dealt_13 Q (fun (x1_14 : Int32) (σ15 : rfS) => ((0 ≤ x1_14 → (∃ n21, wl_X6_dealt_81 Q (fun (x1_22 : Int32) (x3_23 : Int32) (σ24 : rfS) => wp_X6_holderOf σ24 x1_22 x3_23 (fun (r26 : Int32) (σ25 : rfS) => Q r26 σ25)) n21 x1_14 0 0 σ15)) ∧ (¬ (0 ≤ x1_14) → Q (gF σ15 24 0) σ15))) n13 x1 (1 <<< ((gI σ 1 0) &&& 31)) 6 σ)
set_option maxRecDepth 20000 in
theorem k_X6_dealt {σ : rfS} {x1 : Int32} {Q : Int32 → rfS → Prop} (h : wp_X6_dealt σ x1 Q) : RM ΛC 3 yX6_dealt cX6_dealt 5 (some .int) [.ref 20, .int x1] σ (qi Q) := by
  unfold wp_X6_dealt at h
  refine RM.intro (by decide) (Nat.le_of_ble_eq_true rfl) (fun E X => ?_)
  show Rf ΛC 3 E 5 (qi Q) 0 [(0, .ref 20), (1, .int x1)] [] σ
  refine Rf_iconst X (v := 1) rfl dX6_dealt_0 rfl ?_
  refine Rf_aload_n X (j := 0) rfl rfl dX6_dealt_1 rfl ?_
  refine Rf_get X kc6 (Nat.le_of_ble_eq_true rfl) rfl (j := 4) (Nat.le_of_ble_eq_true rfl) lf_X6_30 (v := .ref 1) rfl dX6_dealt_2 rfl ?_
  refine Rf_get X kc2 (Nat.le_of_ble_eq_true rfl) rfl (j := 0) (Nat.le_of_ble_eq_true rfl) lf_X6_35 (v := .int (gI σ 1 0)) rfl dX6_dealt_5 rfl ?_
  refine Rf_ishl X dX6_dealt_8 rfl ?_
  refine Rf_istore_n X rfl (i := 2) (Nat.le_of_ble_eq_true rfl) (ls2 := [(2, .int (1 <<< ((gI σ 1 0) &&& 31))), (0, .ref 20), (1, .int x1)]) rfl dX6_dealt_9 rfl ?_
  refine Rf_bipush X (v := 6) rfl dX6_dealt_10 rfl ?_
  refine Rf_istore_n X rfl (i := 3) (Nat.le_of_ble_eq_true rfl) (ls2 := [(3, .int 6), (2, .int (1 <<< ((gI σ 1 0) &&& 31))), (0, .ref 20), (1, .int x1)]) rfl dX6_dealt_12 rfl ?_
  obtain ⟨n13, h⟩ := h
  refine Rf_sub [2, 3, 1, 0] rfl ?_
  refine sl_X6_dealt_13 X (fun x1_14 σ15 h => ?_) n13 _ _ _ _ h
  · refine Rf_iload_n X (j := 1) rfl rfl dX6_dealt_65 rfl ?_
    refine Rf_if_ge X (tgt := 76) dX6_dealt_66 rfl rfl (fun c27 => ?_) (fun c27 => ?_)
    · have h := h.1 c27
      refine Rf_iconst X (v := 0) rfl dX6_dealt_76 rfl ?_
      refine Rf_istore_n X rfl (i := 3) (Nat.le_of_ble_eq_true rfl) (ls2 := [(3, .int 0), (0, .ref 20), (1, .int x1_14)]) rfl dX6_dealt_77 rfl ?_
      refine Rf_iconst X (v := 0) rfl dX6_dealt_78 rfl ?_
      refine Rf_istore X (i := 4) (Nat.le_of_ble_eq_true rfl) (ls2 := [(4, .int 0), (3, .int 0), (0, .ref 20), (1, .int x1_14)]) rfl dX6_dealt_79 rfl ?_
      obtain ⟨n21, h⟩ := h
      refine Rf_sub [2, 3, 1, 0] rfl ?_
      refine sl_X6_dealt_81 X (fun x1_22 x3_23 σ24 h => ?_) n21 _ _ _ _ h
      · refine Rf_aload_n X (j := 0) rfl rfl dX6_dealt_106 rfl ?_
        refine Rf_iload_n X (j := 1) rfl rfl dX6_dealt_107 rfl ?_
        refine Rf_iload_n X (j := 2) rfl rfl dX6_dealt_108 rfl ?_
        refine Rf_cVi (as := [.int x1_22, .int x3_23]) (st := []) X mi_X6_holderOf lm_X6_111 rfl (Nat.le_of_ble_eq_true rfl) rfl (k_X6_holderOf h) (Nat.le_of_ble_eq_true rfl) rfl rfl (Nat.le_of_ble_eq_true rfl) dX6_dealt_109 rfl (fun r26 σ25 h => ?_)
        exact Rf_iret X rfl dX6_dealt_112 ⟨_, rfl, h⟩
    · have h := h.2 c27
      refine Rf_aload_n X (j := 0) rfl rfl dX6_dealt_69 rfl ?_
      refine Rf_get X kc6 (Nat.le_of_ble_eq_true rfl) rfl (j := 8) (Nat.le_of_ble_eq_true rfl) lf_X6_24 (v := .ref 24) rfl dX6_dealt_70 rfl ?_
      refine Rf_iconst X (v := 0) rfl dX6_dealt_73 rfl ?_
      refine Rf_iaload X (Nat.le_of_ble_eq_true rfl) rfl rfl (by unfold vp_in; decide) dX6_dealt_74 rfl (v := gF σ15 24 0) rfl ?_
      exact Rf_iret X rfl dX6_dealt_75 ⟨_, rfl, h⟩
def wl_X6_sortBySlow_15 (Q : rfS → Prop) (kx_59 : Int32 → Int32 → rfS → Prop) : Nat → Int32 → Int32 → rfS → Prop
  | 0, _, _, _ => False
  | n + 1, x1, x2, σ => ((x2 ≤ 0 → kx_59 x1 x2 σ) ∧ (¬ (x2 ≤ 0) → vp_in (x2 - 1) 7 ∧ vp_in x1 7 ∧ (((gF σ 25 ((x2 - 1).toNatClampNeg)) ≤ (gF σ 3 (x1.toNatClampNeg)) → kx_59 x1 x2 σ) ∧ (¬ ((gF σ 25 ((x2 - 1).toNatClampNeg)) ≤ (gF σ 3 (x1.toNatClampNeg))) → vp_in (x2 - 1) 7 ∧ vp_in x2 7 ∧ (wl_X6_sortBySlow_15 Q kx_59 n x1 (x2 + (-1)) (sF σ 25 (x2.toNatClampNeg) (gF σ 25 ((x2 - 1).toNatClampNeg))))))))
set_option maxRecDepth 20000 in
theorem sl_X6_sortBySlow_15 {E : rfE} {Q : rfS → Prop} (X : rfX ΛC E yX6_sortBySlow cX6_sortBySlow 3 none) {kx_59 : Int32 → Int32 → rfS → Prop} (hkx_59 : ∀ (x1 : Int32) (x2 : Int32) (σ : rfS), kx_59 x1 x2 σ → Rf ΛC 0 E 3 (qv Q) 59 [(0, .ref 20), (1, .int x1), (2, .int x2)] [] σ) : ∀ (n : Nat) (x1 : Int32) (x2 : Int32) (σ : rfS), wl_X6_sortBySlow_15 Q kx_59 n x1 x2 σ → Rf ΛC 0 E 3 (qv Q) 15 [(0, .ref 20), (1, .int x1), (2, .int x2)] [] σ := by
  intro n
  induction n with
  | zero =>
    intro x1 x2 σ h
    exact False.elim h
  | succ n hkb_15 =>
    intro x1 x2 σ h
    unfold wl_X6_sortBySlow_15 at h
    refine Rf_iload_n X (j := 2) rfl rfl dX6_sortBySlow_15 rfl ?_
    refine Rf_if_le X (tgt := 59) dX6_sortBySlow_16 rfl rfl (fun c6 => ?_) (fun c6 => ?_)
    · have h := h.1 c6
      exact hkx_59 _ _ σ h
    · have h := h.2 c6
      refine Rf_aload_n X (j := 0) rfl rfl dX6_sortBySlow_19 rfl ?_
      refine Rf_get X kc6 (Nat.le_of_ble_eq_true rfl) rfl (j := 9) (Nat.le_of_ble_eq_true rfl) lf_X6_27 (v := .ref 25) rfl dX6_sortBySlow_20 rfl ?_
      refine Rf_iload_n X (j := 2) rfl rfl dX6_sortBySlow_23 rfl ?_
      refine Rf_iconst X (v := 1) rfl dX6_sortBySlow_24 rfl ?_
      refine Rf_isub X dX6_sortBySlow_25 rfl ?_
      obtain ⟨s1, h⟩ := h
      refine Rf_iaload X (Nat.le_of_ble_eq_true rfl) rfl rfl s1 dX6_sortBySlow_26 rfl (v := gF σ 25 ((x2 - 1).toNatClampNeg)) rfl ?_
      refine Rf_aload_n X (j := 0) rfl rfl dX6_sortBySlow_27 rfl ?_
      refine Rf_get X kc6 (Nat.le_of_ble_eq_true rfl) rfl (j := 4) (Nat.le_of_ble_eq_true rfl) lf_X6_30 (v := .ref 1) rfl dX6_sortBySlow_28 rfl ?_
      refine Rf_get X kc2 (Nat.le_of_ble_eq_true rfl) rfl (j := 2) (Nat.le_of_ble_eq_true rfl) lf_X6_127 (v := .ref 3) rfl dX6_sortBySlow_31 rfl ?_
      refine Rf_iload_n X (j := 1) rfl rfl dX6_sortBySlow_34 rfl ?_
      obtain ⟨s2, h⟩ := h
      refine Rf_iaload X (Nat.le_of_ble_eq_true rfl) rfl rfl s2 dX6_sortBySlow_35 rfl (v := gF σ 3 (x1.toNatClampNeg)) rfl ?_
      refine Rf_icmp_le X (tgt := 59) dX6_sortBySlow_36 rfl rfl (fun c5 => ?_) (fun c5 => ?_)
      · have h := h.1 c5
        exact hkx_59 _ _ σ h
      · have h := h.2 c5
        refine Rf_aload_n X (j := 0) rfl rfl dX6_sortBySlow_39 rfl ?_
        refine Rf_get X kc6 (Nat.le_of_ble_eq_true rfl) rfl (j := 9) (Nat.le_of_ble_eq_true rfl) lf_X6_27 (v := .ref 25) rfl dX6_sortBySlow_40 rfl ?_
        refine Rf_iload_n X (j := 2) rfl rfl dX6_sortBySlow_43 rfl ?_
        refine Rf_aload_n X (j := 0) rfl rfl dX6_sortBySlow_44 rfl ?_
        refine Rf_get X kc6 (Nat.le_of_ble_eq_true rfl) rfl (j := 9) (Nat.le_of_ble_eq_true rfl) lf_X6_27 (v := .ref 25) rfl dX6_sortBySlow_45 rfl ?_
        refine Rf_iload_n X (j := 2) rfl rfl dX6_sortBySlow_48 rfl ?_
        refine Rf_iconst X (v := 1) rfl dX6_sortBySlow_49 rfl ?_
        refine Rf_isub X dX6_sortBySlow_50 rfl ?_
        obtain ⟨s3, h⟩ := h
        refine Rf_iaload X (Nat.le_of_ble_eq_true rfl) rfl rfl s3 dX6_sortBySlow_51 rfl (v := gF σ 25 ((x2 - 1).toNatClampNeg)) rfl ?_
        obtain ⟨s4, h⟩ := h
        refine Rf_iastore X (Nat.le_of_ble_eq_true rfl) rfl rfl s4 dX6_sortBySlow_52 rfl ?_
        refine Rf_iinc X (i := 2) (j := 2) (v := x2 + (-1)) rfl (by rw [show Int32.ofInt (-1) = (-1 : Int32) from by decide]) (Nat.le_of_ble_eq_true rfl) (ls2 := [(2, .int (x2 + (-1))), (0, .ref 20), (1, .int x1)]) rfl dX6_sortBySlow_53 rfl ?_
        refine Rf_goto X (tgt := 15) dX6_sortBySlow_56 rfl ?_
        refine Rf_sub [1, 2, 0] rfl ?_
        exact hkb_15 _ _ (sF σ 25 (x2.toNatClampNeg) (gF σ 25 ((x2 - 1).toNatClampNeg))) h
def wj_X6_sortBySlow_59 (Q : rfS → Prop) (kb_2 : Int32 → rfS → Prop) (x1 : Int32) (x2 : Int32) (σ : rfS) : Prop :=
  vp_in x1 7 ∧ vp_in x2 7 ∧ (kb_2 (x1 + 1) (sF σ 25 (x2.toNatClampNeg) (gF σ 3 (x1.toNatClampNeg))))
set_option maxRecDepth 20000 in
theorem sj_X6_sortBySlow_59 {E : rfE} {Q : rfS → Prop} (X : rfX ΛC E yX6_sortBySlow cX6_sortBySlow 3 none) {kb_2 : Int32 → rfS → Prop} (hkb_2 : ∀ (x1 : Int32) (σ : rfS), kb_2 x1 σ → Rf ΛC 0 E 3 (qv Q) 2 [(0, .ref 20), (1, .int x1)] [] σ) (x1 : Int32) (x2 : Int32) (σ : rfS) (h : wj_X6_sortBySlow_59 Q kb_2 x1 x2 σ) : Rf ΛC 0 E 3 (qv Q) 59 [(0, .ref 20), (1, .int x1), (2, .int x2)] [] σ := by
  unfold wj_X6_sortBySlow_59 at h
  refine Rf_aload_n X (j := 0) rfl rfl dX6_sortBySlow_59 rfl ?_
  refine Rf_get X kc6 (Nat.le_of_ble_eq_true rfl) rfl (j := 9) (Nat.le_of_ble_eq_true rfl) lf_X6_27 (v := .ref 25) rfl dX6_sortBySlow_60 rfl ?_
  refine Rf_iload_n X (j := 2) rfl rfl dX6_sortBySlow_63 rfl ?_
  refine Rf_aload_n X (j := 0) rfl rfl dX6_sortBySlow_64 rfl ?_
  refine Rf_get X kc6 (Nat.le_of_ble_eq_true rfl) rfl (j := 4) (Nat.le_of_ble_eq_true rfl) lf_X6_30 (v := .ref 1) rfl dX6_sortBySlow_65 rfl ?_
  refine Rf_get X kc2 (Nat.le_of_ble_eq_true rfl) rfl (j := 2) (Nat.le_of_ble_eq_true rfl) lf_X6_127 (v := .ref 3) rfl dX6_sortBySlow_68 rfl ?_
  refine Rf_iload_n X (j := 1) rfl rfl dX6_sortBySlow_71 rfl ?_
  obtain ⟨s11, h⟩ := h
  refine Rf_iaload X (Nat.le_of_ble_eq_true rfl) rfl rfl s11 dX6_sortBySlow_72 rfl (v := gF σ 3 (x1.toNatClampNeg)) rfl ?_
  obtain ⟨s12, h⟩ := h
  refine Rf_iastore X (Nat.le_of_ble_eq_true rfl) rfl rfl s12 dX6_sortBySlow_73 rfl ?_
  refine Rf_iinc X (i := 1) (j := 1) (v := x1 + 1) rfl rfl (Nat.le_of_ble_eq_true rfl) (ls2 := [(1, .int (x1 + 1)), (0, .ref 20), (2, .int x2)]) rfl dX6_sortBySlow_74 rfl ?_
  refine Rf_goto X (tgt := 2) dX6_sortBySlow_77 rfl ?_
  refine Rf_sub [1, 0] rfl ?_
  exact hkb_2 _ (sF σ 25 (x2.toNatClampNeg) (gF σ 3 (x1.toNatClampNeg))) h
def wl_X6_sortBySlow_2 (Q : rfS → Prop) : Nat → Int32 → rfS → Prop
  | 0, _, _ => False
  | n + 1, x1, σ => (((gI σ 1 0) ≤ x1 → Q σ) ∧ (¬ ((gI σ 1 0) ≤ x1) → (∃ n7, wl_X6_sortBySlow_15 Q (fun (x1_8 : Int32) (x2_9 : Int32) (σ10 : rfS) => wj_X6_sortBySlow_59 Q (wl_X6_sortBySlow_2 Q n) x1_8 x2_9 σ10) n7 x1 x1 σ)))
set_option maxRecDepth 20000 in
theorem sl_X6_sortBySlow_2 {E : rfE} {Q : rfS → Prop} (X : rfX ΛC E yX6_sortBySlow cX6_sortBySlow 3 none) : ∀ (n : Nat) (x1 : Int32) (σ : rfS), wl_X6_sortBySlow_2 Q n x1 σ → Rf ΛC 0 E 3 (qv Q) 2 [(0, .ref 20), (1, .int x1)] [] σ := by
  intro n
  induction n with
  | zero =>
    intro x1 σ h
    exact False.elim h
  | succ n hkb_2 =>
    intro x1 σ h
    unfold wl_X6_sortBySlow_2 at h
    refine Rf_iload_n X (j := 1) rfl rfl dX6_sortBySlow_2 rfl ?_
    refine Rf_aload_n X (j := 0) rfl rfl dX6_sortBySlow_3 rfl ?_
    refine Rf_get X kc6 (Nat.le_of_ble_eq_true rfl) rfl (j := 4) (Nat.le_of_ble_eq_true rfl) lf_X6_30 (v := .ref 1) rfl dX6_sortBySlow_4 rfl ?_
    refine Rf_get X kc2 (Nat.le_of_ble_eq_true rfl) rfl (j := 0) (Nat.le_of_ble_eq_true rfl) lf_X6_35 (v := .int (gI σ 1 0)) rfl dX6_sortBySlow_7 rfl ?_
    refine Rf_icmp_ge X (tgt := 80) dX6_sortBySlow_10 rfl rfl (fun c13 => ?_) (fun c13 => ?_)
    · have h := h.1 c13
      exact Rf_vret X dX6_sortBySlow_80 ⟨rfl, h⟩
    · have h := h.2 c13
      refine Rf_iload_n X (j := 1) rfl rfl dX6_sortBySlow_13 rfl ?_
      refine Rf_istore_n X rfl (i := 2) (Nat.le_of_ble_eq_true rfl) (ls2 := [(2, .int x1), (0, .ref 20), (1, .int x1)]) rfl dX6_sortBySlow_14 rfl ?_
      obtain ⟨n7, h⟩ := h
      refine Rf_sub [1, 2, 0] rfl ?_
      refine sl_X6_sortBySlow_15 X (fun x1_8 x2_9 σ10 h => ?_) n7 _ _ _ h
      · exact sj_X6_sortBySlow_59 X hkb_2 _ _ _ h
def wp_X6_sortBySlow (σ : rfS) (Q : rfS → Prop) : Prop :=
  (∃ n14, wl_X6_sortBySlow_2 Q n14 0 σ)
set_option maxRecDepth 20000 in
theorem k_X6_sortBySlow {σ : rfS} {Q : rfS → Prop} (h : wp_X6_sortBySlow σ Q) : RM ΛC 0 yX6_sortBySlow cX6_sortBySlow 3 none [.ref 20] σ (qv Q) := by
  unfold wp_X6_sortBySlow at h
  refine RM.intro (by decide) (Nat.le_of_ble_eq_true rfl) (fun E X => ?_)
  show Rf ΛC 0 E 3 (qv Q) 0 [(0, .ref 20)] [] σ
  refine Rf_iconst X (v := 0) rfl dX6_sortBySlow_0 rfl ?_
  refine Rf_istore_n X rfl (i := 1) (Nat.le_of_ble_eq_true rfl) (ls2 := [(1, .int 0), (0, .ref 20)]) rfl dX6_sortBySlow_1 rfl ?_
  obtain ⟨n14, h⟩ := h
  refine Rf_sub [1, 0] rfl ?_
  exact sl_X6_sortBySlow_2 X n14 _ _ h
def wl_X6_minutesOut_14 (Q : Int32 → rfS → Prop) (kx_87 : Int32 → Int32 → rfS → Prop) : Nat → Int32 → Int32 → rfS → Prop
  | 0, _, _, _ => False
  | n + 1, x1, x2, σ => ((x1 ≤ 3 → kx_87 x1 x2 σ) ∧ (¬ (x1 ≤ 3) → vp_in (x1 - 2) 7 ∧ vp_in (x1 - 1) 7 ∧ vp_in (x1 - 1) 7 ∧ (wl_X6_minutesOut_14 Q kx_87 n (x1 + (-2)) (x2 + (if (((gF σ 25 0) + (2 * (gF σ 25 1))) + (gF σ 25 ((x1 - 1).toNatClampNeg))) < (((2 * (gF σ 25 0)) + (gF σ 25 ((x1 - 2).toNatClampNeg))) + (gF σ 25 ((x1 - 1).toNatClampNeg))) then (((gF σ 25 0) + (2 * (gF σ 25 1))) + (gF σ 25 ((x1 - 1).toNatClampNeg))) else (((2 * (gF σ 25 0)) + (gF σ 25 ((x1 - 2).toNatClampNeg))) + (gF σ 25 ((x1 - 1).toNatClampNeg))))) σ)))
set_option maxRecDepth 20000 in
theorem sl_X6_minutesOut_14 {E : rfE} {Q : Int32 → rfS → Prop} (X : rfX ΛC E yX6_minutesOut cX6_minutesOut 5 (some .int)) {kx_87 : Int32 → Int32 → rfS → Prop} (hkx_87 : ∀ (x1 : Int32) (x2 : Int32) (σ : rfS), kx_87 x1 x2 σ → Rf ΛC 1 E 5 (qi Q) 87 [(0, .ref 20), (1, .int x1), (2, .int x2)] [] σ) : ∀ (n : Nat) (x1 : Int32) (x2 : Int32) (σ : rfS), wl_X6_minutesOut_14 Q kx_87 n x1 x2 σ → Rf ΛC 1 E 5 (qi Q) 14 [(0, .ref 20), (1, .int x1), (2, .int x2)] [] σ := by
  intro n
  induction n with
  | zero =>
    intro x1 x2 σ h
    exact False.elim h
  | succ n hkb_14 =>
    intro x1 x2 σ h
    unfold wl_X6_minutesOut_14 at h
    refine Rf_iload_n X (j := 1) rfl rfl dX6_minutesOut_14 rfl ?_
    refine Rf_iconst X (v := 3) rfl dX6_minutesOut_15 rfl ?_
    refine Rf_icmp_le X (tgt := 87) dX6_minutesOut_16 rfl rfl (fun c5 => ?_) (fun c5 => ?_)
    · have h := h.1 c5
      exact hkx_87 _ _ σ h
    · have h := h.2 c5
      refine Rf_iconst X (v := 2) rfl dX6_minutesOut_19 rfl ?_
      refine Rf_aload_n X (j := 0) rfl rfl dX6_minutesOut_20 rfl ?_
      refine Rf_get X kc6 (Nat.le_of_ble_eq_true rfl) rfl (j := 9) (Nat.le_of_ble_eq_true rfl) lf_X6_27 (v := .ref 25) rfl dX6_minutesOut_21 rfl ?_
      refine Rf_iconst X (v := 0) rfl dX6_minutesOut_24 rfl ?_
      refine Rf_iaload X (Nat.le_of_ble_eq_true rfl) rfl rfl (by unfold vp_in; decide) dX6_minutesOut_25 rfl (v := gF σ 25 0) rfl ?_
      refine Rf_imul X dX6_minutesOut_26 rfl ?_
      refine Rf_aload_n X (j := 0) rfl rfl dX6_minutesOut_27 rfl ?_
      refine Rf_get X kc6 (Nat.le_of_ble_eq_true rfl) rfl (j := 9) (Nat.le_of_ble_eq_true rfl) lf_X6_27 (v := .ref 25) rfl dX6_minutesOut_28 rfl ?_
      refine Rf_iload_n X (j := 1) rfl rfl dX6_minutesOut_31 rfl ?_
      refine Rf_iconst X (v := 2) rfl dX6_minutesOut_32 rfl ?_
      refine Rf_isub X dX6_minutesOut_33 rfl ?_
      obtain ⟨s2, h⟩ := h
      refine Rf_iaload X (Nat.le_of_ble_eq_true rfl) rfl rfl s2 dX6_minutesOut_34 rfl (v := gF σ 25 ((x1 - 2).toNatClampNeg)) rfl ?_
      refine Rf_iadd X dX6_minutesOut_35 rfl ?_
      refine Rf_aload_n X (j := 0) rfl rfl dX6_minutesOut_36 rfl ?_
      refine Rf_get X kc6 (Nat.le_of_ble_eq_true rfl) rfl (j := 9) (Nat.le_of_ble_eq_true rfl) lf_X6_27 (v := .ref 25) rfl dX6_minutesOut_37 rfl ?_
      refine Rf_iload_n X (j := 1) rfl rfl dX6_minutesOut_40 rfl ?_
      refine Rf_iconst X (v := 1) rfl dX6_minutesOut_41 rfl ?_
      refine Rf_isub X dX6_minutesOut_42 rfl ?_
      obtain ⟨s3, h⟩ := h
      refine Rf_iaload X (Nat.le_of_ble_eq_true rfl) rfl rfl s3 dX6_minutesOut_43 rfl (v := gF σ 25 ((x1 - 1).toNatClampNeg)) rfl ?_
      refine Rf_iadd X dX6_minutesOut_44 rfl ?_
      refine Rf_istore_n X rfl (i := 3) (Nat.le_of_ble_eq_true rfl) (ls2 := [(3, .int (((2 * (gF σ 25 0)) + (gF σ 25 ((x1 - 2).toNatClampNeg))) + (gF σ 25 ((x1 - 1).toNatClampNeg)))), (0, .ref 20), (1, .int x1), (2, .int x2)]) rfl dX6_minutesOut_45 rfl ?_
      refine Rf_aload_n X (j := 1) rfl rfl dX6_minutesOut_46 rfl ?_
      refine Rf_get X kc6 (Nat.le_of_ble_eq_true rfl) rfl (j := 9) (Nat.le_of_ble_eq_true rfl) lf_X6_27 (v := .ref 25) rfl dX6_minutesOut_47 rfl ?_
      refine Rf_iconst X (v := 0) rfl dX6_minutesOut_50 rfl ?_
      refine Rf_iaload X (Nat.le_of_ble_eq_true rfl) rfl rfl (by unfold vp_in; decide) dX6_minutesOut_51 rfl (v := gF σ 25 0) rfl ?_
      refine Rf_iconst X (v := 2) rfl dX6_minutesOut_52 rfl ?_
      refine Rf_aload_n X (j := 1) rfl rfl dX6_minutesOut_53 rfl ?_
      refine Rf_get X kc6 (Nat.le_of_ble_eq_true rfl) rfl (j := 9) (Nat.le_of_ble_eq_true rfl) lf_X6_27 (v := .ref 25) rfl dX6_minutesOut_54 rfl ?_
      refine Rf_iconst X (v := 1) rfl dX6_minutesOut_57 rfl ?_
      refine Rf_iaload X (Nat.le_of_ble_eq_true rfl) rfl rfl (by unfold vp_in; decide) dX6_minutesOut_58 rfl (v := gF σ 25 1) rfl ?_
      refine Rf_imul X dX6_minutesOut_59 rfl ?_
      refine Rf_iadd X dX6_minutesOut_60 rfl ?_
      refine Rf_aload_n X (j := 1) rfl rfl dX6_minutesOut_61 rfl ?_
      refine Rf_get X kc6 (Nat.le_of_ble_eq_true rfl) rfl (j := 9) (Nat.le_of_ble_eq_true rfl) lf_X6_27 (v := .ref 25) rfl dX6_minutesOut_62 rfl ?_
      refine Rf_iload_n X (j := 2) rfl rfl dX6_minutesOut_65 rfl ?_
      refine Rf_iconst X (v := 1) rfl dX6_minutesOut_66 rfl ?_
      refine Rf_isub X dX6_minutesOut_67 rfl ?_
      obtain ⟨s4, h⟩ := h
      refine Rf_iaload X (Nat.le_of_ble_eq_true rfl) rfl rfl s4 dX6_minutesOut_68 rfl (v := gF σ 25 ((x1 - 1).toNatClampNeg)) rfl ?_
      refine Rf_iadd X dX6_minutesOut_69 rfl ?_
      refine Rf_istore X (i := 4) (Nat.le_of_ble_eq_true rfl) (ls2 := [(4, .int (((gF σ 25 0) + (2 * (gF σ 25 1))) + (gF σ 25 ((x1 - 1).toNatClampNeg)))), (3, .int (((2 * (gF σ 25 0)) + (gF σ 25 ((x1 - 2).toNatClampNeg))) + (gF σ 25 ((x1 - 1).toNatClampNeg)))), (0, .ref 20), (1, .int x1), (2, .int x2)]) rfl dX6_minutesOut_70 rfl ?_
      refine Rf_iload_n X (j := 4) rfl rfl dX6_minutesOut_72 rfl ?_
      refine Rf_iload_n X (j := 1) rfl rfl dX6_minutesOut_73 rfl ?_
      refine Rf_iload X (j := 0) rfl dX6_minutesOut_74 rfl ?_
      refine Rf_min X lm_X6_49 mm_min.1 mm_min.2.1 mm_min.2.2 (Nat.le_of_ble_eq_true rfl) (Nat.le_of_ble_eq_true rfl) dX6_minutesOut_76 rfl ?_
      refine Rf_iadd X dX6_minutesOut_79 rfl ?_
      refine Rf_istore_n X rfl (i := 2) (Nat.le_of_ble_eq_true rfl) (ls2 := [(2, .int (x2 + (if (((gF σ 25 0) + (2 * (gF σ 25 1))) + (gF σ 25 ((x1 - 1).toNatClampNeg))) < (((2 * (gF σ 25 0)) + (gF σ 25 ((x1 - 2).toNatClampNeg))) + (gF σ 25 ((x1 - 1).toNatClampNeg))) then (((gF σ 25 0) + (2 * (gF σ 25 1))) + (gF σ 25 ((x1 - 1).toNatClampNeg))) else (((2 * (gF σ 25 0)) + (gF σ 25 ((x1 - 2).toNatClampNeg))) + (gF σ 25 ((x1 - 1).toNatClampNeg)))))), (4, .int (((gF σ 25 0) + (2 * (gF σ 25 1))) + (gF σ 25 ((x1 - 1).toNatClampNeg)))), (3, .int (((2 * (gF σ 25 0)) + (gF σ 25 ((x1 - 2).toNatClampNeg))) + (gF σ 25 ((x1 - 1).toNatClampNeg)))), (0, .ref 20), (1, .int x1)]) rfl dX6_minutesOut_80 rfl ?_
      refine Rf_iinc X (i := 1) (j := 4) (v := x1 + (-2)) rfl (by rw [show Int32.ofInt (-2) = (-2 : Int32) from by decide]) (Nat.le_of_ble_eq_true rfl) (ls2 := [(1, .int (x1 + (-2))), (2, .int (x2 + (if (((gF σ 25 0) + (2 * (gF σ 25 1))) + (gF σ 25 ((x1 - 1).toNatClampNeg))) < (((2 * (gF σ 25 0)) + (gF σ 25 ((x1 - 2).toNatClampNeg))) + (gF σ 25 ((x1 - 1).toNatClampNeg))) then (((gF σ 25 0) + (2 * (gF σ 25 1))) + (gF σ 25 ((x1 - 1).toNatClampNeg))) else (((2 * (gF σ 25 0)) + (gF σ 25 ((x1 - 2).toNatClampNeg))) + (gF σ 25 ((x1 - 1).toNatClampNeg)))))), (4, .int (((gF σ 25 0) + (2 * (gF σ 25 1))) + (gF σ 25 ((x1 - 1).toNatClampNeg)))), (3, .int (((2 * (gF σ 25 0)) + (gF σ 25 ((x1 - 2).toNatClampNeg))) + (gF σ 25 ((x1 - 1).toNatClampNeg)))), (0, .ref 20)]) rfl dX6_minutesOut_81 rfl ?_
      refine Rf_goto X (tgt := 14) dX6_minutesOut_84 rfl ?_
      refine Rf_sub [4, 0, 1] rfl ?_
      exact hkb_14 _ _ σ h
def wp_X6_minutesOut (σ : rfS) (Q : Int32 → rfS → Prop) : Prop :=
  wp_X6_sortBySlow σ (fun (σ1 : rfS) => (∃ n6, wl_X6_minutesOut_14 Q (fun (x1_7 : Int32) (x2_8 : Int32) (σ9 : rfS) => ((¬ x1_7 = 3 → ((¬ x1_7 = 0 → vp_in (x1_7 - 1) 7 ∧ (Q (x2_8 + (gF σ9 25 ((x1_7 - 1).toNatClampNeg))) σ9)) ∧ (x1_7 = 0 → Q 0 σ9))) ∧ (x1_7 = 3 → Q (((x2_8 + (gF σ9 25 0)) + (gF σ9 25 1)) + (gF σ9 25 2)) σ9))) n6 (gI σ1 1 0) 0 σ1))
set_option maxRecDepth 20000 in
theorem k_X6_minutesOut {σ : rfS} {Q : Int32 → rfS → Prop} (h : wp_X6_minutesOut σ Q) : RM ΛC 1 yX6_minutesOut cX6_minutesOut 5 (some .int) [.ref 20] σ (qi Q) := by
  unfold wp_X6_minutesOut at h
  refine RM.intro (by decide) (Nat.le_of_ble_eq_true rfl) (fun E X => ?_)
  show Rf ΛC 1 E 5 (qi Q) 0 [(0, .ref 20)] [] σ
  refine Rf_aload_n X (j := 0) rfl rfl dX6_minutesOut_0 rfl ?_
  refine Rf_cVv (as := []) (st := []) X mi_X6_sortBySlow lm_X6_124 rfl (Nat.le_of_ble_eq_true rfl) rfl (k_X6_sortBySlow h) (Nat.le_of_ble_eq_true rfl) rfl rfl (Nat.le_of_ble_eq_true rfl) dX6_minutesOut_1 rfl (fun σ1 h => ?_)
  refine Rf_aload_n X (j := 0) rfl rfl dX6_minutesOut_4 rfl ?_
  refine Rf_get X kc6 (Nat.le_of_ble_eq_true rfl) rfl (j := 4) (Nat.le_of_ble_eq_true rfl) lf_X6_30 (v := .ref 1) rfl dX6_minutesOut_5 rfl ?_
  refine Rf_get X kc2 (Nat.le_of_ble_eq_true rfl) rfl (j := 0) (Nat.le_of_ble_eq_true rfl) lf_X6_35 (v := .int (gI σ1 1 0)) rfl dX6_minutesOut_8 rfl ?_
  refine Rf_istore_n X rfl (i := 1) (Nat.le_of_ble_eq_true rfl) (ls2 := [(1, .int (gI σ1 1 0)), (0, .ref 20)]) rfl dX6_minutesOut_11 rfl ?_
  refine Rf_iconst X (v := 0) rfl dX6_minutesOut_12 rfl ?_
  refine Rf_istore_n X rfl (i := 2) (Nat.le_of_ble_eq_true rfl) (ls2 := [(2, .int 0), (1, .int (gI σ1 1 0)), (0, .ref 20)]) rfl dX6_minutesOut_13 rfl ?_
  obtain ⟨n6, h⟩ := h
  refine Rf_sub [2, 1, 0] rfl ?_
  refine sl_X6_minutesOut_14 X (fun x1_7 x2_8 σ9 h => ?_) n6 _ _ _ h
  · refine Rf_iload_n X (j := 1) rfl rfl dX6_minutesOut_87 rfl ?_
    refine Rf_iconst X (v := 3) rfl dX6_minutesOut_88 rfl ?_
    refine Rf_icmp_ne X (tgt := 115) dX6_minutesOut_89 rfl rfl (fun c12 => ?_) (fun c12 => ?_)
    · have h := h.1 c12
      refine Rf_iload_n X (j := 1) rfl rfl dX6_minutesOut_115 rfl ?_
      refine Rf_if_ne X (tgt := 123) dX6_minutesOut_116 rfl rfl (fun c11 => ?_) (fun c11 => ?_)
      · have h := h.1 c11
        refine Rf_iload_n X (j := 2) rfl rfl dX6_minutesOut_123 rfl ?_
        refine Rf_aload_n X (j := 0) rfl rfl dX6_minutesOut_124 rfl ?_
        refine Rf_get X kc6 (Nat.le_of_ble_eq_true rfl) rfl (j := 9) (Nat.le_of_ble_eq_true rfl) lf_X6_27 (v := .ref 25) rfl dX6_minutesOut_125 rfl ?_
        refine Rf_iload_n X (j := 1) rfl rfl dX6_minutesOut_128 rfl ?_
        refine Rf_iconst X (v := 1) rfl dX6_minutesOut_129 rfl ?_
        refine Rf_isub X dX6_minutesOut_130 rfl ?_
        obtain ⟨s10, h⟩ := h
        refine Rf_iaload X (Nat.le_of_ble_eq_true rfl) rfl rfl s10 dX6_minutesOut_131 rfl (v := gF σ9 25 ((x1_7 - 1).toNatClampNeg)) rfl ?_
        refine Rf_iadd X dX6_minutesOut_132 rfl ?_
        exact Rf_iret X rfl dX6_minutesOut_133 ⟨_, rfl, h⟩
      · have h := h.2 c11
        refine Rf_iconst X (v := 0) rfl dX6_minutesOut_119 rfl ?_
        refine Rf_goto X (tgt := 133) dX6_minutesOut_120 rfl ?_
        exact Rf_iret X rfl dX6_minutesOut_133 ⟨_, rfl, h⟩
    · have h := h.2 c12
      refine Rf_iload_n X (j := 2) rfl rfl dX6_minutesOut_92 rfl ?_
      refine Rf_aload_n X (j := 0) rfl rfl dX6_minutesOut_93 rfl ?_
      refine Rf_get X kc6 (Nat.le_of_ble_eq_true rfl) rfl (j := 9) (Nat.le_of_ble_eq_true rfl) lf_X6_27 (v := .ref 25) rfl dX6_minutesOut_94 rfl ?_
      refine Rf_iconst X (v := 0) rfl dX6_minutesOut_97 rfl ?_
      refine Rf_iaload X (Nat.le_of_ble_eq_true rfl) rfl rfl (by unfold vp_in; decide) dX6_minutesOut_98 rfl (v := gF σ9 25 0) rfl ?_
      refine Rf_iadd X dX6_minutesOut_99 rfl ?_
      refine Rf_aload_n X (j := 0) rfl rfl dX6_minutesOut_100 rfl ?_
      refine Rf_get X kc6 (Nat.le_of_ble_eq_true rfl) rfl (j := 9) (Nat.le_of_ble_eq_true rfl) lf_X6_27 (v := .ref 25) rfl dX6_minutesOut_101 rfl ?_
      refine Rf_iconst X (v := 1) rfl dX6_minutesOut_104 rfl ?_
      refine Rf_iaload X (Nat.le_of_ble_eq_true rfl) rfl rfl (by unfold vp_in; decide) dX6_minutesOut_105 rfl (v := gF σ9 25 1) rfl ?_
      refine Rf_iadd X dX6_minutesOut_106 rfl ?_
      refine Rf_aload_n X (j := 0) rfl rfl dX6_minutesOut_107 rfl ?_
      refine Rf_get X kc6 (Nat.le_of_ble_eq_true rfl) rfl (j := 9) (Nat.le_of_ble_eq_true rfl) lf_X6_27 (v := .ref 25) rfl dX6_minutesOut_108 rfl ?_
      refine Rf_iconst X (v := 2) rfl dX6_minutesOut_111 rfl ?_
      refine Rf_iaload X (Nat.le_of_ble_eq_true rfl) rfl rfl (by unfold vp_in; decide) dX6_minutesOut_112 rfl (v := gF σ9 25 2) rfl ?_
      refine Rf_iadd X dX6_minutesOut_113 rfl ?_
      exact Rf_iret X rfl dX6_minutesOut_114 ⟨_, rfl, h⟩
