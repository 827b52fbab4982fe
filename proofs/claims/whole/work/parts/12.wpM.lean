def wp_X8_within (σ : rfS) (x0 : Int32) (x1 : Int32) (x2 : Int32) (Q : Int32 → rfS → Prop) : Prop :=
  ((x0 < x1 → Q 0 σ) ∧ (¬ (x0 < x1) → ((x2 < x0 → Q 0 σ) ∧ (¬ (x2 < x0) → Q 1 σ))))
set_option maxRecDepth 20000 in
theorem k_X8_within {σ : rfS} {x0 : Int32} {x1 : Int32} {x2 : Int32} {Q : Int32 → rfS → Prop} (h : wp_X8_within σ x0 x1 x2 Q) : RM ΛM 0 yX8_within cX8_within 3 (some .boolean) [.int x0, .int x1, .int x2] σ (qi Q) := by
  unfold wp_X8_within at h
  refine RM.intro (by decide) (Nat.le_of_ble_eq_true rfl) (fun E X => ?_)
  show Rf ΛM 0 E 3 (qi Q) 0 [(0, .int x0), (1, .int x1), (2, .int x2)] [] σ
  refine Rf_iload_n X (j := 0) rfl rfl dX8_within_0 rfl ?_
  refine Rf_iload_n X (j := 1) rfl rfl dX8_within_1 rfl ?_
  refine Rf_icmp_lt X (tgt := 14) dX8_within_2 rfl rfl (fun c2 => ?_) (fun c2 => ?_)
  · have h := h.1 c2
    refine Rf_iconst X (v := 0) rfl dX8_within_14 rfl ?_
    exact Rf_iret X rfl dX8_within_15 ⟨_, rfl, h⟩
  · have h := h.2 c2
    refine Rf_iload_n X (j := 0) rfl rfl dX8_within_5 rfl ?_
    refine Rf_iload_n X (j := 2) rfl rfl dX8_within_6 rfl ?_
    refine Rf_icmp_gt X (tgt := 14) dX8_within_7 rfl rfl (fun c1 => ?_) (fun c1 => ?_)
    · have h := h.1 c1
      refine Rf_iconst X (v := 0) rfl dX8_within_14 rfl ?_
      exact Rf_iret X rfl dX8_within_15 ⟨_, rfl, h⟩
    · have h := h.2 c1
      refine Rf_iconst X (v := 1) rfl dX8_within_10 rfl ?_
      refine Rf_goto X (tgt := 15) dX8_within_11 rfl ?_
      exact Rf_iret X rfl dX8_within_15 ⟨_, rfl, h⟩
def wp_X8_isOne (σ : rfS) (x1 : Int32) (Q : Int32 → rfS → Prop) : Prop :=
  wp_X8_within σ x1 0 ((gI σ 0 0) - 1) (fun (r2 : Int32) (σ1 : rfS) => (rfZ r2) ∧ Q r2 σ1)
set_option maxRecDepth 20000 in
theorem k_X8_isOne {σ : rfS} {x1 : Int32} {Q : Int32 → rfS → Prop} (h : wp_X8_isOne σ x1 Q) : RM ΛM 1 yX8_isOne cX8_isOne 2 (some .boolean) [.ref 0, .int x1] σ (qi Q) := by
  unfold wp_X8_isOne at h
  refine RM.intro (by decide) (Nat.le_of_ble_eq_true rfl) (fun E X => ?_)
  show Rf ΛM 1 E 2 (qi Q) 0 [(0, .ref 0), (1, .int x1)] [] σ
  refine Rf_iload_n X (j := 1) rfl rfl dX8_isOne_0 rfl ?_
  refine Rf_iconst X (v := 0) rfl dX8_isOne_1 rfl ?_
  refine Rf_aload_n X (j := 0) rfl rfl dX8_isOne_2 rfl ?_
  refine Rf_get X kc8 (Nat.le_of_ble_eq_true rfl) rfl (j := 0) (Nat.le_of_ble_eq_true rfl) lf_X8_94 (v := .int (gI σ 0 0)) rfl dX8_isOne_3 rfl ?_
  refine Rf_iconst X (v := 1) rfl dX8_isOne_6 rfl ?_
  refine Rf_isub X dX8_isOne_7 rfl ?_
  refine Rf_cSi (as := [.int x1, .int 0, .int ((gI σ 0 0) - 1)]) (st := []) X ms_X8_within lm_X8_98 (k_X8_within h) (Nat.le_of_ble_eq_true rfl) rfl rfl (Nat.le_of_ble_eq_true rfl) dX8_isOne_8 rfl (fun r2 σ1 h => ?_)
  obtain ⟨s3, h⟩ := h
  exact Rf_iret X (rfZ_n s3) dX8_isOne_11 ⟨_, rfl, h⟩
def wp_X8_isShelf (σ : rfS) (x0 : Int32) (Q : Int32 → rfS → Prop) : Prop :=
  wp_X8_within σ x0 0 5 (fun (r2 : Int32) (σ1 : rfS) => (rfZ r2) ∧ Q r2 σ1)
set_option maxRecDepth 20000 in
theorem k_X8_isShelf {σ : rfS} {x0 : Int32} {Q : Int32 → rfS → Prop} (h : wp_X8_isShelf σ x0 Q) : RM ΛM 1 yX8_isShelf cX8_isShelf 1 (some .boolean) [.int x0] σ (qi Q) := by
  unfold wp_X8_isShelf at h
  refine RM.intro (by decide) (Nat.le_of_ble_eq_true rfl) (fun E X => ?_)
  show Rf ΛM 1 E 1 (qi Q) 0 [(0, .int x0)] [] σ
  refine Rf_iload_n X (j := 0) rfl rfl dX8_isShelf_0 rfl ?_
  refine Rf_iconst X (v := 0) rfl dX8_isShelf_1 rfl ?_
  refine Rf_iconst X (v := 5) rfl dX8_isShelf_2 rfl ?_
  refine Rf_cSi (as := [.int x0, .int 0, .int 5]) (st := []) X ms_X8_within lm_X8_98 (k_X8_within h) (Nat.le_of_ble_eq_true rfl) rfl rfl (Nat.le_of_ble_eq_true rfl) dX8_isShelf_3 rfl (fun r2 σ1 h => ?_)
  obtain ⟨s3, h⟩ := h
  exact Rf_iret X (rfZ_n s3) dX8_isShelf_6 ⟨_, rfl, h⟩
def wp_X8_has (σ : rfS) (x0 : Int32) (x1 : Int32) (Q : Int32 → rfS → Prop) : Prop :=
  ((¬ ((x0 >>> (x1 &&& 31)) &&& 1) = 1 → Q 0 σ) ∧ (((x0 >>> (x1 &&& 31)) &&& 1) = 1 → Q 1 σ))
set_option maxRecDepth 20000 in
theorem k_X8_has {σ : rfS} {x0 : Int32} {x1 : Int32} {Q : Int32 → rfS → Prop} (h : wp_X8_has σ x0 x1 Q) : RM ΛM 0 yX8_has cX8_has 2 (some .boolean) [.int x0, .int x1] σ (qi Q) := by
  unfold wp_X8_has at h
  refine RM.intro (by decide) (Nat.le_of_ble_eq_true rfl) (fun E X => ?_)
  show Rf ΛM 0 E 2 (qi Q) 0 [(0, .int x0), (1, .int x1)] [] σ
  refine Rf_iload_n X (j := 0) rfl rfl dX8_has_0 rfl ?_
  refine Rf_iload_n X (j := 1) rfl rfl dX8_has_1 rfl ?_
  refine Rf_ishr X dX8_has_2 rfl ?_
  refine Rf_iconst X (v := 1) rfl dX8_has_3 rfl ?_
  refine Rf_iand X dX8_has_4 rfl ?_
  refine Rf_iconst X (v := 1) rfl dX8_has_5 rfl ?_
  refine Rf_icmp_ne X (tgt := 13) dX8_has_6 rfl rfl (fun c1 => ?_) (fun c1 => ?_)
  · have h := h.1 c1
    refine Rf_iconst X (v := 0) rfl dX8_has_13 rfl ?_
    exact Rf_iret X rfl dX8_has_14 ⟨_, rfl, h⟩
  · have h := h.2 c1
    refine Rf_iconst X (v := 1) rfl dX8_has_9 rfl ?_
    refine Rf_goto X (tgt := 14) dX8_has_10 rfl ?_
    exact Rf_iret X rfl dX8_has_14 ⟨_, rfl, h⟩
def wp_X8_newOne (σ : rfS) (x1 : Int32) (x2 : Int32) (x3 : Int32) (Q : Int32 → rfS → Prop) : Prop :=
  vp_in (gI σ 0 0) 42 ∧ vp_in (7 + (gI σ 0 0)) 42 ∧ vp_in (14 + (gI σ 0 0)) 42 ∧ vp_in (21 + (gI σ 0 0)) 42 ∧ Q (gI σ 0 0) (sI (sF (sF (sF (sF σ 1 ((gI σ 0 0).toNatClampNeg) x1) 1 ((7 + (gI σ 0 0)).toNatClampNeg) x2) 1 ((14 + (gI σ 0 0)).toNatClampNeg) x3) 1 ((21 + (gI σ 0 0)).toNatClampNeg) 3) 0 0 ((gI σ 0 0) + 1))
set_option maxRecDepth 20000 in
theorem k_X8_newOne {σ : rfS} {x1 : Int32} {x2 : Int32} {x3 : Int32} {Q : Int32 → rfS → Prop} (h : wp_X8_newOne σ x1 x2 x3 Q) : RM ΛM 0 yX8_newOne cX8_newOne 4 (some .int) [.ref 0, .int x1, .int x2, .int x3] σ (qi Q) := by
  unfold wp_X8_newOne at h
  refine RM.intro (by decide) (Nat.le_of_ble_eq_true rfl) (fun E X => ?_)
  show Rf ΛM 0 E 4 (qi Q) 0 [(0, .ref 0), (1, .int x1), (2, .int x2), (3, .int x3)] [] σ
  refine Rf_aload_n X (j := 0) rfl rfl dX8_newOne_0 rfl ?_
  refine Rf_get X kc8 (Nat.le_of_ble_eq_true rfl) rfl (j := 1) (Nat.le_of_ble_eq_true rfl) lf_X8_9 (v := .ref 1) rfl dX8_newOne_1 rfl ?_
  refine Rf_aload_n X (j := 0) rfl rfl dX8_newOne_4 rfl ?_
  refine Rf_get X kc8 (Nat.le_of_ble_eq_true rfl) rfl (j := 0) (Nat.le_of_ble_eq_true rfl) lf_X8_94 (v := .int (gI σ 0 0)) rfl dX8_newOne_5 rfl ?_
  refine Rf_iload_n X (j := 1) rfl rfl dX8_newOne_8 rfl ?_
  obtain ⟨s1, h⟩ := h
  refine Rf_iastore X (Nat.le_of_ble_eq_true rfl) rfl rfl s1 dX8_newOne_9 rfl ?_
  refine Rf_aload_n X (j := 0) rfl rfl dX8_newOne_10 rfl ?_
  refine Rf_get X kc8 (Nat.le_of_ble_eq_true rfl) rfl (j := 1) (Nat.le_of_ble_eq_true rfl) lf_X8_9 (v := .ref 1) rfl dX8_newOne_11 rfl ?_
  refine Rf_bipush X (v := 7) rfl dX8_newOne_14 rfl ?_
  refine Rf_aload_n X (j := 0) rfl rfl dX8_newOne_16 rfl ?_
  refine Rf_get X kc8 (Nat.le_of_ble_eq_true rfl) rfl (j := 0) (Nat.le_of_ble_eq_true rfl) lf_X8_94 (v := .int (gI σ 0 0)) (congrArg Value.int (show gI (sF σ 1 ((gI σ 0 0).toNatClampNeg) x1) 0 0 = gI σ 0 0 from gI_sF _ _ _ _ _ _)) dX8_newOne_17 rfl ?_
  refine Rf_iadd X dX8_newOne_20 rfl ?_
  refine Rf_iload_n X (j := 2) rfl rfl dX8_newOne_21 rfl ?_
  obtain ⟨s2, h⟩ := h
  refine Rf_iastore X (Nat.le_of_ble_eq_true rfl) rfl rfl s2 dX8_newOne_22 rfl ?_
  refine Rf_aload_n X (j := 0) rfl rfl dX8_newOne_23 rfl ?_
  refine Rf_get X kc8 (Nat.le_of_ble_eq_true rfl) rfl (j := 1) (Nat.le_of_ble_eq_true rfl) lf_X8_9 (v := .ref 1) rfl dX8_newOne_24 rfl ?_
  refine Rf_bipush X (v := 14) rfl dX8_newOne_27 rfl ?_
  refine Rf_aload_n X (j := 0) rfl rfl dX8_newOne_29 rfl ?_
  refine Rf_get X kc8 (Nat.le_of_ble_eq_true rfl) rfl (j := 0) (Nat.le_of_ble_eq_true rfl) lf_X8_94 (v := .int (gI σ 0 0)) (congrArg Value.int (show gI (sF (sF σ 1 ((gI σ 0 0).toNatClampNeg) x1) 1 ((7 + (gI σ 0 0)).toNatClampNeg) x2) 0 0 = gI σ 0 0 from (gI_sF _ _ _ _ _ _).trans (gI_sF _ _ _ _ _ _))) dX8_newOne_30 rfl ?_
  refine Rf_iadd X dX8_newOne_33 rfl ?_
  refine Rf_iload_n X (j := 3) rfl rfl dX8_newOne_34 rfl ?_
  obtain ⟨s3, h⟩ := h
  refine Rf_iastore X (Nat.le_of_ble_eq_true rfl) rfl rfl s3 dX8_newOne_35 rfl ?_
  refine Rf_aload_n X (j := 0) rfl rfl dX8_newOne_36 rfl ?_
  refine Rf_get X kc8 (Nat.le_of_ble_eq_true rfl) rfl (j := 1) (Nat.le_of_ble_eq_true rfl) lf_X8_9 (v := .ref 1) rfl dX8_newOne_37 rfl ?_
  refine Rf_bipush X (v := 21) rfl dX8_newOne_40 rfl ?_
  refine Rf_aload_n X (j := 0) rfl rfl dX8_newOne_42 rfl ?_
  refine Rf_get X kc8 (Nat.le_of_ble_eq_true rfl) rfl (j := 0) (Nat.le_of_ble_eq_true rfl) lf_X8_94 (v := .int (gI σ 0 0)) (congrArg Value.int (show gI (sF (sF (sF σ 1 ((gI σ 0 0).toNatClampNeg) x1) 1 ((7 + (gI σ 0 0)).toNatClampNeg) x2) 1 ((14 + (gI σ 0 0)).toNatClampNeg) x3) 0 0 = gI σ 0 0 from (gI_sF _ _ _ _ _ _).trans ((gI_sF _ _ _ _ _ _).trans (gI_sF _ _ _ _ _ _)))) dX8_newOne_43 rfl ?_
  refine Rf_iadd X dX8_newOne_46 rfl ?_
  refine Rf_iconst X (v := 3) rfl dX8_newOne_47 rfl ?_
  obtain ⟨s4, h⟩ := h
  refine Rf_iastore X (Nat.le_of_ble_eq_true rfl) rfl rfl s4 dX8_newOne_48 rfl ?_
  refine Rf_aload_n X (j := 0) rfl rfl dX8_newOne_49 rfl ?_
  refine Rf_dup X rfl dX8_newOne_50 rfl ?_
  refine Rf_get X kc8 (Nat.le_of_ble_eq_true rfl) rfl (j := 0) (Nat.le_of_ble_eq_true rfl) lf_X8_94 (v := .int (gI σ 0 0)) (congrArg Value.int (show gI (sF (sF (sF (sF σ 1 ((gI σ 0 0).toNatClampNeg) x1) 1 ((7 + (gI σ 0 0)).toNatClampNeg) x2) 1 ((14 + (gI σ 0 0)).toNatClampNeg) x3) 1 ((21 + (gI σ 0 0)).toNatClampNeg) 3) 0 0 = gI σ 0 0 from (gI_sF _ _ _ _ _ _).trans ((gI_sF _ _ _ _ _ _).trans ((gI_sF _ _ _ _ _ _).trans (gI_sF _ _ _ _ _ _))))) dX8_newOne_51 rfl ?_
  refine Rf_dup_x1 X rfl rfl dX8_newOne_54 rfl ?_
  refine Rf_iconst X (v := 1) rfl dX8_newOne_55 rfl ?_
  refine Rf_iadd X dX8_newOne_56 rfl ?_
  refine Rf_put X kc8 (Nat.le_of_ble_eq_true rfl) rfl (j := 0) (Nat.le_of_ble_eq_true rfl) rfl lf_X8_94 rfl rfl rfl dX8_newOne_57 rfl ?_
  exact Rf_iret X rfl dX8_newOne_60 ⟨_, rfl, h⟩
def wp_X8_brother (σ : rfS) (x1 : Int32) (Q : Int32 → rfS → Prop) : Prop :=
  wp_X8_within σ x1 0 127 (fun (r2 : Int32) (σ1 : rfS) => ((¬ r2 = 0 → ((¬ (gI σ1 0 0) = 7 → wp_X8_newOne σ1 x1 0 0 (fun (r4 : Int32) (σ3 : rfS) => Q r4 σ3)) ∧ ((gI σ1 0 0) = 7 → Q (-3) σ1))) ∧ (r2 = 0 → Q (-1) σ1)))
set_option maxRecDepth 20000 in
theorem k_X8_brother {σ : rfS} {x1 : Int32} {Q : Int32 → rfS → Prop} (h : wp_X8_brother σ x1 Q) : RM ΛM 1 yX8_brother cX8_brother 2 (some .int) [.ref 0, .int x1] σ (qi Q) := by
  unfold wp_X8_brother at h
  refine RM.intro (by decide) (Nat.le_of_ble_eq_true rfl) (fun E X => ?_)
  show Rf ΛM 1 E 2 (qi Q) 0 [(0, .ref 0), (1, .int x1)] [] σ
  refine Rf_iload_n X (j := 1) rfl rfl dX8_brother_0 rfl ?_
  refine Rf_iconst X (v := 0) rfl dX8_brother_1 rfl ?_
  refine Rf_bipush X (v := 127) rfl dX8_brother_2 rfl ?_
  refine Rf_cSi (as := [.int x1, .int 0, .int 127]) (st := []) X ms_X8_within lm_X8_98 (k_X8_within h) (Nat.le_of_ble_eq_true rfl) rfl rfl (Nat.le_of_ble_eq_true rfl) dX8_brother_4 rfl (fun r2 σ1 h => ?_)
  refine Rf_if_ne X (tgt := 12) dX8_brother_7 rfl rfl (fun c6 => ?_) (fun c6 => ?_)
  · have h := h.1 c6
    refine Rf_aload_n X (j := 0) rfl rfl dX8_brother_12 rfl ?_
    refine Rf_get X kc8 (Nat.le_of_ble_eq_true rfl) rfl (j := 0) (Nat.le_of_ble_eq_true rfl) lf_X8_94 (v := .int (gI σ1 0 0)) rfl dX8_brother_13 rfl ?_
    refine Rf_bipush X (v := 7) rfl dX8_brother_16 rfl ?_
    refine Rf_icmp_ne X (tgt := 26) dX8_brother_18 rfl rfl (fun c5 => ?_) (fun c5 => ?_)
    · have h := h.1 c5
      refine Rf_aload_n X (j := 0) rfl rfl dX8_brother_26 rfl ?_
      refine Rf_iload_n X (j := 1) rfl rfl dX8_brother_27 rfl ?_
      refine Rf_iconst X (v := 0) rfl dX8_brother_28 rfl ?_
      refine Rf_iconst X (v := 0) rfl dX8_brother_29 rfl ?_
      refine Rf_cVi (as := [.int x1, .int 0, .int 0]) (st := []) X mi_X8_newOne lm_X8_102 rfl (Nat.le_of_ble_eq_true rfl) rfl (k_X8_newOne h) (Nat.le_of_ble_eq_true rfl) rfl rfl (Nat.le_of_ble_eq_true rfl) dX8_brother_30 rfl (fun r4 σ3 h => ?_)
      exact Rf_iret X rfl dX8_brother_33 ⟨_, rfl, h⟩
    · have h := h.2 c5
      refine Rf_bipush X (v := (-3)) (by decide) dX8_brother_21 rfl ?_
      refine Rf_goto X (tgt := 33) dX8_brother_23 rfl ?_
      exact Rf_iret X rfl dX8_brother_33 ⟨_, rfl, h⟩
  · have h := h.2 c6
    refine Rf_iconst X (v := (-1)) (by decide) dX8_brother_10 rfl ?_
    exact Rf_iret X rfl dX8_brother_11 ⟨_, rfl, h⟩
def wp_X8_toldAt (σ : rfS) (x1 : Int32) (x2 : Int32) (Q : Int32 → rfS → Prop) : Prop :=
  vp_in ((60 * x1) + x2) 360 ∧ Q ((gL σ 22 (((60 * x1) + x2).toNatClampNeg)).toInt32) σ
set_option maxRecDepth 20000 in
theorem k_X8_toldAt {σ : rfS} {x1 : Int32} {x2 : Int32} {Q : Int32 → rfS → Prop} (h : wp_X8_toldAt σ x1 x2 Q) : RM ΛM 0 yX8_toldAt cX8_toldAt 3 (some .int) [.ref 0, .int x1, .int x2] σ (qi Q) := by
  unfold wp_X8_toldAt at h
  refine RM.intro (by decide) (Nat.le_of_ble_eq_true rfl) (fun E X => ?_)
  show Rf ΛM 0 E 3 (qi Q) 0 [(0, .ref 0), (1, .int x1), (2, .int x2)] [] σ
  refine Rf_aload_n X (j := 0) rfl rfl dX8_toldAt_0 rfl ?_
  refine Rf_get X kc8 (Nat.le_of_ble_eq_true rfl) rfl (j := 35) (Nat.le_of_ble_eq_true rfl) lf_X8_75 (v := .ref 22) rfl dX8_toldAt_1 rfl ?_
  refine Rf_bipush X (v := 60) rfl dX8_toldAt_4 rfl ?_
  refine Rf_iload_n X (j := 1) rfl rfl dX8_toldAt_6 rfl ?_
  refine Rf_imul X dX8_toldAt_7 rfl ?_
  refine Rf_iload_n X (j := 2) rfl rfl dX8_toldAt_8 rfl ?_
  refine Rf_iadd X dX8_toldAt_9 rfl ?_
  obtain ⟨s1, h⟩ := h
  refine Rf_laload X (Nat.le_of_ble_eq_true rfl) rfl rfl s1 dX8_toldAt_10 rfl (v := gL σ 22 (((60 * x1) + x2).toNatClampNeg)) rfl ?_
  refine Rf_l2i X dX8_toldAt_11 rfl ?_
  exact Rf_iret X rfl dX8_toldAt_12 ⟨_, rfl, h⟩
def wl_X8_brothers_50 (Q : Int32 → rfS → Prop) : Nat → Int32 → Int32 → Int32 → Int32 → Int32 → rfS → Prop
  | 0, _, _, _, _, _, _ => False
  | n + 1, x1, x2, x3, x4, x5, σ => ((x3 ≤ x5 → Q x4 σ) ∧ (¬ (x3 ≤ x5) → (((lg_cmp ((x2.toInt64) + (3 * (x5.toInt64))) 0) < 0 → Q x4 σ) ∧ (¬ ((lg_cmp ((x2.toInt64) + (3 * (x5.toInt64))) 0) < 0) → vp_in x1 6 ∧ ((0 < (lg_cmp (((x2.toInt64) + (3 * (x5.toInt64))) + 3) ((gF σ 21 (x1.toNatClampNeg)).toInt64)) → Q x4 σ) ∧ (¬ (0 < (lg_cmp (((x2.toInt64) + (3 * (x5.toInt64))) + 3) ((gF σ 21 (x1.toNatClampNeg)).toInt64))) → ((¬ (gI σ 0 0) = 7 → wp_X8_toldAt σ x1 (((x2.toInt64) + (3 * (x5.toInt64))).toInt32) (fun (r9 : Int32) (σ8 : rfS) => wp_X8_within σ8 r9 0 127 (fun (r11 : Int32) (σ10 : rfS) => ((r11 = 0 → Q x4 σ10) ∧ (¬ r11 = 0 → wp_X8_toldAt σ10 x1 ((((x2.toInt64) + (3 * (x5.toInt64))).toInt32) + 1) (fun (r13 : Int32) (σ12 : rfS) => wp_X8_within σ12 r13 0 99 (fun (r15 : Int32) (σ14 : rfS) => ((r15 = 0 → Q x4 σ14) ∧ (¬ r15 = 0 → wp_X8_toldAt σ14 x1 ((((x2.toInt64) + (3 * (x5.toInt64))).toInt32) + 2) (fun (r17 : Int32) (σ16 : rfS) => wp_X8_within σ16 r17 0 255 (fun (r19 : Int32) (σ18 : rfS) => ((¬ r19 = 0 → wp_X8_toldAt σ18 x1 (((x2.toInt64) + (3 * (x5.toInt64))).toInt32) (fun (r21 : Int32) (σ20 : rfS) => wp_X8_toldAt σ20 x1 ((((x2.toInt64) + (3 * (x5.toInt64))).toInt32) + 1) (fun (r23 : Int32) (σ22 : rfS) => wp_X8_toldAt σ22 x1 ((((x2.toInt64) + (3 * (x5.toInt64))).toInt32) + 2) (fun (r25 : Int32) (σ24 : rfS) => wp_X8_newOne σ24 r21 r23 r25 (fun (r27 : Int32) (σ26 : rfS) => wl_X8_brothers_50 Q n x1 x2 x3 (x4 + 1) (x5 + 1) σ26))))) ∧ (r19 = 0 → Q x4 σ18))))))))))))) ∧ ((gI σ 0 0) = 7 → Q x4 σ))))))))
set_option maxRecDepth 20000 in
theorem sl_X8_brothers_50 {E : rfE} {Q : Int32 → rfS → Prop} (X : rfX ΛM E yX8_brothers cX8_brothers 9 (some .int)) : ∀ (n : Nat) (x1 : Int32) (x2 : Int32) (x3 : Int32) (x4 : Int32) (x5 : Int32) (σ : rfS), wl_X8_brothers_50 Q n x1 x2 x3 x4 x5 σ → Rf ΛM 2 E 9 (qi Q) 50 [(0, .ref 0), (1, .int x1), (2, .int x2), (3, .int x3), (4, .int x4), (5, .int x5)] [] σ := by
  intro n
  induction n with
  | zero =>
    intro x1 x2 x3 x4 x5 σ h
    exact False.elim h
  | succ n hkb_50 =>
    intro x1 x2 x3 x4 x5 σ h
    unfold wl_X8_brothers_50 at h
    refine Rf_iload X (j := 5) rfl dX8_brothers_50 rfl ?_
    refine Rf_iload_n X (j := 3) rfl rfl dX8_brothers_52 rfl ?_
    refine Rf_icmp_ge X (tgt := 204) dX8_brothers_53 rfl rfl (fun c34 => ?_) (fun c34 => ?_)
    · have h := h.1 c34
      refine Rf_iload X (j := 4) rfl dX8_brothers_204 rfl ?_
      exact Rf_iret X rfl dX8_brothers_206 ⟨_, rfl, h⟩
    · have h := h.2 c34
      refine Rf_iload_n X (j := 2) rfl rfl dX8_brothers_56 rfl ?_
      refine Rf_i2l X dX8_brothers_57 rfl ?_
      refine Rf_ldc2 X lc_X8_110 dX8_brothers_58 rfl ?_
      refine Rf_iload X (j := 5) rfl dX8_brothers_61 rfl ?_
      refine Rf_i2l X dX8_brothers_63 rfl ?_
      refine Rf_lmul X dX8_brothers_64 rfl ?_
      refine Rf_ladd X dX8_brothers_65 rfl ?_
      refine Rf_lstore X (i := 6) (Nat.le_of_ble_eq_true rfl) (ls2 := [(6, .long ((x2.toInt64) + (3 * (x5.toInt64)))), (0, .ref 0), (1, .int x1), (2, .int x2), (3, .int x3), (4, .int x4), (5, .int x5)]) rfl dX8_brothers_66 rfl ?_
      refine Rf_lload X (j := 0) rfl dX8_brothers_68 rfl ?_
      refine Rf_lconst X (v := 0) rfl dX8_brothers_70 rfl ?_
      refine Rf_lcmp X dX8_brothers_71 rfl ?_
      refine Rf_if_lt X (tgt := 101) dX8_brothers_72 rfl rfl (fun c33 => ?_) (fun c33 => ?_)
      · have h := h.1 c33
        refine Rf_iload X (j := 5) rfl dX8_brothers_101 rfl ?_
        exact Rf_iret X rfl dX8_brothers_103 ⟨_, rfl, h⟩
      · have h := h.2 c33
        refine Rf_lload X (j := 0) rfl dX8_brothers_75 rfl ?_
        refine Rf_ldc2 X lc_X8_110 dX8_brothers_77 rfl ?_
        refine Rf_ladd X dX8_brothers_80 rfl ?_
        refine Rf_aload_n X (j := 1) rfl rfl dX8_brothers_81 rfl ?_
        refine Rf_get X kc8 (Nat.le_of_ble_eq_true rfl) rfl (j := 34) (Nat.le_of_ble_eq_true rfl) lf_X8_72 (v := .ref 21) rfl dX8_brothers_82 rfl ?_
        refine Rf_iload_n X (j := 2) rfl rfl dX8_brothers_85 rfl ?_
        obtain ⟨s7, h⟩ := h
        refine Rf_iaload X (Nat.le_of_ble_eq_true rfl) rfl rfl s7 dX8_brothers_86 rfl (v := gF σ 21 (x1.toNatClampNeg)) rfl ?_
        refine Rf_i2l X dX8_brothers_87 rfl ?_
        refine Rf_lcmp X dX8_brothers_88 rfl ?_
        refine Rf_if_gt X (tgt := 101) dX8_brothers_89 rfl rfl (fun c32 => ?_) (fun c32 => ?_)
        · have h := h.1 c32
          refine Rf_iload X (j := 5) rfl dX8_brothers_101 rfl ?_
          exact Rf_iret X rfl dX8_brothers_103 ⟨_, rfl, h⟩
        · have h := h.2 c32
          refine Rf_aload_n X (j := 1) rfl rfl dX8_brothers_92 rfl ?_
          refine Rf_get X kc8 (Nat.le_of_ble_eq_true rfl) rfl (j := 0) (Nat.le_of_ble_eq_true rfl) lf_X8_94 (v := .int (gI σ 0 0)) rfl dX8_brothers_93 rfl ?_
          refine Rf_bipush X (v := 7) rfl dX8_brothers_96 rfl ?_
          refine Rf_icmp_ne X (tgt := 104) dX8_brothers_98 rfl rfl (fun c31 => ?_) (fun c31 => ?_)
          · have h := h.1 c31
            refine Rf_lload X (j := 0) rfl dX8_brothers_104 rfl ?_
            refine Rf_l2i X dX8_brothers_106 rfl ?_
            refine Rf_istore X (i := 8) (Nat.le_of_ble_eq_true rfl) (ls2 := [(8, .int (((x2.toInt64) + (3 * (x5.toInt64))).toInt32)), (6, .long ((x2.toInt64) + (3 * (x5.toInt64)))), (0, .ref 0), (1, .int x1), (2, .int x2), (3, .int x3), (4, .int x4), (5, .int x5)]) rfl dX8_brothers_107 rfl ?_
            refine Rf_aload_n X (j := 2) rfl rfl dX8_brothers_109 rfl ?_
            refine Rf_iload_n X (j := 3) rfl rfl dX8_brothers_110 rfl ?_
            refine Rf_iload X (j := 0) rfl dX8_brothers_111 rfl ?_
            refine Rf_cVi (as := [.int x1, .int (((x2.toInt64) + (3 * (x5.toInt64))).toInt32)]) (st := []) X mi_X8_toldAt lm_X8_112 rfl (Nat.le_of_ble_eq_true rfl) rfl (k_X8_toldAt h) (Nat.le_of_ble_eq_true rfl) rfl rfl (Nat.le_of_ble_eq_true rfl) dX8_brothers_113 rfl (fun r9 σ8 h => ?_)
            refine Rf_iconst X (v := 0) rfl dX8_brothers_116 rfl ?_
            refine Rf_bipush X (v := 127) rfl dX8_brothers_117 rfl ?_
            refine Rf_cSi (as := [.int r9, .int 0, .int 127]) (st := []) X ms_X8_within lm_X8_98 (k_X8_within h) (Nat.le_of_ble_eq_true rfl) rfl rfl (Nat.le_of_ble_eq_true rfl) dX8_brothers_119 rfl (fun r11 σ10 h => ?_)
            refine Rf_if_eq X (tgt := 162) dX8_brothers_122 rfl rfl (fun c30 => ?_) (fun c30 => ?_)
            · have h := h.1 c30
              refine Rf_iload X (j := 6) rfl dX8_brothers_162 rfl ?_
              exact Rf_iret X rfl dX8_brothers_164 ⟨_, rfl, h⟩
            · have h := h.2 c30
              refine Rf_aload_n X (j := 2) rfl rfl dX8_brothers_125 rfl ?_
              refine Rf_iload_n X (j := 3) rfl rfl dX8_brothers_126 rfl ?_
              refine Rf_iload X (j := 0) rfl dX8_brothers_127 rfl ?_
              refine Rf_iconst X (v := 1) rfl dX8_brothers_129 rfl ?_
              refine Rf_iadd X dX8_brothers_130 rfl ?_
              refine Rf_cVi (as := [.int x1, .int ((((x2.toInt64) + (3 * (x5.toInt64))).toInt32) + 1)]) (st := []) X mi_X8_toldAt lm_X8_112 rfl (Nat.le_of_ble_eq_true rfl) rfl (k_X8_toldAt h) (Nat.le_of_ble_eq_true rfl) rfl rfl (Nat.le_of_ble_eq_true rfl) dX8_brothers_131 rfl (fun r13 σ12 h => ?_)
              refine Rf_iconst X (v := 0) rfl dX8_brothers_134 rfl ?_
              refine Rf_bipush X (v := 99) rfl dX8_brothers_135 rfl ?_
              refine Rf_cSi (as := [.int r13, .int 0, .int 99]) (st := []) X ms_X8_within lm_X8_98 (k_X8_within h) (Nat.le_of_ble_eq_true rfl) rfl rfl (Nat.le_of_ble_eq_true rfl) dX8_brothers_137 rfl (fun r15 σ14 h => ?_)
              refine Rf_if_eq X (tgt := 162) dX8_brothers_140 rfl rfl (fun c29 => ?_) (fun c29 => ?_)
              · have h := h.1 c29
                refine Rf_iload X (j := 6) rfl dX8_brothers_162 rfl ?_
                exact Rf_iret X rfl dX8_brothers_164 ⟨_, rfl, h⟩
              · have h := h.2 c29
                refine Rf_aload_n X (j := 2) rfl rfl dX8_brothers_143 rfl ?_
                refine Rf_iload_n X (j := 3) rfl rfl dX8_brothers_144 rfl ?_
                refine Rf_iload X (j := 0) rfl dX8_brothers_145 rfl ?_
                refine Rf_iconst X (v := 2) rfl dX8_brothers_147 rfl ?_
                refine Rf_iadd X dX8_brothers_148 rfl ?_
                refine Rf_cVi (as := [.int x1, .int ((((x2.toInt64) + (3 * (x5.toInt64))).toInt32) + 2)]) (st := []) X mi_X8_toldAt lm_X8_112 rfl (Nat.le_of_ble_eq_true rfl) rfl (k_X8_toldAt h) (Nat.le_of_ble_eq_true rfl) rfl rfl (Nat.le_of_ble_eq_true rfl) dX8_brothers_149 rfl (fun r17 σ16 h => ?_)
                refine Rf_iconst X (v := 0) rfl dX8_brothers_152 rfl ?_
                refine Rf_sipush X (v := 255) rfl dX8_brothers_153 rfl ?_
                refine Rf_cSi (as := [.int r17, .int 0, .int 255]) (st := []) X ms_X8_within lm_X8_98 (k_X8_within h) (Nat.le_of_ble_eq_true rfl) rfl rfl (Nat.le_of_ble_eq_true rfl) dX8_brothers_156 rfl (fun r19 σ18 h => ?_)
                refine Rf_if_ne X (tgt := 165) dX8_brothers_159 rfl rfl (fun c28 => ?_) (fun c28 => ?_)
                · have h := h.1 c28
                  refine Rf_aload_n X (j := 2) rfl rfl dX8_brothers_165 rfl ?_
                  refine Rf_aload_n X (j := 2) rfl rfl dX8_brothers_166 rfl ?_
                  refine Rf_iload_n X (j := 3) rfl rfl dX8_brothers_167 rfl ?_
                  refine Rf_iload X (j := 0) rfl dX8_brothers_168 rfl ?_
                  refine Rf_cVi (as := [.int x1, .int (((x2.toInt64) + (3 * (x5.toInt64))).toInt32)]) (st := [.ref 0]) X mi_X8_toldAt lm_X8_112 rfl (Nat.le_of_ble_eq_true rfl) rfl (k_X8_toldAt h) (Nat.le_of_ble_eq_true rfl) rfl rfl (Nat.le_of_ble_eq_true rfl) dX8_brothers_170 rfl (fun r21 σ20 h => ?_)
                  refine Rf_aload_n X (j := 2) rfl rfl dX8_brothers_173 rfl ?_
                  refine Rf_iload_n X (j := 3) rfl rfl dX8_brothers_174 rfl ?_
                  refine Rf_iload X (j := 0) rfl dX8_brothers_175 rfl ?_
                  refine Rf_iconst X (v := 1) rfl dX8_brothers_177 rfl ?_
                  refine Rf_iadd X dX8_brothers_178 rfl ?_
                  refine Rf_cVi (as := [.int x1, .int ((((x2.toInt64) + (3 * (x5.toInt64))).toInt32) + 1)]) (st := [.int r21, .ref 0]) X mi_X8_toldAt lm_X8_112 rfl (Nat.le_of_ble_eq_true rfl) rfl (k_X8_toldAt h) (Nat.le_of_ble_eq_true rfl) rfl rfl (Nat.le_of_ble_eq_true rfl) dX8_brothers_179 rfl (fun r23 σ22 h => ?_)
                  refine Rf_aload_n X (j := 2) rfl rfl dX8_brothers_182 rfl ?_
                  refine Rf_iload_n X (j := 3) rfl rfl dX8_brothers_183 rfl ?_
                  refine Rf_iload X (j := 0) rfl dX8_brothers_184 rfl ?_
                  refine Rf_iconst X (v := 2) rfl dX8_brothers_186 rfl ?_
                  refine Rf_iadd X dX8_brothers_187 rfl ?_
                  refine Rf_cVi (as := [.int x1, .int ((((x2.toInt64) + (3 * (x5.toInt64))).toInt32) + 2)]) (st := [.int r23, .int r21, .ref 0]) X mi_X8_toldAt lm_X8_112 rfl (Nat.le_of_ble_eq_true rfl) rfl (k_X8_toldAt h) (Nat.le_of_ble_eq_true rfl) rfl rfl (Nat.le_of_ble_eq_true rfl) dX8_brothers_188 rfl (fun r25 σ24 h => ?_)
                  refine Rf_cVi (as := [.int r21, .int r23, .int r25]) (st := []) X mi_X8_newOne lm_X8_102 rfl (Nat.le_of_ble_eq_true rfl) rfl (k_X8_newOne h) (Nat.le_of_ble_eq_true rfl) rfl rfl (Nat.le_of_ble_eq_true rfl) dX8_brothers_191 rfl (fun r27 σ26 h => ?_)
                  refine Rf_pop X rfl dX8_brothers_194 rfl ?_
                  refine Rf_iinc X (i := 4) (j := 6) (v := x4 + 1) rfl rfl (Nat.le_of_ble_eq_true rfl) (ls2 := [(4, .int (x4 + 1)), (8, .int (((x2.toInt64) + (3 * (x5.toInt64))).toInt32)), (6, .long ((x2.toInt64) + (3 * (x5.toInt64)))), (0, .ref 0), (1, .int x1), (2, .int x2), (3, .int x3), (5, .int x5)]) rfl dX8_brothers_195 rfl ?_
                  refine Rf_iinc X (i := 5) (j := 7) (v := x5 + 1) rfl rfl (Nat.le_of_ble_eq_true rfl) (ls2 := [(5, .int (x5 + 1)), (4, .int (x4 + 1)), (8, .int (((x2.toInt64) + (3 * (x5.toInt64))).toInt32)), (6, .long ((x2.toInt64) + (3 * (x5.toInt64)))), (0, .ref 0), (1, .int x1), (2, .int x2), (3, .int x3)]) rfl dX8_brothers_198 rfl ?_
                  refine Rf_goto X (tgt := 50) dX8_brothers_201 rfl ?_
                  refine Rf_sub [4, 5, 6, 7, 1, 0] rfl ?_
                  exact hkb_50 _ _ _ _ _ σ26 h
                · have h := h.2 c28
                  refine Rf_iload X (j := 6) rfl dX8_brothers_162 rfl ?_
                  exact Rf_iret X rfl dX8_brothers_164 ⟨_, rfl, h⟩
          · have h := h.2 c31
            refine Rf_iload X (j := 5) rfl dX8_brothers_101 rfl ?_
            exact Rf_iret X rfl dX8_brothers_103 ⟨_, rfl, h⟩
def wp_X8_brothers (σ : rfS) (x1 : Int32) (x2 : Int32) (x3 : Int32) (Q : Int32 → rfS → Prop) : Prop :=
  wp_X8_isShelf σ x1 (fun (r2 : Int32) (σ1 : rfS) => ((r2 = 0 → Q (-1) σ1) ∧ (¬ r2 = 0 → wp_X8_within σ1 x3 1 7 (fun (r4 : Int32) (σ3 : rfS) => ((¬ r4 = 0 → vp_in x1 6 ∧ ((¬ (gF σ3 20 (x1.toNatClampNeg)) = (-1) → vp_in x1 6 ∧ (((gF σ3 20 (x1.toNatClampNeg)) = 1 → (∃ n35, wl_X8_brothers_50 Q n35 x1 x2 x3 0 0 σ3)) ∧ (¬ (gF σ3 20 (x1.toNatClampNeg)) = 1 → Q (-12) σ3))) ∧ ((gF σ3 20 (x1.toNatClampNeg)) = (-1) → Q 0 σ3))) ∧ (r4 = 0 → Q (-1) σ3))))))
set_option maxRecDepth 20000 in
theorem k_X8_brothers {σ : rfS} {x1 : Int32} {x2 : Int32} {x3 : Int32} {Q : Int32 → rfS → Prop} (h : wp_X8_brothers σ x1 x2 x3 Q) : RM ΛM 2 yX8_brothers cX8_brothers 9 (some .int) [.ref 0, .int x1, .int x2, .int x3] σ (qi Q) := by
  unfold wp_X8_brothers at h
  refine RM.intro (by decide) (Nat.le_of_ble_eq_true rfl) (fun E X => ?_)
  show Rf ΛM 2 E 9 (qi Q) 0 [(0, .ref 0), (1, .int x1), (2, .int x2), (3, .int x3)] [] σ
  refine Rf_iload_n X (j := 1) rfl rfl dX8_brothers_0 rfl ?_
  refine Rf_cSi (as := [.int x1]) (st := []) X ms_X8_isShelf lm_X8_106 (k_X8_isShelf h) (Nat.le_of_ble_eq_true rfl) rfl rfl (Nat.le_of_ble_eq_true rfl) dX8_brothers_1 rfl (fun r2 σ1 h => ?_)
  refine Rf_if_eq X (tgt := 17) dX8_brothers_4 rfl rfl (fun c39 => ?_) (fun c39 => ?_)
  · have h := h.1 c39
    refine Rf_iconst X (v := (-1)) (by decide) dX8_brothers_17 rfl ?_
    exact Rf_iret X rfl dX8_brothers_18 ⟨_, rfl, h⟩
  · have h := h.2 c39
    refine Rf_iload_n X (j := 3) rfl rfl dX8_brothers_7 rfl ?_
    refine Rf_iconst X (v := 1) rfl dX8_brothers_8 rfl ?_
    refine Rf_bipush X (v := 7) rfl dX8_brothers_9 rfl ?_
    refine Rf_cSi (as := [.int x3, .int 1, .int 7]) (st := []) X ms_X8_within lm_X8_98 (k_X8_within h) (Nat.le_of_ble_eq_true rfl) rfl rfl (Nat.le_of_ble_eq_true rfl) dX8_brothers_11 rfl (fun r4 σ3 h => ?_)
    refine Rf_if_ne X (tgt := 19) dX8_brothers_14 rfl rfl (fun c38 => ?_) (fun c38 => ?_)
    · have h := h.1 c38
      refine Rf_aload_n X (j := 0) rfl rfl dX8_brothers_19 rfl ?_
      refine Rf_get X kc8 (Nat.le_of_ble_eq_true rfl) rfl (j := 33) (Nat.le_of_ble_eq_true rfl) lf_X8_69 (v := .ref 20) rfl dX8_brothers_20 rfl ?_
      refine Rf_iload_n X (j := 1) rfl rfl dX8_brothers_23 rfl ?_
      obtain ⟨s5, h⟩ := h
      refine Rf_iaload X (Nat.le_of_ble_eq_true rfl) rfl rfl s5 dX8_brothers_24 rfl (v := gF σ3 20 (x1.toNatClampNeg)) rfl ?_
      refine Rf_iconst X (v := (-1)) (by decide) dX8_brothers_25 rfl ?_
      refine Rf_icmp_ne X (tgt := 31) dX8_brothers_26 rfl rfl (fun c37 => ?_) (fun c37 => ?_)
      · have h := h.1 c37
        refine Rf_aload_n X (j := 0) rfl rfl dX8_brothers_31 rfl ?_
        refine Rf_get X kc8 (Nat.le_of_ble_eq_true rfl) rfl (j := 33) (Nat.le_of_ble_eq_true rfl) lf_X8_69 (v := .ref 20) rfl dX8_brothers_32 rfl ?_
        refine Rf_iload_n X (j := 1) rfl rfl dX8_brothers_35 rfl ?_
        obtain ⟨s6, h⟩ := h
        refine Rf_iaload X (Nat.le_of_ble_eq_true rfl) rfl rfl s6 dX8_brothers_36 rfl (v := gF σ3 20 (x1.toNatClampNeg)) rfl ?_
        refine Rf_iconst X (v := 1) rfl dX8_brothers_37 rfl ?_
        refine Rf_icmp_eq X (tgt := 44) dX8_brothers_38 rfl rfl (fun c36 => ?_) (fun c36 => ?_)
        · have h := h.1 c36
          refine Rf_iconst X (v := 0) rfl dX8_brothers_44 rfl ?_
          refine Rf_istore X (i := 4) (Nat.le_of_ble_eq_true rfl) (ls2 := [(4, .int 0), (0, .ref 0), (1, .int x1), (2, .int x2), (3, .int x3)]) rfl dX8_brothers_45 rfl ?_
          refine Rf_iconst X (v := 0) rfl dX8_brothers_47 rfl ?_
          refine Rf_istore X (i := 5) (Nat.le_of_ble_eq_true rfl) (ls2 := [(5, .int 0), (4, .int 0), (0, .ref 0), (1, .int x1), (2, .int x2), (3, .int x3)]) rfl dX8_brothers_48 rfl ?_
          obtain ⟨n35, h⟩ := h
          refine Rf_sub [2, 3, 4, 5, 1, 0] rfl ?_
          exact sl_X8_brothers_50 X n35 _ _ _ _ _ _ h
        · have h := h.2 c36
          refine Rf_bipush X (v := (-12)) (by decide) dX8_brothers_41 rfl ?_
          exact Rf_iret X rfl dX8_brothers_43 ⟨_, rfl, h⟩
      · have h := h.2 c37
        refine Rf_iconst X (v := 0) rfl dX8_brothers_29 rfl ?_
        exact Rf_iret X rfl dX8_brothers_30 ⟨_, rfl, h⟩
    · have h := h.2 c38
      refine Rf_iconst X (v := (-1)) (by decide) dX8_brothers_17 rfl ?_
      exact Rf_iret X rfl dX8_brothers_18 ⟨_, rfl, h⟩
def wp_X8_isOf (σ : rfS) (x1 : Int32) (x2 : Int32) (Q : Int32 → rfS → Prop) : Prop :=
  wp_X8_within σ x2 0 3 (fun (r2 : Int32) (σ1 : rfS) => ((r2 = 0 → wp_X8_within σ1 x2 4 5 (fun (r4 : Int32) (σ3 : rfS) => ((r4 = 0 → wp_X8_within σ3 x2 6 7 (fun (r6 : Int32) (σ5 : rfS) => ((r6 = 0 → Q 0 σ5) ∧ (¬ r6 = 0 → ((¬ x1 = 0 → Q 0 σ5) ∧ (x1 = 0 → Q 1 σ5)))))) ∧ (¬ r4 = 0 → wp_X8_within σ3 x1 0 6 (fun (r10 : Int32) (σ9 : rfS) => (rfZ r10) ∧ Q r10 σ9))))) ∧ (¬ r2 = 0 → wp_X8_isOne σ1 x1 (fun (r14 : Int32) (σ13 : rfS) => (rfZ r14) ∧ Q r14 σ13))))
set_option maxRecDepth 20000 in
theorem k_X8_isOf {σ : rfS} {x1 : Int32} {x2 : Int32} {Q : Int32 → rfS → Prop} (h : wp_X8_isOf σ x1 x2 Q) : RM ΛM 2 yX8_isOf cX8_isOf 3 (some .boolean) [.ref 0, .int x1, .int x2] σ (qi Q) := by
  unfold wp_X8_isOf at h
  refine RM.intro (by decide) (Nat.le_of_ble_eq_true rfl) (fun E X => ?_)
  show Rf ΛM 2 E 3 (qi Q) 0 [(0, .ref 0), (1, .int x1), (2, .int x2)] [] σ
  refine Rf_iload_n X (j := 2) rfl rfl dX8_isOf_0 rfl ?_
  refine Rf_iconst X (v := 0) rfl dX8_isOf_1 rfl ?_
  refine Rf_iconst X (v := 3) rfl dX8_isOf_2 rfl ?_
  refine Rf_cSi (as := [.int x2, .int 0, .int 3]) (st := []) X ms_X8_within lm_X8_98 (k_X8_within h) (Nat.le_of_ble_eq_true rfl) rfl rfl (Nat.le_of_ble_eq_true rfl) dX8_isOf_3 rfl (fun r2 σ1 h => ?_)
  refine Rf_if_eq X (tgt := 17) dX8_isOf_6 rfl rfl (fun c16 => ?_) (fun c16 => ?_)
  · have h := h.1 c16
    refine Rf_iload_n X (j := 2) rfl rfl dX8_isOf_17 rfl ?_
    refine Rf_iconst X (v := 4) rfl dX8_isOf_18 rfl ?_
    refine Rf_iconst X (v := 5) rfl dX8_isOf_19 rfl ?_
    refine Rf_cSi (as := [.int x2, .int 4, .int 5]) (st := []) X ms_X8_within lm_X8_98 (k_X8_within h) (Nat.le_of_ble_eq_true rfl) rfl rfl (Nat.le_of_ble_eq_true rfl) dX8_isOf_20 rfl (fun r4 σ3 h => ?_)
    refine Rf_if_eq X (tgt := 36) dX8_isOf_23 rfl rfl (fun c12 => ?_) (fun c12 => ?_)
    · have h := h.1 c12
      refine Rf_iload_n X (j := 2) rfl rfl dX8_isOf_36 rfl ?_
      refine Rf_bipush X (v := 6) rfl dX8_isOf_37 rfl ?_
      refine Rf_bipush X (v := 7) rfl dX8_isOf_39 rfl ?_
      refine Rf_cSi (as := [.int x2, .int 6, .int 7]) (st := []) X ms_X8_within lm_X8_98 (k_X8_within h) (Nat.le_of_ble_eq_true rfl) rfl rfl (Nat.le_of_ble_eq_true rfl) dX8_isOf_41 rfl (fun r6 σ5 h => ?_)
      refine Rf_if_eq X (tgt := 55) dX8_isOf_44 rfl rfl (fun c8 => ?_) (fun c8 => ?_)
      · have h := h.1 c8
        refine Rf_iconst X (v := 0) rfl dX8_isOf_55 rfl ?_
        exact Rf_iret X rfl dX8_isOf_56 ⟨_, rfl, h⟩
      · have h := h.2 c8
        refine Rf_iload_n X (j := 1) rfl rfl dX8_isOf_47 rfl ?_
        refine Rf_if_ne X (tgt := 55) dX8_isOf_48 rfl rfl (fun c7 => ?_) (fun c7 => ?_)
        · have h := h.1 c7
          refine Rf_iconst X (v := 0) rfl dX8_isOf_55 rfl ?_
          exact Rf_iret X rfl dX8_isOf_56 ⟨_, rfl, h⟩
        · have h := h.2 c7
          refine Rf_iconst X (v := 1) rfl dX8_isOf_51 rfl ?_
          refine Rf_goto X (tgt := 56) dX8_isOf_52 rfl ?_
          exact Rf_iret X rfl dX8_isOf_56 ⟨_, rfl, h⟩
    · have h := h.2 c12
      refine Rf_iload_n X (j := 1) rfl rfl dX8_isOf_26 rfl ?_
      refine Rf_iconst X (v := 0) rfl dX8_isOf_27 rfl ?_
      refine Rf_bipush X (v := 6) rfl dX8_isOf_28 rfl ?_
      refine Rf_cSi (as := [.int x1, .int 0, .int 6]) (st := []) X ms_X8_within lm_X8_98 (k_X8_within h) (Nat.le_of_ble_eq_true rfl) rfl rfl (Nat.le_of_ble_eq_true rfl) dX8_isOf_30 rfl (fun r10 σ9 h => ?_)
      refine Rf_goto X (tgt := 56) dX8_isOf_33 rfl ?_
      obtain ⟨s11, h⟩ := h
      exact Rf_iret X (rfZ_n s11) dX8_isOf_56 ⟨_, rfl, h⟩
  · have h := h.2 c16
    refine Rf_aload_n X (j := 0) rfl rfl dX8_isOf_9 rfl ?_
    refine Rf_iload_n X (j := 1) rfl rfl dX8_isOf_10 rfl ?_
    refine Rf_cVi (as := [.int x1]) (st := []) X mi_X8_isOne lm_X8_116 rfl (Nat.le_of_ble_eq_true rfl) rfl (k_X8_isOne h) (Nat.le_of_ble_eq_true rfl) rfl rfl (Nat.le_of_ble_eq_true rfl) dX8_isOf_11 rfl (fun r14 σ13 h => ?_)
    refine Rf_goto X (tgt := 56) dX8_isOf_14 rfl ?_
    obtain ⟨s15, h⟩ := h
    exact Rf_iret X (rfZ_n s15) dX8_isOf_56 ⟨_, rfl, h⟩
def wp_X8_isFit (σ : rfS) (x0 : Int32) (x1 : Int32) (Q : Int32 → rfS → Prop) : Prop :=
  ((x0 = 0 → wp_X8_within σ x1 0 127 (fun (r3 : Int32) (σ2 : rfS) => (rfZ r3) ∧ Q r3 σ2)) ∧ (¬ x0 = 0 → ((x0 = 2 → wp_X8_within σ x1 0 255 (fun (r7 : Int32) (σ6 : rfS) => (rfZ r7) ∧ Q r7 σ6)) ∧ (¬ x0 = 2 → ((x0 = 3 → wp_X8_within σ x1 1 9 (fun (r11 : Int32) (σ10 : rfS) => (rfZ r11) ∧ Q r11 σ10)) ∧ (¬ x0 = 3 → ((x0 = 4 → wp_X8_within σ x1 0 3 (fun (r15 : Int32) (σ14 : rfS) => (rfZ r15) ∧ Q r15 σ14)) ∧ (¬ x0 = 4 → ((x0 = 5 → wp_X8_within σ x1 0 7 (fun (r19 : Int32) (σ18 : rfS) => (rfZ r19) ∧ Q r19 σ18)) ∧ (¬ x0 = 5 → ((x0 = 7 → wp_X8_within σ x1 0 6 (fun (r23 : Int32) (σ22 : rfS) => (rfZ r23) ∧ Q r23 σ22)) ∧ (¬ x0 = 7 → wp_X8_within σ x1 0 99 (fun (r26 : Int32) (σ25 : rfS) => (rfZ r26) ∧ Q r26 σ25)))))))))))))
set_option maxRecDepth 20000 in
theorem k_X8_isFit {σ : rfS} {x0 : Int32} {x1 : Int32} {Q : Int32 → rfS → Prop} (h : wp_X8_isFit σ x0 x1 Q) : RM ΛM 1 yX8_isFit cX8_isFit 2 (some .boolean) [.int x0, .int x1] σ (qi Q) := by
  unfold wp_X8_isFit at h
  refine RM.intro (by decide) (Nat.le_of_ble_eq_true rfl) (fun E X => ?_)
  show Rf ΛM 1 E 2 (qi Q) 0 [(0, .int x0), (1, .int x1)] [] σ
  refine Rf_iload_n X (j := 0) rfl rfl dX8_isFit_0 rfl ?_
  refine Rf_tsw X (dt := 96) [(0, 48), (2, 56), (3, 65), (4, 73), (5, 80), (7, 88)] dX8_isFit_1 rfl (by decide +kernel) (by decide +kernel) (by decide +kernel) ?_
  refine And.intro (fun c1 => ?_) (fun c1 => ?_)
  · have h := h.1 c1
    refine Rf_iload_n X (j := 1) rfl rfl dX8_isFit_48 rfl ?_
    refine Rf_iconst X (v := 0) rfl dX8_isFit_49 rfl ?_
    refine Rf_bipush X (v := 127) rfl dX8_isFit_50 rfl ?_
    refine Rf_cSi (as := [.int x1, .int 0, .int 127]) (st := []) X ms_X8_within lm_X8_98 (k_X8_within h) (Nat.le_of_ble_eq_true rfl) rfl rfl (Nat.le_of_ble_eq_true rfl) dX8_isFit_52 rfl (fun r3 σ2 h => ?_)
    obtain ⟨s4, h⟩ := h
    exact Rf_iret X (rfZ_n s4) dX8_isFit_55 ⟨_, rfl, h⟩
  · have h := h.2 c1
    refine And.intro (fun c5 => ?_) (fun c5 => ?_)
    · have h := h.1 c5
      refine Rf_iload_n X (j := 1) rfl rfl dX8_isFit_56 rfl ?_
      refine Rf_iconst X (v := 0) rfl dX8_isFit_57 rfl ?_
      refine Rf_sipush X (v := 255) rfl dX8_isFit_58 rfl ?_
      refine Rf_cSi (as := [.int x1, .int 0, .int 255]) (st := []) X ms_X8_within lm_X8_98 (k_X8_within h) (Nat.le_of_ble_eq_true rfl) rfl rfl (Nat.le_of_ble_eq_true rfl) dX8_isFit_61 rfl (fun r7 σ6 h => ?_)
      obtain ⟨s8, h⟩ := h
      exact Rf_iret X (rfZ_n s8) dX8_isFit_64 ⟨_, rfl, h⟩
    · have h := h.2 c5
      refine And.intro (fun c9 => ?_) (fun c9 => ?_)
      · have h := h.1 c9
        refine Rf_iload_n X (j := 1) rfl rfl dX8_isFit_65 rfl ?_
        refine Rf_iconst X (v := 1) rfl dX8_isFit_66 rfl ?_
        refine Rf_bipush X (v := 9) rfl dX8_isFit_67 rfl ?_
        refine Rf_cSi (as := [.int x1, .int 1, .int 9]) (st := []) X ms_X8_within lm_X8_98 (k_X8_within h) (Nat.le_of_ble_eq_true rfl) rfl rfl (Nat.le_of_ble_eq_true rfl) dX8_isFit_69 rfl (fun r11 σ10 h => ?_)
        obtain ⟨s12, h⟩ := h
        exact Rf_iret X (rfZ_n s12) dX8_isFit_72 ⟨_, rfl, h⟩
      · have h := h.2 c9
        refine And.intro (fun c13 => ?_) (fun c13 => ?_)
        · have h := h.1 c13
          refine Rf_iload_n X (j := 1) rfl rfl dX8_isFit_73 rfl ?_
          refine Rf_iconst X (v := 0) rfl dX8_isFit_74 rfl ?_
          refine Rf_iconst X (v := 3) rfl dX8_isFit_75 rfl ?_
          refine Rf_cSi (as := [.int x1, .int 0, .int 3]) (st := []) X ms_X8_within lm_X8_98 (k_X8_within h) (Nat.le_of_ble_eq_true rfl) rfl rfl (Nat.le_of_ble_eq_true rfl) dX8_isFit_76 rfl (fun r15 σ14 h => ?_)
          obtain ⟨s16, h⟩ := h
          exact Rf_iret X (rfZ_n s16) dX8_isFit_79 ⟨_, rfl, h⟩
        · have h := h.2 c13
          refine And.intro (fun c17 => ?_) (fun c17 => ?_)
          · have h := h.1 c17
            refine Rf_iload_n X (j := 1) rfl rfl dX8_isFit_80 rfl ?_
            refine Rf_iconst X (v := 0) rfl dX8_isFit_81 rfl ?_
            refine Rf_bipush X (v := 7) rfl dX8_isFit_82 rfl ?_
            refine Rf_cSi (as := [.int x1, .int 0, .int 7]) (st := []) X ms_X8_within lm_X8_98 (k_X8_within h) (Nat.le_of_ble_eq_true rfl) rfl rfl (Nat.le_of_ble_eq_true rfl) dX8_isFit_84 rfl (fun r19 σ18 h => ?_)
            obtain ⟨s20, h⟩ := h
            exact Rf_iret X (rfZ_n s20) dX8_isFit_87 ⟨_, rfl, h⟩
          · have h := h.2 c17
            refine And.intro (fun c21 => ?_) (fun c21 => ?_)
            · have h := h.1 c21
              refine Rf_iload_n X (j := 1) rfl rfl dX8_isFit_88 rfl ?_
              refine Rf_iconst X (v := 0) rfl dX8_isFit_89 rfl ?_
              refine Rf_bipush X (v := 6) rfl dX8_isFit_90 rfl ?_
              refine Rf_cSi (as := [.int x1, .int 0, .int 6]) (st := []) X ms_X8_within lm_X8_98 (k_X8_within h) (Nat.le_of_ble_eq_true rfl) rfl rfl (Nat.le_of_ble_eq_true rfl) dX8_isFit_92 rfl (fun r23 σ22 h => ?_)
              obtain ⟨s24, h⟩ := h
              exact Rf_iret X (rfZ_n s24) dX8_isFit_95 ⟨_, rfl, h⟩
            · have h := h.2 c21
              show Rf ΛM 1 E 2 (qi Q) 96 [(0, .int x0), (1, .int x1)] [] σ
              refine Rf_iload_n X (j := 1) rfl rfl dX8_isFit_96 rfl ?_
              refine Rf_iconst X (v := 0) rfl dX8_isFit_97 rfl ?_
              refine Rf_bipush X (v := 99) rfl dX8_isFit_98 rfl ?_
              refine Rf_cSi (as := [.int x1, .int 0, .int 99]) (st := []) X ms_X8_within lm_X8_98 (k_X8_within h) (Nat.le_of_ble_eq_true rfl) rfl rfl (Nat.le_of_ble_eq_true rfl) dX8_isFit_100 rfl (fun r26 σ25 h => ?_)
              obtain ⟨s27, h⟩ := h
              exact Rf_iret X (rfZ_n s27) dX8_isFit_103 ⟨_, rfl, h⟩
def wp_X8_get (σ : rfS) (x1 : Int32) (x2 : Int32) (Q : Int32 → rfS → Prop) : Prop :=
  ((6 ≤ x2 → vp_in (x2 - 6) 2 ∧ (Q (gF σ 2 ((x2 - 6).toNatClampNeg)) σ)) ∧ (¬ (6 ≤ x2) → vp_in ((7 * x2) + x1) 42 ∧ (Q (gF σ 1 (((7 * x2) + x1).toNatClampNeg)) σ)))
set_option maxRecDepth 20000 in
theorem k_X8_get {σ : rfS} {x1 : Int32} {x2 : Int32} {Q : Int32 → rfS → Prop} (h : wp_X8_get σ x1 x2 Q) : RM ΛM 0 yX8_get cX8_get 3 (some .int) [.ref 0, .int x1, .int x2] σ (qi Q) := by
  unfold wp_X8_get at h
  refine RM.intro (by decide) (Nat.le_of_ble_eq_true rfl) (fun E X => ?_)
  show Rf ΛM 0 E 3 (qi Q) 0 [(0, .ref 0), (1, .int x1), (2, .int x2)] [] σ
  refine Rf_iload_n X (j := 2) rfl rfl dX8_get_0 rfl ?_
  refine Rf_bipush X (v := 6) rfl dX8_get_1 rfl ?_
  refine Rf_icmp_ge X (tgt := 20) dX8_get_3 rfl rfl (fun c3 => ?_) (fun c3 => ?_)
  · have h := h.1 c3
    refine Rf_aload_n X (j := 0) rfl rfl dX8_get_20 rfl ?_
    refine Rf_get X kc8 (Nat.le_of_ble_eq_true rfl) rfl (j := 2) (Nat.le_of_ble_eq_true rfl) lf_X8_15 (v := .ref 2) rfl dX8_get_21 rfl ?_
    refine Rf_iload_n X (j := 2) rfl rfl dX8_get_24 rfl ?_
    refine Rf_bipush X (v := 6) rfl dX8_get_25 rfl ?_
    refine Rf_isub X dX8_get_27 rfl ?_
    obtain ⟨s1, h⟩ := h
    refine Rf_iaload X (Nat.le_of_ble_eq_true rfl) rfl rfl s1 dX8_get_28 rfl (v := gF σ 2 ((x2 - 6).toNatClampNeg)) rfl ?_
    exact Rf_iret X rfl dX8_get_29 ⟨_, rfl, h⟩
  · have h := h.2 c3
    refine Rf_aload_n X (j := 0) rfl rfl dX8_get_6 rfl ?_
    refine Rf_get X kc8 (Nat.le_of_ble_eq_true rfl) rfl (j := 1) (Nat.le_of_ble_eq_true rfl) lf_X8_9 (v := .ref 1) rfl dX8_get_7 rfl ?_
    refine Rf_bipush X (v := 7) rfl dX8_get_10 rfl ?_
    refine Rf_iload_n X (j := 2) rfl rfl dX8_get_12 rfl ?_
    refine Rf_imul X dX8_get_13 rfl ?_
    refine Rf_iload_n X (j := 1) rfl rfl dX8_get_14 rfl ?_
    refine Rf_iadd X dX8_get_15 rfl ?_
    obtain ⟨s2, h⟩ := h
    refine Rf_iaload X (Nat.le_of_ble_eq_true rfl) rfl rfl s2 dX8_get_16 rfl (v := gF σ 1 (((7 * x2) + x1).toNatClampNeg)) rfl ?_
    refine Rf_goto X (tgt := 29) dX8_get_17 rfl ?_
    exact Rf_iret X rfl dX8_get_29 ⟨_, rfl, h⟩
def wp_X8_becomes (σ : rfS) (x1 : Int32) (x2 : Int32) (x3 : Int32) (Q : rfS → Prop) : Prop :=
  ((6 ≤ x2 → vp_in (x2 - 6) 2 ∧ (Q (sF σ 2 ((x2 - 6).toNatClampNeg) x3))) ∧ (¬ (6 ≤ x2) → vp_in ((7 * x2) + x1) 42 ∧ (Q (sF σ 1 (((7 * x2) + x1).toNatClampNeg) x3))))
set_option maxRecDepth 20000 in
theorem k_X8_becomes {σ : rfS} {x1 : Int32} {x2 : Int32} {x3 : Int32} {Q : rfS → Prop} (h : wp_X8_becomes σ x1 x2 x3 Q) : RM ΛM 0 yX8_becomes cX8_becomes 4 none [.ref 0, .int x1, .int x2, .int x3] σ (qv Q) := by
  unfold wp_X8_becomes at h
  refine RM.intro (by decide) (Nat.le_of_ble_eq_true rfl) (fun E X => ?_)
  show Rf ΛM 0 E 4 (qv Q) 0 [(0, .ref 0), (1, .int x1), (2, .int x2), (3, .int x3)] [] σ
  refine Rf_iload_n X (j := 2) rfl rfl dX8_becomes_0 rfl ?_
  refine Rf_bipush X (v := 6) rfl dX8_becomes_1 rfl ?_
  refine Rf_icmp_ge X (tgt := 21) dX8_becomes_3 rfl rfl (fun c3 => ?_) (fun c3 => ?_)
  · have h := h.1 c3
    refine Rf_aload_n X (j := 0) rfl rfl dX8_becomes_21 rfl ?_
    refine Rf_get X kc8 (Nat.le_of_ble_eq_true rfl) rfl (j := 2) (Nat.le_of_ble_eq_true rfl) lf_X8_15 (v := .ref 2) rfl dX8_becomes_22 rfl ?_
    refine Rf_iload_n X (j := 2) rfl rfl dX8_becomes_25 rfl ?_
    refine Rf_bipush X (v := 6) rfl dX8_becomes_26 rfl ?_
    refine Rf_isub X dX8_becomes_28 rfl ?_
    refine Rf_iload_n X (j := 3) rfl rfl dX8_becomes_29 rfl ?_
    obtain ⟨s1, h⟩ := h
    refine Rf_iastore X (Nat.le_of_ble_eq_true rfl) rfl rfl s1 dX8_becomes_30 rfl ?_
    exact Rf_vret X dX8_becomes_31 ⟨rfl, h⟩
  · have h := h.2 c3
    refine Rf_aload_n X (j := 0) rfl rfl dX8_becomes_6 rfl ?_
    refine Rf_get X kc8 (Nat.le_of_ble_eq_true rfl) rfl (j := 1) (Nat.le_of_ble_eq_true rfl) lf_X8_9 (v := .ref 1) rfl dX8_becomes_7 rfl ?_
    refine Rf_bipush X (v := 7) rfl dX8_becomes_10 rfl ?_
    refine Rf_iload_n X (j := 2) rfl rfl dX8_becomes_12 rfl ?_
    refine Rf_imul X dX8_becomes_13 rfl ?_
    refine Rf_iload_n X (j := 1) rfl rfl dX8_becomes_14 rfl ?_
    refine Rf_iadd X dX8_becomes_15 rfl ?_
    refine Rf_iload_n X (j := 3) rfl rfl dX8_becomes_16 rfl ?_
    obtain ⟨s2, h⟩ := h
    refine Rf_iastore X (Nat.le_of_ble_eq_true rfl) rfl rfl s2 dX8_becomes_17 rfl ?_
    refine Rf_goto X (tgt := 31) dX8_becomes_18 rfl ?_
    exact Rf_vret X dX8_becomes_31 ⟨rfl, h⟩
def wj_X8_mend_95 (Q : Int32 → rfS → Prop) (x1 : Int32) (x2 : Int32) (x3 : Int32) (x4 : Int32) (σ : rfS) : Prop :=
  vp_in (4 * (gI σ 0 27)) 160 ∧ vp_in ((4 * (gI σ 0 27)) + 1) 160 ∧ vp_in ((4 * (gI σ 0 27)) + 2) 160 ∧ vp_in ((4 * (gI σ 0 27)) + 3) 160 ∧ Q x4 (sI (sI (sF (sF (sF (sF σ 17 ((4 * (gI σ 0 27)).toNatClampNeg) x1) 17 (((4 * (gI σ 0 27)) + 1).toNatClampNeg) x2) 17 (((4 * (gI σ 0 27)) + 2).toNatClampNeg) x4) 17 (((4 * (gI σ 0 27)) + 3).toNatClampNeg) x3) 0 27 ((gI σ 0 27) + 1)) 0 26 ((gI σ 0 27) + 1))
set_option maxRecDepth 20000 in
theorem sj_X8_mend_95 {E : rfE} {Q : Int32 → rfS → Prop} (X : rfX ΛM E yX8_mend cX8_mend 6 (some .int)) (x1 : Int32) (x2 : Int32) (x3 : Int32) (x4 : Int32) (σ : rfS) (h : wj_X8_mend_95 Q x1 x2 x3 x4 σ) : Rf ΛM 3 E 6 (qi Q) 95 [(0, .ref 0), (1, .int x1), (2, .int x2), (3, .int x3), (4, .int x4)] [] σ := by
  unfold wj_X8_mend_95 at h
  refine Rf_aload_n X (j := 0) rfl rfl dX8_mend_95 rfl ?_
  refine Rf_get X kc8 (Nat.le_of_ble_eq_true rfl) rfl (j := 28) (Nat.le_of_ble_eq_true rfl) lf_X8_60 (v := .ref 17) rfl dX8_mend_96 rfl ?_
  refine Rf_iconst X (v := 4) rfl dX8_mend_99 rfl ?_
  refine Rf_aload_n X (j := 0) rfl rfl dX8_mend_100 rfl ?_
  refine Rf_get X kc8 (Nat.le_of_ble_eq_true rfl) rfl (j := 27) (Nat.le_of_ble_eq_true rfl) lf_X8_133 (v := .int (gI σ 0 27)) rfl dX8_mend_101 rfl ?_
  refine Rf_imul X dX8_mend_104 rfl ?_
  refine Rf_iload_n X (j := 1) rfl rfl dX8_mend_105 rfl ?_
  obtain ⟨s8, h⟩ := h
  refine Rf_iastore X (Nat.le_of_ble_eq_true rfl) rfl rfl s8 dX8_mend_106 rfl ?_
  refine Rf_aload_n X (j := 0) rfl rfl dX8_mend_107 rfl ?_
  refine Rf_get X kc8 (Nat.le_of_ble_eq_true rfl) rfl (j := 28) (Nat.le_of_ble_eq_true rfl) lf_X8_60 (v := .ref 17) rfl dX8_mend_108 rfl ?_
  refine Rf_iconst X (v := 4) rfl dX8_mend_111 rfl ?_
  refine Rf_aload_n X (j := 0) rfl rfl dX8_mend_112 rfl ?_
  refine Rf_get X kc8 (Nat.le_of_ble_eq_true rfl) rfl (j := 27) (Nat.le_of_ble_eq_true rfl) lf_X8_133 (v := .int (gI σ 0 27)) (congrArg Value.int (show gI (sF σ 17 ((4 * (gI σ 0 27)).toNatClampNeg) x1) 0 27 = gI σ 0 27 from gI_sF _ _ _ _ _ _)) dX8_mend_113 rfl ?_
  refine Rf_imul X dX8_mend_116 rfl ?_
  refine Rf_iconst X (v := 1) rfl dX8_mend_117 rfl ?_
  refine Rf_iadd X dX8_mend_118 rfl ?_
  refine Rf_iload_n X (j := 2) rfl rfl dX8_mend_119 rfl ?_
  obtain ⟨s9, h⟩ := h
  refine Rf_iastore X (Nat.le_of_ble_eq_true rfl) rfl rfl s9 dX8_mend_120 rfl ?_
  refine Rf_aload_n X (j := 0) rfl rfl dX8_mend_121 rfl ?_
  refine Rf_get X kc8 (Nat.le_of_ble_eq_true rfl) rfl (j := 28) (Nat.le_of_ble_eq_true rfl) lf_X8_60 (v := .ref 17) rfl dX8_mend_122 rfl ?_
  refine Rf_iconst X (v := 4) rfl dX8_mend_125 rfl ?_
  refine Rf_aload_n X (j := 0) rfl rfl dX8_mend_126 rfl ?_
  refine Rf_get X kc8 (Nat.le_of_ble_eq_true rfl) rfl (j := 27) (Nat.le_of_ble_eq_true rfl) lf_X8_133 (v := .int (gI σ 0 27)) (congrArg Value.int (show gI (sF (sF σ 17 ((4 * (gI σ 0 27)).toNatClampNeg) x1) 17 (((4 * (gI σ 0 27)) + 1).toNatClampNeg) x2) 0 27 = gI σ 0 27 from (gI_sF _ _ _ _ _ _).trans (gI_sF _ _ _ _ _ _))) dX8_mend_127 rfl ?_
  refine Rf_imul X dX8_mend_130 rfl ?_
  refine Rf_iconst X (v := 2) rfl dX8_mend_131 rfl ?_
  refine Rf_iadd X dX8_mend_132 rfl ?_
  refine Rf_iload X (j := 4) rfl dX8_mend_133 rfl ?_
  obtain ⟨s10, h⟩ := h
  refine Rf_iastore X (Nat.le_of_ble_eq_true rfl) rfl rfl s10 dX8_mend_135 rfl ?_
  refine Rf_aload_n X (j := 0) rfl rfl dX8_mend_136 rfl ?_
  refine Rf_get X kc8 (Nat.le_of_ble_eq_true rfl) rfl (j := 28) (Nat.le_of_ble_eq_true rfl) lf_X8_60 (v := .ref 17) rfl dX8_mend_137 rfl ?_
  refine Rf_iconst X (v := 4) rfl dX8_mend_140 rfl ?_
  refine Rf_aload_n X (j := 0) rfl rfl dX8_mend_141 rfl ?_
  refine Rf_get X kc8 (Nat.le_of_ble_eq_true rfl) rfl (j := 27) (Nat.le_of_ble_eq_true rfl) lf_X8_133 (v := .int (gI σ 0 27)) (congrArg Value.int (show gI (sF (sF (sF σ 17 ((4 * (gI σ 0 27)).toNatClampNeg) x1) 17 (((4 * (gI σ 0 27)) + 1).toNatClampNeg) x2) 17 (((4 * (gI σ 0 27)) + 2).toNatClampNeg) x4) 0 27 = gI σ 0 27 from (gI_sF _ _ _ _ _ _).trans ((gI_sF _ _ _ _ _ _).trans (gI_sF _ _ _ _ _ _)))) dX8_mend_142 rfl ?_
  refine Rf_imul X dX8_mend_145 rfl ?_
  refine Rf_iconst X (v := 3) rfl dX8_mend_146 rfl ?_
  refine Rf_iadd X dX8_mend_147 rfl ?_
  refine Rf_iload_n X (j := 3) rfl rfl dX8_mend_148 rfl ?_
  obtain ⟨s11, h⟩ := h
  refine Rf_iastore X (Nat.le_of_ble_eq_true rfl) rfl rfl s11 dX8_mend_149 rfl ?_
  refine Rf_aload_n X (j := 0) rfl rfl dX8_mend_150 rfl ?_
  refine Rf_dup X rfl dX8_mend_151 rfl ?_
  refine Rf_get X kc8 (Nat.le_of_ble_eq_true rfl) rfl (j := 27) (Nat.le_of_ble_eq_true rfl) lf_X8_133 (v := .int (gI σ 0 27)) (congrArg Value.int (show gI (sF (sF (sF (sF σ 17 ((4 * (gI σ 0 27)).toNatClampNeg) x1) 17 (((4 * (gI σ 0 27)) + 1).toNatClampNeg) x2) 17 (((4 * (gI σ 0 27)) + 2).toNatClampNeg) x4) 17 (((4 * (gI σ 0 27)) + 3).toNatClampNeg) x3) 0 27 = gI σ 0 27 from (gI_sF _ _ _ _ _ _).trans ((gI_sF _ _ _ _ _ _).trans ((gI_sF _ _ _ _ _ _).trans (gI_sF _ _ _ _ _ _))))) dX8_mend_152 rfl ?_
  refine Rf_iconst X (v := 1) rfl dX8_mend_155 rfl ?_
  refine Rf_iadd X dX8_mend_156 rfl ?_
  refine Rf_put X kc8 (Nat.le_of_ble_eq_true rfl) rfl (j := 27) (Nat.le_of_ble_eq_true rfl) rfl lf_X8_133 rfl rfl rfl dX8_mend_157 rfl ?_
  refine Rf_aload_n X (j := 0) rfl rfl dX8_mend_160 rfl ?_
  refine Rf_aload_n X (j := 0) rfl rfl dX8_mend_161 rfl ?_
  refine Rf_get X kc8 (Nat.le_of_ble_eq_true rfl) rfl (j := 27) (Nat.le_of_ble_eq_true rfl) lf_X8_133 (v := .int ((gI σ 0 27) + 1)) (congrArg Value.int (show gI (sI (sF (sF (sF (sF σ 17 ((4 * (gI σ 0 27)).toNatClampNeg) x1) 17 (((4 * (gI σ 0 27)) + 1).toNatClampNeg) x2) 17 (((4 * (gI σ 0 27)) + 2).toNatClampNeg) x4) 17 (((4 * (gI σ 0 27)) + 3).toNatClampNeg) x3) 0 27 ((gI σ 0 27) + 1)) 0 27 = (gI σ 0 27) + 1 from gI_sIs)) dX8_mend_162 rfl ?_
  refine Rf_put X kc8 (Nat.le_of_ble_eq_true rfl) rfl (j := 26) (Nat.le_of_ble_eq_true rfl) rfl lf_X8_136 rfl rfl rfl dX8_mend_165 rfl ?_
  refine Rf_iload X (j := 4) rfl dX8_mend_168 rfl ?_
  exact Rf_iret X rfl dX8_mend_170 ⟨_, rfl, h⟩
def wl_X8_mend_55 (Q : Int32 → rfS → Prop) (kx_85 : Int32 → Int32 → Int32 → Int32 → rfS → Prop) : Nat → Int32 → Int32 → Int32 → Int32 → Int32 → rfS → Prop
  | 0, _, _, _, _, _, _ => False
  | n + 1, x1, x2, x3, x4, x5, σ => ((156 ≤ x5 → kx_85 x1 x2 x3 x4 σ) ∧ (¬ (156 ≤ x5) → vp_in (x5 + 4) 160 ∧ vp_in x5 160 ∧ (wl_X8_mend_55 Q kx_85 n x1 x2 x3 x4 (x5 + 1) (sF σ 17 (x5.toNatClampNeg) (gF σ 17 ((x5 + 4).toNatClampNeg))))))
set_option maxRecDepth 20000 in
theorem sl_X8_mend_55 {E : rfE} {Q : Int32 → rfS → Prop} (X : rfX ΛM E yX8_mend cX8_mend 6 (some .int)) {kx_85 : Int32 → Int32 → Int32 → Int32 → rfS → Prop} (hkx_85 : ∀ (x1 : Int32) (x2 : Int32) (x3 : Int32) (x4 : Int32) (σ : rfS), kx_85 x1 x2 x3 x4 σ → Rf ΛM 3 E 6 (qi Q) 85 [(0, .ref 0), (1, .int x1), (2, .int x2), (3, .int x3), (4, .int x4)] [] σ) : ∀ (n : Nat) (x1 : Int32) (x2 : Int32) (x3 : Int32) (x4 : Int32) (x5 : Int32) (σ : rfS), wl_X8_mend_55 Q kx_85 n x1 x2 x3 x4 x5 σ → Rf ΛM 3 E 6 (qi Q) 55 [(0, .ref 0), (1, .int x1), (2, .int x2), (3, .int x3), (4, .int x4), (5, .int x5)] [] σ := by
  intro n
  induction n with
  | zero =>
    intro x1 x2 x3 x4 x5 σ h
    exact False.elim h
  | succ n hkb_55 =>
    intro x1 x2 x3 x4 x5 σ h
    unfold wl_X8_mend_55 at h
    refine Rf_iload X (j := 5) rfl dX8_mend_55 rfl ?_
    refine Rf_sipush X (v := 156) rfl dX8_mend_57 rfl ?_
    refine Rf_icmp_ge X (tgt := 85) dX8_mend_60 rfl rfl (fun c14 => ?_) (fun c14 => ?_)
    · have h := h.1 c14
      refine Rf_sub [0, 1, 2, 3, 4] rfl ?_
      exact hkx_85 _ _ _ _ σ h
    · have h := h.2 c14
      refine Rf_aload_n X (j := 0) rfl rfl dX8_mend_63 rfl ?_
      refine Rf_get X kc8 (Nat.le_of_ble_eq_true rfl) rfl (j := 28) (Nat.le_of_ble_eq_true rfl) lf_X8_60 (v := .ref 17) rfl dX8_mend_64 rfl ?_
      refine Rf_iload X (j := 5) rfl dX8_mend_67 rfl ?_
      refine Rf_aload_n X (j := 0) rfl rfl dX8_mend_69 rfl ?_
      refine Rf_get X kc8 (Nat.le_of_ble_eq_true rfl) rfl (j := 28) (Nat.le_of_ble_eq_true rfl) lf_X8_60 (v := .ref 17) rfl dX8_mend_70 rfl ?_
      refine Rf_iload X (j := 5) rfl dX8_mend_73 rfl ?_
      refine Rf_iconst X (v := 4) rfl dX8_mend_75 rfl ?_
      refine Rf_iadd X dX8_mend_76 rfl ?_
      obtain ⟨s12, h⟩ := h
      refine Rf_iaload X (Nat.le_of_ble_eq_true rfl) rfl rfl s12 dX8_mend_77 rfl (v := gF σ 17 ((x5 + 4).toNatClampNeg)) rfl ?_
      obtain ⟨s13, h⟩ := h
      refine Rf_iastore X (Nat.le_of_ble_eq_true rfl) rfl rfl s13 dX8_mend_78 rfl ?_
      refine Rf_iinc X (i := 5) (j := 5) (v := x5 + 1) rfl rfl (Nat.le_of_ble_eq_true rfl) (ls2 := [(5, .int (x5 + 1)), (0, .ref 0), (1, .int x1), (2, .int x2), (3, .int x3), (4, .int x4)]) rfl dX8_mend_79 rfl ?_
      refine Rf_goto X (tgt := 55) dX8_mend_82 rfl ?_
      refine Rf_sub [1, 2, 3, 4, 5, 0] rfl ?_
      exact hkb_55 _ _ _ _ _ (sF σ 17 (x5.toNatClampNeg) (gF σ 17 ((x5 + 4).toNatClampNeg))) h
def wp_X8_mend (σ : rfS) (x1 : Int32) (x2 : Int32) (x3 : Int32) (Q : Int32 → rfS → Prop) : Prop :=
  wp_X8_isOf σ x1 x2 (fun (r2 : Int32) (σ1 : rfS) => ((r2 = 0 → Q (-1) σ1) ∧ (¬ r2 = 0 → wp_X8_isFit σ1 x2 x3 (fun (r4 : Int32) (σ3 : rfS) => ((¬ r4 = 0 → wp_X8_get σ3 x1 x2 (fun (r6 : Int32) (σ5 : rfS) => ((¬ r6 = x3 → wp_X8_becomes σ5 x1 x2 x3 (fun (σ7 : rfS) => ((¬ (gI σ7 0 27) = 40 → wj_X8_mend_95 Q x1 x2 x3 r6 σ7) ∧ ((gI σ7 0 27) = 40 → (∃ n15, wl_X8_mend_55 Q (fun (x1_16 : Int32) (x2_17 : Int32) (x3_18 : Int32) (x4_19 : Int32) (σ20 : rfS) => wj_X8_mend_95 Q x1_16 x2_17 x3_18 x4_19 (sI σ20 0 27 ((gI σ20 0 27) - 1))) n15 x1 x2 x3 r6 0 σ7))))) ∧ (r6 = x3 → Q r6 σ5)))) ∧ (r4 = 0 → Q (-1) σ3))))))
set_option maxRecDepth 20000 in
theorem k_X8_mend {σ : rfS} {x1 : Int32} {x2 : Int32} {x3 : Int32} {Q : Int32 → rfS → Prop} (h : wp_X8_mend σ x1 x2 x3 Q) : RM ΛM 3 yX8_mend cX8_mend 6 (some .int) [.ref 0, .int x1, .int x2, .int x3] σ (qi Q) := by
  unfold wp_X8_mend at h
  refine RM.intro (by decide) (Nat.le_of_ble_eq_true rfl) (fun E X => ?_)
  show Rf ΛM 3 E 6 (qi Q) 0 [(0, .ref 0), (1, .int x1), (2, .int x2), (3, .int x3)] [] σ
  refine Rf_aload_n X (j := 0) rfl rfl dX8_mend_0 rfl ?_
  refine Rf_iload_n X (j := 1) rfl rfl dX8_mend_1 rfl ?_
  refine Rf_iload_n X (j := 2) rfl rfl dX8_mend_2 rfl ?_
  refine Rf_cVi (as := [.int x1, .int x2]) (st := []) X mi_X8_isOf lm_X8_119 rfl (Nat.le_of_ble_eq_true rfl) rfl (k_X8_isOf h) (Nat.le_of_ble_eq_true rfl) rfl rfl (Nat.le_of_ble_eq_true rfl) dX8_mend_3 rfl (fun r2 σ1 h => ?_)
  refine Rf_if_eq X (tgt := 17) dX8_mend_6 rfl rfl (fun c24 => ?_) (fun c24 => ?_)
  · have h := h.1 c24
    refine Rf_iconst X (v := (-1)) (by decide) dX8_mend_17 rfl ?_
    exact Rf_iret X rfl dX8_mend_18 ⟨_, rfl, h⟩
  · have h := h.2 c24
    refine Rf_iload_n X (j := 2) rfl rfl dX8_mend_9 rfl ?_
    refine Rf_iload_n X (j := 3) rfl rfl dX8_mend_10 rfl ?_
    refine Rf_cSi (as := [.int x2, .int x3]) (st := []) X ms_X8_isFit lm_X8_123 (k_X8_isFit h) (Nat.le_of_ble_eq_true rfl) rfl rfl (Nat.le_of_ble_eq_true rfl) dX8_mend_11 rfl (fun r4 σ3 h => ?_)
    refine Rf_if_ne X (tgt := 19) dX8_mend_14 rfl rfl (fun c23 => ?_) (fun c23 => ?_)
    · have h := h.1 c23
      refine Rf_aload_n X (j := 0) rfl rfl dX8_mend_19 rfl ?_
      refine Rf_iload_n X (j := 1) rfl rfl dX8_mend_20 rfl ?_
      refine Rf_iload_n X (j := 2) rfl rfl dX8_mend_21 rfl ?_
      refine Rf_cVi (as := [.int x1, .int x2]) (st := []) X mi_X8_get lm_X8_126 rfl (Nat.le_of_ble_eq_true rfl) rfl (k_X8_get h) (Nat.le_of_ble_eq_true rfl) rfl rfl (Nat.le_of_ble_eq_true rfl) dX8_mend_22 rfl (fun r6 σ5 h => ?_)
      refine Rf_istore X (i := 4) (Nat.le_of_ble_eq_true rfl) (ls2 := [(4, .int r6), (0, .ref 0), (1, .int x1), (2, .int x2), (3, .int x3)]) rfl dX8_mend_25 rfl ?_
      refine Rf_iload X (j := 0) rfl dX8_mend_27 rfl ?_
      refine Rf_iload_n X (j := 4) rfl rfl dX8_mend_29 rfl ?_
      refine Rf_icmp_ne X (tgt := 36) dX8_mend_30 rfl rfl (fun c22 => ?_) (fun c22 => ?_)
      · have h := h.1 c22
        refine Rf_aload_n X (j := 1) rfl rfl dX8_mend_36 rfl ?_
        refine Rf_iload_n X (j := 2) rfl rfl dX8_mend_37 rfl ?_
        refine Rf_iload_n X (j := 3) rfl rfl dX8_mend_38 rfl ?_
        refine Rf_iload_n X (j := 4) rfl rfl dX8_mend_39 rfl ?_
        refine Rf_cVv (as := [.int x1, .int x2, .int x3]) (st := []) X mi_X8_becomes lm_X8_129 rfl (Nat.le_of_ble_eq_true rfl) rfl (k_X8_becomes h) (Nat.le_of_ble_eq_true rfl) rfl rfl (Nat.le_of_ble_eq_true rfl) dX8_mend_40 rfl (fun σ7 h => ?_)
        refine Rf_aload_n X (j := 1) rfl rfl dX8_mend_43 rfl ?_
        refine Rf_get X kc8 (Nat.le_of_ble_eq_true rfl) rfl (j := 27) (Nat.le_of_ble_eq_true rfl) lf_X8_133 (v := .int (gI σ7 0 27)) rfl dX8_mend_44 rfl ?_
        refine Rf_bipush X (v := 40) rfl dX8_mend_47 rfl ?_
        refine Rf_icmp_ne X (tgt := 95) dX8_mend_49 rfl rfl (fun c21 => ?_) (fun c21 => ?_)
        · have h := h.1 c21
          refine Rf_sub [1, 2, 3, 4, 0] rfl ?_
          exact sj_X8_mend_95 X _ _ _ _ _ h
        · have h := h.2 c21
          refine Rf_iconst X (v := 0) rfl dX8_mend_52 rfl ?_
          refine Rf_istore X (i := 5) (Nat.le_of_ble_eq_true rfl) (ls2 := [(5, .int 0), (4, .int r6), (0, .ref 0), (1, .int x1), (2, .int x2), (3, .int x3)]) rfl dX8_mend_53 rfl ?_
          obtain ⟨n15, h⟩ := h
          refine Rf_sub [2, 3, 4, 5, 1, 0] rfl ?_
          refine sl_X8_mend_55 X (fun x1_16 x2_17 x3_18 x4_19 σ20 h => ?_) n15 _ _ _ _ _ _ h
          · refine Rf_aload_n X (j := 0) rfl rfl dX8_mend_85 rfl ?_
            refine Rf_dup X rfl dX8_mend_86 rfl ?_
            refine Rf_get X kc8 (Nat.le_of_ble_eq_true rfl) rfl (j := 27) (Nat.le_of_ble_eq_true rfl) lf_X8_133 (v := .int (gI σ20 0 27)) rfl dX8_mend_87 rfl ?_
            refine Rf_iconst X (v := 1) rfl dX8_mend_90 rfl ?_
            refine Rf_isub X dX8_mend_91 rfl ?_
            refine Rf_put X kc8 (Nat.le_of_ble_eq_true rfl) rfl (j := 27) (Nat.le_of_ble_eq_true rfl) rfl lf_X8_133 rfl rfl rfl dX8_mend_92 rfl ?_
            exact sj_X8_mend_95 X _ _ _ _ _ h
      · have h := h.2 c22
        refine Rf_iload X (j := 0) rfl dX8_mend_33 rfl ?_
        exact Rf_iret X rfl dX8_mend_35 ⟨_, rfl, h⟩
    · have h := h.2 c23
      refine Rf_iconst X (v := (-1)) (by decide) dX8_mend_17 rfl ?_
      exact Rf_iret X rfl dX8_mend_18 ⟨_, rfl, h⟩
def wp_X8_of (σ : rfS) (x1 : Int32) (x2 : Int32) (Q : Int32 → rfS → Prop) : Prop :=
  wp_X8_isOf σ x1 x2 (fun (r2 : Int32) (σ1 : rfS) => ((r2 = 0 → Q (-1) σ1) ∧ (¬ r2 = 0 → wp_X8_get σ1 x1 x2 (fun (r4 : Int32) (σ3 : rfS) => Q r4 σ3))))
set_option maxRecDepth 20000 in
theorem k_X8_of {σ : rfS} {x1 : Int32} {x2 : Int32} {Q : Int32 → rfS → Prop} (h : wp_X8_of σ x1 x2 Q) : RM ΛM 3 yX8_of cX8_of 3 (some .int) [.ref 0, .int x1, .int x2] σ (qi Q) := by
  unfold wp_X8_of at h
  refine RM.intro (by decide) (Nat.le_of_ble_eq_true rfl) (fun E X => ?_)
  show Rf ΛM 3 E 3 (qi Q) 0 [(0, .ref 0), (1, .int x1), (2, .int x2)] [] σ
  refine Rf_aload_n X (j := 0) rfl rfl dX8_of_0 rfl ?_
  refine Rf_iload_n X (j := 1) rfl rfl dX8_of_1 rfl ?_
  refine Rf_iload_n X (j := 2) rfl rfl dX8_of_2 rfl ?_
  refine Rf_cVi (as := [.int x1, .int x2]) (st := []) X mi_X8_isOf lm_X8_119 rfl (Nat.le_of_ble_eq_true rfl) rfl (k_X8_isOf h) (Nat.le_of_ble_eq_true rfl) rfl rfl (Nat.le_of_ble_eq_true rfl) dX8_of_3 rfl (fun r2 σ1 h => ?_)
  refine Rf_if_eq X (tgt := 18) dX8_of_6 rfl rfl (fun c5 => ?_) (fun c5 => ?_)
  · have h := h.1 c5
    refine Rf_iconst X (v := (-1)) (by decide) dX8_of_18 rfl ?_
    exact Rf_iret X rfl dX8_of_19 ⟨_, rfl, h⟩
  · have h := h.2 c5
    refine Rf_aload_n X (j := 0) rfl rfl dX8_of_9 rfl ?_
    refine Rf_iload_n X (j := 1) rfl rfl dX8_of_10 rfl ?_
    refine Rf_iload_n X (j := 2) rfl rfl dX8_of_11 rfl ?_
    refine Rf_cVi (as := [.int x1, .int x2]) (st := []) X mi_X8_get lm_X8_126 rfl (Nat.le_of_ble_eq_true rfl) rfl (k_X8_get h) (Nat.le_of_ble_eq_true rfl) rfl rfl (Nat.le_of_ble_eq_true rfl) dX8_of_12 rfl (fun r4 σ3 h => ?_)
    refine Rf_goto X (tgt := 19) dX8_of_15 rfl ?_
    exact Rf_iret X rfl dX8_of_19 ⟨_, rfl, h⟩
def wp_X8_undo (σ : rfS) (Q : Int32 → rfS → Prop) : Prop :=
  ((¬ (gI σ 0 27) = 0 → vp_in (4 * ((gI σ 0 27) - 1)) 160 ∧ vp_in ((4 * ((gI σ 0 27) - 1)) + 1) 160 ∧ vp_in ((4 * ((gI σ 0 27) - 1)) + 2) 160 ∧ wp_X8_becomes (sI σ 0 27 ((gI σ 0 27) - 1)) (gF σ 17 ((4 * ((gI σ 0 27) - 1)).toNatClampNeg)) (gF σ 17 (((4 * ((gI σ 0 27) - 1)) + 1).toNatClampNeg)) (gF σ 17 (((4 * ((gI σ 0 27) - 1)) + 2).toNatClampNeg)) (fun (σ4 : rfS) => Q (gI σ4 0 27) σ4)) ∧ ((gI σ 0 27) = 0 → Q (-5) σ))
set_option maxRecDepth 20000 in
theorem k_X8_undo {σ : rfS} {Q : Int32 → rfS → Prop} (h : wp_X8_undo σ Q) : RM ΛM 1 yX8_undo cX8_undo 1 (some .int) [.ref 0] σ (qi Q) := by
  unfold wp_X8_undo at h
  refine RM.intro (by decide) (Nat.le_of_ble_eq_true rfl) (fun E X => ?_)
  show Rf ΛM 1 E 1 (qi Q) 0 [(0, .ref 0)] [] σ
  refine Rf_aload_n X (j := 0) rfl rfl dX8_undo_0 rfl ?_
  refine Rf_get X kc8 (Nat.le_of_ble_eq_true rfl) rfl (j := 27) (Nat.le_of_ble_eq_true rfl) lf_X8_133 (v := .int (gI σ 0 27)) rfl dX8_undo_1 rfl ?_
  refine Rf_if_ne X (tgt := 10) dX8_undo_4 rfl rfl (fun c5 => ?_) (fun c5 => ?_)
  · have h := h.1 c5
    refine Rf_aload_n X (j := 0) rfl rfl dX8_undo_10 rfl ?_
    refine Rf_dup X rfl dX8_undo_11 rfl ?_
    refine Rf_get X kc8 (Nat.le_of_ble_eq_true rfl) rfl (j := 27) (Nat.le_of_ble_eq_true rfl) lf_X8_133 (v := .int (gI σ 0 27)) rfl dX8_undo_12 rfl ?_
    refine Rf_iconst X (v := 1) rfl dX8_undo_15 rfl ?_
    refine Rf_isub X dX8_undo_16 rfl ?_
    refine Rf_put X kc8 (Nat.le_of_ble_eq_true rfl) rfl (j := 27) (Nat.le_of_ble_eq_true rfl) rfl lf_X8_133 rfl rfl rfl dX8_undo_17 rfl ?_
    refine Rf_aload_n X (j := 0) rfl rfl dX8_undo_20 rfl ?_
    refine Rf_aload_n X (j := 0) rfl rfl dX8_undo_21 rfl ?_
    refine Rf_get X kc8 (Nat.le_of_ble_eq_true rfl) rfl (j := 28) (Nat.le_of_ble_eq_true rfl) lf_X8_60 (v := .ref 17) rfl dX8_undo_22 rfl ?_
    refine Rf_iconst X (v := 4) rfl dX8_undo_25 rfl ?_
    refine Rf_aload_n X (j := 0) rfl rfl dX8_undo_26 rfl ?_
    refine Rf_get X kc8 (Nat.le_of_ble_eq_true rfl) rfl (j := 27) (Nat.le_of_ble_eq_true rfl) lf_X8_133 (v := .int ((gI σ 0 27) - 1)) (congrArg Value.int (show gI (sI σ 0 27 ((gI σ 0 27) - 1)) 0 27 = (gI σ 0 27) - 1 from gI_sIs)) dX8_undo_27 rfl ?_
    refine Rf_imul X dX8_undo_30 rfl ?_
    obtain ⟨s1, h⟩ := h
    refine Rf_iaload X (Nat.le_of_ble_eq_true rfl) rfl rfl s1 dX8_undo_31 rfl (v := gF σ 17 ((4 * ((gI σ 0 27) - 1)).toNatClampNeg)) (show gF (sI σ 0 27 ((gI σ 0 27) - 1)) 17 ((4 * ((gI σ 0 27) - 1)).toNatClampNeg) = gF σ 17 ((4 * ((gI σ 0 27) - 1)).toNatClampNeg) from gF_sI _ _ _ _ _ _) ?_
    refine Rf_aload_n X (j := 0) rfl rfl dX8_undo_32 rfl ?_
    refine Rf_get X kc8 (Nat.le_of_ble_eq_true rfl) rfl (j := 28) (Nat.le_of_ble_eq_true rfl) lf_X8_60 (v := .ref 17) rfl dX8_undo_33 rfl ?_
    refine Rf_iconst X (v := 4) rfl dX8_undo_36 rfl ?_
    refine Rf_aload_n X (j := 0) rfl rfl dX8_undo_37 rfl ?_
    refine Rf_get X kc8 (Nat.le_of_ble_eq_true rfl) rfl (j := 27) (Nat.le_of_ble_eq_true rfl) lf_X8_133 (v := .int ((gI σ 0 27) - 1)) (congrArg Value.int (show gI (sI σ 0 27 ((gI σ 0 27) - 1)) 0 27 = (gI σ 0 27) - 1 from gI_sIs)) dX8_undo_38 rfl ?_
    refine Rf_imul X dX8_undo_41 rfl ?_
    refine Rf_iconst X (v := 1) rfl dX8_undo_42 rfl ?_
    refine Rf_iadd X dX8_undo_43 rfl ?_
    obtain ⟨s2, h⟩ := h
    refine Rf_iaload X (Nat.le_of_ble_eq_true rfl) rfl rfl s2 dX8_undo_44 rfl (v := gF σ 17 (((4 * ((gI σ 0 27) - 1)) + 1).toNatClampNeg)) (show gF (sI σ 0 27 ((gI σ 0 27) - 1)) 17 (((4 * ((gI σ 0 27) - 1)) + 1).toNatClampNeg) = gF σ 17 (((4 * ((gI σ 0 27) - 1)) + 1).toNatClampNeg) from gF_sI _ _ _ _ _ _) ?_
    refine Rf_aload_n X (j := 0) rfl rfl dX8_undo_45 rfl ?_
    refine Rf_get X kc8 (Nat.le_of_ble_eq_true rfl) rfl (j := 28) (Nat.le_of_ble_eq_true rfl) lf_X8_60 (v := .ref 17) rfl dX8_undo_46 rfl ?_
    refine Rf_iconst X (v := 4) rfl dX8_undo_49 rfl ?_
    refine Rf_aload_n X (j := 0) rfl rfl dX8_undo_50 rfl ?_
    refine Rf_get X kc8 (Nat.le_of_ble_eq_true rfl) rfl (j := 27) (Nat.le_of_ble_eq_true rfl) lf_X8_133 (v := .int ((gI σ 0 27) - 1)) (congrArg Value.int (show gI (sI σ 0 27 ((gI σ 0 27) - 1)) 0 27 = (gI σ 0 27) - 1 from gI_sIs)) dX8_undo_51 rfl ?_
    refine Rf_imul X dX8_undo_54 rfl ?_
    refine Rf_iconst X (v := 2) rfl dX8_undo_55 rfl ?_
    refine Rf_iadd X dX8_undo_56 rfl ?_
    obtain ⟨s3, h⟩ := h
    refine Rf_iaload X (Nat.le_of_ble_eq_true rfl) rfl rfl s3 dX8_undo_57 rfl (v := gF σ 17 (((4 * ((gI σ 0 27) - 1)) + 2).toNatClampNeg)) (show gF (sI σ 0 27 ((gI σ 0 27) - 1)) 17 (((4 * ((gI σ 0 27) - 1)) + 2).toNatClampNeg) = gF σ 17 (((4 * ((gI σ 0 27) - 1)) + 2).toNatClampNeg) from gF_sI _ _ _ _ _ _) ?_
    refine Rf_cVv (as := [.int (gF σ 17 ((4 * ((gI σ 0 27) - 1)).toNatClampNeg)), .int (gF σ 17 (((4 * ((gI σ 0 27) - 1)) + 1).toNatClampNeg)), .int (gF σ 17 (((4 * ((gI σ 0 27) - 1)) + 2).toNatClampNeg))]) (st := []) X mi_X8_becomes lm_X8_129 rfl (Nat.le_of_ble_eq_true rfl) rfl (k_X8_becomes h) (Nat.le_of_ble_eq_true rfl) rfl rfl (Nat.le_of_ble_eq_true rfl) dX8_undo_58 rfl (fun σ4 h => ?_)
    refine Rf_aload_n X (j := 0) rfl rfl dX8_undo_61 rfl ?_
    refine Rf_get X kc8 (Nat.le_of_ble_eq_true rfl) rfl (j := 27) (Nat.le_of_ble_eq_true rfl) lf_X8_133 (v := .int (gI σ4 0 27)) rfl dX8_undo_62 rfl ?_
    exact Rf_iret X rfl dX8_undo_65 ⟨_, rfl, h⟩
  · have h := h.2 c5
    refine Rf_bipush X (v := (-5)) (by decide) dX8_undo_7 rfl ?_
    exact Rf_iret X rfl dX8_undo_9 ⟨_, rfl, h⟩
def wp_X8_redo (σ : rfS) (Q : Int32 → rfS → Prop) : Prop :=
  ((¬ (gI σ 0 27) = (gI σ 0 26) → vp_in (4 * (gI σ 0 27)) 160 ∧ vp_in ((4 * (gI σ 0 27)) + 1) 160 ∧ vp_in ((4 * (gI σ 0 27)) + 3) 160 ∧ wp_X8_becomes σ (gF σ 17 ((4 * (gI σ 0 27)).toNatClampNeg)) (gF σ 17 (((4 * (gI σ 0 27)) + 1).toNatClampNeg)) (gF σ 17 (((4 * (gI σ 0 27)) + 3).toNatClampNeg)) (fun (σ4 : rfS) => Q ((gI σ4 0 26) - ((gI σ4 0 27) + 1)) (sI σ4 0 27 ((gI σ4 0 27) + 1)))) ∧ ((gI σ 0 27) = (gI σ 0 26) → Q (-5) σ))
set_option maxRecDepth 20000 in
theorem k_X8_redo {σ : rfS} {Q : Int32 → rfS → Prop} (h : wp_X8_redo σ Q) : RM ΛM 1 yX8_redo cX8_redo 1 (some .int) [.ref 0] σ (qi Q) := by
  unfold wp_X8_redo at h
  refine RM.intro (by decide) (Nat.le_of_ble_eq_true rfl) (fun E X => ?_)
  show Rf ΛM 1 E 1 (qi Q) 0 [(0, .ref 0)] [] σ
  refine Rf_aload_n X (j := 0) rfl rfl dX8_redo_0 rfl ?_
  refine Rf_get X kc8 (Nat.le_of_ble_eq_true rfl) rfl (j := 27) (Nat.le_of_ble_eq_true rfl) lf_X8_133 (v := .int (gI σ 0 27)) rfl dX8_redo_1 rfl ?_
  refine Rf_aload_n X (j := 0) rfl rfl dX8_redo_4 rfl ?_
  refine Rf_get X kc8 (Nat.le_of_ble_eq_true rfl) rfl (j := 26) (Nat.le_of_ble_eq_true rfl) lf_X8_136 (v := .int (gI σ 0 26)) rfl dX8_redo_5 rfl ?_
  refine Rf_icmp_ne X (tgt := 14) dX8_redo_8 rfl rfl (fun c5 => ?_) (fun c5 => ?_)
  · have h := h.1 c5
    refine Rf_aload_n X (j := 0) rfl rfl dX8_redo_14 rfl ?_
    refine Rf_aload_n X (j := 0) rfl rfl dX8_redo_15 rfl ?_
    refine Rf_get X kc8 (Nat.le_of_ble_eq_true rfl) rfl (j := 28) (Nat.le_of_ble_eq_true rfl) lf_X8_60 (v := .ref 17) rfl dX8_redo_16 rfl ?_
    refine Rf_iconst X (v := 4) rfl dX8_redo_19 rfl ?_
    refine Rf_aload_n X (j := 0) rfl rfl dX8_redo_20 rfl ?_
    refine Rf_get X kc8 (Nat.le_of_ble_eq_true rfl) rfl (j := 27) (Nat.le_of_ble_eq_true rfl) lf_X8_133 (v := .int (gI σ 0 27)) rfl dX8_redo_21 rfl ?_
    refine Rf_imul X dX8_redo_24 rfl ?_
    obtain ⟨s1, h⟩ := h
    refine Rf_iaload X (Nat.le_of_ble_eq_true rfl) rfl rfl s1 dX8_redo_25 rfl (v := gF σ 17 ((4 * (gI σ 0 27)).toNatClampNeg)) rfl ?_
    refine Rf_aload_n X (j := 0) rfl rfl dX8_redo_26 rfl ?_
    refine Rf_get X kc8 (Nat.le_of_ble_eq_true rfl) rfl (j := 28) (Nat.le_of_ble_eq_true rfl) lf_X8_60 (v := .ref 17) rfl dX8_redo_27 rfl ?_
    refine Rf_iconst X (v := 4) rfl dX8_redo_30 rfl ?_
    refine Rf_aload_n X (j := 0) rfl rfl dX8_redo_31 rfl ?_
    refine Rf_get X kc8 (Nat.le_of_ble_eq_true rfl) rfl (j := 27) (Nat.le_of_ble_eq_true rfl) lf_X8_133 (v := .int (gI σ 0 27)) rfl dX8_redo_32 rfl ?_
    refine Rf_imul X dX8_redo_35 rfl ?_
    refine Rf_iconst X (v := 1) rfl dX8_redo_36 rfl ?_
    refine Rf_iadd X dX8_redo_37 rfl ?_
    obtain ⟨s2, h⟩ := h
    refine Rf_iaload X (Nat.le_of_ble_eq_true rfl) rfl rfl s2 dX8_redo_38 rfl (v := gF σ 17 (((4 * (gI σ 0 27)) + 1).toNatClampNeg)) rfl ?_
    refine Rf_aload_n X (j := 0) rfl rfl dX8_redo_39 rfl ?_
    refine Rf_get X kc8 (Nat.le_of_ble_eq_true rfl) rfl (j := 28) (Nat.le_of_ble_eq_true rfl) lf_X8_60 (v := .ref 17) rfl dX8_redo_40 rfl ?_
    refine Rf_iconst X (v := 4) rfl dX8_redo_43 rfl ?_
    refine Rf_aload_n X (j := 0) rfl rfl dX8_redo_44 rfl ?_
    refine Rf_get X kc8 (Nat.le_of_ble_eq_true rfl) rfl (j := 27) (Nat.le_of_ble_eq_true rfl) lf_X8_133 (v := .int (gI σ 0 27)) rfl dX8_redo_45 rfl ?_
    refine Rf_imul X dX8_redo_48 rfl ?_
    refine Rf_iconst X (v := 3) rfl dX8_redo_49 rfl ?_
    refine Rf_iadd X dX8_redo_50 rfl ?_
    obtain ⟨s3, h⟩ := h
    refine Rf_iaload X (Nat.le_of_ble_eq_true rfl) rfl rfl s3 dX8_redo_51 rfl (v := gF σ 17 (((4 * (gI σ 0 27)) + 3).toNatClampNeg)) rfl ?_
    refine Rf_cVv (as := [.int (gF σ 17 ((4 * (gI σ 0 27)).toNatClampNeg)), .int (gF σ 17 (((4 * (gI σ 0 27)) + 1).toNatClampNeg)), .int (gF σ 17 (((4 * (gI σ 0 27)) + 3).toNatClampNeg))]) (st := []) X mi_X8_becomes lm_X8_129 rfl (Nat.le_of_ble_eq_true rfl) rfl (k_X8_becomes h) (Nat.le_of_ble_eq_true rfl) rfl rfl (Nat.le_of_ble_eq_true rfl) dX8_redo_52 rfl (fun σ4 h => ?_)
    refine Rf_aload_n X (j := 0) rfl rfl dX8_redo_55 rfl ?_
    refine Rf_dup X rfl dX8_redo_56 rfl ?_
    refine Rf_get X kc8 (Nat.le_of_ble_eq_true rfl) rfl (j := 27) (Nat.le_of_ble_eq_true rfl) lf_X8_133 (v := .int (gI σ4 0 27)) rfl dX8_redo_57 rfl ?_
    refine Rf_iconst X (v := 1) rfl dX8_redo_60 rfl ?_
    refine Rf_iadd X dX8_redo_61 rfl ?_
    refine Rf_put X kc8 (Nat.le_of_ble_eq_true rfl) rfl (j := 27) (Nat.le_of_ble_eq_true rfl) rfl lf_X8_133 rfl rfl rfl dX8_redo_62 rfl ?_
    refine Rf_aload_n X (j := 0) rfl rfl dX8_redo_65 rfl ?_
    refine Rf_get X kc8 (Nat.le_of_ble_eq_true rfl) rfl (j := 26) (Nat.le_of_ble_eq_true rfl) lf_X8_136 (v := .int (gI σ4 0 26)) (congrArg Value.int (show gI (sI σ4 0 27 ((gI σ4 0 27) + 1)) 0 26 = gI σ4 0 26 from gI_sIj (by decide))) dX8_redo_66 rfl ?_
    refine Rf_aload_n X (j := 0) rfl rfl dX8_redo_69 rfl ?_
    refine Rf_get X kc8 (Nat.le_of_ble_eq_true rfl) rfl (j := 27) (Nat.le_of_ble_eq_true rfl) lf_X8_133 (v := .int ((gI σ4 0 27) + 1)) (congrArg Value.int (show gI (sI σ4 0 27 ((gI σ4 0 27) + 1)) 0 27 = (gI σ4 0 27) + 1 from gI_sIs)) dX8_redo_70 rfl ?_
    refine Rf_isub X dX8_redo_73 rfl ?_
    exact Rf_iret X rfl dX8_redo_74 ⟨_, rfl, h⟩
  · have h := h.2 c5
    refine Rf_bipush X (v := (-5)) (by decide) dX8_redo_11 rfl ?_
    exact Rf_iret X rfl dX8_redo_13 ⟨_, rfl, h⟩
def wp_X8_feed (σ : rfS) (x1 : Int32) (Q : Int32 → rfS → Prop) : Prop :=
  wp_X8_within σ x1 0 255 (fun (r2 : Int32) (σ1 : rfS) => ((¬ r2 = 0 → ((¬ (gI σ1 0 3) = 120 → vp_in (gI σ1 0 3) 120 ∧ Q ((gI σ1 0 3) + 1) (sF (sI σ1 0 3 ((gI σ1 0 3) + 1)) 3 ((gI σ1 0 3).toNatClampNeg) x1)) ∧ ((gI σ1 0 3) = 120 → Q (-3) σ1))) ∧ (r2 = 0 → Q (-1) σ1)))
set_option maxRecDepth 20000 in
theorem k_X8_feed {σ : rfS} {x1 : Int32} {Q : Int32 → rfS → Prop} (h : wp_X8_feed σ x1 Q) : RM ΛM 1 yX8_feed cX8_feed 2 (some .int) [.ref 0, .int x1] σ (qi Q) := by
  unfold wp_X8_feed at h
  refine RM.intro (by decide) (Nat.le_of_ble_eq_true rfl) (fun E X => ?_)
  show Rf ΛM 1 E 2 (qi Q) 0 [(0, .ref 0), (1, .int x1)] [] σ
  refine Rf_iload_n X (j := 1) rfl rfl dX8_feed_0 rfl ?_
  refine Rf_iconst X (v := 0) rfl dX8_feed_1 rfl ?_
  refine Rf_sipush X (v := 255) rfl dX8_feed_2 rfl ?_
  refine Rf_cSi (as := [.int x1, .int 0, .int 255]) (st := []) X ms_X8_within lm_X8_98 (k_X8_within h) (Nat.le_of_ble_eq_true rfl) rfl rfl (Nat.le_of_ble_eq_true rfl) dX8_feed_5 rfl (fun r2 σ1 h => ?_)
  refine Rf_if_ne X (tgt := 13) dX8_feed_8 rfl rfl (fun c5 => ?_) (fun c5 => ?_)
  · have h := h.1 c5
    refine Rf_aload_n X (j := 0) rfl rfl dX8_feed_13 rfl ?_
    refine Rf_get X kc8 (Nat.le_of_ble_eq_true rfl) rfl (j := 3) (Nat.le_of_ble_eq_true rfl) lf_X8_139 (v := .int (gI σ1 0 3)) rfl dX8_feed_14 rfl ?_
    refine Rf_bipush X (v := 120) rfl dX8_feed_17 rfl ?_
    refine Rf_icmp_ne X (tgt := 25) dX8_feed_19 rfl rfl (fun c4 => ?_) (fun c4 => ?_)
    · have h := h.1 c4
      refine Rf_aload_n X (j := 0) rfl rfl dX8_feed_25 rfl ?_
      refine Rf_get X kc8 (Nat.le_of_ble_eq_true rfl) rfl (j := 4) (Nat.le_of_ble_eq_true rfl) lf_X8_18 (v := .ref 3) rfl dX8_feed_26 rfl ?_
      refine Rf_aload_n X (j := 0) rfl rfl dX8_feed_29 rfl ?_
      refine Rf_dup X rfl dX8_feed_30 rfl ?_
      refine Rf_get X kc8 (Nat.le_of_ble_eq_true rfl) rfl (j := 3) (Nat.le_of_ble_eq_true rfl) lf_X8_139 (v := .int (gI σ1 0 3)) rfl dX8_feed_31 rfl ?_
      refine Rf_dup_x1 X rfl rfl dX8_feed_34 rfl ?_
      refine Rf_iconst X (v := 1) rfl dX8_feed_35 rfl ?_
      refine Rf_iadd X dX8_feed_36 rfl ?_
      refine Rf_put X kc8 (Nat.le_of_ble_eq_true rfl) rfl (j := 3) (Nat.le_of_ble_eq_true rfl) rfl lf_X8_139 rfl rfl rfl dX8_feed_37 rfl ?_
      refine Rf_iload_n X (j := 1) rfl rfl dX8_feed_40 rfl ?_
      obtain ⟨s3, h⟩ := h
      refine Rf_iastore X (Nat.le_of_ble_eq_true rfl) rfl rfl s3 dX8_feed_41 rfl ?_
      refine Rf_aload_n X (j := 0) rfl rfl dX8_feed_42 rfl ?_
      refine Rf_get X kc8 (Nat.le_of_ble_eq_true rfl) rfl (j := 3) (Nat.le_of_ble_eq_true rfl) lf_X8_139 (v := .int ((gI σ1 0 3) + 1)) (congrArg Value.int (show gI (sF (sI σ1 0 3 ((gI σ1 0 3) + 1)) 3 ((gI σ1 0 3).toNatClampNeg) x1) 0 3 = (gI σ1 0 3) + 1 from (gI_sF _ _ _ _ _ _).trans (gI_sIs))) dX8_feed_43 rfl ?_
      exact Rf_iret X rfl dX8_feed_46 ⟨_, rfl, h⟩
    · have h := h.2 c4
      refine Rf_bipush X (v := (-3)) (by decide) dX8_feed_22 rfl ?_
      exact Rf_iret X rfl dX8_feed_24 ⟨_, rfl, h⟩
  · have h := h.2 c5
    refine Rf_iconst X (v := (-1)) (by decide) dX8_feed_11 rfl ?_
    exact Rf_iret X rfl dX8_feed_12 ⟨_, rfl, h⟩
def wp_X8_sign (σ : rfS) (Q : Int32 → rfS → Prop) : Prop :=
  (((gI σ 0 3) ≤ (gI σ 0 11) → Q (-1) σ) ∧ (¬ ((gI σ 0 3) ≤ (gI σ 0 11)) → vp_in (gI σ 0 11) 120 ∧ (Q (gF σ 3 ((gI σ 0 11).toNatClampNeg)) σ)))
set_option maxRecDepth 20000 in
theorem k_X8_sign {σ : rfS} {Q : Int32 → rfS → Prop} (h : wp_X8_sign σ Q) : RM ΛM 0 yX8_sign cX8_sign 1 (some .int) [.ref 0] σ (qi Q) := by
  unfold wp_X8_sign at h
  refine RM.intro (by decide) (Nat.le_of_ble_eq_true rfl) (fun E X => ?_)
  show Rf ΛM 0 E 1 (qi Q) 0 [(0, .ref 0)] [] σ
  refine Rf_aload_n X (j := 0) rfl rfl dX8_sign_0 rfl ?_
  refine Rf_get X kc8 (Nat.le_of_ble_eq_true rfl) rfl (j := 11) (Nat.le_of_ble_eq_true rfl) lf_X8_142 (v := .int (gI σ 0 11)) rfl dX8_sign_1 rfl ?_
  refine Rf_aload_n X (j := 0) rfl rfl dX8_sign_4 rfl ?_
  refine Rf_get X kc8 (Nat.le_of_ble_eq_true rfl) rfl (j := 3) (Nat.le_of_ble_eq_true rfl) lf_X8_139 (v := .int (gI σ 0 3)) rfl dX8_sign_5 rfl ?_
  refine Rf_icmp_ge X (tgt := 23) dX8_sign_8 rfl rfl (fun c2 => ?_) (fun c2 => ?_)
  · have h := h.1 c2
    refine Rf_iconst X (v := (-1)) (by decide) dX8_sign_23 rfl ?_
    exact Rf_iret X rfl dX8_sign_24 ⟨_, rfl, h⟩
  · have h := h.2 c2
    refine Rf_aload_n X (j := 0) rfl rfl dX8_sign_11 rfl ?_
    refine Rf_get X kc8 (Nat.le_of_ble_eq_true rfl) rfl (j := 4) (Nat.le_of_ble_eq_true rfl) lf_X8_18 (v := .ref 3) rfl dX8_sign_12 rfl ?_
    refine Rf_aload_n X (j := 0) rfl rfl dX8_sign_15 rfl ?_
    refine Rf_get X kc8 (Nat.le_of_ble_eq_true rfl) rfl (j := 11) (Nat.le_of_ble_eq_true rfl) lf_X8_142 (v := .int (gI σ 0 11)) rfl dX8_sign_16 rfl ?_
    obtain ⟨s1, h⟩ := h
    refine Rf_iaload X (Nat.le_of_ble_eq_true rfl) rfl rfl s1 dX8_sign_19 rfl (v := gF σ 3 ((gI σ 0 11).toNatClampNeg)) rfl ?_
    refine Rf_goto X (tgt := 24) dX8_sign_20 rfl ?_
    exact Rf_iret X rfl dX8_sign_24 ⟨_, rfl, h⟩
def wp_X8_is (σ : rfS) (x1 : Int32) (Q : Int32 → rfS → Prop) : Prop :=
  wp_X8_sign σ (fun (r2 : Int32) (σ1 : rfS) => ((r2 = x1 → Q 1 (sI σ1 0 11 ((gI σ1 0 11) + 1))) ∧ (¬ r2 = x1 → Q 0 σ1)))
set_option maxRecDepth 20000 in
theorem k_X8_is {σ : rfS} {x1 : Int32} {Q : Int32 → rfS → Prop} (h : wp_X8_is σ x1 Q) : RM ΛM 1 yX8_is cX8_is 2 (some .boolean) [.ref 0, .int x1] σ (qi Q) := by
  unfold wp_X8_is at h
  refine RM.intro (by decide) (Nat.le_of_ble_eq_true rfl) (fun E X => ?_)
  show Rf ΛM 1 E 2 (qi Q) 0 [(0, .ref 0), (1, .int x1)] [] σ
  refine Rf_aload_n X (j := 0) rfl rfl dX8_is_0 rfl ?_
  refine Rf_cVi (as := []) (st := []) X mi_X8_sign lm_X8_145 rfl (Nat.le_of_ble_eq_true rfl) rfl (k_X8_sign h) (Nat.le_of_ble_eq_true rfl) rfl rfl (Nat.le_of_ble_eq_true rfl) dX8_is_1 rfl (fun r2 σ1 h => ?_)
  refine Rf_iload_n X (j := 1) rfl rfl dX8_is_4 rfl ?_
  refine Rf_icmp_eq X (tgt := 10) dX8_is_5 rfl rfl (fun c3 => ?_) (fun c3 => ?_)
  · have h := h.1 c3
    refine Rf_aload_n X (j := 0) rfl rfl dX8_is_10 rfl ?_
    refine Rf_dup X rfl dX8_is_11 rfl ?_
    refine Rf_get X kc8 (Nat.le_of_ble_eq_true rfl) rfl (j := 11) (Nat.le_of_ble_eq_true rfl) lf_X8_142 (v := .int (gI σ1 0 11)) rfl dX8_is_12 rfl ?_
    refine Rf_iconst X (v := 1) rfl dX8_is_15 rfl ?_
    refine Rf_iadd X dX8_is_16 rfl ?_
    refine Rf_put X kc8 (Nat.le_of_ble_eq_true rfl) rfl (j := 11) (Nat.le_of_ble_eq_true rfl) rfl lf_X8_142 rfl rfl rfl dX8_is_17 rfl ?_
    refine Rf_iconst X (v := 1) rfl dX8_is_20 rfl ?_
    exact Rf_iret X rfl dX8_is_21 ⟨_, rfl, h⟩
  · have h := h.2 c3
    refine Rf_iconst X (v := 0) rfl dX8_is_8 rfl ?_
    exact Rf_iret X rfl dX8_is_9 ⟨_, rfl, h⟩
def wp_X8_codes (σ : rfS) (x1 : Int32) (Q : Int32 → rfS → Prop) : Prop :=
  vp_in (gI σ 0 13) 200 ∧ Q 1 (sF (sI σ 0 13 ((gI σ 0 13) + 1)) 11 ((gI σ 0 13).toNatClampNeg) x1)
set_option maxRecDepth 20000 in
theorem k_X8_codes {σ : rfS} {x1 : Int32} {Q : Int32 → rfS → Prop} (h : wp_X8_codes σ x1 Q) : RM ΛM 0 yX8_codes cX8_codes 2 (some .boolean) [.ref 0, .int x1] σ (qi Q) := by
  unfold wp_X8_codes at h
  refine RM.intro (by decide) (Nat.le_of_ble_eq_true rfl) (fun E X => ?_)
  show Rf ΛM 0 E 2 (qi Q) 0 [(0, .ref 0), (1, .int x1)] [] σ
  refine Rf_aload_n X (j := 0) rfl rfl dX8_codes_0 rfl ?_
  refine Rf_get X kc8 (Nat.le_of_ble_eq_true rfl) rfl (j := 18) (Nat.le_of_ble_eq_true rfl) lf_X8_42 (v := .ref 11) rfl dX8_codes_1 rfl ?_
  refine Rf_aload_n X (j := 0) rfl rfl dX8_codes_4 rfl ?_
  refine Rf_dup X rfl dX8_codes_5 rfl ?_
  refine Rf_get X kc8 (Nat.le_of_ble_eq_true rfl) rfl (j := 13) (Nat.le_of_ble_eq_true rfl) lf_X8_149 (v := .int (gI σ 0 13)) rfl dX8_codes_6 rfl ?_
  refine Rf_dup_x1 X rfl rfl dX8_codes_9 rfl ?_
  refine Rf_iconst X (v := 1) rfl dX8_codes_10 rfl ?_
  refine Rf_iadd X dX8_codes_11 rfl ?_
  refine Rf_put X kc8 (Nat.le_of_ble_eq_true rfl) rfl (j := 13) (Nat.le_of_ble_eq_true rfl) rfl lf_X8_149 rfl rfl rfl dX8_codes_12 rfl ?_
  refine Rf_iload_n X (j := 1) rfl rfl dX8_codes_15 rfl ?_
  obtain ⟨s1, h⟩ := h
  refine Rf_iastore X (Nat.le_of_ble_eq_true rfl) rfl rfl s1 dX8_codes_16 rfl ?_
  refine Rf_iconst X (v := 1) rfl dX8_codes_17 rfl ?_
  exact Rf_iret X rfl dX8_codes_18 ⟨_, rfl, h⟩
def wp_X8_isDigit (σ : rfS) (Q : Int32 → rfS → Prop) : Prop :=
  wp_X8_sign σ (fun (r2 : Int32) (σ1 : rfS) => ((r2 < 48 → Q 0 σ1) ∧ (¬ (r2 < 48) → wp_X8_sign σ1 (fun (r4 : Int32) (σ3 : rfS) => ((57 < r4 → Q 0 σ3) ∧ (¬ (57 < r4) → Q 1 σ3))))))
set_option maxRecDepth 20000 in
theorem k_X8_isDigit {σ : rfS} {Q : Int32 → rfS → Prop} (h : wp_X8_isDigit σ Q) : RM ΛM 1 yX8_isDigit cX8_isDigit 1 (some .boolean) [.ref 0] σ (qi Q) := by
  unfold wp_X8_isDigit at h
  refine RM.intro (by decide) (Nat.le_of_ble_eq_true rfl) (fun E X => ?_)
  show Rf ΛM 1 E 1 (qi Q) 0 [(0, .ref 0)] [] σ
  refine Rf_aload_n X (j := 0) rfl rfl dX8_isDigit_0 rfl ?_
  refine Rf_cVi (as := []) (st := []) X mi_X8_sign lm_X8_145 rfl (Nat.le_of_ble_eq_true rfl) rfl (k_X8_sign h) (Nat.le_of_ble_eq_true rfl) rfl rfl (Nat.le_of_ble_eq_true rfl) dX8_isDigit_1 rfl (fun r2 σ1 h => ?_)
  refine Rf_bipush X (v := 48) rfl dX8_isDigit_4 rfl ?_
  refine Rf_icmp_lt X (tgt := 22) dX8_isDigit_6 rfl rfl (fun c6 => ?_) (fun c6 => ?_)
  · have h := h.1 c6
    refine Rf_iconst X (v := 0) rfl dX8_isDigit_22 rfl ?_
    exact Rf_iret X rfl dX8_isDigit_23 ⟨_, rfl, h⟩
  · have h := h.2 c6
    refine Rf_aload_n X (j := 0) rfl rfl dX8_isDigit_9 rfl ?_
    refine Rf_cVi (as := []) (st := []) X mi_X8_sign lm_X8_145 rfl (Nat.le_of_ble_eq_true rfl) rfl (k_X8_sign h) (Nat.le_of_ble_eq_true rfl) rfl rfl (Nat.le_of_ble_eq_true rfl) dX8_isDigit_10 rfl (fun r4 σ3 h => ?_)
    refine Rf_bipush X (v := 57) rfl dX8_isDigit_13 rfl ?_
    refine Rf_icmp_gt X (tgt := 22) dX8_isDigit_15 rfl rfl (fun c5 => ?_) (fun c5 => ?_)
    · have h := h.1 c5
      refine Rf_iconst X (v := 0) rfl dX8_isDigit_22 rfl ?_
      exact Rf_iret X rfl dX8_isDigit_23 ⟨_, rfl, h⟩
    · have h := h.2 c5
      refine Rf_iconst X (v := 1) rfl dX8_isDigit_18 rfl ?_
      refine Rf_goto X (tgt := 23) dX8_isDigit_19 rfl ?_
      exact Rf_iret X rfl dX8_isDigit_23 ⟨_, rfl, h⟩
def wp_X8_nameOf (σ : rfS) (x0 : Int32) (Q : Int32 → rfS → Prop) : Prop :=
  ((x0 = 100 → Q 5 σ) ∧ (¬ x0 = 100 → ((x0 = 102 → Q 4 σ) ∧ (¬ x0 = 102 → ((x0 = 107 → Q 0 σ) ∧ (¬ x0 = 107 → ((x0 = 111 → Q 1 σ) ∧ (¬ x0 = 111 → ((x0 = 118 → Q 3 σ) ∧ (¬ x0 = 118 → ((x0 = 119 → Q 2 σ) ∧ (¬ x0 = 119 → Q (-1) σ))))))))))))
set_option maxRecDepth 20000 in
theorem k_X8_nameOf {σ : rfS} {x0 : Int32} {Q : Int32 → rfS → Prop} (h : wp_X8_nameOf σ x0 Q) : RM ΛM 0 yX8_nameOf cX8_nameOf 1 (some .int) [.int x0] σ (qi Q) := by
  unfold wp_X8_nameOf at h
  refine RM.intro (by decide) (Nat.le_of_ble_eq_true rfl) (fun E X => ?_)
  show Rf ΛM 0 E 1 (qi Q) 0 [(0, .int x0)] [] σ
  refine Rf_iload_n X (j := 0) rfl rfl dX8_nameOf_0 rfl ?_
  refine Rf_tsw X (dt := 108) [(100, 106), (102, 104), (107, 96), (111, 98), (118, 102), (119, 100)] dX8_nameOf_1 rfl (by decide +kernel) (by decide +kernel) (by decide +kernel) ?_
  refine And.intro (fun c1 => ?_) (fun c1 => ?_)
  · have h := h.1 c1
    refine Rf_iconst X (v := 5) rfl dX8_nameOf_106 rfl ?_
    exact Rf_iret X rfl dX8_nameOf_107 ⟨_, rfl, h⟩
  · have h := h.2 c1
    refine And.intro (fun c2 => ?_) (fun c2 => ?_)
    · have h := h.1 c2
      refine Rf_iconst X (v := 4) rfl dX8_nameOf_104 rfl ?_
      exact Rf_iret X rfl dX8_nameOf_105 ⟨_, rfl, h⟩
    · have h := h.2 c2
      refine And.intro (fun c3 => ?_) (fun c3 => ?_)
      · have h := h.1 c3
        refine Rf_iconst X (v := 0) rfl dX8_nameOf_96 rfl ?_
        exact Rf_iret X rfl dX8_nameOf_97 ⟨_, rfl, h⟩
      · have h := h.2 c3
        refine And.intro (fun c4 => ?_) (fun c4 => ?_)
        · have h := h.1 c4
          refine Rf_iconst X (v := 1) rfl dX8_nameOf_98 rfl ?_
          exact Rf_iret X rfl dX8_nameOf_99 ⟨_, rfl, h⟩
        · have h := h.2 c4
          refine And.intro (fun c5 => ?_) (fun c5 => ?_)
          · have h := h.1 c5
            refine Rf_iconst X (v := 3) rfl dX8_nameOf_102 rfl ?_
            exact Rf_iret X rfl dX8_nameOf_103 ⟨_, rfl, h⟩
          · have h := h.2 c5
            refine And.intro (fun c6 => ?_) (fun c6 => ?_)
            · have h := h.1 c6
              refine Rf_iconst X (v := 2) rfl dX8_nameOf_100 rfl ?_
              exact Rf_iret X rfl dX8_nameOf_101 ⟨_, rfl, h⟩
            · have h := h.2 c6
              show Rf ΛM 0 E 1 (qi Q) 108 [(0, .int x0)] [] σ
              refine Rf_iconst X (v := (-1)) (by decide) dX8_nameOf_108 rfl ?_
              exact Rf_iret X rfl dX8_nameOf_109 ⟨_, rfl, h⟩
def wj_X8_isP_52 (κ_X8_isO : rfS → (Int32 → rfS → Prop) → Prop) (Q : Int32 → rfS → Prop) (kb_9 : rfS → Prop) (xs0 : Int32) (σ : rfS) : Prop :=
  ((0 ≤ xs0 → κ_X8_isO (sI σ 0 11 ((gI σ 0 11) + 1)) (fun (r10 : Int32) (σ9 : rfS) => ((¬ r10 = 0 → wp_X8_codes σ9 xs0 (fun (r12 : Int32) (σ11 : rfS) => kb_9 σ11)) ∧ (r10 = 0 → Q 0 σ9)))) ∧ (¬ (0 ≤ xs0) → Q 1 σ))
set_option maxRecDepth 20000 in
theorem sj_X8_isP_52 {d : Nat} {E : rfE} {Q : Int32 → rfS → Prop} (X : rfX ΛM E yX8_isP cX8_isP 2 (some .boolean)) {κ_X8_isO : rfS → (Int32 → rfS → Prop) → Prop} (hκ_X8_isO : ∀ (σ : rfS) (Q : Int32 → rfS → Prop), κ_X8_isO σ Q → RM ΛM d yX8_isO cX8_isO 3 (some .boolean) [.ref 0] σ (qi Q)) (hB : 0 ≤ d) {kb_9 : rfS → Prop} (hkb_9 : ∀ (σ : rfS), kb_9 σ → Rf ΛM (d + 1) E 2 (qi Q) 9 [(0, .ref 0)] [] σ) (xs0 : Int32) (σ : rfS) (h : wj_X8_isP_52 κ_X8_isO Q kb_9 xs0 σ) : Rf ΛM (d + 1) E 2 (qi Q) 52 [(0, .ref 0)] [.int xs0] σ := by
  unfold wj_X8_isP_52 at h
  refine Rf_istore_n X rfl (i := 1) (Nat.le_of_ble_eq_true rfl) (ls2 := [(1, .int xs0), (0, .ref 0)]) rfl dX8_isP_52 rfl ?_
  refine Rf_iload_n X (j := 0) rfl rfl dX8_isP_53 rfl ?_
  refine Rf_if_ge X (tgt := 59) dX8_isP_54 rfl rfl (fun c14 => ?_) (fun c14 => ?_)
  · have h := h.1 c14
    refine Rf_aload_n X (j := 1) rfl rfl dX8_isP_59 rfl ?_
    refine Rf_dup X rfl dX8_isP_60 rfl ?_
    refine Rf_get X kc8 (Nat.le_of_ble_eq_true rfl) rfl (j := 11) (Nat.le_of_ble_eq_true rfl) lf_X8_142 (v := .int (gI σ 0 11)) rfl dX8_isP_61 rfl ?_
    refine Rf_iconst X (v := 1) rfl dX8_isP_64 rfl ?_
    refine Rf_iadd X dX8_isP_65 rfl ?_
    refine Rf_put X kc8 (Nat.le_of_ble_eq_true rfl) rfl (j := 11) (Nat.le_of_ble_eq_true rfl) rfl lf_X8_142 rfl rfl rfl dX8_isP_66 rfl ?_
    refine Rf_aload_n X (j := 1) rfl rfl dX8_isP_69 rfl ?_
    refine Rf_cVi (as := []) (st := []) X mi_X8_isO lm_X8_169 rfl (Nat.le_of_ble_eq_true rfl) rfl (hκ_X8_isO _ _ h) (Nat.le_refl _) rfl rfl (Nat.le_of_ble_eq_true rfl) dX8_isP_70 rfl (fun r10 σ9 h => ?_)
    refine Rf_if_ne X (tgt := 78) dX8_isP_73 rfl rfl (fun c13 => ?_) (fun c13 => ?_)
    · have h := h.1 c13
      refine Rf_aload_n X (j := 1) rfl rfl dX8_isP_78 rfl ?_
      refine Rf_iload_n X (j := 0) rfl rfl dX8_isP_79 rfl ?_
      refine Rf_cVi (as := [.int xs0]) (st := []) X mi_X8_codes lm_X8_156 rfl (Nat.le_of_ble_eq_true rfl) rfl (k_X8_codes h) (by omega) rfl rfl (Nat.le_of_ble_eq_true rfl) dX8_isP_80 rfl (fun r12 σ11 h => ?_)
      refine Rf_pop X rfl dX8_isP_83 rfl ?_
      refine Rf_goto X (tgt := 9) dX8_isP_84 rfl ?_
      refine Rf_sub [1] rfl ?_
      exact hkb_9 σ11 h
    · have h := h.2 c13
      refine Rf_iconst X (v := 0) rfl dX8_isP_76 rfl ?_
      exact Rf_iret X rfl dX8_isP_77 ⟨_, rfl, h⟩
  · have h := h.2 c14
    refine Rf_iconst X (v := 1) rfl dX8_isP_57 rfl ?_
    exact Rf_iret X rfl dX8_isP_58 ⟨_, rfl, h⟩
def wl_X8_isP_9 (κ_X8_isO : rfS → (Int32 → rfS → Prop) → Prop) (Q : Int32 → rfS → Prop) : Nat → rfS → Prop
  | 0, _ => False
  | n + 1, σ => wp_X8_sign σ (fun (r4 : Int32) (σ3 : rfS) => ((¬ r4 = 42 → wp_X8_sign σ3 (fun (r6 : Int32) (σ5 : rfS) => ((¬ r6 = 47 → wp_X8_sign σ5 (fun (r8 : Int32) (σ7 : rfS) => ((¬ r8 = 37 → wj_X8_isP_52 κ_X8_isO Q (wl_X8_isP_9 κ_X8_isO Q n) (-1) σ7) ∧ (r8 = 37 → wj_X8_isP_52 κ_X8_isO Q (wl_X8_isP_9 κ_X8_isO Q n) 15 σ7)))) ∧ (r6 = 47 → wj_X8_isP_52 κ_X8_isO Q (wl_X8_isP_9 κ_X8_isO Q n) 14 σ5)))) ∧ (r4 = 42 → wj_X8_isP_52 κ_X8_isO Q (wl_X8_isP_9 κ_X8_isO Q n) 13 σ3)))
set_option maxRecDepth 20000 in
theorem sl_X8_isP_9 {d : Nat} {E : rfE} {Q : Int32 → rfS → Prop} (X : rfX ΛM E yX8_isP cX8_isP 2 (some .boolean)) {κ_X8_isO : rfS → (Int32 → rfS → Prop) → Prop} (hκ_X8_isO : ∀ (σ : rfS) (Q : Int32 → rfS → Prop), κ_X8_isO σ Q → RM ΛM d yX8_isO cX8_isO 3 (some .boolean) [.ref 0] σ (qi Q)) (hB : 0 ≤ d) : ∀ (n : Nat) (σ : rfS), wl_X8_isP_9 κ_X8_isO Q n σ → Rf ΛM (d + 1) E 2 (qi Q) 9 [(0, .ref 0)] [] σ := by
  intro n
  induction n with
  | zero =>
    intro σ h
    exact False.elim h
  | succ n hkb_9 =>
    intro σ h
    unfold wl_X8_isP_9 at h
    refine Rf_aload_n X (j := 0) rfl rfl dX8_isP_9 rfl ?_
    refine Rf_cVi (as := []) (st := []) X mi_X8_sign lm_X8_145 rfl (Nat.le_of_ble_eq_true rfl) rfl (k_X8_sign h) (by omega) rfl rfl (Nat.le_of_ble_eq_true rfl) dX8_isP_10 rfl (fun r4 σ3 h => ?_)
    refine Rf_bipush X (v := 42) rfl dX8_isP_13 rfl ?_
    refine Rf_icmp_ne X (tgt := 23) dX8_isP_15 rfl rfl (fun c17 => ?_) (fun c17 => ?_)
    · have h := h.1 c17
      refine Rf_aload_n X (j := 0) rfl rfl dX8_isP_23 rfl ?_
      refine Rf_cVi (as := []) (st := []) X mi_X8_sign lm_X8_145 rfl (Nat.le_of_ble_eq_true rfl) rfl (k_X8_sign h) (by omega) rfl rfl (Nat.le_of_ble_eq_true rfl) dX8_isP_24 rfl (fun r6 σ5 h => ?_)
      refine Rf_bipush X (v := 47) rfl dX8_isP_27 rfl ?_
      refine Rf_icmp_ne X (tgt := 37) dX8_isP_29 rfl rfl (fun c16 => ?_) (fun c16 => ?_)
      · have h := h.1 c16
        refine Rf_aload_n X (j := 0) rfl rfl dX8_isP_37 rfl ?_
        refine Rf_cVi (as := []) (st := []) X mi_X8_sign lm_X8_145 rfl (Nat.le_of_ble_eq_true rfl) rfl (k_X8_sign h) (by omega) rfl rfl (Nat.le_of_ble_eq_true rfl) dX8_isP_38 rfl (fun r8 σ7 h => ?_)
        refine Rf_bipush X (v := 37) rfl dX8_isP_41 rfl ?_
        refine Rf_icmp_ne X (tgt := 51) dX8_isP_43 rfl rfl (fun c15 => ?_) (fun c15 => ?_)
        · have h := h.1 c15
          refine Rf_iconst X (v := (-1)) (by decide) dX8_isP_51 rfl ?_
          exact sj_X8_isP_52 X hκ_X8_isO hB hkb_9 _ _ h
        · have h := h.2 c15
          refine Rf_bipush X (v := 15) rfl dX8_isP_46 rfl ?_
          refine Rf_goto X (tgt := 52) dX8_isP_48 rfl ?_
          exact sj_X8_isP_52 X hκ_X8_isO hB hkb_9 _ _ h
      · have h := h.2 c16
        refine Rf_bipush X (v := 14) rfl dX8_isP_32 rfl ?_
        refine Rf_goto X (tgt := 52) dX8_isP_34 rfl ?_
        exact sj_X8_isP_52 X hκ_X8_isO hB hkb_9 _ _ h
    · have h := h.2 c17
      refine Rf_bipush X (v := 13) rfl dX8_isP_18 rfl ?_
      refine Rf_goto X (tgt := 52) dX8_isP_20 rfl ?_
      exact sj_X8_isP_52 X hκ_X8_isO hB hkb_9 _ _ h
def wp_X8_isP (κ_X8_isO : rfS → (Int32 → rfS → Prop) → Prop) (σ : rfS) (Q : Int32 → rfS → Prop) : Prop :=
  κ_X8_isO σ (fun (r2 : Int32) (σ1 : rfS) => ((¬ r2 = 0 → (∃ n18, wl_X8_isP_9 κ_X8_isO Q n18 σ1)) ∧ (r2 = 0 → Q 0 σ1)))
set_option maxRecDepth 20000 in
theorem k_X8_isP {d : Nat} {κ_X8_isO : rfS → (Int32 → rfS → Prop) → Prop} (hκ_X8_isO : ∀ (σ : rfS) (Q : Int32 → rfS → Prop), κ_X8_isO σ Q → RM ΛM d yX8_isO cX8_isO 3 (some .boolean) [.ref 0] σ (qi Q)) (hB : 0 ≤ d) {σ : rfS} {Q : Int32 → rfS → Prop} (h : wp_X8_isP κ_X8_isO σ Q) : RM ΛM (d + 1) yX8_isP cX8_isP 2 (some .boolean) [.ref 0] σ (qi Q) := by
  unfold wp_X8_isP at h
  refine RM.intro (by decide) (Nat.le_of_ble_eq_true rfl) (fun E X => ?_)
  show Rf ΛM (d + 1) E 2 (qi Q) 0 [(0, .ref 0)] [] σ
  refine Rf_aload_n X (j := 0) rfl rfl dX8_isP_0 rfl ?_
  refine Rf_cVi (as := []) (st := []) X mi_X8_isO lm_X8_169 rfl (Nat.le_of_ble_eq_true rfl) rfl (hκ_X8_isO _ _ h) (Nat.le_refl _) rfl rfl (Nat.le_of_ble_eq_true rfl) dX8_isP_1 rfl (fun r2 σ1 h => ?_)
  refine Rf_if_ne X (tgt := 9) dX8_isP_4 rfl rfl (fun c19 => ?_) (fun c19 => ?_)
  · have h := h.1 c19
    obtain ⟨n18, h⟩ := h
    exact sl_X8_isP_9 X hκ_X8_isO hB n18 _ h
  · have h := h.2 c19
    refine Rf_iconst X (v := 0) rfl dX8_isP_7 rfl ?_
    exact Rf_iret X rfl dX8_isP_8 ⟨_, rfl, h⟩
def wj_X8_isS_38 (κ_X8_isP : rfS → (Int32 → rfS → Prop) → Prop) (Q : Int32 → rfS → Prop) (kb_9 : rfS → Prop) (xs0 : Int32) (σ : rfS) : Prop :=
  ((0 ≤ xs0 → κ_X8_isP (sI σ 0 11 ((gI σ 0 11) + 1)) (fun (r8 : Int32) (σ7 : rfS) => ((¬ r8 = 0 → wp_X8_codes σ7 xs0 (fun (r10 : Int32) (σ9 : rfS) => kb_9 σ9)) ∧ (r8 = 0 → Q 0 σ7)))) ∧ (¬ (0 ≤ xs0) → Q 1 σ))
set_option maxRecDepth 20000 in
theorem sj_X8_isS_38 {d : Nat} {E : rfE} {Q : Int32 → rfS → Prop} (X : rfX ΛM E yX8_isS cX8_isS 2 (some .boolean)) {κ_X8_isP : rfS → (Int32 → rfS → Prop) → Prop} (hκ_X8_isP : ∀ (σ : rfS) (Q : Int32 → rfS → Prop), κ_X8_isP σ Q → RM ΛM d yX8_isP cX8_isP 2 (some .boolean) [.ref 0] σ (qi Q)) (hB : 0 ≤ d) {kb_9 : rfS → Prop} (hkb_9 : ∀ (σ : rfS), kb_9 σ → Rf ΛM (d + 1) E 2 (qi Q) 9 [(0, .ref 0)] [] σ) (xs0 : Int32) (σ : rfS) (h : wj_X8_isS_38 κ_X8_isP Q kb_9 xs0 σ) : Rf ΛM (d + 1) E 2 (qi Q) 38 [(0, .ref 0)] [.int xs0] σ := by
  unfold wj_X8_isS_38 at h
  refine Rf_istore_n X rfl (i := 1) (Nat.le_of_ble_eq_true rfl) (ls2 := [(1, .int xs0), (0, .ref 0)]) rfl dX8_isS_38 rfl ?_
  refine Rf_iload_n X (j := 0) rfl rfl dX8_isS_39 rfl ?_
  refine Rf_if_ge X (tgt := 45) dX8_isS_40 rfl rfl (fun c12 => ?_) (fun c12 => ?_)
  · have h := h.1 c12
    refine Rf_aload_n X (j := 1) rfl rfl dX8_isS_45 rfl ?_
    refine Rf_dup X rfl dX8_isS_46 rfl ?_
    refine Rf_get X kc8 (Nat.le_of_ble_eq_true rfl) rfl (j := 11) (Nat.le_of_ble_eq_true rfl) lf_X8_142 (v := .int (gI σ 0 11)) rfl dX8_isS_47 rfl ?_
    refine Rf_iconst X (v := 1) rfl dX8_isS_50 rfl ?_
    refine Rf_iadd X dX8_isS_51 rfl ?_
    refine Rf_put X kc8 (Nat.le_of_ble_eq_true rfl) rfl (j := 11) (Nat.le_of_ble_eq_true rfl) rfl lf_X8_142 rfl rfl rfl dX8_isS_52 rfl ?_
    refine Rf_aload_n X (j := 1) rfl rfl dX8_isS_55 rfl ?_
    refine Rf_cVi (as := []) (st := []) X mi_X8_isP lm_X8_175 rfl (Nat.le_of_ble_eq_true rfl) rfl (hκ_X8_isP _ _ h) (Nat.le_refl _) rfl rfl (Nat.le_of_ble_eq_true rfl) dX8_isS_56 rfl (fun r8 σ7 h => ?_)
    refine Rf_if_ne X (tgt := 64) dX8_isS_59 rfl rfl (fun c11 => ?_) (fun c11 => ?_)
    · have h := h.1 c11
      refine Rf_aload_n X (j := 1) rfl rfl dX8_isS_64 rfl ?_
      refine Rf_iload_n X (j := 0) rfl rfl dX8_isS_65 rfl ?_
      refine Rf_cVi (as := [.int xs0]) (st := []) X mi_X8_codes lm_X8_156 rfl (Nat.le_of_ble_eq_true rfl) rfl (k_X8_codes h) (by omega) rfl rfl (Nat.le_of_ble_eq_true rfl) dX8_isS_66 rfl (fun r10 σ9 h => ?_)
      refine Rf_pop X rfl dX8_isS_69 rfl ?_
      refine Rf_goto X (tgt := 9) dX8_isS_70 rfl ?_
      refine Rf_sub [1] rfl ?_
      exact hkb_9 σ9 h
    · have h := h.2 c11
      refine Rf_iconst X (v := 0) rfl dX8_isS_62 rfl ?_
      exact Rf_iret X rfl dX8_isS_63 ⟨_, rfl, h⟩
  · have h := h.2 c12
    refine Rf_iconst X (v := 1) rfl dX8_isS_43 rfl ?_
    exact Rf_iret X rfl dX8_isS_44 ⟨_, rfl, h⟩
def wl_X8_isS_9 (κ_X8_isP : rfS → (Int32 → rfS → Prop) → Prop) (Q : Int32 → rfS → Prop) : Nat → rfS → Prop
  | 0, _ => False
  | n + 1, σ => wp_X8_sign σ (fun (r4 : Int32) (σ3 : rfS) => ((¬ r4 = 43 → wp_X8_sign σ3 (fun (r6 : Int32) (σ5 : rfS) => ((¬ r6 = 45 → wj_X8_isS_38 κ_X8_isP Q (wl_X8_isS_9 κ_X8_isP Q n) (-1) σ5) ∧ (r6 = 45 → wj_X8_isS_38 κ_X8_isP Q (wl_X8_isS_9 κ_X8_isP Q n) 12 σ5)))) ∧ (r4 = 43 → wj_X8_isS_38 κ_X8_isP Q (wl_X8_isS_9 κ_X8_isP Q n) 11 σ3)))
set_option maxRecDepth 20000 in
theorem sl_X8_isS_9 {d : Nat} {E : rfE} {Q : Int32 → rfS → Prop} (X : rfX ΛM E yX8_isS cX8_isS 2 (some .boolean)) {κ_X8_isP : rfS → (Int32 → rfS → Prop) → Prop} (hκ_X8_isP : ∀ (σ : rfS) (Q : Int32 → rfS → Prop), κ_X8_isP σ Q → RM ΛM d yX8_isP cX8_isP 2 (some .boolean) [.ref 0] σ (qi Q)) (hB : 0 ≤ d) : ∀ (n : Nat) (σ : rfS), wl_X8_isS_9 κ_X8_isP Q n σ → Rf ΛM (d + 1) E 2 (qi Q) 9 [(0, .ref 0)] [] σ := by
  intro n
  induction n with
  | zero =>
    intro σ h
    exact False.elim h
  | succ n hkb_9 =>
    intro σ h
    unfold wl_X8_isS_9 at h
    refine Rf_aload_n X (j := 0) rfl rfl dX8_isS_9 rfl ?_
    refine Rf_cVi (as := []) (st := []) X mi_X8_sign lm_X8_145 rfl (Nat.le_of_ble_eq_true rfl) rfl (k_X8_sign h) (by omega) rfl rfl (Nat.le_of_ble_eq_true rfl) dX8_isS_10 rfl (fun r4 σ3 h => ?_)
    refine Rf_bipush X (v := 43) rfl dX8_isS_13 rfl ?_
    refine Rf_icmp_ne X (tgt := 23) dX8_isS_15 rfl rfl (fun c14 => ?_) (fun c14 => ?_)
    · have h := h.1 c14
      refine Rf_aload_n X (j := 0) rfl rfl dX8_isS_23 rfl ?_
      refine Rf_cVi (as := []) (st := []) X mi_X8_sign lm_X8_145 rfl (Nat.le_of_ble_eq_true rfl) rfl (k_X8_sign h) (by omega) rfl rfl (Nat.le_of_ble_eq_true rfl) dX8_isS_24 rfl (fun r6 σ5 h => ?_)
      refine Rf_bipush X (v := 45) rfl dX8_isS_27 rfl ?_
      refine Rf_icmp_ne X (tgt := 37) dX8_isS_29 rfl rfl (fun c13 => ?_) (fun c13 => ?_)
      · have h := h.1 c13
        refine Rf_iconst X (v := (-1)) (by decide) dX8_isS_37 rfl ?_
        exact sj_X8_isS_38 X hκ_X8_isP hB hkb_9 _ _ h
      · have h := h.2 c13
        refine Rf_bipush X (v := 12) rfl dX8_isS_32 rfl ?_
        refine Rf_goto X (tgt := 38) dX8_isS_34 rfl ?_
        exact sj_X8_isS_38 X hκ_X8_isP hB hkb_9 _ _ h
    · have h := h.2 c14
      refine Rf_bipush X (v := 11) rfl dX8_isS_18 rfl ?_
      refine Rf_goto X (tgt := 38) dX8_isS_20 rfl ?_
      exact sj_X8_isS_38 X hκ_X8_isP hB hkb_9 _ _ h
def wp_X8_isS (κ_X8_isP : rfS → (Int32 → rfS → Prop) → Prop) (σ : rfS) (Q : Int32 → rfS → Prop) : Prop :=
  κ_X8_isP σ (fun (r2 : Int32) (σ1 : rfS) => ((¬ r2 = 0 → (∃ n15, wl_X8_isS_9 κ_X8_isP Q n15 σ1)) ∧ (r2 = 0 → Q 0 σ1)))
set_option maxRecDepth 20000 in
theorem k_X8_isS {d : Nat} {κ_X8_isP : rfS → (Int32 → rfS → Prop) → Prop} (hκ_X8_isP : ∀ (σ : rfS) (Q : Int32 → rfS → Prop), κ_X8_isP σ Q → RM ΛM d yX8_isP cX8_isP 2 (some .boolean) [.ref 0] σ (qi Q)) (hB : 0 ≤ d) {σ : rfS} {Q : Int32 → rfS → Prop} (h : wp_X8_isS κ_X8_isP σ Q) : RM ΛM (d + 1) yX8_isS cX8_isS 2 (some .boolean) [.ref 0] σ (qi Q) := by
  unfold wp_X8_isS at h
  refine RM.intro (by decide) (Nat.le_of_ble_eq_true rfl) (fun E X => ?_)
  show Rf ΛM (d + 1) E 2 (qi Q) 0 [(0, .ref 0)] [] σ
  refine Rf_aload_n X (j := 0) rfl rfl dX8_isS_0 rfl ?_
  refine Rf_cVi (as := []) (st := []) X mi_X8_isP lm_X8_175 rfl (Nat.le_of_ble_eq_true rfl) rfl (hκ_X8_isP _ _ h) (Nat.le_refl _) rfl rfl (Nat.le_of_ble_eq_true rfl) dX8_isS_1 rfl (fun r2 σ1 h => ?_)
  refine Rf_if_ne X (tgt := 9) dX8_isS_4 rfl rfl (fun c16 => ?_) (fun c16 => ?_)
  · have h := h.1 c16
    obtain ⟨n15, h⟩ := h
    exact sl_X8_isS_9 X hκ_X8_isP hB n15 _ h
  · have h := h.2 c16
    refine Rf_iconst X (v := 0) rfl dX8_isS_7 rfl ?_
    exact Rf_iret X rfl dX8_isS_8 ⟨_, rfl, h⟩
def wj_X8_isB_52 (κ_X8_isS : rfS → (Int32 → rfS → Prop) → Prop) (Q : Int32 → rfS → Prop) (xs0 : Int32) (σ : rfS) : Prop :=
  ((0 ≤ xs0 → κ_X8_isS (sI σ 0 11 ((gI σ 0 11) + 1)) (fun (r10 : Int32) (σ9 : rfS) => ((r10 = 0 → Q 0 σ9) ∧ (¬ r10 = 0 → wp_X8_codes σ9 xs0 (fun (r12 : Int32) (σ11 : rfS) => ((r12 = 0 → Q 0 σ11) ∧ (¬ r12 = 0 → Q 1 σ11))))))) ∧ (¬ (0 ≤ xs0) → Q 1 σ))
set_option maxRecDepth 20000 in
theorem sj_X8_isB_52 {d : Nat} {E : rfE} {Q : Int32 → rfS → Prop} (X : rfX ΛM E yX8_isB cX8_isB 2 (some .boolean)) {κ_X8_isS : rfS → (Int32 → rfS → Prop) → Prop} (hκ_X8_isS : ∀ (σ : rfS) (Q : Int32 → rfS → Prop), κ_X8_isS σ Q → RM ΛM d yX8_isS cX8_isS 2 (some .boolean) [.ref 0] σ (qi Q)) (hB : 0 ≤ d) (xs0 : Int32) (σ : rfS) (h : wj_X8_isB_52 κ_X8_isS Q xs0 σ) : Rf ΛM (d + 1) E 2 (qi Q) 52 [(0, .ref 0)] [.int xs0] σ := by
  unfold wj_X8_isB_52 at h
  refine Rf_istore_n X rfl (i := 1) (Nat.le_of_ble_eq_true rfl) (ls2 := [(1, .int xs0), (0, .ref 0)]) rfl dX8_isB_52 rfl ?_
  refine Rf_iload_n X (j := 0) rfl rfl dX8_isB_53 rfl ?_
  refine Rf_if_ge X (tgt := 59) dX8_isB_54 rfl rfl (fun c15 => ?_) (fun c15 => ?_)
  · have h := h.1 c15
    refine Rf_aload_n X (j := 1) rfl rfl dX8_isB_59 rfl ?_
    refine Rf_dup X rfl dX8_isB_60 rfl ?_
    refine Rf_get X kc8 (Nat.le_of_ble_eq_true rfl) rfl (j := 11) (Nat.le_of_ble_eq_true rfl) lf_X8_142 (v := .int (gI σ 0 11)) rfl dX8_isB_61 rfl ?_
    refine Rf_iconst X (v := 1) rfl dX8_isB_64 rfl ?_
    refine Rf_iadd X dX8_isB_65 rfl ?_
    refine Rf_put X kc8 (Nat.le_of_ble_eq_true rfl) rfl (j := 11) (Nat.le_of_ble_eq_true rfl) rfl lf_X8_142 rfl rfl rfl dX8_isB_66 rfl ?_
    refine Rf_aload_n X (j := 1) rfl rfl dX8_isB_69 rfl ?_
    refine Rf_cVi (as := []) (st := []) X mi_X8_isS lm_X8_178 rfl (Nat.le_of_ble_eq_true rfl) rfl (hκ_X8_isS _ _ h) (Nat.le_refl _) rfl rfl (Nat.le_of_ble_eq_true rfl) dX8_isB_70 rfl (fun r10 σ9 h => ?_)
    refine Rf_if_eq X (tgt := 88) dX8_isB_73 rfl rfl (fun c14 => ?_) (fun c14 => ?_)
    · have h := h.1 c14
      refine Rf_iconst X (v := 0) rfl dX8_isB_88 rfl ?_
      exact Rf_iret X rfl dX8_isB_89 ⟨_, rfl, h⟩
    · have h := h.2 c14
      refine Rf_aload_n X (j := 1) rfl rfl dX8_isB_76 rfl ?_
      refine Rf_iload_n X (j := 0) rfl rfl dX8_isB_77 rfl ?_
      refine Rf_cVi (as := [.int xs0]) (st := []) X mi_X8_codes lm_X8_156 rfl (Nat.le_of_ble_eq_true rfl) rfl (k_X8_codes h) (by omega) rfl rfl (Nat.le_of_ble_eq_true rfl) dX8_isB_78 rfl (fun r12 σ11 h => ?_)
      refine Rf_if_eq X (tgt := 88) dX8_isB_81 rfl rfl (fun c13 => ?_) (fun c13 => ?_)
      · have h := h.1 c13
        refine Rf_iconst X (v := 0) rfl dX8_isB_88 rfl ?_
        exact Rf_iret X rfl dX8_isB_89 ⟨_, rfl, h⟩
      · have h := h.2 c13
        refine Rf_iconst X (v := 1) rfl dX8_isB_84 rfl ?_
        refine Rf_goto X (tgt := 89) dX8_isB_85 rfl ?_
        exact Rf_iret X rfl dX8_isB_89 ⟨_, rfl, h⟩
  · have h := h.2 c15
    refine Rf_iconst X (v := 1) rfl dX8_isB_57 rfl ?_
    exact Rf_iret X rfl dX8_isB_58 ⟨_, rfl, h⟩
def wp_X8_isB (κ_X8_isS : rfS → (Int32 → rfS → Prop) → Prop) (σ : rfS) (Q : Int32 → rfS → Prop) : Prop :=
  κ_X8_isS σ (fun (r2 : Int32) (σ1 : rfS) => ((¬ r2 = 0 → wp_X8_sign σ1 (fun (r4 : Int32) (σ3 : rfS) => ((¬ r4 = 60 → wp_X8_sign σ3 (fun (r6 : Int32) (σ5 : rfS) => ((¬ r6 = 61 → wp_X8_sign σ5 (fun (r8 : Int32) (σ7 : rfS) => ((¬ r8 = 62 → wj_X8_isB_52 κ_X8_isS Q (-1) σ7) ∧ (r8 = 62 → wj_X8_isB_52 κ_X8_isS Q 10 σ7)))) ∧ (r6 = 61 → wj_X8_isB_52 κ_X8_isS Q 9 σ5)))) ∧ (r4 = 60 → wj_X8_isB_52 κ_X8_isS Q 8 σ3)))) ∧ (r2 = 0 → Q 0 σ1)))
set_option maxRecDepth 20000 in
theorem k_X8_isB {d : Nat} {κ_X8_isS : rfS → (Int32 → rfS → Prop) → Prop} (hκ_X8_isS : ∀ (σ : rfS) (Q : Int32 → rfS → Prop), κ_X8_isS σ Q → RM ΛM d yX8_isS cX8_isS 2 (some .boolean) [.ref 0] σ (qi Q)) (hB : 0 ≤ d) {σ : rfS} {Q : Int32 → rfS → Prop} (h : wp_X8_isB κ_X8_isS σ Q) : RM ΛM (d + 1) yX8_isB cX8_isB 2 (some .boolean) [.ref 0] σ (qi Q) := by
  unfold wp_X8_isB at h
  refine RM.intro (by decide) (Nat.le_of_ble_eq_true rfl) (fun E X => ?_)
  show Rf ΛM (d + 1) E 2 (qi Q) 0 [(0, .ref 0)] [] σ
  refine Rf_aload_n X (j := 0) rfl rfl dX8_isB_0 rfl ?_
  refine Rf_cVi (as := []) (st := []) X mi_X8_isS lm_X8_178 rfl (Nat.le_of_ble_eq_true rfl) rfl (hκ_X8_isS _ _ h) (Nat.le_refl _) rfl rfl (Nat.le_of_ble_eq_true rfl) dX8_isB_1 rfl (fun r2 σ1 h => ?_)
  refine Rf_if_ne X (tgt := 9) dX8_isB_4 rfl rfl (fun c19 => ?_) (fun c19 => ?_)
  · have h := h.1 c19
    refine Rf_aload_n X (j := 0) rfl rfl dX8_isB_9 rfl ?_
    refine Rf_cVi (as := []) (st := []) X mi_X8_sign lm_X8_145 rfl (Nat.le_of_ble_eq_true rfl) rfl (k_X8_sign h) (by omega) rfl rfl (Nat.le_of_ble_eq_true rfl) dX8_isB_10 rfl (fun r4 σ3 h => ?_)
    refine Rf_bipush X (v := 60) rfl dX8_isB_13 rfl ?_
    refine Rf_icmp_ne X (tgt := 23) dX8_isB_15 rfl rfl (fun c18 => ?_) (fun c18 => ?_)
    · have h := h.1 c18
      refine Rf_aload_n X (j := 0) rfl rfl dX8_isB_23 rfl ?_
      refine Rf_cVi (as := []) (st := []) X mi_X8_sign lm_X8_145 rfl (Nat.le_of_ble_eq_true rfl) rfl (k_X8_sign h) (by omega) rfl rfl (Nat.le_of_ble_eq_true rfl) dX8_isB_24 rfl (fun r6 σ5 h => ?_)
      refine Rf_bipush X (v := 61) rfl dX8_isB_27 rfl ?_
      refine Rf_icmp_ne X (tgt := 37) dX8_isB_29 rfl rfl (fun c17 => ?_) (fun c17 => ?_)
      · have h := h.1 c17
        refine Rf_aload_n X (j := 0) rfl rfl dX8_isB_37 rfl ?_
        refine Rf_cVi (as := []) (st := []) X mi_X8_sign lm_X8_145 rfl (Nat.le_of_ble_eq_true rfl) rfl (k_X8_sign h) (by omega) rfl rfl (Nat.le_of_ble_eq_true rfl) dX8_isB_38 rfl (fun r8 σ7 h => ?_)
        refine Rf_bipush X (v := 62) rfl dX8_isB_41 rfl ?_
        refine Rf_icmp_ne X (tgt := 51) dX8_isB_43 rfl rfl (fun c16 => ?_) (fun c16 => ?_)
        · have h := h.1 c16
          refine Rf_iconst X (v := (-1)) (by decide) dX8_isB_51 rfl ?_
          exact sj_X8_isB_52 X hκ_X8_isS hB _ _ h
        · have h := h.2 c16
          refine Rf_bipush X (v := 10) rfl dX8_isB_46 rfl ?_
          refine Rf_goto X (tgt := 52) dX8_isB_48 rfl ?_
          exact sj_X8_isB_52 X hκ_X8_isS hB _ _ h
      · have h := h.2 c17
        refine Rf_bipush X (v := 9) rfl dX8_isB_32 rfl ?_
        refine Rf_goto X (tgt := 52) dX8_isB_34 rfl ?_
        exact sj_X8_isB_52 X hκ_X8_isS hB _ _ h
    · have h := h.2 c18
      refine Rf_bipush X (v := 8) rfl dX8_isB_18 rfl ?_
      refine Rf_goto X (tgt := 52) dX8_isB_20 rfl ?_
      exact sj_X8_isB_52 X hκ_X8_isS hB _ _ h
  · have h := h.2 c19
    refine Rf_iconst X (v := 0) rfl dX8_isB_7 rfl ?_
    exact Rf_iret X rfl dX8_isB_8 ⟨_, rfl, h⟩
def wl_X8_isA_9 (κ_X8_isB : rfS → (Int32 → rfS → Prop) → Prop) (Q : Int32 → rfS → Prop) : Nat → rfS → Prop
  | 0, _ => False
  | n + 1, σ => wp_X8_is σ 38 (fun (r4 : Int32) (σ3 : rfS) => ((r4 = 0 → Q 1 σ3) ∧ (¬ r4 = 0 → κ_X8_isB σ3 (fun (r6 : Int32) (σ5 : rfS) => ((¬ r6 = 0 → wp_X8_codes σ5 7 (fun (r8 : Int32) (σ7 : rfS) => wl_X8_isA_9 κ_X8_isB Q n σ7)) ∧ (r6 = 0 → Q 0 σ5))))))
set_option maxRecDepth 20000 in
theorem sl_X8_isA_9 {d : Nat} {E : rfE} {Q : Int32 → rfS → Prop} (X : rfX ΛM E yX8_isA cX8_isA 1 (some .boolean)) {κ_X8_isB : rfS → (Int32 → rfS → Prop) → Prop} (hκ_X8_isB : ∀ (σ : rfS) (Q : Int32 → rfS → Prop), κ_X8_isB σ Q → RM ΛM d yX8_isB cX8_isB 2 (some .boolean) [.ref 0] σ (qi Q)) (hB : 1 ≤ d) : ∀ (n : Nat) (σ : rfS), wl_X8_isA_9 κ_X8_isB Q n σ → Rf ΛM (d + 1) E 1 (qi Q) 9 [(0, .ref 0)] [] σ := by
  intro n
  induction n with
  | zero =>
    intro σ h
    exact False.elim h
  | succ n hkb_9 =>
    intro σ h
    unfold wl_X8_isA_9 at h
    refine Rf_aload_n X (j := 0) rfl rfl dX8_isA_9 rfl ?_
    refine Rf_bipush X (v := 38) rfl dX8_isA_10 rfl ?_
    refine Rf_cVi (as := [.int 38]) (st := []) X mi_X8_is lm_X8_166 rfl (Nat.le_of_ble_eq_true rfl) rfl (k_X8_is h) (by omega) rfl rfl (Nat.le_of_ble_eq_true rfl) dX8_isA_12 rfl (fun r4 σ3 h => ?_)
    refine Rf_if_eq X (tgt := 37) dX8_isA_15 rfl rfl (fun c10 => ?_) (fun c10 => ?_)
    · have h := h.1 c10
      refine Rf_iconst X (v := 1) rfl dX8_isA_37 rfl ?_
      exact Rf_iret X rfl dX8_isA_38 ⟨_, rfl, h⟩
    · have h := h.2 c10
      refine Rf_aload_n X (j := 0) rfl rfl dX8_isA_18 rfl ?_
      refine Rf_cVi (as := []) (st := []) X mi_X8_isB lm_X8_181 rfl (Nat.le_of_ble_eq_true rfl) rfl (hκ_X8_isB _ _ h) (Nat.le_refl _) rfl rfl (Nat.le_of_ble_eq_true rfl) dX8_isA_19 rfl (fun r6 σ5 h => ?_)
      refine Rf_if_ne X (tgt := 27) dX8_isA_22 rfl rfl (fun c9 => ?_) (fun c9 => ?_)
      · have h := h.1 c9
        refine Rf_aload_n X (j := 0) rfl rfl dX8_isA_27 rfl ?_
        refine Rf_bipush X (v := 7) rfl dX8_isA_28 rfl ?_
        refine Rf_cVi (as := [.int 7]) (st := []) X mi_X8_codes lm_X8_156 rfl (Nat.le_of_ble_eq_true rfl) rfl (k_X8_codes h) (by omega) rfl rfl (Nat.le_of_ble_eq_true rfl) dX8_isA_30 rfl (fun r8 σ7 h => ?_)
        refine Rf_pop X rfl dX8_isA_33 rfl ?_
        refine Rf_goto X (tgt := 9) dX8_isA_34 rfl ?_
        exact hkb_9 σ7 h
      · have h := h.2 c9
        refine Rf_iconst X (v := 0) rfl dX8_isA_25 rfl ?_
        exact Rf_iret X rfl dX8_isA_26 ⟨_, rfl, h⟩
def wp_X8_isA (κ_X8_isB : rfS → (Int32 → rfS → Prop) → Prop) (σ : rfS) (Q : Int32 → rfS → Prop) : Prop :=
  κ_X8_isB σ (fun (r2 : Int32) (σ1 : rfS) => ((¬ r2 = 0 → (∃ n11, wl_X8_isA_9 κ_X8_isB Q n11 σ1)) ∧ (r2 = 0 → Q 0 σ1)))
set_option maxRecDepth 20000 in
theorem k_X8_isA {d : Nat} {κ_X8_isB : rfS → (Int32 → rfS → Prop) → Prop} (hκ_X8_isB : ∀ (σ : rfS) (Q : Int32 → rfS → Prop), κ_X8_isB σ Q → RM ΛM d yX8_isB cX8_isB 2 (some .boolean) [.ref 0] σ (qi Q)) (hB : 1 ≤ d) {σ : rfS} {Q : Int32 → rfS → Prop} (h : wp_X8_isA κ_X8_isB σ Q) : RM ΛM (d + 1) yX8_isA cX8_isA 1 (some .boolean) [.ref 0] σ (qi Q) := by
  unfold wp_X8_isA at h
  refine RM.intro (by decide) (Nat.le_of_ble_eq_true rfl) (fun E X => ?_)
  show Rf ΛM (d + 1) E 1 (qi Q) 0 [(0, .ref 0)] [] σ
  refine Rf_aload_n X (j := 0) rfl rfl dX8_isA_0 rfl ?_
  refine Rf_cVi (as := []) (st := []) X mi_X8_isB lm_X8_181 rfl (Nat.le_of_ble_eq_true rfl) rfl (hκ_X8_isB _ _ h) (Nat.le_refl _) rfl rfl (Nat.le_of_ble_eq_true rfl) dX8_isA_1 rfl (fun r2 σ1 h => ?_)
  refine Rf_if_ne X (tgt := 9) dX8_isA_4 rfl rfl (fun c12 => ?_) (fun c12 => ?_)
  · have h := h.1 c12
    obtain ⟨n11, h⟩ := h
    exact sl_X8_isA_9 X hκ_X8_isB hB n11 _ h
  · have h := h.2 c12
    refine Rf_iconst X (v := 0) rfl dX8_isA_7 rfl ?_
    exact Rf_iret X rfl dX8_isA_8 ⟨_, rfl, h⟩
def wl_X8_isE_9 (κ_X8_isA : rfS → (Int32 → rfS → Prop) → Prop) (Q : Int32 → rfS → Prop) : Nat → rfS → Prop
  | 0, _ => False
  | n + 1, σ => wp_X8_is σ 124 (fun (r4 : Int32) (σ3 : rfS) => ((r4 = 0 → Q 1 σ3) ∧ (¬ r4 = 0 → κ_X8_isA σ3 (fun (r6 : Int32) (σ5 : rfS) => ((¬ r6 = 0 → wp_X8_codes σ5 6 (fun (r8 : Int32) (σ7 : rfS) => wl_X8_isE_9 κ_X8_isA Q n σ7)) ∧ (r6 = 0 → Q 0 σ5))))))
set_option maxRecDepth 20000 in
theorem sl_X8_isE_9 {d : Nat} {E : rfE} {Q : Int32 → rfS → Prop} (X : rfX ΛM E yX8_isE cX8_isE 1 (some .boolean)) {κ_X8_isA : rfS → (Int32 → rfS → Prop) → Prop} (hκ_X8_isA : ∀ (σ : rfS) (Q : Int32 → rfS → Prop), κ_X8_isA σ Q → RM ΛM d yX8_isA cX8_isA 1 (some .boolean) [.ref 0] σ (qi Q)) (hB : 1 ≤ d) : ∀ (n : Nat) (σ : rfS), wl_X8_isE_9 κ_X8_isA Q n σ → Rf ΛM (d + 1) E 1 (qi Q) 9 [(0, .ref 0)] [] σ := by
  intro n
  induction n with
  | zero =>
    intro σ h
    exact False.elim h
  | succ n hkb_9 =>
    intro σ h
    unfold wl_X8_isE_9 at h
    refine Rf_aload_n X (j := 0) rfl rfl dX8_isE_9 rfl ?_
    refine Rf_bipush X (v := 124) rfl dX8_isE_10 rfl ?_
    refine Rf_cVi (as := [.int 124]) (st := []) X mi_X8_is lm_X8_166 rfl (Nat.le_of_ble_eq_true rfl) rfl (k_X8_is h) (by omega) rfl rfl (Nat.le_of_ble_eq_true rfl) dX8_isE_12 rfl (fun r4 σ3 h => ?_)
    refine Rf_if_eq X (tgt := 37) dX8_isE_15 rfl rfl (fun c10 => ?_) (fun c10 => ?_)
    · have h := h.1 c10
      refine Rf_iconst X (v := 1) rfl dX8_isE_37 rfl ?_
      exact Rf_iret X rfl dX8_isE_38 ⟨_, rfl, h⟩
    · have h := h.2 c10
      refine Rf_aload_n X (j := 0) rfl rfl dX8_isE_18 rfl ?_
      refine Rf_cVi (as := []) (st := []) X mi_X8_isA lm_X8_184 rfl (Nat.le_of_ble_eq_true rfl) rfl (hκ_X8_isA _ _ h) (Nat.le_refl _) rfl rfl (Nat.le_of_ble_eq_true rfl) dX8_isE_19 rfl (fun r6 σ5 h => ?_)
      refine Rf_if_ne X (tgt := 27) dX8_isE_22 rfl rfl (fun c9 => ?_) (fun c9 => ?_)
      · have h := h.1 c9
        refine Rf_aload_n X (j := 0) rfl rfl dX8_isE_27 rfl ?_
        refine Rf_bipush X (v := 6) rfl dX8_isE_28 rfl ?_
        refine Rf_cVi (as := [.int 6]) (st := []) X mi_X8_codes lm_X8_156 rfl (Nat.le_of_ble_eq_true rfl) rfl (k_X8_codes h) (by omega) rfl rfl (Nat.le_of_ble_eq_true rfl) dX8_isE_30 rfl (fun r8 σ7 h => ?_)
        refine Rf_pop X rfl dX8_isE_33 rfl ?_
        refine Rf_goto X (tgt := 9) dX8_isE_34 rfl ?_
        exact hkb_9 σ7 h
      · have h := h.2 c9
        refine Rf_iconst X (v := 0) rfl dX8_isE_25 rfl ?_
        exact Rf_iret X rfl dX8_isE_26 ⟨_, rfl, h⟩
def wp_X8_isE (κ_X8_isA : rfS → (Int32 → rfS → Prop) → Prop) (σ : rfS) (Q : Int32 → rfS → Prop) : Prop :=
  κ_X8_isA σ (fun (r2 : Int32) (σ1 : rfS) => ((¬ r2 = 0 → (∃ n11, wl_X8_isE_9 κ_X8_isA Q n11 σ1)) ∧ (r2 = 0 → Q 0 σ1)))
set_option maxRecDepth 20000 in
theorem k_X8_isE {d : Nat} {κ_X8_isA : rfS → (Int32 → rfS → Prop) → Prop} (hκ_X8_isA : ∀ (σ : rfS) (Q : Int32 → rfS → Prop), κ_X8_isA σ Q → RM ΛM d yX8_isA cX8_isA 1 (some .boolean) [.ref 0] σ (qi Q)) (hB : 1 ≤ d) {σ : rfS} {Q : Int32 → rfS → Prop} (h : wp_X8_isE κ_X8_isA σ Q) : RM ΛM (d + 1) yX8_isE cX8_isE 1 (some .boolean) [.ref 0] σ (qi Q) := by
  unfold wp_X8_isE at h
  refine RM.intro (by decide) (Nat.le_of_ble_eq_true rfl) (fun E X => ?_)
  show Rf ΛM (d + 1) E 1 (qi Q) 0 [(0, .ref 0)] [] σ
  refine Rf_aload_n X (j := 0) rfl rfl dX8_isE_0 rfl ?_
  refine Rf_cVi (as := []) (st := []) X mi_X8_isA lm_X8_184 rfl (Nat.le_of_ble_eq_true rfl) rfl (hκ_X8_isA _ _ h) (Nat.le_refl _) rfl rfl (Nat.le_of_ble_eq_true rfl) dX8_isE_1 rfl (fun r2 σ1 h => ?_)
  refine Rf_if_ne X (tgt := 9) dX8_isE_4 rfl rfl (fun c12 => ?_) (fun c12 => ?_)
  · have h := h.1 c12
    obtain ⟨n11, h⟩ := h
    exact sl_X8_isE_9 X hκ_X8_isA hB n11 _ h
  · have h := h.2 c12
    refine Rf_iconst X (v := 0) rfl dX8_isE_7 rfl ?_
    exact Rf_iret X rfl dX8_isE_8 ⟨_, rfl, h⟩
def wj_X8_isO_214 (κ_X8_isE : rfS → (Int32 → rfS → Prop) → Prop) (κ_X8_isO : rfS → (Int32 → rfS → Prop) → Prop) (Q : Int32 → rfS → Prop) (x2 : Int32) (σ : rfS) : Prop :=
  (rfZ x2) ∧ Q x2 (sI σ 0 12 ((gI σ 0 12) - 1))
set_option maxRecDepth 20000 in
theorem sj_X8_isO_214 {d : Nat} {E : rfE} {Q : Int32 → rfS → Prop} (X : rfX ΛM E yX8_isO cX8_isO 3 (some .boolean)) {κ_X8_isE : rfS → (Int32 → rfS → Prop) → Prop} {κ_X8_isO : rfS → (Int32 → rfS → Prop) → Prop} (hκ_X8_isE : ∀ (σ : rfS) (Q : Int32 → rfS → Prop), κ_X8_isE σ Q → RM ΛM d yX8_isE cX8_isE 1 (some .boolean) [.ref 0] σ (qi Q)) (hκ_X8_isO : ∀ (σ : rfS) (Q : Int32 → rfS → Prop), κ_X8_isO σ Q → RM ΛM d yX8_isO cX8_isO 3 (some .boolean) [.ref 0] σ (qi Q)) (hB : 1 ≤ d) (x2 : Int32) (σ : rfS) (h : wj_X8_isO_214 κ_X8_isE κ_X8_isO Q x2 σ) : Rf ΛM (d + 1) E 3 (qi Q) 214 [(0, .ref 0), (2, .int x2)] [] σ := by
  unfold wj_X8_isO_214 at h
  refine Rf_aload_n X (j := 0) rfl rfl dX8_isO_214 rfl ?_
  refine Rf_dup X rfl dX8_isO_215 rfl ?_
  refine Rf_get X kc8 (Nat.le_of_ble_eq_true rfl) rfl (j := 12) (Nat.le_of_ble_eq_true rfl) lf_X8_163 (v := .int (gI σ 0 12)) rfl dX8_isO_216 rfl ?_
  refine Rf_iconst X (v := 1) rfl dX8_isO_219 rfl ?_
  refine Rf_isub X dX8_isO_220 rfl ?_
  refine Rf_put X kc8 (Nat.le_of_ble_eq_true rfl) rfl (j := 12) (Nat.le_of_ble_eq_true rfl) rfl lf_X8_163 rfl rfl rfl dX8_isO_221 rfl ?_
  refine Rf_iload_n X (j := 1) rfl rfl dX8_isO_224 rfl ?_
  obtain ⟨s13, h⟩ := h
  exact Rf_iret X (rfZ_n s13) dX8_isO_225 ⟨_, rfl, h⟩
def wj_X8_isO_213 (κ_X8_isE : rfS → (Int32 → rfS → Prop) → Prop) (κ_X8_isO : rfS → (Int32 → rfS → Prop) → Prop) (Q : Int32 → rfS → Prop) (xs0 : Int32) (σ : rfS) : Prop :=
  wj_X8_isO_214 κ_X8_isE κ_X8_isO Q xs0 σ
set_option maxRecDepth 20000 in
theorem sj_X8_isO_213 {d : Nat} {E : rfE} {Q : Int32 → rfS → Prop} (X : rfX ΛM E yX8_isO cX8_isO 3 (some .boolean)) {κ_X8_isE : rfS → (Int32 → rfS → Prop) → Prop} {κ_X8_isO : rfS → (Int32 → rfS → Prop) → Prop} (hκ_X8_isE : ∀ (σ : rfS) (Q : Int32 → rfS → Prop), κ_X8_isE σ Q → RM ΛM d yX8_isE cX8_isE 1 (some .boolean) [.ref 0] σ (qi Q)) (hκ_X8_isO : ∀ (σ : rfS) (Q : Int32 → rfS → Prop), κ_X8_isO σ Q → RM ΛM d yX8_isO cX8_isO 3 (some .boolean) [.ref 0] σ (qi Q)) (hB : 1 ≤ d) (xs0 : Int32) (σ : rfS) (h : wj_X8_isO_213 κ_X8_isE κ_X8_isO Q xs0 σ) : Rf ΛM (d + 1) E 3 (qi Q) 213 [(0, .ref 0)] [.int xs0] σ := by
  unfold wj_X8_isO_213 at h
  refine Rf_istore_n X rfl (i := 2) (Nat.le_of_ble_eq_true rfl) (ls2 := [(2, .int xs0), (0, .ref 0)]) rfl dX8_isO_213 rfl ?_
  refine Rf_sub [1, 0] rfl ?_
  exact sj_X8_isO_214 X hκ_X8_isE hκ_X8_isO hB _ _ h
def wj_X8_isO_212 (κ_X8_isE : rfS → (Int32 → rfS → Prop) → Prop) (κ_X8_isO : rfS → (Int32 → rfS → Prop) → Prop) (Q : Int32 → rfS → Prop) (σ : rfS) : Prop :=
  wj_X8_isO_213 κ_X8_isE κ_X8_isO Q 0 σ
set_option maxRecDepth 20000 in
theorem sj_X8_isO_212 {d : Nat} {E : rfE} {Q : Int32 → rfS → Prop} (X : rfX ΛM E yX8_isO cX8_isO 3 (some .boolean)) {κ_X8_isE : rfS → (Int32 → rfS → Prop) → Prop} {κ_X8_isO : rfS → (Int32 → rfS → Prop) → Prop} (hκ_X8_isE : ∀ (σ : rfS) (Q : Int32 → rfS → Prop), κ_X8_isE σ Q → RM ΛM d yX8_isE cX8_isE 1 (some .boolean) [.ref 0] σ (qi Q)) (hκ_X8_isO : ∀ (σ : rfS) (Q : Int32 → rfS → Prop), κ_X8_isO σ Q → RM ΛM d yX8_isO cX8_isO 3 (some .boolean) [.ref 0] σ (qi Q)) (hB : 1 ≤ d) (σ : rfS) (h : wj_X8_isO_212 κ_X8_isE κ_X8_isO Q σ) : Rf ΛM (d + 1) E 3 (qi Q) 212 [(0, .ref 0)] [] σ := by
  unfold wj_X8_isO_212 at h
  refine Rf_iconst X (v := 0) rfl dX8_isO_212 rfl ?_
  exact sj_X8_isO_213 X hκ_X8_isE hκ_X8_isO hB _ _ h
def wj_X8_isO_179 (κ_X8_isE : rfS → (Int32 → rfS → Prop) → Prop) (κ_X8_isO : rfS → (Int32 → rfS → Prop) → Prop) (Q : Int32 → rfS → Prop) (xs0 : Int32) (σ : rfS) : Prop :=
  wj_X8_isO_214 κ_X8_isE κ_X8_isO Q xs0 σ
set_option maxRecDepth 20000 in
theorem sj_X8_isO_179 {d : Nat} {E : rfE} {Q : Int32 → rfS → Prop} (X : rfX ΛM E yX8_isO cX8_isO 3 (some .boolean)) {κ_X8_isE : rfS → (Int32 → rfS → Prop) → Prop} {κ_X8_isO : rfS → (Int32 → rfS → Prop) → Prop} (hκ_X8_isE : ∀ (σ : rfS) (Q : Int32 → rfS → Prop), κ_X8_isE σ Q → RM ΛM d yX8_isE cX8_isE 1 (some .boolean) [.ref 0] σ (qi Q)) (hκ_X8_isO : ∀ (σ : rfS) (Q : Int32 → rfS → Prop), κ_X8_isO σ Q → RM ΛM d yX8_isO cX8_isO 3 (some .boolean) [.ref 0] σ (qi Q)) (hB : 1 ≤ d) (xs0 : Int32) (σ : rfS) (h : wj_X8_isO_179 κ_X8_isE κ_X8_isO Q xs0 σ) : Rf ΛM (d + 1) E 3 (qi Q) 179 [(0, .ref 0)] [.int xs0] σ := by
  unfold wj_X8_isO_179 at h
  refine Rf_istore_n X rfl (i := 2) (Nat.le_of_ble_eq_true rfl) (ls2 := [(2, .int xs0), (0, .ref 0)]) rfl dX8_isO_179 rfl ?_
  refine Rf_goto X (tgt := 214) dX8_isO_180 rfl ?_
  refine Rf_sub [1, 0] rfl ?_
  exact sj_X8_isO_214 X hκ_X8_isE hκ_X8_isO hB _ _ h
def wj_X8_isO_178 (κ_X8_isE : rfS → (Int32 → rfS → Prop) → Prop) (κ_X8_isO : rfS → (Int32 → rfS → Prop) → Prop) (Q : Int32 → rfS → Prop) (σ : rfS) : Prop :=
  wj_X8_isO_179 κ_X8_isE κ_X8_isO Q 0 σ
set_option maxRecDepth 20000 in
theorem sj_X8_isO_178 {d : Nat} {E : rfE} {Q : Int32 → rfS → Prop} (X : rfX ΛM E yX8_isO cX8_isO 3 (some .boolean)) {κ_X8_isE : rfS → (Int32 → rfS → Prop) → Prop} {κ_X8_isO : rfS → (Int32 → rfS → Prop) → Prop} (hκ_X8_isE : ∀ (σ : rfS) (Q : Int32 → rfS → Prop), κ_X8_isE σ Q → RM ΛM d yX8_isE cX8_isE 1 (some .boolean) [.ref 0] σ (qi Q)) (hκ_X8_isO : ∀ (σ : rfS) (Q : Int32 → rfS → Prop), κ_X8_isO σ Q → RM ΛM d yX8_isO cX8_isO 3 (some .boolean) [.ref 0] σ (qi Q)) (hB : 1 ≤ d) (σ : rfS) (h : wj_X8_isO_178 κ_X8_isE κ_X8_isO Q σ) : Rf ΛM (d + 1) E 3 (qi Q) 178 [(0, .ref 0)] [] σ := by
  unfold wj_X8_isO_178 at h
  refine Rf_iconst X (v := 0) rfl dX8_isO_178 rfl ?_
  exact sj_X8_isO_179 X hκ_X8_isE hκ_X8_isO hB _ _ h
def wj_X8_isO_145 (κ_X8_isE : rfS → (Int32 → rfS → Prop) → Prop) (κ_X8_isO : rfS → (Int32 → rfS → Prop) → Prop) (Q : Int32 → rfS → Prop) (xs0 : Int32) (σ : rfS) : Prop :=
  wj_X8_isO_214 κ_X8_isE κ_X8_isO Q xs0 σ
set_option maxRecDepth 20000 in
theorem sj_X8_isO_145 {d : Nat} {E : rfE} {Q : Int32 → rfS → Prop} (X : rfX ΛM E yX8_isO cX8_isO 3 (some .boolean)) {κ_X8_isE : rfS → (Int32 → rfS → Prop) → Prop} {κ_X8_isO : rfS → (Int32 → rfS → Prop) → Prop} (hκ_X8_isE : ∀ (σ : rfS) (Q : Int32 → rfS → Prop), κ_X8_isE σ Q → RM ΛM d yX8_isE cX8_isE 1 (some .boolean) [.ref 0] σ (qi Q)) (hκ_X8_isO : ∀ (σ : rfS) (Q : Int32 → rfS → Prop), κ_X8_isO σ Q → RM ΛM d yX8_isO cX8_isO 3 (some .boolean) [.ref 0] σ (qi Q)) (hB : 1 ≤ d) (xs0 : Int32) (σ : rfS) (h : wj_X8_isO_145 κ_X8_isE κ_X8_isO Q xs0 σ) : Rf ΛM (d + 1) E 3 (qi Q) 145 [(0, .ref 0)] [.int xs0] σ := by
  unfold wj_X8_isO_145 at h
  refine Rf_istore_n X rfl (i := 2) (Nat.le_of_ble_eq_true rfl) (ls2 := [(2, .int xs0), (0, .ref 0)]) rfl dX8_isO_145 rfl ?_
  refine Rf_goto X (tgt := 214) dX8_isO_146 rfl ?_
  refine Rf_sub [1, 0] rfl ?_
  exact sj_X8_isO_214 X hκ_X8_isE hκ_X8_isO hB _ _ h
def wj_X8_isO_144 (κ_X8_isE : rfS → (Int32 → rfS → Prop) → Prop) (κ_X8_isO : rfS → (Int32 → rfS → Prop) → Prop) (Q : Int32 → rfS → Prop) (σ : rfS) : Prop :=
  wj_X8_isO_145 κ_X8_isE κ_X8_isO Q 0 σ
set_option maxRecDepth 20000 in
theorem sj_X8_isO_144 {d : Nat} {E : rfE} {Q : Int32 → rfS → Prop} (X : rfX ΛM E yX8_isO cX8_isO 3 (some .boolean)) {κ_X8_isE : rfS → (Int32 → rfS → Prop) → Prop} {κ_X8_isO : rfS → (Int32 → rfS → Prop) → Prop} (hκ_X8_isE : ∀ (σ : rfS) (Q : Int32 → rfS → Prop), κ_X8_isE σ Q → RM ΛM d yX8_isE cX8_isE 1 (some .boolean) [.ref 0] σ (qi Q)) (hκ_X8_isO : ∀ (σ : rfS) (Q : Int32 → rfS → Prop), κ_X8_isO σ Q → RM ΛM d yX8_isO cX8_isO 3 (some .boolean) [.ref 0] σ (qi Q)) (hB : 1 ≤ d) (σ : rfS) (h : wj_X8_isO_144 κ_X8_isE κ_X8_isO Q σ) : Rf ΛM (d + 1) E 3 (qi Q) 144 [(0, .ref 0)] [] σ := by
  unfold wj_X8_isO_144 at h
  refine Rf_iconst X (v := 0) rfl dX8_isO_144 rfl ?_
  exact sj_X8_isO_145 X hκ_X8_isE hκ_X8_isO hB _ _ h
def wl_X8_isO_11 (κ_X8_isE : rfS → (Int32 → rfS → Prop) → Prop) (κ_X8_isO : rfS → (Int32 → rfS → Prop) → Prop) (Q : Int32 → rfS → Prop) (kx_57 : Int32 → rfS → Prop) : Nat → Int32 → Int32 → rfS → Prop
  | 0, _, _, _ => False
  | n + 1, x1, x2, σ => ((4 ≤ x2 → kx_57 x1 σ) ∧ (¬ (4 ≤ x2) → wp_X8_isDigit σ (fun (r41 : Int32) (σ40 : rfS) => ((r41 = 0 → kx_57 x1 σ40) ∧ (¬ r41 = 0 → vp_in (gI σ40 0 11) 120 ∧ (wl_X8_isO_11 κ_X8_isE κ_X8_isO Q kx_57 n (((10 * x1) + (gF σ40 3 ((gI σ40 0 11).toNatClampNeg))) - 48) (x2 + 1) (sI σ40 0 11 ((gI σ40 0 11) + 1))))))))
set_option maxRecDepth 20000 in
theorem sl_X8_isO_11 {d : Nat} {E : rfE} {Q : Int32 → rfS → Prop} (X : rfX ΛM E yX8_isO cX8_isO 3 (some .boolean)) {κ_X8_isE : rfS → (Int32 → rfS → Prop) → Prop} {κ_X8_isO : rfS → (Int32 → rfS → Prop) → Prop} (hκ_X8_isE : ∀ (σ : rfS) (Q : Int32 → rfS → Prop), κ_X8_isE σ Q → RM ΛM d yX8_isE cX8_isE 1 (some .boolean) [.ref 0] σ (qi Q)) (hκ_X8_isO : ∀ (σ : rfS) (Q : Int32 → rfS → Prop), κ_X8_isO σ Q → RM ΛM d yX8_isO cX8_isO 3 (some .boolean) [.ref 0] σ (qi Q)) (hB : 1 ≤ d) {kx_57 : Int32 → rfS → Prop} (hkx_57 : ∀ (x1 : Int32) (σ : rfS), kx_57 x1 σ → Rf ΛM (d + 1) E 3 (qi Q) 57 [(0, .ref 0), (1, .int x1)] [] σ) : ∀ (n : Nat) (x1 : Int32) (x2 : Int32) (σ : rfS), wl_X8_isO_11 κ_X8_isE κ_X8_isO Q kx_57 n x1 x2 σ → Rf ΛM (d + 1) E 3 (qi Q) 11 [(0, .ref 0), (1, .int x1), (2, .int x2)] [] σ := by
  intro n
  induction n with
  | zero =>
    intro x1 x2 σ h
    exact False.elim h
  | succ n hkb_11 =>
    intro x1 x2 σ h
    unfold wl_X8_isO_11 at h
    refine Rf_iload_n X (j := 2) rfl rfl dX8_isO_11 rfl ?_
    refine Rf_iconst X (v := 4) rfl dX8_isO_12 rfl ?_
    refine Rf_icmp_ge X (tgt := 57) dX8_isO_13 rfl rfl (fun c44 => ?_) (fun c44 => ?_)
    · have h := h.1 c44
      refine Rf_sub [0, 1] rfl ?_
      exact hkx_57 _ σ h
    · have h := h.2 c44
      refine Rf_aload_n X (j := 0) rfl rfl dX8_isO_16 rfl ?_
      refine Rf_cVi (as := []) (st := []) X mi_X8_isDigit lm_X8_152 rfl (Nat.le_of_ble_eq_true rfl) rfl (k_X8_isDigit h) (by omega) rfl rfl (Nat.le_of_ble_eq_true rfl) dX8_isO_17 rfl (fun r41 σ40 h => ?_)
      refine Rf_if_eq X (tgt := 57) dX8_isO_20 rfl rfl (fun c43 => ?_) (fun c43 => ?_)
      · have h := h.1 c43
        refine Rf_sub [0, 1] rfl ?_
        exact hkx_57 _ σ40 h
      · have h := h.2 c43
        refine Rf_bipush X (v := 10) rfl dX8_isO_23 rfl ?_
        refine Rf_iload_n X (j := 1) rfl rfl dX8_isO_25 rfl ?_
        refine Rf_imul X dX8_isO_26 rfl ?_
        refine Rf_aload_n X (j := 0) rfl rfl dX8_isO_27 rfl ?_
        refine Rf_get X kc8 (Nat.le_of_ble_eq_true rfl) rfl (j := 4) (Nat.le_of_ble_eq_true rfl) lf_X8_18 (v := .ref 3) rfl dX8_isO_28 rfl ?_
        refine Rf_aload_n X (j := 0) rfl rfl dX8_isO_31 rfl ?_
        refine Rf_get X kc8 (Nat.le_of_ble_eq_true rfl) rfl (j := 11) (Nat.le_of_ble_eq_true rfl) lf_X8_142 (v := .int (gI σ40 0 11)) rfl dX8_isO_32 rfl ?_
        obtain ⟨s42, h⟩ := h
        refine Rf_iaload X (Nat.le_of_ble_eq_true rfl) rfl rfl s42 dX8_isO_35 rfl (v := gF σ40 3 ((gI σ40 0 11).toNatClampNeg)) rfl ?_
        refine Rf_iadd X dX8_isO_36 rfl ?_
        refine Rf_bipush X (v := 48) rfl dX8_isO_37 rfl ?_
        refine Rf_isub X dX8_isO_39 rfl ?_
        refine Rf_istore_n X rfl (i := 1) (Nat.le_of_ble_eq_true rfl) (ls2 := [(1, .int (((10 * x1) + (gF σ40 3 ((gI σ40 0 11).toNatClampNeg))) - 48)), (0, .ref 0), (2, .int x2)]) rfl dX8_isO_40 rfl ?_
        refine Rf_aload_n X (j := 1) rfl rfl dX8_isO_41 rfl ?_
        refine Rf_dup X rfl dX8_isO_42 rfl ?_
        refine Rf_get X kc8 (Nat.le_of_ble_eq_true rfl) rfl (j := 11) (Nat.le_of_ble_eq_true rfl) lf_X8_142 (v := .int (gI σ40 0 11)) rfl dX8_isO_43 rfl ?_
        refine Rf_iconst X (v := 1) rfl dX8_isO_46 rfl ?_
        refine Rf_iadd X dX8_isO_47 rfl ?_
        refine Rf_put X kc8 (Nat.le_of_ble_eq_true rfl) rfl (j := 11) (Nat.le_of_ble_eq_true rfl) rfl lf_X8_142 rfl rfl rfl dX8_isO_48 rfl ?_
        refine Rf_iinc X (i := 2) (j := 2) (v := x2 + 1) rfl rfl (Nat.le_of_ble_eq_true rfl) (ls2 := [(2, .int (x2 + 1)), (1, .int (((10 * x1) + (gF σ40 3 ((gI σ40 0 11).toNatClampNeg))) - 48)), (0, .ref 0)]) rfl dX8_isO_51 rfl ?_
        refine Rf_goto X (tgt := 11) dX8_isO_54 rfl ?_
        refine Rf_sub [2, 1, 0] rfl ?_
        exact hkb_11 _ _ (sI σ40 0 11 ((gI σ40 0 11) + 1)) h
def wj_X8_isO_57 (κ_X8_isE : rfS → (Int32 → rfS → Prop) → Prop) (κ_X8_isO : rfS → (Int32 → rfS → Prop) → Prop) (Q : Int32 → rfS → Prop) (x1 : Int32) (σ : rfS) : Prop :=
  wp_X8_codes σ (18 + x1) (fun (r49 : Int32) (σ48 : rfS) => (rfZ r49) ∧ Q r49 σ48)
set_option maxRecDepth 20000 in
theorem sj_X8_isO_57 {d : Nat} {E : rfE} {Q : Int32 → rfS → Prop} (X : rfX ΛM E yX8_isO cX8_isO 3 (some .boolean)) {κ_X8_isE : rfS → (Int32 → rfS → Prop) → Prop} {κ_X8_isO : rfS → (Int32 → rfS → Prop) → Prop} (hκ_X8_isE : ∀ (σ : rfS) (Q : Int32 → rfS → Prop), κ_X8_isE σ Q → RM ΛM d yX8_isE cX8_isE 1 (some .boolean) [.ref 0] σ (qi Q)) (hκ_X8_isO : ∀ (σ : rfS) (Q : Int32 → rfS → Prop), κ_X8_isO σ Q → RM ΛM d yX8_isO cX8_isO 3 (some .boolean) [.ref 0] σ (qi Q)) (hB : 1 ≤ d) (x1 : Int32) (σ : rfS) (h : wj_X8_isO_57 κ_X8_isE κ_X8_isO Q x1 σ) : Rf ΛM (d + 1) E 3 (qi Q) 57 [(0, .ref 0), (1, .int x1)] [] σ := by
  unfold wj_X8_isO_57 at h
  refine Rf_aload_n X (j := 0) rfl rfl dX8_isO_57 rfl ?_
  refine Rf_bipush X (v := 18) rfl dX8_isO_58 rfl ?_
  refine Rf_iload_n X (j := 1) rfl rfl dX8_isO_60 rfl ?_
  refine Rf_iadd X dX8_isO_61 rfl ?_
  refine Rf_cVi (as := [.int (18 + x1)]) (st := []) X mi_X8_codes lm_X8_156 rfl (Nat.le_of_ble_eq_true rfl) rfl (k_X8_codes h) (by omega) rfl rfl (Nat.le_of_ble_eq_true rfl) dX8_isO_62 rfl (fun r49 σ48 h => ?_)
  obtain ⟨s50, h⟩ := h
  exact Rf_iret X (rfZ_n s50) dX8_isO_65 ⟨_, rfl, h⟩
def wp_X8_isO (κ_X8_isE : rfS → (Int32 → rfS → Prop) → Prop) (κ_X8_isO : rfS → (Int32 → rfS → Prop) → Prop) (σ : rfS) (Q : Int32 → rfS → Prop) : Prop :=
  wp_X8_isDigit σ (fun (r2 : Int32) (σ1 : rfS) => ((r2 = 0 → wp_X8_sign σ1 (fun (r4 : Int32) (σ3 : rfS) => wp_X8_nameOf σ3 r4 (fun (r6 : Int32) (σ5 : rfS) => ((r6 < 0 → ((¬ (gI σ5 0 12) = 6 → wp_X8_is (sI σ5 0 12 ((gI σ5 0 12) + 1)) 33 (fun (r8 : Int32) (σ7 : rfS) => ((r8 = 0 → wp_X8_is σ7 45 (fun (r10 : Int32) (σ9 : rfS) => ((r10 = 0 → wp_X8_is σ9 40 (fun (r12 : Int32) (σ11 : rfS) => ((r12 = 0 → wj_X8_isO_212 κ_X8_isE κ_X8_isO Q σ11) ∧ (¬ r12 = 0 → κ_X8_isE σ11 (fun (r15 : Int32) (σ14 : rfS) => ((r15 = 0 → wj_X8_isO_212 κ_X8_isE κ_X8_isO Q σ14) ∧ (¬ r15 = 0 → wp_X8_is σ14 41 (fun (r17 : Int32) (σ16 : rfS) => ((r17 = 0 → wj_X8_isO_212 κ_X8_isE κ_X8_isO Q σ16) ∧ (¬ r17 = 0 → wj_X8_isO_213 κ_X8_isE κ_X8_isO Q 1 σ16)))))))))) ∧ (¬ r10 = 0 → κ_X8_isO σ9 (fun (r22 : Int32) (σ21 : rfS) => ((r22 = 0 → wj_X8_isO_178 κ_X8_isE κ_X8_isO Q σ21) ∧ (¬ r22 = 0 → wp_X8_codes σ21 17 (fun (r24 : Int32) (σ23 : rfS) => ((r24 = 0 → wj_X8_isO_178 κ_X8_isE κ_X8_isO Q σ23) ∧ (¬ r24 = 0 → wj_X8_isO_179 κ_X8_isE κ_X8_isO Q 1 σ23)))))))))) ∧ (¬ r8 = 0 → κ_X8_isO σ7 (fun (r29 : Int32) (σ28 : rfS) => ((r29 = 0 → wj_X8_isO_144 κ_X8_isE κ_X8_isO Q σ28) ∧ (¬ r29 = 0 → wp_X8_codes σ28 16 (fun (r31 : Int32) (σ30 : rfS) => ((r31 = 0 → wj_X8_isO_144 κ_X8_isE κ_X8_isO Q σ30) ∧ (¬ r31 = 0 → wj_X8_isO_145 κ_X8_isE κ_X8_isO Q 1 σ30)))))))))) ∧ ((gI σ5 0 12) = 6 → Q 0 σ5))) ∧ (¬ (r6 < 0) → wp_X8_codes (sI σ5 0 11 ((gI σ5 0 11) + 1)) r6 (fun (r37 : Int32) (σ36 : rfS) => (rfZ r37) ∧ Q r37 σ36)))))) ∧ (¬ r2 = 0 → (∃ n45, wl_X8_isO_11 κ_X8_isE κ_X8_isO Q (fun (x1_46 : Int32) (σ47 : rfS) => wj_X8_isO_57 κ_X8_isE κ_X8_isO Q x1_46 σ47) n45 0 0 σ1))))
set_option maxRecDepth 20000 in
theorem k_X8_isO {d : Nat} {κ_X8_isE : rfS → (Int32 → rfS → Prop) → Prop} {κ_X8_isO : rfS → (Int32 → rfS → Prop) → Prop} (hκ_X8_isE : ∀ (σ : rfS) (Q : Int32 → rfS → Prop), κ_X8_isE σ Q → RM ΛM d yX8_isE cX8_isE 1 (some .boolean) [.ref 0] σ (qi Q)) (hκ_X8_isO : ∀ (σ : rfS) (Q : Int32 → rfS → Prop), κ_X8_isO σ Q → RM ΛM d yX8_isO cX8_isO 3 (some .boolean) [.ref 0] σ (qi Q)) (hB : 1 ≤ d) {σ : rfS} {Q : Int32 → rfS → Prop} (h : wp_X8_isO κ_X8_isE κ_X8_isO σ Q) : RM ΛM (d + 1) yX8_isO cX8_isO 3 (some .boolean) [.ref 0] σ (qi Q) := by
  unfold wp_X8_isO at h
  refine RM.intro (by decide) (Nat.le_of_ble_eq_true rfl) (fun E X => ?_)
  show Rf ΛM (d + 1) E 3 (qi Q) 0 [(0, .ref 0)] [] σ
  refine Rf_aload_n X (j := 0) rfl rfl dX8_isO_0 rfl ?_
  refine Rf_cVi (as := []) (st := []) X mi_X8_isDigit lm_X8_152 rfl (Nat.le_of_ble_eq_true rfl) rfl (k_X8_isDigit h) (by omega) rfl rfl (Nat.le_of_ble_eq_true rfl) dX8_isO_1 rfl (fun r2 σ1 h => ?_)
  refine Rf_if_eq X (tgt := 66) dX8_isO_4 rfl rfl (fun c51 => ?_) (fun c51 => ?_)
  · have h := h.1 c51
    refine Rf_aload_n X (j := 0) rfl rfl dX8_isO_66 rfl ?_
    refine Rf_cVi (as := []) (st := []) X mi_X8_sign lm_X8_145 rfl (Nat.le_of_ble_eq_true rfl) rfl (k_X8_sign h) (by omega) rfl rfl (Nat.le_of_ble_eq_true rfl) dX8_isO_67 rfl (fun r4 σ3 h => ?_)
    refine Rf_cSi (as := [.int r4]) (st := []) X ms_X8_nameOf lm_X8_159 (k_X8_nameOf h) (by omega) rfl rfl (Nat.le_of_ble_eq_true rfl) dX8_isO_70 rfl (fun r6 σ5 h => ?_)
    refine Rf_istore_n X rfl (i := 1) (Nat.le_of_ble_eq_true rfl) (ls2 := [(1, .int r6), (0, .ref 0)]) rfl dX8_isO_73 rfl ?_
    refine Rf_iload_n X (j := 0) rfl rfl dX8_isO_74 rfl ?_
    refine Rf_if_lt X (tgt := 94) dX8_isO_75 rfl rfl (fun c39 => ?_) (fun c39 => ?_)
    · have h := h.1 c39
      refine Rf_aload_n X (j := 1) rfl rfl dX8_isO_94 rfl ?_
      refine Rf_get X kc8 (Nat.le_of_ble_eq_true rfl) rfl (j := 12) (Nat.le_of_ble_eq_true rfl) lf_X8_163 (v := .int (gI σ5 0 12)) rfl dX8_isO_95 rfl ?_
      refine Rf_bipush X (v := 6) rfl dX8_isO_98 rfl ?_
      refine Rf_icmp_ne X (tgt := 105) dX8_isO_100 rfl rfl (fun c35 => ?_) (fun c35 => ?_)
      · have h := h.1 c35
        refine Rf_aload_n X (j := 1) rfl rfl dX8_isO_105 rfl ?_
        refine Rf_dup X rfl dX8_isO_106 rfl ?_
        refine Rf_get X kc8 (Nat.le_of_ble_eq_true rfl) rfl (j := 12) (Nat.le_of_ble_eq_true rfl) lf_X8_163 (v := .int (gI σ5 0 12)) rfl dX8_isO_107 rfl ?_
        refine Rf_iconst X (v := 1) rfl dX8_isO_110 rfl ?_
        refine Rf_iadd X dX8_isO_111 rfl ?_
        refine Rf_put X kc8 (Nat.le_of_ble_eq_true rfl) rfl (j := 12) (Nat.le_of_ble_eq_true rfl) rfl lf_X8_163 rfl rfl rfl dX8_isO_112 rfl ?_
        refine Rf_aload_n X (j := 1) rfl rfl dX8_isO_115 rfl ?_
        refine Rf_bipush X (v := 33) rfl dX8_isO_116 rfl ?_
        refine Rf_cVi (as := [.int 33]) (st := []) X mi_X8_is lm_X8_166 rfl (Nat.le_of_ble_eq_true rfl) rfl (k_X8_is h) (by omega) rfl rfl (Nat.le_of_ble_eq_true rfl) dX8_isO_118 rfl (fun r8 σ7 h => ?_)
        refine Rf_if_eq X (tgt := 149) dX8_isO_121 rfl rfl (fun c34 => ?_) (fun c34 => ?_)
        · have h := h.1 c34
          refine Rf_aload_n X (j := 1) rfl rfl dX8_isO_149 rfl ?_
          refine Rf_bipush X (v := 45) rfl dX8_isO_150 rfl ?_
          refine Rf_cVi (as := [.int 45]) (st := []) X mi_X8_is lm_X8_166 rfl (Nat.le_of_ble_eq_true rfl) rfl (k_X8_is h) (by omega) rfl rfl (Nat.le_of_ble_eq_true rfl) dX8_isO_152 rfl (fun r10 σ9 h => ?_)
          refine Rf_if_eq X (tgt := 183) dX8_isO_155 rfl rfl (fun c27 => ?_) (fun c27 => ?_)
          · have h := h.1 c27
            refine Rf_aload_n X (j := 1) rfl rfl dX8_isO_183 rfl ?_
            refine Rf_bipush X (v := 40) rfl dX8_isO_184 rfl ?_
            refine Rf_cVi (as := [.int 40]) (st := []) X mi_X8_is lm_X8_166 rfl (Nat.le_of_ble_eq_true rfl) rfl (k_X8_is h) (by omega) rfl rfl (Nat.le_of_ble_eq_true rfl) dX8_isO_186 rfl (fun r12 σ11 h => ?_)
            refine Rf_if_eq X (tgt := 212) dX8_isO_189 rfl rfl (fun c20 => ?_) (fun c20 => ?_)
            · have h := h.1 c20
              refine Rf_sub [1] rfl ?_
              exact sj_X8_isO_212 X hκ_X8_isE hκ_X8_isO hB  _ h
            · have h := h.2 c20
              refine Rf_aload_n X (j := 1) rfl rfl dX8_isO_192 rfl ?_
              refine Rf_cVi (as := []) (st := []) X mi_X8_isE lm_X8_172 rfl (Nat.le_of_ble_eq_true rfl) rfl (hκ_X8_isE _ _ h) (Nat.le_refl _) rfl rfl (Nat.le_of_ble_eq_true rfl) dX8_isO_193 rfl (fun r15 σ14 h => ?_)
              refine Rf_if_eq X (tgt := 212) dX8_isO_196 rfl rfl (fun c19 => ?_) (fun c19 => ?_)
              · have h := h.1 c19
                refine Rf_sub [1] rfl ?_
                exact sj_X8_isO_212 X hκ_X8_isE hκ_X8_isO hB  _ h
              · have h := h.2 c19
                refine Rf_aload_n X (j := 1) rfl rfl dX8_isO_199 rfl ?_
                refine Rf_bipush X (v := 41) rfl dX8_isO_200 rfl ?_
                refine Rf_cVi (as := [.int 41]) (st := []) X mi_X8_is lm_X8_166 rfl (Nat.le_of_ble_eq_true rfl) rfl (k_X8_is h) (by omega) rfl rfl (Nat.le_of_ble_eq_true rfl) dX8_isO_202 rfl (fun r17 σ16 h => ?_)
                refine Rf_if_eq X (tgt := 212) dX8_isO_205 rfl rfl (fun c18 => ?_) (fun c18 => ?_)
                · have h := h.1 c18
                  refine Rf_sub [1] rfl ?_
                  exact sj_X8_isO_212 X hκ_X8_isE hκ_X8_isO hB  _ h
                · have h := h.2 c18
                  refine Rf_iconst X (v := 1) rfl dX8_isO_208 rfl ?_
                  refine Rf_goto X (tgt := 213) dX8_isO_209 rfl ?_
                  refine Rf_sub [1] rfl ?_
                  exact sj_X8_isO_213 X hκ_X8_isE hκ_X8_isO hB _ _ h
          · have h := h.2 c27
            refine Rf_aload_n X (j := 1) rfl rfl dX8_isO_158 rfl ?_
            refine Rf_cVi (as := []) (st := []) X mi_X8_isO lm_X8_169 rfl (Nat.le_of_ble_eq_true rfl) rfl (hκ_X8_isO _ _ h) (Nat.le_refl _) rfl rfl (Nat.le_of_ble_eq_true rfl) dX8_isO_159 rfl (fun r22 σ21 h => ?_)
            refine Rf_if_eq X (tgt := 178) dX8_isO_162 rfl rfl (fun c26 => ?_) (fun c26 => ?_)
            · have h := h.1 c26
              refine Rf_sub [1] rfl ?_
              exact sj_X8_isO_178 X hκ_X8_isE hκ_X8_isO hB  _ h
            · have h := h.2 c26
              refine Rf_aload_n X (j := 1) rfl rfl dX8_isO_165 rfl ?_
              refine Rf_bipush X (v := 17) rfl dX8_isO_166 rfl ?_
              refine Rf_cVi (as := [.int 17]) (st := []) X mi_X8_codes lm_X8_156 rfl (Nat.le_of_ble_eq_true rfl) rfl (k_X8_codes h) (by omega) rfl rfl (Nat.le_of_ble_eq_true rfl) dX8_isO_168 rfl (fun r24 σ23 h => ?_)
              refine Rf_if_eq X (tgt := 178) dX8_isO_171 rfl rfl (fun c25 => ?_) (fun c25 => ?_)
              · have h := h.1 c25
                refine Rf_sub [1] rfl ?_
                exact sj_X8_isO_178 X hκ_X8_isE hκ_X8_isO hB  _ h
              · have h := h.2 c25
                refine Rf_iconst X (v := 1) rfl dX8_isO_174 rfl ?_
                refine Rf_goto X (tgt := 179) dX8_isO_175 rfl ?_
                refine Rf_sub [1] rfl ?_
                exact sj_X8_isO_179 X hκ_X8_isE hκ_X8_isO hB _ _ h
        · have h := h.2 c34
          refine Rf_aload_n X (j := 1) rfl rfl dX8_isO_124 rfl ?_
          refine Rf_cVi (as := []) (st := []) X mi_X8_isO lm_X8_169 rfl (Nat.le_of_ble_eq_true rfl) rfl (hκ_X8_isO _ _ h) (Nat.le_refl _) rfl rfl (Nat.le_of_ble_eq_true rfl) dX8_isO_125 rfl (fun r29 σ28 h => ?_)
          refine Rf_if_eq X (tgt := 144) dX8_isO_128 rfl rfl (fun c33 => ?_) (fun c33 => ?_)
          · have h := h.1 c33
            refine Rf_sub [1] rfl ?_
            exact sj_X8_isO_144 X hκ_X8_isE hκ_X8_isO hB  _ h
          · have h := h.2 c33
            refine Rf_aload_n X (j := 1) rfl rfl dX8_isO_131 rfl ?_
            refine Rf_bipush X (v := 16) rfl dX8_isO_132 rfl ?_
            refine Rf_cVi (as := [.int 16]) (st := []) X mi_X8_codes lm_X8_156 rfl (Nat.le_of_ble_eq_true rfl) rfl (k_X8_codes h) (by omega) rfl rfl (Nat.le_of_ble_eq_true rfl) dX8_isO_134 rfl (fun r31 σ30 h => ?_)
            refine Rf_if_eq X (tgt := 144) dX8_isO_137 rfl rfl (fun c32 => ?_) (fun c32 => ?_)
            · have h := h.1 c32
              refine Rf_sub [1] rfl ?_
              exact sj_X8_isO_144 X hκ_X8_isE hκ_X8_isO hB  _ h
            · have h := h.2 c32
              refine Rf_iconst X (v := 1) rfl dX8_isO_140 rfl ?_
              refine Rf_goto X (tgt := 145) dX8_isO_141 rfl ?_
              refine Rf_sub [1] rfl ?_
              exact sj_X8_isO_145 X hκ_X8_isE hκ_X8_isO hB _ _ h
      · have h := h.2 c35
        refine Rf_iconst X (v := 0) rfl dX8_isO_103 rfl ?_
        exact Rf_iret X rfl dX8_isO_104 ⟨_, rfl, h⟩
    · have h := h.2 c39
      refine Rf_aload_n X (j := 1) rfl rfl dX8_isO_78 rfl ?_
      refine Rf_dup X rfl dX8_isO_79 rfl ?_
      refine Rf_get X kc8 (Nat.le_of_ble_eq_true rfl) rfl (j := 11) (Nat.le_of_ble_eq_true rfl) lf_X8_142 (v := .int (gI σ5 0 11)) rfl dX8_isO_80 rfl ?_
      refine Rf_iconst X (v := 1) rfl dX8_isO_83 rfl ?_
      refine Rf_iadd X dX8_isO_84 rfl ?_
      refine Rf_put X kc8 (Nat.le_of_ble_eq_true rfl) rfl (j := 11) (Nat.le_of_ble_eq_true rfl) rfl lf_X8_142 rfl rfl rfl dX8_isO_85 rfl ?_
      refine Rf_aload_n X (j := 1) rfl rfl dX8_isO_88 rfl ?_
      refine Rf_iload_n X (j := 0) rfl rfl dX8_isO_89 rfl ?_
      refine Rf_cVi (as := [.int r6]) (st := []) X mi_X8_codes lm_X8_156 rfl (Nat.le_of_ble_eq_true rfl) rfl (k_X8_codes h) (by omega) rfl rfl (Nat.le_of_ble_eq_true rfl) dX8_isO_90 rfl (fun r37 σ36 h => ?_)
      obtain ⟨s38, h⟩ := h
      exact Rf_iret X (rfZ_n s38) dX8_isO_93 ⟨_, rfl, h⟩
  · have h := h.2 c51
    refine Rf_iconst X (v := 0) rfl dX8_isO_7 rfl ?_
    refine Rf_istore_n X rfl (i := 1) (Nat.le_of_ble_eq_true rfl) (ls2 := [(1, .int 0), (0, .ref 0)]) rfl dX8_isO_8 rfl ?_
    refine Rf_iconst X (v := 0) rfl dX8_isO_9 rfl ?_
    refine Rf_istore_n X rfl (i := 2) (Nat.le_of_ble_eq_true rfl) (ls2 := [(2, .int 0), (1, .int 0), (0, .ref 0)]) rfl dX8_isO_10 rfl ?_
    obtain ⟨n45, h⟩ := h
    refine Rf_sub [2, 1, 0] rfl ?_
    refine sl_X8_isO_11 X hκ_X8_isE hκ_X8_isO hB (fun x1_46 σ47 h => ?_) n45 _ _ _ h
    · exact sj_X8_isO_57 X hκ_X8_isE hκ_X8_isO hB _ _ h
def wj_X8_isLine_71 (κ_X8_isE : rfS → (Int32 → rfS → Prop) → Prop) (Q : Int32 → rfS → Prop) (σ : rfS) : Prop :=
  vp_in (gI σ 0 14) 61 ∧ Q 1 (sF (sI σ 0 14 ((gI σ 0 14) + 1)) 10 ((gI σ 0 14).toNatClampNeg) (gI σ 0 13))
set_option maxRecDepth 20000 in
theorem sj_X8_isLine_71 {d : Nat} {E : rfE} {Q : Int32 → rfS → Prop} (X : rfX ΛM E yX8_isLine cX8_isLine 1 (some .boolean)) {κ_X8_isE : rfS → (Int32 → rfS → Prop) → Prop} (hκ_X8_isE : ∀ (σ : rfS) (Q : Int32 → rfS → Prop), κ_X8_isE σ Q → RM ΛM d yX8_isE cX8_isE 1 (some .boolean) [.ref 0] σ (qi Q)) (hB : 1 ≤ d) (σ : rfS) (h : wj_X8_isLine_71 κ_X8_isE Q σ) : Rf ΛM (d + 1) E 1 (qi Q) 71 [(0, .ref 0)] [] σ := by
  unfold wj_X8_isLine_71 at h
  refine Rf_aload_n X (j := 0) rfl rfl dX8_isLine_71 rfl ?_
  refine Rf_get X kc8 (Nat.le_of_ble_eq_true rfl) rfl (j := 17) (Nat.le_of_ble_eq_true rfl) lf_X8_39 (v := .ref 10) rfl dX8_isLine_72 rfl ?_
  refine Rf_aload_n X (j := 0) rfl rfl dX8_isLine_75 rfl ?_
  refine Rf_dup X rfl dX8_isLine_76 rfl ?_
  refine Rf_get X kc8 (Nat.le_of_ble_eq_true rfl) rfl (j := 14) (Nat.le_of_ble_eq_true rfl) lf_X8_187 (v := .int (gI σ 0 14)) rfl dX8_isLine_77 rfl ?_
  refine Rf_dup_x1 X rfl rfl dX8_isLine_80 rfl ?_
  refine Rf_iconst X (v := 1) rfl dX8_isLine_81 rfl ?_
  refine Rf_iadd X dX8_isLine_82 rfl ?_
  refine Rf_put X kc8 (Nat.le_of_ble_eq_true rfl) rfl (j := 14) (Nat.le_of_ble_eq_true rfl) rfl lf_X8_187 rfl rfl rfl dX8_isLine_83 rfl ?_
  refine Rf_aload_n X (j := 0) rfl rfl dX8_isLine_86 rfl ?_
  refine Rf_get X kc8 (Nat.le_of_ble_eq_true rfl) rfl (j := 13) (Nat.le_of_ble_eq_true rfl) lf_X8_149 (v := .int (gI σ 0 13)) (congrArg Value.int (show gI (sI σ 0 14 ((gI σ 0 14) + 1)) 0 13 = gI σ 0 13 from gI_sIj (by decide))) dX8_isLine_87 rfl ?_
  obtain ⟨s8, h⟩ := h
  refine Rf_iastore X (Nat.le_of_ble_eq_true rfl) rfl rfl s8 dX8_isLine_90 rfl ?_
  refine Rf_iconst X (v := 1) rfl dX8_isLine_91 rfl ?_
  exact Rf_iret X rfl dX8_isLine_92 ⟨_, rfl, h⟩
def wp_X8_isLine (κ_X8_isE : rfS → (Int32 → rfS → Prop) → Prop) (σ : rfS) (Q : Int32 → rfS → Prop) : Prop :=
  vp_in (gI σ 0 14) 61 ∧ κ_X8_isE (sF σ 8 ((gI σ 0 14).toNatClampNeg) (gI σ 0 13)) (fun (r3 : Int32) (σ2 : rfS) => ((¬ r3 = 0 → vp_in (gI σ2 0 14) 61 ∧ vp_in (gI σ2 0 14) 61 ∧ wp_X8_is (sF σ2 9 ((gI σ2 0 14).toNatClampNeg) (gF σ2 8 ((gI σ2 0 14).toNatClampNeg))) 63 (fun (r7 : Int32) (σ6 : rfS) => ((r7 = 0 → wj_X8_isLine_71 κ_X8_isE Q σ6) ∧ (¬ r7 = 0 → vp_in (gI σ6 0 14) 61 ∧ κ_X8_isE (sF σ6 9 ((gI σ6 0 14).toNatClampNeg) (gI σ6 0 13)) (fun (r11 : Int32) (σ10 : rfS) => ((¬ r11 = 0 → wj_X8_isLine_71 κ_X8_isE Q σ10) ∧ (r11 = 0 → Q 0 σ10))))))) ∧ (r3 = 0 → Q 0 σ2)))
set_option maxRecDepth 20000 in
theorem k_X8_isLine {d : Nat} {κ_X8_isE : rfS → (Int32 → rfS → Prop) → Prop} (hκ_X8_isE : ∀ (σ : rfS) (Q : Int32 → rfS → Prop), κ_X8_isE σ Q → RM ΛM d yX8_isE cX8_isE 1 (some .boolean) [.ref 0] σ (qi Q)) (hB : 1 ≤ d) {σ : rfS} {Q : Int32 → rfS → Prop} (h : wp_X8_isLine κ_X8_isE σ Q) : RM ΛM (d + 1) yX8_isLine cX8_isLine 1 (some .boolean) [.ref 0] σ (qi Q) := by
  unfold wp_X8_isLine at h
  refine RM.intro (by decide) (Nat.le_of_ble_eq_true rfl) (fun E X => ?_)
  show Rf ΛM (d + 1) E 1 (qi Q) 0 [(0, .ref 0)] [] σ
  refine Rf_aload_n X (j := 0) rfl rfl dX8_isLine_0 rfl ?_
  refine Rf_get X kc8 (Nat.le_of_ble_eq_true rfl) rfl (j := 15) (Nat.le_of_ble_eq_true rfl) lf_X8_33 (v := .ref 8) rfl dX8_isLine_1 rfl ?_
  refine Rf_aload_n X (j := 0) rfl rfl dX8_isLine_4 rfl ?_
  refine Rf_get X kc8 (Nat.le_of_ble_eq_true rfl) rfl (j := 14) (Nat.le_of_ble_eq_true rfl) lf_X8_187 (v := .int (gI σ 0 14)) rfl dX8_isLine_5 rfl ?_
  refine Rf_aload_n X (j := 0) rfl rfl dX8_isLine_8 rfl ?_
  refine Rf_get X kc8 (Nat.le_of_ble_eq_true rfl) rfl (j := 13) (Nat.le_of_ble_eq_true rfl) lf_X8_149 (v := .int (gI σ 0 13)) rfl dX8_isLine_9 rfl ?_
  obtain ⟨s1, h⟩ := h
  refine Rf_iastore X (Nat.le_of_ble_eq_true rfl) rfl rfl s1 dX8_isLine_12 rfl ?_
  refine Rf_aload_n X (j := 0) rfl rfl dX8_isLine_13 rfl ?_
  refine Rf_cVi (as := []) (st := []) X mi_X8_isE lm_X8_172 rfl (Nat.le_of_ble_eq_true rfl) rfl (hκ_X8_isE _ _ h) (Nat.le_refl _) rfl rfl (Nat.le_of_ble_eq_true rfl) dX8_isLine_14 rfl (fun r3 σ2 h => ?_)
  refine Rf_if_ne X (tgt := 22) dX8_isLine_17 rfl rfl (fun c14 => ?_) (fun c14 => ?_)
  · have h := h.1 c14
    refine Rf_aload_n X (j := 0) rfl rfl dX8_isLine_22 rfl ?_
    refine Rf_get X kc8 (Nat.le_of_ble_eq_true rfl) rfl (j := 16) (Nat.le_of_ble_eq_true rfl) lf_X8_36 (v := .ref 9) rfl dX8_isLine_23 rfl ?_
    refine Rf_aload_n X (j := 0) rfl rfl dX8_isLine_26 rfl ?_
    refine Rf_get X kc8 (Nat.le_of_ble_eq_true rfl) rfl (j := 14) (Nat.le_of_ble_eq_true rfl) lf_X8_187 (v := .int (gI σ2 0 14)) rfl dX8_isLine_27 rfl ?_
    refine Rf_aload_n X (j := 0) rfl rfl dX8_isLine_30 rfl ?_
    refine Rf_get X kc8 (Nat.le_of_ble_eq_true rfl) rfl (j := 15) (Nat.le_of_ble_eq_true rfl) lf_X8_33 (v := .ref 8) rfl dX8_isLine_31 rfl ?_
    refine Rf_aload_n X (j := 0) rfl rfl dX8_isLine_34 rfl ?_
    refine Rf_get X kc8 (Nat.le_of_ble_eq_true rfl) rfl (j := 14) (Nat.le_of_ble_eq_true rfl) lf_X8_187 (v := .int (gI σ2 0 14)) rfl dX8_isLine_35 rfl ?_
    obtain ⟨s4, h⟩ := h
    refine Rf_iaload X (Nat.le_of_ble_eq_true rfl) rfl rfl s4 dX8_isLine_38 rfl (v := gF σ2 8 ((gI σ2 0 14).toNatClampNeg)) rfl ?_
    obtain ⟨s5, h⟩ := h
    refine Rf_iastore X (Nat.le_of_ble_eq_true rfl) rfl rfl s5 dX8_isLine_39 rfl ?_
    refine Rf_aload_n X (j := 0) rfl rfl dX8_isLine_40 rfl ?_
    refine Rf_bipush X (v := 63) rfl dX8_isLine_41 rfl ?_
    refine Rf_cVi (as := [.int 63]) (st := []) X mi_X8_is lm_X8_166 rfl (Nat.le_of_ble_eq_true rfl) rfl (k_X8_is h) (by omega) rfl rfl (Nat.le_of_ble_eq_true rfl) dX8_isLine_43 rfl (fun r7 σ6 h => ?_)
    refine Rf_if_eq X (tgt := 71) dX8_isLine_46 rfl rfl (fun c13 => ?_) (fun c13 => ?_)
    · have h := h.1 c13
      exact sj_X8_isLine_71 X hκ_X8_isE hB  _ h
    · have h := h.2 c13
      refine Rf_aload_n X (j := 0) rfl rfl dX8_isLine_49 rfl ?_
      refine Rf_get X kc8 (Nat.le_of_ble_eq_true rfl) rfl (j := 16) (Nat.le_of_ble_eq_true rfl) lf_X8_36 (v := .ref 9) rfl dX8_isLine_50 rfl ?_
      refine Rf_aload_n X (j := 0) rfl rfl dX8_isLine_53 rfl ?_
      refine Rf_get X kc8 (Nat.le_of_ble_eq_true rfl) rfl (j := 14) (Nat.le_of_ble_eq_true rfl) lf_X8_187 (v := .int (gI σ6 0 14)) rfl dX8_isLine_54 rfl ?_
      refine Rf_aload_n X (j := 0) rfl rfl dX8_isLine_57 rfl ?_
      refine Rf_get X kc8 (Nat.le_of_ble_eq_true rfl) rfl (j := 13) (Nat.le_of_ble_eq_true rfl) lf_X8_149 (v := .int (gI σ6 0 13)) rfl dX8_isLine_58 rfl ?_
      obtain ⟨s9, h⟩ := h
      refine Rf_iastore X (Nat.le_of_ble_eq_true rfl) rfl rfl s9 dX8_isLine_61 rfl ?_
      refine Rf_aload_n X (j := 0) rfl rfl dX8_isLine_62 rfl ?_
      refine Rf_cVi (as := []) (st := []) X mi_X8_isE lm_X8_172 rfl (Nat.le_of_ble_eq_true rfl) rfl (hκ_X8_isE _ _ h) (Nat.le_refl _) rfl rfl (Nat.le_of_ble_eq_true rfl) dX8_isLine_63 rfl (fun r11 σ10 h => ?_)
      refine Rf_if_ne X (tgt := 71) dX8_isLine_66 rfl rfl (fun c12 => ?_) (fun c12 => ?_)
      · have h := h.1 c12
        exact sj_X8_isLine_71 X hκ_X8_isE hB  _ h
      · have h := h.2 c12
        refine Rf_iconst X (v := 0) rfl dX8_isLine_69 rfl ?_
        exact Rf_iret X rfl dX8_isLine_70 ⟨_, rfl, h⟩
  · have h := h.2 c14
    refine Rf_iconst X (v := 0) rfl dX8_isLine_20 rfl ?_
    exact Rf_iret X rfl dX8_isLine_21 ⟨_, rfl, h⟩
def wl_X8_law_25 (κ_X8_isLine : rfS → (Int32 → rfS → Prop) → Prop) (Q : Int32 → rfS → Prop) (kx_46 : Int32 → rfS → Prop) : Nat → Int32 → rfS → Prop
  | 0, _, _ => False
  | n + 1, x1, σ => ((x1 = 0 → kx_46 x1 σ) ∧ (¬ x1 = 0 → wp_X8_is σ 59 (fun (r4 : Int32) (σ3 : rfS) => ((r4 = 0 → kx_46 x1 σ3) ∧ (¬ r4 = 0 → κ_X8_isLine σ3 (fun (r6 : Int32) (σ5 : rfS) => wl_X8_law_25 κ_X8_isLine Q kx_46 n r6 σ5))))))
set_option maxRecDepth 20000 in
theorem sl_X8_law_25 {d : Nat} {E : rfE} {Q : Int32 → rfS → Prop} (X : rfX ΛM E yX8_law cX8_law 4 (some .int)) {κ_X8_isLine : rfS → (Int32 → rfS → Prop) → Prop} (hκ_X8_isLine : ∀ (σ : rfS) (Q : Int32 → rfS → Prop), κ_X8_isLine σ Q → RM ΛM d yX8_isLine cX8_isLine 1 (some .boolean) [.ref 0] σ (qi Q)) (hB : 1 ≤ d) {kx_46 : Int32 → rfS → Prop} (hkx_46 : ∀ (x1 : Int32) (σ : rfS), kx_46 x1 σ → Rf ΛM (d + 1) E 4 (qi Q) 46 [(0, .ref 0), (1, .int x1)] [] σ) : ∀ (n : Nat) (x1 : Int32) (σ : rfS), wl_X8_law_25 κ_X8_isLine Q kx_46 n x1 σ → Rf ΛM (d + 1) E 4 (qi Q) 25 [(0, .ref 0), (1, .int x1)] [] σ := by
  intro n
  induction n with
  | zero =>
    intro x1 σ h
    exact False.elim h
  | succ n hkb_25 =>
    intro x1 σ h
    unfold wl_X8_law_25 at h
    refine Rf_iload_n X (j := 1) rfl rfl dX8_law_25 rfl ?_
    refine Rf_if_eq X (tgt := 46) dX8_law_26 rfl rfl (fun c8 => ?_) (fun c8 => ?_)
    · have h := h.1 c8
      exact hkx_46 _ σ h
    · have h := h.2 c8
      refine Rf_aload_n X (j := 0) rfl rfl dX8_law_29 rfl ?_
      refine Rf_bipush X (v := 59) rfl dX8_law_30 rfl ?_
      refine Rf_cVi (as := [.int 59]) (st := []) X mi_X8_is lm_X8_166 rfl (Nat.le_of_ble_eq_true rfl) rfl (k_X8_is h) (by omega) rfl rfl (Nat.le_of_ble_eq_true rfl) dX8_law_32 rfl (fun r4 σ3 h => ?_)
      refine Rf_if_eq X (tgt := 46) dX8_law_35 rfl rfl (fun c7 => ?_) (fun c7 => ?_)
      · have h := h.1 c7
        exact hkx_46 _ σ3 h
      · have h := h.2 c7
        refine Rf_aload_n X (j := 0) rfl rfl dX8_law_38 rfl ?_
        refine Rf_cVi (as := []) (st := []) X mi_X8_isLine lm_X8_190 rfl (Nat.le_of_ble_eq_true rfl) rfl (hκ_X8_isLine _ _ h) (Nat.le_refl _) rfl rfl (Nat.le_of_ble_eq_true rfl) dX8_law_39 rfl (fun r6 σ5 h => ?_)
        refine Rf_istore_n X rfl (i := 1) (Nat.le_of_ble_eq_true rfl) (ls2 := [(1, .int r6), (0, .ref 0)]) rfl dX8_law_42 rfl ?_
        refine Rf_goto X (tgt := 25) dX8_law_43 rfl ?_
        refine Rf_sub [1, 0] rfl ?_
        exact hkb_25 _ σ5 h
def wl_X8_law_99 (κ_X8_isLine : rfS → (Int32 → rfS → Prop) → Prop) (Q : Int32 → rfS → Prop) (kx_149 : rfS → Prop) : Nat → Int32 → rfS → Prop
  | 0, _, _ => False
  | n + 1, x3, σ => (((gI σ 0 6) ≤ x3 → kx_149 σ) ∧ (¬ ((gI σ 0 6) ≤ x3) → vp_in x3 61 ∧ vp_in x3 60 ∧ vp_in x3 61 ∧ vp_in x3 60 ∧ vp_in x3 61 ∧ vp_in x3 60 ∧ (wl_X8_law_99 κ_X8_isLine Q kx_149 n (x3 + 1) (sF (sF (sF σ 4 (x3.toNatClampNeg) (gF σ 8 (x3.toNatClampNeg))) 5 (x3.toNatClampNeg) (gF σ 9 (x3.toNatClampNeg))) 6 (x3.toNatClampNeg) (gF σ 10 (x3.toNatClampNeg))))))
set_option maxRecDepth 20000 in
theorem sl_X8_law_99 {d : Nat} {E : rfE} {Q : Int32 → rfS → Prop} (X : rfX ΛM E yX8_law cX8_law 4 (some .int)) {κ_X8_isLine : rfS → (Int32 → rfS → Prop) → Prop} (hκ_X8_isLine : ∀ (σ : rfS) (Q : Int32 → rfS → Prop), κ_X8_isLine σ Q → RM ΛM d yX8_isLine cX8_isLine 1 (some .boolean) [.ref 0] σ (qi Q)) (hB : 1 ≤ d) {kx_149 : rfS → Prop} (hkx_149 : ∀ (σ : rfS), kx_149 σ → Rf ΛM (d + 1) E 4 (qi Q) 149 [(0, .ref 0)] [] σ) : ∀ (n : Nat) (x3 : Int32) (σ : rfS), wl_X8_law_99 κ_X8_isLine Q kx_149 n x3 σ → Rf ΛM (d + 1) E 4 (qi Q) 99 [(0, .ref 0), (3, .int x3)] [] σ := by
  intro n
  induction n with
  | zero =>
    intro x3 σ h
    exact False.elim h
  | succ n hkb_99 =>
    intro x3 σ h
    unfold wl_X8_law_99 at h
    refine Rf_iload_n X (j := 1) rfl rfl dX8_law_99 rfl ?_
    refine Rf_aload_n X (j := 0) rfl rfl dX8_law_100 rfl ?_
    refine Rf_get X kc8 (Nat.le_of_ble_eq_true rfl) rfl (j := 6) (Nat.le_of_ble_eq_true rfl) lf_X8_197 (v := .int (gI σ 0 6)) rfl dX8_law_101 rfl ?_
    refine Rf_icmp_ge X (tgt := 149) dX8_law_104 rfl rfl (fun c18 => ?_) (fun c18 => ?_)
    · have h := h.1 c18
      refine Rf_sub [0] rfl ?_
      exact hkx_149 σ h
    · have h := h.2 c18
      refine Rf_aload_n X (j := 0) rfl rfl dX8_law_107 rfl ?_
      refine Rf_get X kc8 (Nat.le_of_ble_eq_true rfl) rfl (j := 7) (Nat.le_of_ble_eq_true rfl) lf_X8_21 (v := .ref 4) rfl dX8_law_108 rfl ?_
      refine Rf_iload_n X (j := 1) rfl rfl dX8_law_111 rfl ?_
      refine Rf_aload_n X (j := 0) rfl rfl dX8_law_112 rfl ?_
      refine Rf_get X kc8 (Nat.le_of_ble_eq_true rfl) rfl (j := 15) (Nat.le_of_ble_eq_true rfl) lf_X8_33 (v := .ref 8) rfl dX8_law_113 rfl ?_
      refine Rf_iload_n X (j := 1) rfl rfl dX8_law_116 rfl ?_
      obtain ⟨s12, h⟩ := h
      refine Rf_iaload X (Nat.le_of_ble_eq_true rfl) rfl rfl s12 dX8_law_117 rfl (v := gF σ 8 (x3.toNatClampNeg)) rfl ?_
      obtain ⟨s13, h⟩ := h
      refine Rf_iastore X (Nat.le_of_ble_eq_true rfl) rfl rfl s13 dX8_law_118 rfl ?_
      refine Rf_aload_n X (j := 0) rfl rfl dX8_law_119 rfl ?_
      refine Rf_get X kc8 (Nat.le_of_ble_eq_true rfl) rfl (j := 8) (Nat.le_of_ble_eq_true rfl) lf_X8_24 (v := .ref 5) rfl dX8_law_120 rfl ?_
      refine Rf_iload_n X (j := 1) rfl rfl dX8_law_123 rfl ?_
      refine Rf_aload_n X (j := 0) rfl rfl dX8_law_124 rfl ?_
      refine Rf_get X kc8 (Nat.le_of_ble_eq_true rfl) rfl (j := 16) (Nat.le_of_ble_eq_true rfl) lf_X8_36 (v := .ref 9) rfl dX8_law_125 rfl ?_
      refine Rf_iload_n X (j := 1) rfl rfl dX8_law_128 rfl ?_
      obtain ⟨s14, h⟩ := h
      refine Rf_iaload X (Nat.le_of_ble_eq_true rfl) rfl rfl s14 dX8_law_129 rfl (v := gF σ 9 (x3.toNatClampNeg)) (show gF (sF σ 4 (x3.toNatClampNeg) (gF σ 8 (x3.toNatClampNeg))) 9 (x3.toNatClampNeg) = gF σ 9 (x3.toNatClampNeg) from gF_sFn (by decide)) ?_
      obtain ⟨s15, h⟩ := h
      refine Rf_iastore X (Nat.le_of_ble_eq_true rfl) rfl rfl s15 dX8_law_130 rfl ?_
      refine Rf_aload_n X (j := 0) rfl rfl dX8_law_131 rfl ?_
      refine Rf_get X kc8 (Nat.le_of_ble_eq_true rfl) rfl (j := 9) (Nat.le_of_ble_eq_true rfl) lf_X8_27 (v := .ref 6) rfl dX8_law_132 rfl ?_
      refine Rf_iload_n X (j := 1) rfl rfl dX8_law_135 rfl ?_
      refine Rf_aload_n X (j := 0) rfl rfl dX8_law_136 rfl ?_
      refine Rf_get X kc8 (Nat.le_of_ble_eq_true rfl) rfl (j := 17) (Nat.le_of_ble_eq_true rfl) lf_X8_39 (v := .ref 10) rfl dX8_law_137 rfl ?_
      refine Rf_iload_n X (j := 1) rfl rfl dX8_law_140 rfl ?_
      obtain ⟨s16, h⟩ := h
      refine Rf_iaload X (Nat.le_of_ble_eq_true rfl) rfl rfl s16 dX8_law_141 rfl (v := gF σ 10 (x3.toNatClampNeg)) (show gF (sF (sF σ 4 (x3.toNatClampNeg) (gF σ 8 (x3.toNatClampNeg))) 5 (x3.toNatClampNeg) (gF σ 9 (x3.toNatClampNeg))) 10 (x3.toNatClampNeg) = gF σ 10 (x3.toNatClampNeg) from (gF_sFn (by decide)).trans (gF_sFn (by decide))) ?_
      obtain ⟨s17, h⟩ := h
      refine Rf_iastore X (Nat.le_of_ble_eq_true rfl) rfl rfl s17 dX8_law_142 rfl ?_
      refine Rf_iinc X (i := 3) (j := 1) (v := x3 + 1) rfl rfl (Nat.le_of_ble_eq_true rfl) (ls2 := [(3, .int (x3 + 1)), (0, .ref 0)]) rfl dX8_law_143 rfl ?_
      refine Rf_goto X (tgt := 99) dX8_law_146 rfl ?_
      refine Rf_sub [1, 0] rfl ?_
      exact hkb_99 _ (sF (sF (sF σ 4 (x3.toNatClampNeg) (gF σ 8 (x3.toNatClampNeg))) 5 (x3.toNatClampNeg) (gF σ 9 (x3.toNatClampNeg))) 6 (x3.toNatClampNeg) (gF σ 10 (x3.toNatClampNeg))) h
def wl_X8_law_151 (κ_X8_isLine : rfS → (Int32 → rfS → Prop) → Prop) (Q : Int32 → rfS → Prop) : Nat → Int32 → rfS → Prop
  | 0, _, _ => False
  | n + 1, x3, σ => (((gI σ 0 13) ≤ x3 → Q 1 σ) ∧ (¬ ((gI σ 0 13) ≤ x3) → vp_in x3 200 ∧ vp_in x3 200 ∧ (wl_X8_law_151 κ_X8_isLine Q n (x3 + 1) (sF σ 7 (x3.toNatClampNeg) (gF σ 11 (x3.toNatClampNeg))))))
set_option maxRecDepth 20000 in
theorem sl_X8_law_151 {d : Nat} {E : rfE} {Q : Int32 → rfS → Prop} (X : rfX ΛM E yX8_law cX8_law 4 (some .int)) {κ_X8_isLine : rfS → (Int32 → rfS → Prop) → Prop} (hκ_X8_isLine : ∀ (σ : rfS) (Q : Int32 → rfS → Prop), κ_X8_isLine σ Q → RM ΛM d yX8_isLine cX8_isLine 1 (some .boolean) [.ref 0] σ (qi Q)) (hB : 1 ≤ d) : ∀ (n : Nat) (x3 : Int32) (σ : rfS), wl_X8_law_151 κ_X8_isLine Q n x3 σ → Rf ΛM (d + 1) E 4 (qi Q) 151 [(0, .ref 0), (3, .int x3)] [] σ := by
  intro n
  induction n with
  | zero =>
    intro x3 σ h
    exact False.elim h
  | succ n hkb_151 =>
    intro x3 σ h
    unfold wl_X8_law_151 at h
    refine Rf_iload_n X (j := 1) rfl rfl dX8_law_151 rfl ?_
    refine Rf_aload_n X (j := 0) rfl rfl dX8_law_152 rfl ?_
    refine Rf_get X kc8 (Nat.le_of_ble_eq_true rfl) rfl (j := 13) (Nat.le_of_ble_eq_true rfl) lf_X8_149 (v := .int (gI σ 0 13)) rfl dX8_law_153 rfl ?_
    refine Rf_icmp_ge X (tgt := 177) dX8_law_156 rfl rfl (fun c23 => ?_) (fun c23 => ?_)
    · have h := h.1 c23
      refine Rf_iconst X (v := 1) rfl dX8_law_177 rfl ?_
      exact Rf_iret X rfl dX8_law_178 ⟨_, rfl, h⟩
    · have h := h.2 c23
      refine Rf_aload_n X (j := 0) rfl rfl dX8_law_159 rfl ?_
      refine Rf_get X kc8 (Nat.le_of_ble_eq_true rfl) rfl (j := 10) (Nat.le_of_ble_eq_true rfl) lf_X8_30 (v := .ref 7) rfl dX8_law_160 rfl ?_
      refine Rf_iload_n X (j := 1) rfl rfl dX8_law_163 rfl ?_
      refine Rf_aload_n X (j := 0) rfl rfl dX8_law_164 rfl ?_
      refine Rf_get X kc8 (Nat.le_of_ble_eq_true rfl) rfl (j := 18) (Nat.le_of_ble_eq_true rfl) lf_X8_42 (v := .ref 11) rfl dX8_law_165 rfl ?_
      refine Rf_iload_n X (j := 1) rfl rfl dX8_law_168 rfl ?_
      obtain ⟨s21, h⟩ := h
      refine Rf_iaload X (Nat.le_of_ble_eq_true rfl) rfl rfl s21 dX8_law_169 rfl (v := gF σ 11 (x3.toNatClampNeg)) rfl ?_
      obtain ⟨s22, h⟩ := h
      refine Rf_iastore X (Nat.le_of_ble_eq_true rfl) rfl rfl s22 dX8_law_170 rfl ?_
      refine Rf_iinc X (i := 3) (j := 1) (v := x3 + 1) rfl rfl (Nat.le_of_ble_eq_true rfl) (ls2 := [(3, .int (x3 + 1)), (0, .ref 0)]) rfl dX8_law_171 rfl ?_
      refine Rf_goto X (tgt := 151) dX8_law_174 rfl ?_
      refine Rf_sub [1, 0] rfl ?_
      exact hkb_151 _ (sF σ 7 (x3.toNatClampNeg) (gF σ 11 (x3.toNatClampNeg))) h
def wj_X8_law_66 (κ_X8_isLine : rfS → (Int32 → rfS → Prop) → Prop) (Q : Int32 → rfS → Prop) (xs0 : Int32) (σ : rfS) : Prop :=
  ((¬ xs0 = 0 → (∃ n19, wl_X8_law_99 κ_X8_isLine Q (fun (σ20 : rfS) => (∃ n24, wl_X8_law_151 κ_X8_isLine Q n24 0 σ20)) n19 0 (sI (sI (sI σ 0 3 0) 0 5 1) 0 6 (gI σ 0 14)))) ∧ (xs0 = 0 → Q ((-100) - (gI σ 0 11)) (sI σ 0 3 0)))
set_option maxRecDepth 20000 in
theorem sj_X8_law_66 {d : Nat} {E : rfE} {Q : Int32 → rfS → Prop} (X : rfX ΛM E yX8_law cX8_law 4 (some .int)) {κ_X8_isLine : rfS → (Int32 → rfS → Prop) → Prop} (hκ_X8_isLine : ∀ (σ : rfS) (Q : Int32 → rfS → Prop), κ_X8_isLine σ Q → RM ΛM d yX8_isLine cX8_isLine 1 (some .boolean) [.ref 0] σ (qi Q)) (hB : 1 ≤ d) (xs0 : Int32) (σ : rfS) (h : wj_X8_law_66 κ_X8_isLine Q xs0 σ) : Rf ΛM (d + 1) E 4 (qi Q) 66 [(0, .ref 0)] [.int xs0] σ := by
  unfold wj_X8_law_66 at h
  refine Rf_istore_n X rfl (i := 2) (Nat.le_of_ble_eq_true rfl) (ls2 := [(2, .int xs0), (0, .ref 0)]) rfl dX8_law_66 rfl ?_
  refine Rf_aload_n X (j := 1) rfl rfl dX8_law_67 rfl ?_
  refine Rf_iconst X (v := 0) rfl dX8_law_68 rfl ?_
  refine Rf_put X kc8 (Nat.le_of_ble_eq_true rfl) rfl (j := 3) (Nat.le_of_ble_eq_true rfl) rfl lf_X8_139 rfl rfl rfl dX8_law_69 rfl ?_
  refine Rf_iload_n X (j := 0) rfl rfl dX8_law_72 rfl ?_
  refine Rf_if_ne X (tgt := 84) dX8_law_73 rfl rfl (fun c25 => ?_) (fun c25 => ?_)
  · have h := h.1 c25
    refine Rf_aload_n X (j := 1) rfl rfl dX8_law_84 rfl ?_
    refine Rf_iconst X (v := 1) rfl dX8_law_85 rfl ?_
    refine Rf_put X kc8 (Nat.le_of_ble_eq_true rfl) rfl (j := 5) (Nat.le_of_ble_eq_true rfl) rfl lf_X8_193 rfl rfl rfl dX8_law_86 rfl ?_
    refine Rf_aload_n X (j := 1) rfl rfl dX8_law_89 rfl ?_
    refine Rf_aload_n X (j := 1) rfl rfl dX8_law_90 rfl ?_
    refine Rf_get X kc8 (Nat.le_of_ble_eq_true rfl) rfl (j := 14) (Nat.le_of_ble_eq_true rfl) lf_X8_187 (v := .int (gI σ 0 14)) (congrArg Value.int (show gI (sI (sI σ 0 3 0) 0 5 1) 0 14 = gI σ 0 14 from (gI_sIj (by decide)).trans (gI_sIj (by decide)))) dX8_law_91 rfl ?_
    refine Rf_put X kc8 (Nat.le_of_ble_eq_true rfl) rfl (j := 6) (Nat.le_of_ble_eq_true rfl) rfl lf_X8_197 rfl rfl rfl dX8_law_94 rfl ?_
    refine Rf_iconst X (v := 0) rfl dX8_law_97 rfl ?_
    refine Rf_istore_n X rfl (i := 3) (Nat.le_of_ble_eq_true rfl) (ls2 := [(3, .int 0), (2, .int xs0), (0, .ref 0)]) rfl dX8_law_98 rfl ?_
    obtain ⟨n19, h⟩ := h
    refine Rf_sub [2, 0] rfl ?_
    refine sl_X8_law_99 X hκ_X8_isLine hB (fun σ20 h => ?_) n19 _ _ h
    · refine Rf_iconst X (v := 0) rfl dX8_law_149 rfl ?_
      refine Rf_istore_n X rfl (i := 3) (Nat.le_of_ble_eq_true rfl) (ls2 := [(3, .int 0), (0, .ref 0)]) rfl dX8_law_150 rfl ?_
      obtain ⟨n24, h⟩ := h
      refine Rf_sub [1, 0] rfl ?_
      exact sl_X8_law_151 X hκ_X8_isLine hB n24 _ _ h
  · have h := h.2 c25
    refine Rf_bipush X (v := (-100)) (by decide) dX8_law_76 rfl ?_
    refine Rf_aload_n X (j := 1) rfl rfl dX8_law_78 rfl ?_
    refine Rf_get X kc8 (Nat.le_of_ble_eq_true rfl) rfl (j := 11) (Nat.le_of_ble_eq_true rfl) lf_X8_142 (v := .int (gI σ 0 11)) (congrArg Value.int (show gI (sI σ 0 3 0) 0 11 = gI σ 0 11 from gI_sIj (by decide))) dX8_law_79 rfl ?_
    refine Rf_isub X dX8_law_82 rfl ?_
    exact Rf_iret X rfl dX8_law_83 ⟨_, rfl, h⟩
def wj_X8_law_65 (κ_X8_isLine : rfS → (Int32 → rfS → Prop) → Prop) (Q : Int32 → rfS → Prop) (σ : rfS) : Prop :=
  wj_X8_law_66 κ_X8_isLine Q 0 σ
set_option maxRecDepth 20000 in
theorem sj_X8_law_65 {d : Nat} {E : rfE} {Q : Int32 → rfS → Prop} (X : rfX ΛM E yX8_law cX8_law 4 (some .int)) {κ_X8_isLine : rfS → (Int32 → rfS → Prop) → Prop} (hκ_X8_isLine : ∀ (σ : rfS) (Q : Int32 → rfS → Prop), κ_X8_isLine σ Q → RM ΛM d yX8_isLine cX8_isLine 1 (some .boolean) [.ref 0] σ (qi Q)) (hB : 1 ≤ d) (σ : rfS) (h : wj_X8_law_65 κ_X8_isLine Q σ) : Rf ΛM (d + 1) E 4 (qi Q) 65 [(0, .ref 0)] [] σ := by
  unfold wj_X8_law_65 at h
  refine Rf_iconst X (v := 0) rfl dX8_law_65 rfl ?_
  exact sj_X8_law_66 X hκ_X8_isLine hB _ _ h
def wj_X8_law_46 (κ_X8_isLine : rfS → (Int32 → rfS → Prop) → Prop) (Q : Int32 → rfS → Prop) (x1 : Int32) (σ : rfS) : Prop :=
  ((x1 = 0 → wj_X8_law_65 κ_X8_isLine Q σ) ∧ (¬ x1 = 0 → ((¬ (gI σ 0 11) = (gI σ 0 3) → wj_X8_law_65 κ_X8_isLine Q σ) ∧ ((gI σ 0 11) = (gI σ 0 3) → wj_X8_law_66 κ_X8_isLine Q 1 σ))))
set_option maxRecDepth 20000 in
theorem sj_X8_law_46 {d : Nat} {E : rfE} {Q : Int32 → rfS → Prop} (X : rfX ΛM E yX8_law cX8_law 4 (some .int)) {κ_X8_isLine : rfS → (Int32 → rfS → Prop) → Prop} (hκ_X8_isLine : ∀ (σ : rfS) (Q : Int32 → rfS → Prop), κ_X8_isLine σ Q → RM ΛM d yX8_isLine cX8_isLine 1 (some .boolean) [.ref 0] σ (qi Q)) (hB : 1 ≤ d) (x1 : Int32) (σ : rfS) (h : wj_X8_law_46 κ_X8_isLine Q x1 σ) : Rf ΛM (d + 1) E 4 (qi Q) 46 [(0, .ref 0), (1, .int x1)] [] σ := by
  unfold wj_X8_law_46 at h
  refine Rf_iload_n X (j := 1) rfl rfl dX8_law_46 rfl ?_
  refine Rf_if_eq X (tgt := 65) dX8_law_47 rfl rfl (fun c27 => ?_) (fun c27 => ?_)
  · have h := h.1 c27
    refine Rf_sub [0] rfl ?_
    exact sj_X8_law_65 X hκ_X8_isLine hB  _ h
  · have h := h.2 c27
    refine Rf_aload_n X (j := 0) rfl rfl dX8_law_50 rfl ?_
    refine Rf_get X kc8 (Nat.le_of_ble_eq_true rfl) rfl (j := 11) (Nat.le_of_ble_eq_true rfl) lf_X8_142 (v := .int (gI σ 0 11)) rfl dX8_law_51 rfl ?_
    refine Rf_aload_n X (j := 0) rfl rfl dX8_law_54 rfl ?_
    refine Rf_get X kc8 (Nat.le_of_ble_eq_true rfl) rfl (j := 3) (Nat.le_of_ble_eq_true rfl) lf_X8_139 (v := .int (gI σ 0 3)) rfl dX8_law_55 rfl ?_
    refine Rf_icmp_ne X (tgt := 65) dX8_law_58 rfl rfl (fun c26 => ?_) (fun c26 => ?_)
    · have h := h.1 c26
      refine Rf_sub [0] rfl ?_
      exact sj_X8_law_65 X hκ_X8_isLine hB  _ h
    · have h := h.2 c26
      refine Rf_iconst X (v := 1) rfl dX8_law_61 rfl ?_
      refine Rf_goto X (tgt := 66) dX8_law_62 rfl ?_
      refine Rf_sub [0] rfl ?_
      exact sj_X8_law_66 X hκ_X8_isLine hB _ _ h
def wp_X8_law (κ_X8_isLine : rfS → (Int32 → rfS → Prop) → Prop) (σ : rfS) (Q : Int32 → rfS → Prop) : Prop :=
  κ_X8_isLine (sI (sI (sI (sI σ 0 11 0) 0 12 0) 0 13 0) 0 14 0) (fun (r2 : Int32) (σ1 : rfS) => (∃ n9, wl_X8_law_25 κ_X8_isLine Q (fun (x1_10 : Int32) (σ11 : rfS) => wj_X8_law_46 κ_X8_isLine Q x1_10 σ11) n9 r2 σ1))
set_option maxRecDepth 20000 in
theorem k_X8_law {d : Nat} {κ_X8_isLine : rfS → (Int32 → rfS → Prop) → Prop} (hκ_X8_isLine : ∀ (σ : rfS) (Q : Int32 → rfS → Prop), κ_X8_isLine σ Q → RM ΛM d yX8_isLine cX8_isLine 1 (some .boolean) [.ref 0] σ (qi Q)) (hB : 1 ≤ d) {σ : rfS} {Q : Int32 → rfS → Prop} (h : wp_X8_law κ_X8_isLine σ Q) : RM ΛM (d + 1) yX8_law cX8_law 4 (some .int) [.ref 0] σ (qi Q) := by
  unfold wp_X8_law at h
  refine RM.intro (by decide) (Nat.le_of_ble_eq_true rfl) (fun E X => ?_)
  show Rf ΛM (d + 1) E 4 (qi Q) 0 [(0, .ref 0)] [] σ
  refine Rf_aload_n X (j := 0) rfl rfl dX8_law_0 rfl ?_
  refine Rf_iconst X (v := 0) rfl dX8_law_1 rfl ?_
  refine Rf_put X kc8 (Nat.le_of_ble_eq_true rfl) rfl (j := 11) (Nat.le_of_ble_eq_true rfl) rfl lf_X8_142 rfl rfl rfl dX8_law_2 rfl ?_
  refine Rf_aload_n X (j := 0) rfl rfl dX8_law_5 rfl ?_
  refine Rf_iconst X (v := 0) rfl dX8_law_6 rfl ?_
  refine Rf_put X kc8 (Nat.le_of_ble_eq_true rfl) rfl (j := 12) (Nat.le_of_ble_eq_true rfl) rfl lf_X8_163 rfl rfl rfl dX8_law_7 rfl ?_
  refine Rf_aload_n X (j := 0) rfl rfl dX8_law_10 rfl ?_
  refine Rf_iconst X (v := 0) rfl dX8_law_11 rfl ?_
  refine Rf_put X kc8 (Nat.le_of_ble_eq_true rfl) rfl (j := 13) (Nat.le_of_ble_eq_true rfl) rfl lf_X8_149 rfl rfl rfl dX8_law_12 rfl ?_
  refine Rf_aload_n X (j := 0) rfl rfl dX8_law_15 rfl ?_
  refine Rf_iconst X (v := 0) rfl dX8_law_16 rfl ?_
  refine Rf_put X kc8 (Nat.le_of_ble_eq_true rfl) rfl (j := 14) (Nat.le_of_ble_eq_true rfl) rfl lf_X8_187 rfl rfl rfl dX8_law_17 rfl ?_
  refine Rf_aload_n X (j := 0) rfl rfl dX8_law_20 rfl ?_
  refine Rf_cVi (as := []) (st := []) X mi_X8_isLine lm_X8_190 rfl (Nat.le_of_ble_eq_true rfl) rfl (hκ_X8_isLine _ _ h) (Nat.le_refl _) rfl rfl (Nat.le_of_ble_eq_true rfl) dX8_law_21 rfl (fun r2 σ1 h => ?_)
  refine Rf_istore_n X rfl (i := 1) (Nat.le_of_ble_eq_true rfl) (ls2 := [(1, .int r2), (0, .ref 0)]) rfl dX8_law_24 rfl ?_
  obtain ⟨n9, h⟩ := h
  refine Rf_sub [1, 0] rfl ?_
  refine sl_X8_law_25 X hκ_X8_isLine hB (fun x1_10 σ11 h => ?_) n9 _ _ h
  · exact sj_X8_law_46 X hκ_X8_isLine hB _ _ h
def wp_X8_both (σ : rfS) (x0 : Int32) (x1 : Int32) (x2 : Int32) (Q : Int32 → rfS → Prop) : Prop :=
  ((x0 = 6 → ((¬ x1 = 0 → Q 1 σ) ∧ (x1 = 0 → ((x2 = 0 → Q 0 σ) ∧ (¬ x2 = 0 → Q 1 σ))))) ∧ (¬ x0 = 6 → ((x0 = 7 → ((x1 = 0 → Q 0 σ) ∧ (¬ x1 = 0 → ((x2 = 0 → Q 0 σ) ∧ (¬ x2 = 0 → Q 1 σ))))) ∧ (¬ x0 = 7 → ((x0 = 8 → ((x2 ≤ x1 → Q 0 σ) ∧ (¬ (x2 ≤ x1) → Q 1 σ))) ∧ (¬ x0 = 8 → ((x0 = 9 → ((¬ x1 = x2 → Q 0 σ) ∧ (x1 = x2 → Q 1 σ))) ∧ (¬ x0 = 9 → ((x0 = 10 → ((x1 ≤ x2 → Q 0 σ) ∧ (¬ (x1 ≤ x2) → Q 1 σ))) ∧ (¬ x0 = 10 → ((x0 = 11 → Q (x1 + x2) σ) ∧ (¬ x0 = 11 → ((x0 = 12 → Q (x1 - x2) σ) ∧ (¬ x0 = 12 → ((x0 = 13 → Q (x1 * x2) σ) ∧ (¬ x0 = 13 → ((x0 = 14 → ((¬ x2 = 0 → (¬ x2 = 0) ∧ (Q (x1 / x2) σ)) ∧ (x2 = 0 → Q 0 σ))) ∧ (¬ x0 = 14 → ((¬ x2 = 0 → (¬ x2 = 0) ∧ (Q (x1 - x1 / x2 * x2) σ)) ∧ (x2 = 0 → Q 0 σ))))))))))))))))))))
set_option maxRecDepth 20000 in
theorem k_X8_both {σ : rfS} {x0 : Int32} {x1 : Int32} {x2 : Int32} {Q : Int32 → rfS → Prop} (h : wp_X8_both σ x0 x1 x2 Q) : RM ΛM 0 yX8_both cX8_both 3 (some .int) [.int x0, .int x1, .int x2] σ (qi Q) := by
  unfold wp_X8_both at h
  refine RM.intro (by decide) (Nat.le_of_ble_eq_true rfl) (fun E X => ?_)
  show Rf ΛM 0 E 3 (qi Q) 0 [(0, .int x0), (1, .int x1), (2, .int x2)] [] σ
  refine Rf_iload_n X (j := 0) rfl rfl dX8_both_0 rfl ?_
  refine Rf_tsw X (dt := 137) [(6, 52), (7, 66), (8, 80), (9, 91), (10, 102), (11, 113), (12, 117), (13, 121), (14, 125)] dX8_both_1 rfl (by decide +kernel) (by decide +kernel) (by decide +kernel) ?_
  refine And.intro (fun c1 => ?_) (fun c1 => ?_)
  · have h := h.1 c1
    refine Rf_iload_n X (j := 1) rfl rfl dX8_both_52 rfl ?_
    refine Rf_if_ne X (tgt := 60) dX8_both_53 rfl rfl (fun c3 => ?_) (fun c3 => ?_)
    · have h := h.1 c3
      refine Rf_iconst X (v := 1) rfl dX8_both_60 rfl ?_
      refine Rf_goto X (tgt := 65) dX8_both_61 rfl ?_
      exact Rf_iret X rfl dX8_both_65 ⟨_, rfl, h⟩
    · have h := h.2 c3
      refine Rf_iload_n X (j := 2) rfl rfl dX8_both_56 rfl ?_
      refine Rf_if_eq X (tgt := 64) dX8_both_57 rfl rfl (fun c2 => ?_) (fun c2 => ?_)
      · have h := h.1 c2
        refine Rf_iconst X (v := 0) rfl dX8_both_64 rfl ?_
        exact Rf_iret X rfl dX8_both_65 ⟨_, rfl, h⟩
      · have h := h.2 c2
        refine Rf_iconst X (v := 1) rfl dX8_both_60 rfl ?_
        refine Rf_goto X (tgt := 65) dX8_both_61 rfl ?_
        exact Rf_iret X rfl dX8_both_65 ⟨_, rfl, h⟩
  · have h := h.2 c1
    refine And.intro (fun c4 => ?_) (fun c4 => ?_)
    · have h := h.1 c4
      refine Rf_iload_n X (j := 1) rfl rfl dX8_both_66 rfl ?_
      refine Rf_if_eq X (tgt := 78) dX8_both_67 rfl rfl (fun c6 => ?_) (fun c6 => ?_)
      · have h := h.1 c6
        refine Rf_iconst X (v := 0) rfl dX8_both_78 rfl ?_
        exact Rf_iret X rfl dX8_both_79 ⟨_, rfl, h⟩
      · have h := h.2 c6
        refine Rf_iload_n X (j := 2) rfl rfl dX8_both_70 rfl ?_
        refine Rf_if_eq X (tgt := 78) dX8_both_71 rfl rfl (fun c5 => ?_) (fun c5 => ?_)
        · have h := h.1 c5
          refine Rf_iconst X (v := 0) rfl dX8_both_78 rfl ?_
          exact Rf_iret X rfl dX8_both_79 ⟨_, rfl, h⟩
        · have h := h.2 c5
          refine Rf_iconst X (v := 1) rfl dX8_both_74 rfl ?_
          refine Rf_goto X (tgt := 79) dX8_both_75 rfl ?_
          exact Rf_iret X rfl dX8_both_79 ⟨_, rfl, h⟩
    · have h := h.2 c4
      refine And.intro (fun c7 => ?_) (fun c7 => ?_)
      · have h := h.1 c7
        refine Rf_iload_n X (j := 1) rfl rfl dX8_both_80 rfl ?_
        refine Rf_iload_n X (j := 2) rfl rfl dX8_both_81 rfl ?_
        refine Rf_icmp_ge X (tgt := 89) dX8_both_82 rfl rfl (fun c8 => ?_) (fun c8 => ?_)
        · have h := h.1 c8
          refine Rf_iconst X (v := 0) rfl dX8_both_89 rfl ?_
          exact Rf_iret X rfl dX8_both_90 ⟨_, rfl, h⟩
        · have h := h.2 c8
          refine Rf_iconst X (v := 1) rfl dX8_both_85 rfl ?_
          refine Rf_goto X (tgt := 90) dX8_both_86 rfl ?_
          exact Rf_iret X rfl dX8_both_90 ⟨_, rfl, h⟩
      · have h := h.2 c7
        refine And.intro (fun c9 => ?_) (fun c9 => ?_)
        · have h := h.1 c9
          refine Rf_iload_n X (j := 1) rfl rfl dX8_both_91 rfl ?_
          refine Rf_iload_n X (j := 2) rfl rfl dX8_both_92 rfl ?_
          refine Rf_icmp_ne X (tgt := 100) dX8_both_93 rfl rfl (fun c10 => ?_) (fun c10 => ?_)
          · have h := h.1 c10
            refine Rf_iconst X (v := 0) rfl dX8_both_100 rfl ?_
            exact Rf_iret X rfl dX8_both_101 ⟨_, rfl, h⟩
          · have h := h.2 c10
            refine Rf_iconst X (v := 1) rfl dX8_both_96 rfl ?_
            refine Rf_goto X (tgt := 101) dX8_both_97 rfl ?_
            exact Rf_iret X rfl dX8_both_101 ⟨_, rfl, h⟩
        · have h := h.2 c9
          refine And.intro (fun c11 => ?_) (fun c11 => ?_)
          · have h := h.1 c11
            refine Rf_iload_n X (j := 1) rfl rfl dX8_both_102 rfl ?_
            refine Rf_iload_n X (j := 2) rfl rfl dX8_both_103 rfl ?_
            refine Rf_icmp_le X (tgt := 111) dX8_both_104 rfl rfl (fun c12 => ?_) (fun c12 => ?_)
            · have h := h.1 c12
              refine Rf_iconst X (v := 0) rfl dX8_both_111 rfl ?_
              exact Rf_iret X rfl dX8_both_112 ⟨_, rfl, h⟩
            · have h := h.2 c12
              refine Rf_iconst X (v := 1) rfl dX8_both_107 rfl ?_
              refine Rf_goto X (tgt := 112) dX8_both_108 rfl ?_
              exact Rf_iret X rfl dX8_both_112 ⟨_, rfl, h⟩
          · have h := h.2 c11
            refine And.intro (fun c13 => ?_) (fun c13 => ?_)
            · have h := h.1 c13
              refine Rf_iload_n X (j := 1) rfl rfl dX8_both_113 rfl ?_
              refine Rf_iload_n X (j := 2) rfl rfl dX8_both_114 rfl ?_
              refine Rf_iadd X dX8_both_115 rfl ?_
              exact Rf_iret X rfl dX8_both_116 ⟨_, rfl, h⟩
            · have h := h.2 c13
              refine And.intro (fun c14 => ?_) (fun c14 => ?_)
              · have h := h.1 c14
                refine Rf_iload_n X (j := 1) rfl rfl dX8_both_117 rfl ?_
                refine Rf_iload_n X (j := 2) rfl rfl dX8_both_118 rfl ?_
                refine Rf_isub X dX8_both_119 rfl ?_
                exact Rf_iret X rfl dX8_both_120 ⟨_, rfl, h⟩
              · have h := h.2 c14
                refine And.intro (fun c15 => ?_) (fun c15 => ?_)
                · have h := h.1 c15
                  refine Rf_iload_n X (j := 1) rfl rfl dX8_both_121 rfl ?_
                  refine Rf_iload_n X (j := 2) rfl rfl dX8_both_122 rfl ?_
                  refine Rf_imul X dX8_both_123 rfl ?_
                  exact Rf_iret X rfl dX8_both_124 ⟨_, rfl, h⟩
                · have h := h.2 c15
                  refine And.intro (fun c16 => ?_) (fun c16 => ?_)
                  · have h := h.1 c16
                    refine Rf_iload_n X (j := 2) rfl rfl dX8_both_125 rfl ?_
                    refine Rf_if_ne X (tgt := 133) dX8_both_126 rfl rfl (fun c18 => ?_) (fun c18 => ?_)
                    · have h := h.1 c18
                      refine Rf_iload_n X (j := 1) rfl rfl dX8_both_133 rfl ?_
                      refine Rf_iload_n X (j := 2) rfl rfl dX8_both_134 rfl ?_
                      obtain ⟨s17, h⟩ := h
                      refine Rf_idiv X s17 dX8_both_135 rfl ?_
                      exact Rf_iret X rfl dX8_both_136 ⟨_, rfl, h⟩
                    · have h := h.2 c18
                      refine Rf_iconst X (v := 0) rfl dX8_both_129 rfl ?_
                      refine Rf_goto X (tgt := 136) dX8_both_130 rfl ?_
                      exact Rf_iret X rfl dX8_both_136 ⟨_, rfl, h⟩
                  · have h := h.2 c16
                    show Rf ΛM 0 E 3 (qi Q) 137 [(0, .int x0), (1, .int x1), (2, .int x2)] [] σ
                    refine Rf_iload_n X (j := 2) rfl rfl dX8_both_137 rfl ?_
                    refine Rf_if_ne X (tgt := 145) dX8_both_138 rfl rfl (fun c20 => ?_) (fun c20 => ?_)
                    · have h := h.1 c20
                      refine Rf_iload_n X (j := 1) rfl rfl dX8_both_145 rfl ?_
                      refine Rf_iload_n X (j := 2) rfl rfl dX8_both_146 rfl ?_
                      obtain ⟨s19, h⟩ := h
                      refine Rf_irem X s19 dX8_both_147 rfl ?_
                      exact Rf_iret X rfl dX8_both_148 ⟨_, rfl, h⟩
                    · have h := h.2 c20
                      refine Rf_iconst X (v := 0) rfl dX8_both_141 rfl ?_
                      refine Rf_goto X (tgt := 148) dX8_both_142 rfl ?_
                      exact Rf_iret X rfl dX8_both_148 ⟨_, rfl, h⟩
def wj_X8_worked_63 (Q : Int32 → rfS → Prop) (kb_5 : Int32 → Int32 → Int32 → rfS → Prop) (x2 : Int32) (x3 : Int32) (x4 : Int32) (xs0 : Int32) (xs1 : Int32) (σ : rfS) : Prop :=
  vp_in xs1 200 ∧ (kb_5 x2 x3 (x4 + 1) (sF σ 12 (xs1.toNatClampNeg) xs0))
set_option maxRecDepth 20000 in
theorem sj_X8_worked_63 {E : rfE} {Q : Int32 → rfS → Prop} (X : rfX ΛM E yX8_worked cX8_worked 6 (some .int)) {kb_5 : Int32 → Int32 → Int32 → rfS → Prop} (hkb_5 : ∀ (x2 : Int32) (x3 : Int32) (x4 : Int32) (σ : rfS), kb_5 x2 x3 x4 σ → Rf ΛM 1 E 6 (qi Q) 5 [(0, .ref 0), (2, .int x2), (3, .int x3), (4, .int x4)] [] σ) (x2 : Int32) (x3 : Int32) (x4 : Int32) (xs0 : Int32) (xs1 : Int32) (σ : rfS) (h : wj_X8_worked_63 Q kb_5 x2 x3 x4 xs0 xs1 σ) : Rf ΛM 1 E 6 (qi Q) 63 [(0, .ref 0), (2, .int x2), (3, .int x3), (4, .int x4)] [.int xs0, .int xs1, .ref 12] σ := by
  unfold wj_X8_worked_63 at h
  obtain ⟨s3, h⟩ := h
  refine Rf_iastore X (Nat.le_of_ble_eq_true rfl) rfl rfl s3 dX8_worked_63 rfl ?_
  refine Rf_goto X (tgt := 157) dX8_worked_64 rfl ?_
  refine Rf_iinc X (i := 4) (j := 3) (v := x4 + 1) rfl rfl (Nat.le_of_ble_eq_true rfl) (ls2 := [(4, .int (x4 + 1)), (0, .ref 0), (2, .int x2), (3, .int x3)]) rfl dX8_worked_157 rfl ?_
  refine Rf_goto X (tgt := 5) dX8_worked_160 rfl ?_
  refine Rf_sub [1, 2, 3, 0] rfl ?_
  exact hkb_5 _ _ _ (sF σ 12 (xs1.toNatClampNeg) xs0) h
def wj_X8_worked_33 (Q : Int32 → rfS → Prop) (kb_5 : Int32 → Int32 → Int32 → rfS → Prop) (x2 : Int32) (x3 : Int32) (x4 : Int32) (x5 : Int32) (σ : rfS) : Prop :=
  ((x5 < 18 → vp_in x5 6 ∧ (wj_X8_worked_63 Q kb_5 x2 (x3 + 1) x4 (gF σ 13 (x5.toNatClampNeg)) x3 σ)) ∧ (¬ (x5 < 18) → wj_X8_worked_63 Q kb_5 x2 (x3 + 1) x4 (x5 - 18) x3 σ))
set_option maxRecDepth 20000 in
theorem sj_X8_worked_33 {E : rfE} {Q : Int32 → rfS → Prop} (X : rfX ΛM E yX8_worked cX8_worked 6 (some .int)) {kb_5 : Int32 → Int32 → Int32 → rfS → Prop} (hkb_5 : ∀ (x2 : Int32) (x3 : Int32) (x4 : Int32) (σ : rfS), kb_5 x2 x3 x4 σ → Rf ΛM 1 E 6 (qi Q) 5 [(0, .ref 0), (2, .int x2), (3, .int x3), (4, .int x4)] [] σ) (x2 : Int32) (x3 : Int32) (x4 : Int32) (x5 : Int32) (σ : rfS) (h : wj_X8_worked_33 Q kb_5 x2 x3 x4 x5 σ) : Rf ΛM 1 E 6 (qi Q) 33 [(0, .ref 0), (2, .int x2), (3, .int x3), (4, .int x4), (5, .int x5)] [] σ := by
  unfold wj_X8_worked_33 at h
  refine Rf_aload_n X (j := 0) rfl rfl dX8_worked_33 rfl ?_
  refine Rf_get X kc8 (Nat.le_of_ble_eq_true rfl) rfl (j := 19) (Nat.le_of_ble_eq_true rfl) lf_X8_45 (v := .ref 12) rfl dX8_worked_34 rfl ?_
  refine Rf_iload_n X (j := 2) rfl rfl dX8_worked_37 rfl ?_
  refine Rf_iinc X (i := 3) (j := 2) (v := x3 + 1) rfl rfl (Nat.le_of_ble_eq_true rfl) (ls2 := [(3, .int (x3 + 1)), (0, .ref 0), (2, .int x2), (4, .int x4), (5, .int x5)]) rfl dX8_worked_38 rfl ?_
  refine Rf_iload X (j := 4) rfl dX8_worked_41 rfl ?_
  refine Rf_bipush X (v := 18) rfl dX8_worked_43 rfl ?_
  refine Rf_icmp_lt X (tgt := 56) dX8_worked_45 rfl rfl (fun c4 => ?_) (fun c4 => ?_)
  · have h := h.1 c4
    refine Rf_aload_n X (j := 1) rfl rfl dX8_worked_56 rfl ?_
    refine Rf_get X kc8 (Nat.le_of_ble_eq_true rfl) rfl (j := 20) (Nat.le_of_ble_eq_true rfl) lf_X8_48 (v := .ref 13) rfl dX8_worked_57 rfl ?_
    refine Rf_iload X (j := 4) rfl dX8_worked_60 rfl ?_
    obtain ⟨s2, h⟩ := h
    refine Rf_iaload X (Nat.le_of_ble_eq_true rfl) rfl rfl s2 dX8_worked_62 rfl (v := gF σ 13 (x5.toNatClampNeg)) rfl ?_
    refine Rf_sub [1, 2, 0, 3] rfl ?_
    exact sj_X8_worked_63 X hkb_5 _ _ _ _ _ _ h
  · have h := h.2 c4
    refine Rf_iload X (j := 4) rfl dX8_worked_48 rfl ?_
    refine Rf_bipush X (v := 18) rfl dX8_worked_50 rfl ?_
    refine Rf_isub X dX8_worked_52 rfl ?_
    refine Rf_goto X (tgt := 63) dX8_worked_53 rfl ?_
    refine Rf_sub [1, 2, 0, 3] rfl ?_
    exact sj_X8_worked_63 X hkb_5 _ _ _ _ _ _ h
def wj_X8_worked_123 (Q : Int32 → rfS → Prop) (kb_5 : Int32 → Int32 → Int32 → rfS → Prop) (x2 : Int32) (x3 : Int32) (x4 : Int32) (xs0 : Int32) (xs1 : Int32) (σ : rfS) : Prop :=
  vp_in xs1 200 ∧ (kb_5 x2 x3 (x4 + 1) (sF σ 12 (xs1.toNatClampNeg) xs0))
set_option maxRecDepth 20000 in
theorem sj_X8_worked_123 {E : rfE} {Q : Int32 → rfS → Prop} (X : rfX ΛM E yX8_worked cX8_worked 6 (some .int)) {kb_5 : Int32 → Int32 → Int32 → rfS → Prop} (hkb_5 : ∀ (x2 : Int32) (x3 : Int32) (x4 : Int32) (σ : rfS), kb_5 x2 x3 x4 σ → Rf ΛM 1 E 6 (qi Q) 5 [(0, .ref 0), (2, .int x2), (3, .int x3), (4, .int x4)] [] σ) (x2 : Int32) (x3 : Int32) (x4 : Int32) (xs0 : Int32) (xs1 : Int32) (σ : rfS) (h : wj_X8_worked_123 Q kb_5 x2 x3 x4 xs0 xs1 σ) : Rf ΛM 1 E 6 (qi Q) 123 [(0, .ref 0), (2, .int x2), (3, .int x3), (4, .int x4)] [.int xs0, .int xs1, .ref 12] σ := by
  unfold wj_X8_worked_123 at h
  obtain ⟨s6, h⟩ := h
  refine Rf_iastore X (Nat.le_of_ble_eq_true rfl) rfl rfl s6 dX8_worked_123 rfl ?_
  refine Rf_goto X (tgt := 157) dX8_worked_124 rfl ?_
  refine Rf_iinc X (i := 4) (j := 3) (v := x4 + 1) rfl rfl (Nat.le_of_ble_eq_true rfl) (ls2 := [(4, .int (x4 + 1)), (0, .ref 0), (2, .int x2), (3, .int x3)]) rfl dX8_worked_157 rfl ?_
  refine Rf_goto X (tgt := 5) dX8_worked_160 rfl ?_
  refine Rf_sub [1, 2, 3, 0] rfl ?_
  exact hkb_5 _ _ _ (sF σ 12 (xs1.toNatClampNeg) xs0) h
def wj_X8_worked_81 (Q : Int32 → rfS → Prop) (kb_5 : Int32 → Int32 → Int32 → rfS → Prop) (x2 : Int32) (x3 : Int32) (x4 : Int32) (x5 : Int32) (σ : rfS) : Prop :=
  ((¬ x5 = 17 → vp_in (x3 - 1) 200 ∧ ((¬ (gF σ 12 ((x3 - 1).toNatClampNeg)) = 0 → wj_X8_worked_123 Q kb_5 x2 x3 x4 0 (x3 - 1) σ) ∧ ((gF σ 12 ((x3 - 1).toNatClampNeg)) = 0 → wj_X8_worked_123 Q kb_5 x2 x3 x4 1 (x3 - 1) σ))) ∧ (x5 = 17 → vp_in (x3 - 1) 200 ∧ (wj_X8_worked_123 Q kb_5 x2 x3 x4 (-(gF σ 12 ((x3 - 1).toNatClampNeg))) (x3 - 1) σ)))
set_option maxRecDepth 20000 in
theorem sj_X8_worked_81 {E : rfE} {Q : Int32 → rfS → Prop} (X : rfX ΛM E yX8_worked cX8_worked 6 (some .int)) {kb_5 : Int32 → Int32 → Int32 → rfS → Prop} (hkb_5 : ∀ (x2 : Int32) (x3 : Int32) (x4 : Int32) (σ : rfS), kb_5 x2 x3 x4 σ → Rf ΛM 1 E 6 (qi Q) 5 [(0, .ref 0), (2, .int x2), (3, .int x3), (4, .int x4)] [] σ) (x2 : Int32) (x3 : Int32) (x4 : Int32) (x5 : Int32) (σ : rfS) (h : wj_X8_worked_81 Q kb_5 x2 x3 x4 x5 σ) : Rf ΛM 1 E 6 (qi Q) 81 [(0, .ref 0), (2, .int x2), (3, .int x3), (4, .int x4), (5, .int x5)] [] σ := by
  unfold wj_X8_worked_81 at h
  refine Rf_aload_n X (j := 0) rfl rfl dX8_worked_81 rfl ?_
  refine Rf_get X kc8 (Nat.le_of_ble_eq_true rfl) rfl (j := 19) (Nat.le_of_ble_eq_true rfl) lf_X8_45 (v := .ref 12) rfl dX8_worked_82 rfl ?_
  refine Rf_iload_n X (j := 2) rfl rfl dX8_worked_85 rfl ?_
  refine Rf_iconst X (v := 1) rfl dX8_worked_86 rfl ?_
  refine Rf_isub X dX8_worked_87 rfl ?_
  refine Rf_iload X (j := 4) rfl dX8_worked_88 rfl ?_
  refine Rf_bipush X (v := 17) rfl dX8_worked_90 rfl ?_
  refine Rf_icmp_ne X (tgt := 107) dX8_worked_92 rfl rfl (fun c9 => ?_) (fun c9 => ?_)
  · have h := h.1 c9
    refine Rf_aload_n X (j := 0) rfl rfl dX8_worked_107 rfl ?_
    refine Rf_get X kc8 (Nat.le_of_ble_eq_true rfl) rfl (j := 19) (Nat.le_of_ble_eq_true rfl) lf_X8_45 (v := .ref 12) rfl dX8_worked_108 rfl ?_
    refine Rf_iload_n X (j := 2) rfl rfl dX8_worked_111 rfl ?_
    refine Rf_iconst X (v := 1) rfl dX8_worked_112 rfl ?_
    refine Rf_isub X dX8_worked_113 rfl ?_
    obtain ⟨s5, h⟩ := h
    refine Rf_iaload X (Nat.le_of_ble_eq_true rfl) rfl rfl s5 dX8_worked_114 rfl (v := gF σ 12 ((x3 - 1).toNatClampNeg)) rfl ?_
    refine Rf_if_ne X (tgt := 122) dX8_worked_115 rfl rfl (fun c7 => ?_) (fun c7 => ?_)
    · have h := h.1 c7
      refine Rf_iconst X (v := 0) rfl dX8_worked_122 rfl ?_
      refine Rf_sub [0, 1, 2, 3] rfl ?_
      exact sj_X8_worked_123 X hkb_5 _ _ _ _ _ _ h
    · have h := h.2 c7
      refine Rf_iconst X (v := 1) rfl dX8_worked_118 rfl ?_
      refine Rf_goto X (tgt := 123) dX8_worked_119 rfl ?_
      refine Rf_sub [0, 1, 2, 3] rfl ?_
      exact sj_X8_worked_123 X hkb_5 _ _ _ _ _ _ h
  · have h := h.2 c9
    refine Rf_aload_n X (j := 0) rfl rfl dX8_worked_95 rfl ?_
    refine Rf_get X kc8 (Nat.le_of_ble_eq_true rfl) rfl (j := 19) (Nat.le_of_ble_eq_true rfl) lf_X8_45 (v := .ref 12) rfl dX8_worked_96 rfl ?_
    refine Rf_iload_n X (j := 2) rfl rfl dX8_worked_99 rfl ?_
    refine Rf_iconst X (v := 1) rfl dX8_worked_100 rfl ?_
    refine Rf_isub X dX8_worked_101 rfl ?_
    obtain ⟨s8, h⟩ := h
    refine Rf_iaload X (Nat.le_of_ble_eq_true rfl) rfl rfl s8 dX8_worked_102 rfl (v := gF σ 12 ((x3 - 1).toNatClampNeg)) rfl ?_
    refine Rf_ineg X dX8_worked_103 rfl ?_
    refine Rf_goto X (tgt := 123) dX8_worked_104 rfl ?_
    refine Rf_sub [0, 1, 2, 3] rfl ?_
    exact sj_X8_worked_123 X hkb_5 _ _ _ _ _ _ h
def wl_X8_worked_5 (Q : Int32 → rfS → Prop) : Nat → Int32 → Int32 → Int32 → rfS → Prop
  | 0, _, _, _, _ => False
  | n + 1, x2, x3, x4, σ => ((x2 ≤ x4 → Q (gF σ 12 0) σ) ∧ (¬ (x2 ≤ x4) → vp_in x4 200 ∧ ((18 ≤ (gF σ 7 (x4.toNatClampNeg)) → wj_X8_worked_33 Q (wl_X8_worked_5 Q n) x2 x3 x4 (gF σ 7 (x4.toNatClampNeg)) σ) ∧ (¬ (18 ≤ (gF σ 7 (x4.toNatClampNeg))) → ((5 < (gF σ 7 (x4.toNatClampNeg)) → (((gF σ 7 (x4.toNatClampNeg)) = 16 → wj_X8_worked_81 Q (wl_X8_worked_5 Q n) x2 x3 x4 (gF σ 7 (x4.toNatClampNeg)) σ) ∧ (¬ (gF σ 7 (x4.toNatClampNeg)) = 16 → ((¬ (gF σ 7 (x4.toNatClampNeg)) = 17 → vp_in ((x3 + (-1)) - 1) 200 ∧ vp_in (x3 + (-1)) 200 ∧ wp_X8_both σ (gF σ 7 (x4.toNatClampNeg)) (gF σ 12 (((x3 + (-1)) - 1).toNatClampNeg)) (gF σ 12 ((x3 + (-1)).toNatClampNeg)) (fun (r13 : Int32) (σ12 : rfS) => vp_in ((x3 + (-1)) - 1) 200 ∧ (wl_X8_worked_5 Q n x2 (x3 + (-1)) (x4 + 1) (sF σ12 12 (((x3 + (-1)) - 1).toNatClampNeg) r13)))) ∧ ((gF σ 7 (x4.toNatClampNeg)) = 17 → wj_X8_worked_81 Q (wl_X8_worked_5 Q n) x2 x3 x4 (gF σ 7 (x4.toNatClampNeg)) σ))))) ∧ (¬ (5 < (gF σ 7 (x4.toNatClampNeg))) → wj_X8_worked_33 Q (wl_X8_worked_5 Q n) x2 x3 x4 (gF σ 7 (x4.toNatClampNeg)) σ))))))
set_option maxRecDepth 20000 in
theorem sl_X8_worked_5 {E : rfE} {Q : Int32 → rfS → Prop} (X : rfX ΛM E yX8_worked cX8_worked 6 (some .int)) : ∀ (n : Nat) (x2 : Int32) (x3 : Int32) (x4 : Int32) (σ : rfS), wl_X8_worked_5 Q n x2 x3 x4 σ → Rf ΛM 1 E 6 (qi Q) 5 [(0, .ref 0), (2, .int x2), (3, .int x3), (4, .int x4)] [] σ := by
  intro n
  induction n with
  | zero =>
    intro x2 x3 x4 σ h
    exact False.elim h
  | succ n hkb_5 =>
    intro x2 x3 x4 σ h
    unfold wl_X8_worked_5 at h
    refine Rf_iload X (j := 3) rfl dX8_worked_5 rfl ?_
    refine Rf_iload_n X (j := 1) rfl rfl dX8_worked_7 rfl ?_
    refine Rf_icmp_ge X (tgt := 163) dX8_worked_8 rfl rfl (fun c19 => ?_) (fun c19 => ?_)
    · have h := h.1 c19
      refine Rf_aload_n X (j := 0) rfl rfl dX8_worked_163 rfl ?_
      refine Rf_get X kc8 (Nat.le_of_ble_eq_true rfl) rfl (j := 19) (Nat.le_of_ble_eq_true rfl) lf_X8_45 (v := .ref 12) rfl dX8_worked_164 rfl ?_
      refine Rf_iconst X (v := 0) rfl dX8_worked_167 rfl ?_
      refine Rf_iaload X (Nat.le_of_ble_eq_true rfl) rfl rfl (by unfold vp_in; decide) dX8_worked_168 rfl (v := gF σ 12 0) rfl ?_
      exact Rf_iret X rfl dX8_worked_169 ⟨_, rfl, h⟩
    · have h := h.2 c19
      refine Rf_aload_n X (j := 0) rfl rfl dX8_worked_11 rfl ?_
      refine Rf_get X kc8 (Nat.le_of_ble_eq_true rfl) rfl (j := 10) (Nat.le_of_ble_eq_true rfl) lf_X8_30 (v := .ref 7) rfl dX8_worked_12 rfl ?_
      refine Rf_iload X (j := 3) rfl dX8_worked_15 rfl ?_
      obtain ⟨s1, h⟩ := h
      refine Rf_iaload X (Nat.le_of_ble_eq_true rfl) rfl rfl s1 dX8_worked_17 rfl (v := gF σ 7 (x4.toNatClampNeg)) rfl ?_
      refine Rf_istore X (i := 5) (Nat.le_of_ble_eq_true rfl) (ls2 := [(5, .int (gF σ 7 (x4.toNatClampNeg))), (0, .ref 0), (2, .int x2), (3, .int x3), (4, .int x4)]) rfl dX8_worked_18 rfl ?_
      refine Rf_iload X (j := 0) rfl dX8_worked_20 rfl ?_
      refine Rf_bipush X (v := 18) rfl dX8_worked_22 rfl ?_
      refine Rf_icmp_ge X (tgt := 33) dX8_worked_24 rfl rfl (fun c18 => ?_) (fun c18 => ?_)
      · have h := h.1 c18
        refine Rf_sub [1, 2, 3, 4, 0] rfl ?_
        exact sj_X8_worked_33 X hkb_5 _ _ _ _ _ h
      · have h := h.2 c18
        refine Rf_iload X (j := 0) rfl dX8_worked_27 rfl ?_
        refine Rf_iconst X (v := 5) rfl dX8_worked_29 rfl ?_
        refine Rf_icmp_gt X (tgt := 67) dX8_worked_30 rfl rfl (fun c17 => ?_) (fun c17 => ?_)
        · have h := h.1 c17
          refine Rf_iload X (j := 0) rfl dX8_worked_67 rfl ?_
          refine Rf_bipush X (v := 16) rfl dX8_worked_69 rfl ?_
          refine Rf_icmp_eq X (tgt := 81) dX8_worked_71 rfl rfl (fun c16 => ?_) (fun c16 => ?_)
          · have h := h.1 c16
            refine Rf_sub [1, 2, 3, 4, 0] rfl ?_
            exact sj_X8_worked_81 X hkb_5 _ _ _ _ _ h
          · have h := h.2 c16
            refine Rf_iload X (j := 0) rfl dX8_worked_74 rfl ?_
            refine Rf_bipush X (v := 17) rfl dX8_worked_76 rfl ?_
            refine Rf_icmp_ne X (tgt := 127) dX8_worked_78 rfl rfl (fun c15 => ?_) (fun c15 => ?_)
            · have h := h.1 c15
              refine Rf_iinc X (i := 3) (j := 3) (v := x3 + (-1)) rfl (by rw [show Int32.ofInt (-1) = (-1 : Int32) from by decide]) (Nat.le_of_ble_eq_true rfl) (ls2 := [(3, .int (x3 + (-1))), (5, .int (gF σ 7 (x4.toNatClampNeg))), (0, .ref 0), (2, .int x2), (4, .int x4)]) rfl dX8_worked_127 rfl ?_
              refine Rf_aload_n X (j := 2) rfl rfl dX8_worked_130 rfl ?_
              refine Rf_get X kc8 (Nat.le_of_ble_eq_true rfl) rfl (j := 19) (Nat.le_of_ble_eq_true rfl) lf_X8_45 (v := .ref 12) rfl dX8_worked_131 rfl ?_
              refine Rf_iload_n X (j := 0) rfl rfl dX8_worked_134 rfl ?_
              refine Rf_iconst X (v := 1) rfl dX8_worked_135 rfl ?_
              refine Rf_isub X dX8_worked_136 rfl ?_
              refine Rf_iload X (j := 1) rfl dX8_worked_137 rfl ?_
              refine Rf_aload_n X (j := 2) rfl rfl dX8_worked_139 rfl ?_
              refine Rf_get X kc8 (Nat.le_of_ble_eq_true rfl) rfl (j := 19) (Nat.le_of_ble_eq_true rfl) lf_X8_45 (v := .ref 12) rfl dX8_worked_140 rfl ?_
              refine Rf_iload_n X (j := 0) rfl rfl dX8_worked_143 rfl ?_
              refine Rf_iconst X (v := 1) rfl dX8_worked_144 rfl ?_
              refine Rf_isub X dX8_worked_145 rfl ?_
              obtain ⟨s10, h⟩ := h
              refine Rf_iaload X (Nat.le_of_ble_eq_true rfl) rfl rfl s10 dX8_worked_146 rfl (v := gF σ 12 (((x3 + (-1)) - 1).toNatClampNeg)) rfl ?_
              refine Rf_aload_n X (j := 2) rfl rfl dX8_worked_147 rfl ?_
              refine Rf_get X kc8 (Nat.le_of_ble_eq_true rfl) rfl (j := 19) (Nat.le_of_ble_eq_true rfl) lf_X8_45 (v := .ref 12) rfl dX8_worked_148 rfl ?_
              refine Rf_iload_n X (j := 0) rfl rfl dX8_worked_151 rfl ?_
              obtain ⟨s11, h⟩ := h
              refine Rf_iaload X (Nat.le_of_ble_eq_true rfl) rfl rfl s11 dX8_worked_152 rfl (v := gF σ 12 ((x3 + (-1)).toNatClampNeg)) rfl ?_
              refine Rf_cSi (as := [.int (gF σ 7 (x4.toNatClampNeg)), .int (gF σ 12 (((x3 + (-1)) - 1).toNatClampNeg)), .int (gF σ 12 ((x3 + (-1)).toNatClampNeg))]) (st := [.int ((x3 + (-1)) - 1), .ref 12]) X ms_X8_both lm_X8_200 (k_X8_both h) (Nat.le_of_ble_eq_true rfl) rfl rfl (Nat.le_of_ble_eq_true rfl) dX8_worked_153 rfl (fun r13 σ12 h => ?_)
              obtain ⟨s14, h⟩ := h
              refine Rf_iastore X (Nat.le_of_ble_eq_true rfl) rfl rfl s14 dX8_worked_156 rfl ?_
              refine Rf_iinc X (i := 4) (j := 4) (v := x4 + 1) rfl rfl (Nat.le_of_ble_eq_true rfl) (ls2 := [(4, .int (x4 + 1)), (3, .int (x3 + (-1))), (5, .int (gF σ 7 (x4.toNatClampNeg))), (0, .ref 0), (2, .int x2)]) rfl dX8_worked_157 rfl ?_
              refine Rf_goto X (tgt := 5) dX8_worked_160 rfl ?_
              refine Rf_sub [3, 4, 1, 0] rfl ?_
              exact hkb_5 _ _ _ (sF σ12 12 (((x3 + (-1)) - 1).toNatClampNeg) r13) h
            · have h := h.2 c15
              refine Rf_sub [1, 2, 3, 4, 0] rfl ?_
              exact sj_X8_worked_81 X hkb_5 _ _ _ _ _ h
        · have h := h.2 c17
          refine Rf_sub [1, 2, 3, 4, 0] rfl ?_
          exact sj_X8_worked_33 X hkb_5 _ _ _ _ _ h
def wp_X8_worked (σ : rfS) (x1 : Int32) (x2 : Int32) (Q : Int32 → rfS → Prop) : Prop :=
  (∃ n20, wl_X8_worked_5 Q n20 x2 0 x1 σ)
set_option maxRecDepth 20000 in
theorem k_X8_worked {σ : rfS} {x1 : Int32} {x2 : Int32} {Q : Int32 → rfS → Prop} (h : wp_X8_worked σ x1 x2 Q) : RM ΛM 1 yX8_worked cX8_worked 6 (some .int) [.ref 0, .int x1, .int x2] σ (qi Q) := by
  unfold wp_X8_worked at h
  refine RM.intro (by decide) (Nat.le_of_ble_eq_true rfl) (fun E X => ?_)
  show Rf ΛM 1 E 6 (qi Q) 0 [(0, .ref 0), (1, .int x1), (2, .int x2)] [] σ
  refine Rf_iconst X (v := 0) rfl dX8_worked_0 rfl ?_
  refine Rf_istore_n X rfl (i := 3) (Nat.le_of_ble_eq_true rfl) (ls2 := [(3, .int 0), (0, .ref 0), (1, .int x1), (2, .int x2)]) rfl dX8_worked_1 rfl ?_
  refine Rf_iload_n X (j := 2) rfl rfl dX8_worked_2 rfl ?_
  refine Rf_istore X (i := 4) (Nat.le_of_ble_eq_true rfl) (ls2 := [(4, .int x1), (3, .int 0), (0, .ref 0), (1, .int x1), (2, .int x2)]) rfl dX8_worked_3 rfl ?_
  obtain ⟨n20, h⟩ := h
  refine Rf_sub [2, 4, 1, 0] rfl ?_
  exact sl_X8_worked_5 X n20 _ _ _ _ h
def wp_X8_wants (σ : rfS) (x1 : Int32) (x2 : Int32) (Q : Int32 → rfS → Prop) : Prop :=
  vp_in x1 42 ∧ wp_X8_has σ (gF σ 1 (x1.toNatClampNeg)) x2 (fun (r3 : Int32) (σ2 : rfS) => (rfZ r3) ∧ Q r3 σ2)
set_option maxRecDepth 20000 in
theorem k_X8_wants {σ : rfS} {x1 : Int32} {x2 : Int32} {Q : Int32 → rfS → Prop} (h : wp_X8_wants σ x1 x2 Q) : RM ΛM 1 yX8_wants cX8_wants 3 (some .boolean) [.ref 0, .int x1, .int x2] σ (qi Q) := by
  unfold wp_X8_wants at h
  refine RM.intro (by decide) (Nat.le_of_ble_eq_true rfl) (fun E X => ?_)
  show Rf ΛM 1 E 3 (qi Q) 0 [(0, .ref 0), (1, .int x1), (2, .int x2)] [] σ
  refine Rf_aload_n X (j := 0) rfl rfl dX8_wants_0 rfl ?_
  refine Rf_get X kc8 (Nat.le_of_ble_eq_true rfl) rfl (j := 1) (Nat.le_of_ble_eq_true rfl) lf_X8_9 (v := .ref 1) rfl dX8_wants_1 rfl ?_
  refine Rf_iload_n X (j := 1) rfl rfl dX8_wants_4 rfl ?_
  obtain ⟨s1, h⟩ := h
  refine Rf_iaload X (Nat.le_of_ble_eq_true rfl) rfl rfl s1 dX8_wants_5 rfl (v := gF σ 1 (x1.toNatClampNeg)) rfl ?_
  refine Rf_iload_n X (j := 2) rfl rfl dX8_wants_6 rfl ?_
  refine Rf_cSi (as := [.int (gF σ 1 (x1.toNatClampNeg)), .int x2]) (st := []) X ms_X8_has lm_X8_203 (k_X8_has h) (Nat.le_of_ble_eq_true rfl) rfl rfl (Nat.le_of_ble_eq_true rfl) dX8_wants_7 rfl (fun r3 σ2 h => ?_)
  obtain ⟨s4, h⟩ := h
  exact Rf_iret X (rfZ_n s4) dX8_wants_10 ⟨_, rfl, h⟩
def wl_X8_byLaw_96 (Q : Int32 → rfS → Prop) (kx_141 : Int32 → rfS → Prop) : Nat → Int32 → rfS → Prop
  | 0, _, _ => False
  | n + 1, x3, σ => (((gI σ 0 6) ≤ x3 → Q 0 σ) ∧ (¬ ((gI σ 0 6) ≤ x3) → vp_in x3 60 ∧ vp_in x3 60 ∧ (((gF σ 5 (x3.toNatClampNeg)) ≤ (gF σ 4 (x3.toNatClampNeg)) → kx_141 x3 σ) ∧ (¬ ((gF σ 5 (x3.toNatClampNeg)) ≤ (gF σ 4 (x3.toNatClampNeg))) → vp_in x3 60 ∧ vp_in x3 60 ∧ wp_X8_worked σ (gF σ 4 (x3.toNatClampNeg)) (gF σ 5 (x3.toNatClampNeg)) (fun (r14 : Int32) (σ13 : rfS) => ((¬ r14 = 0 → kx_141 x3 σ13) ∧ (r14 = 0 → wl_X8_byLaw_96 Q kx_141 n (x3 + 1) σ13)))))))
set_option maxRecDepth 20000 in
theorem sl_X8_byLaw_96 {E : rfE} {Q : Int32 → rfS → Prop} (X : rfX ΛM E yX8_byLaw cX8_byLaw 4 (some .int)) {kx_141 : Int32 → rfS → Prop} (hkx_141 : ∀ (x3 : Int32) (σ : rfS), kx_141 x3 σ → Rf ΛM 2 E 4 (qi Q) 141 [(0, .ref 0), (3, .int x3)] [] σ) : ∀ (n : Nat) (x3 : Int32) (σ : rfS), wl_X8_byLaw_96 Q kx_141 n x3 σ → Rf ΛM 2 E 4 (qi Q) 96 [(0, .ref 0), (3, .int x3)] [] σ := by
  intro n
  induction n with
  | zero =>
    intro x3 σ h
    exact False.elim h
  | succ n hkb_96 =>
    intro x3 σ h
    unfold wl_X8_byLaw_96 at h
    refine Rf_iload_n X (j := 1) rfl rfl dX8_byLaw_96 rfl ?_
    refine Rf_aload_n X (j := 0) rfl rfl dX8_byLaw_97 rfl ?_
    refine Rf_get X kc8 (Nat.le_of_ble_eq_true rfl) rfl (j := 6) (Nat.le_of_ble_eq_true rfl) lf_X8_197 (v := .int (gI σ 0 6)) rfl dX8_byLaw_98 rfl ?_
    refine Rf_icmp_ge X (tgt := 164) dX8_byLaw_101 rfl rfl (fun c17 => ?_) (fun c17 => ?_)
    · have h := h.1 c17
      refine Rf_iconst X (v := 0) rfl dX8_byLaw_164 rfl ?_
      exact Rf_iret X rfl dX8_byLaw_165 ⟨_, rfl, h⟩
    · have h := h.2 c17
      refine Rf_aload_n X (j := 0) rfl rfl dX8_byLaw_104 rfl ?_
      refine Rf_get X kc8 (Nat.le_of_ble_eq_true rfl) rfl (j := 8) (Nat.le_of_ble_eq_true rfl) lf_X8_24 (v := .ref 5) rfl dX8_byLaw_105 rfl ?_
      refine Rf_iload_n X (j := 1) rfl rfl dX8_byLaw_108 rfl ?_
      obtain ⟨s9, h⟩ := h
      refine Rf_iaload X (Nat.le_of_ble_eq_true rfl) rfl rfl s9 dX8_byLaw_109 rfl (v := gF σ 5 (x3.toNatClampNeg)) rfl ?_
      refine Rf_aload_n X (j := 0) rfl rfl dX8_byLaw_110 rfl ?_
      refine Rf_get X kc8 (Nat.le_of_ble_eq_true rfl) rfl (j := 7) (Nat.le_of_ble_eq_true rfl) lf_X8_21 (v := .ref 4) rfl dX8_byLaw_111 rfl ?_
      refine Rf_iload_n X (j := 1) rfl rfl dX8_byLaw_114 rfl ?_
      obtain ⟨s10, h⟩ := h
      refine Rf_iaload X (Nat.le_of_ble_eq_true rfl) rfl rfl s10 dX8_byLaw_115 rfl (v := gF σ 4 (x3.toNatClampNeg)) rfl ?_
      refine Rf_icmp_le X (tgt := 141) dX8_byLaw_116 rfl rfl (fun c16 => ?_) (fun c16 => ?_)
      · have h := h.1 c16
        exact hkx_141 _ σ h
      · have h := h.2 c16
        refine Rf_aload_n X (j := 0) rfl rfl dX8_byLaw_119 rfl ?_
        refine Rf_aload_n X (j := 0) rfl rfl dX8_byLaw_120 rfl ?_
        refine Rf_get X kc8 (Nat.le_of_ble_eq_true rfl) rfl (j := 7) (Nat.le_of_ble_eq_true rfl) lf_X8_21 (v := .ref 4) rfl dX8_byLaw_121 rfl ?_
        refine Rf_iload_n X (j := 1) rfl rfl dX8_byLaw_124 rfl ?_
        obtain ⟨s11, h⟩ := h
        refine Rf_iaload X (Nat.le_of_ble_eq_true rfl) rfl rfl s11 dX8_byLaw_125 rfl (v := gF σ 4 (x3.toNatClampNeg)) rfl ?_
        refine Rf_aload_n X (j := 0) rfl rfl dX8_byLaw_126 rfl ?_
        refine Rf_get X kc8 (Nat.le_of_ble_eq_true rfl) rfl (j := 8) (Nat.le_of_ble_eq_true rfl) lf_X8_24 (v := .ref 5) rfl dX8_byLaw_127 rfl ?_
        refine Rf_iload_n X (j := 1) rfl rfl dX8_byLaw_130 rfl ?_
        obtain ⟨s12, h⟩ := h
        refine Rf_iaload X (Nat.le_of_ble_eq_true rfl) rfl rfl s12 dX8_byLaw_131 rfl (v := gF σ 5 (x3.toNatClampNeg)) rfl ?_
        refine Rf_cVi (as := [.int (gF σ 4 (x3.toNatClampNeg)), .int (gF σ 5 (x3.toNatClampNeg))]) (st := []) X mi_X8_worked lm_X8_214 rfl (Nat.le_of_ble_eq_true rfl) rfl (k_X8_worked h) (Nat.le_of_ble_eq_true rfl) rfl rfl (Nat.le_of_ble_eq_true rfl) dX8_byLaw_132 rfl (fun r14 σ13 h => ?_)
        refine Rf_if_ne X (tgt := 141) dX8_byLaw_135 rfl rfl (fun c15 => ?_) (fun c15 => ?_)
        · have h := h.1 c15
          exact hkx_141 _ σ13 h
        · have h := h.2 c15
          refine Rf_goto X (tgt := 158) dX8_byLaw_138 rfl ?_
          refine Rf_iinc X (i := 3) (j := 1) (v := x3 + 1) rfl rfl (Nat.le_of_ble_eq_true rfl) (ls2 := [(3, .int (x3 + 1)), (0, .ref 0)]) rfl dX8_byLaw_158 rfl ?_
          refine Rf_goto X (tgt := 96) dX8_byLaw_161 rfl ?_
          refine Rf_sub [1, 0] rfl ?_
          exact hkb_96 _ σ13 h
def wj_X8_byLaw_141 (Q : Int32 → rfS → Prop) (x3 : Int32) (σ : rfS) : Prop :=
  vp_in x3 60 ∧ vp_in x3 60 ∧ wp_X8_worked σ (gF σ 5 (x3.toNatClampNeg)) (gF σ 6 (x3.toNatClampNeg)) (fun (r24 : Int32) (σ23 : rfS) => Q r24 σ23)
set_option maxRecDepth 20000 in
theorem sj_X8_byLaw_141 {E : rfE} {Q : Int32 → rfS → Prop} (X : rfX ΛM E yX8_byLaw cX8_byLaw 4 (some .int)) (x3 : Int32) (σ : rfS) (h : wj_X8_byLaw_141 Q x3 σ) : Rf ΛM 2 E 4 (qi Q) 141 [(0, .ref 0), (3, .int x3)] [] σ := by
  unfold wj_X8_byLaw_141 at h
  refine Rf_aload_n X (j := 0) rfl rfl dX8_byLaw_141 rfl ?_
  refine Rf_aload_n X (j := 0) rfl rfl dX8_byLaw_142 rfl ?_
  refine Rf_get X kc8 (Nat.le_of_ble_eq_true rfl) rfl (j := 8) (Nat.le_of_ble_eq_true rfl) lf_X8_24 (v := .ref 5) rfl dX8_byLaw_143 rfl ?_
  refine Rf_iload_n X (j := 1) rfl rfl dX8_byLaw_146 rfl ?_
  obtain ⟨s21, h⟩ := h
  refine Rf_iaload X (Nat.le_of_ble_eq_true rfl) rfl rfl s21 dX8_byLaw_147 rfl (v := gF σ 5 (x3.toNatClampNeg)) rfl ?_
  refine Rf_aload_n X (j := 0) rfl rfl dX8_byLaw_148 rfl ?_
  refine Rf_get X kc8 (Nat.le_of_ble_eq_true rfl) rfl (j := 9) (Nat.le_of_ble_eq_true rfl) lf_X8_27 (v := .ref 6) rfl dX8_byLaw_149 rfl ?_
  refine Rf_iload_n X (j := 1) rfl rfl dX8_byLaw_152 rfl ?_
  obtain ⟨s22, h⟩ := h
  refine Rf_iaload X (Nat.le_of_ble_eq_true rfl) rfl rfl s22 dX8_byLaw_153 rfl (v := gF σ 6 (x3.toNatClampNeg)) rfl ?_
  refine Rf_cVi (as := [.int (gF σ 5 (x3.toNatClampNeg)), .int (gF σ 6 (x3.toNatClampNeg))]) (st := []) X mi_X8_worked lm_X8_214 rfl (Nat.le_of_ble_eq_true rfl) rfl (k_X8_worked h) (Nat.le_of_ble_eq_true rfl) rfl rfl (Nat.le_of_ble_eq_true rfl) dX8_byLaw_154 rfl (fun r24 σ23 h => ?_)
  exact Rf_iret X rfl dX8_byLaw_157 ⟨_, rfl, h⟩
def wj_X8_byLaw_68 (Q : Int32 → rfS → Prop) (x1 : Int32) (x2 : Int32) (xs0 : Int32) (xs1 : Int32) (σ : rfS) : Prop :=
  vp_in xs1 6 ∧ vp_in (14 + x1) 42 ∧ wp_J6_bitCount_0f7a4 (sF σ 13 (xs1.toNatClampNeg) xs0) (gF σ 1 ((14 + x1).toNatClampNeg)) (fun (r8 : Int32) (σ7 : rfS) => (∃ n18, wl_X8_byLaw_96 Q (fun (x3_19 : Int32) (σ20 : rfS) => wj_X8_byLaw_141 Q x3_19 σ20) n18 0 (sF (sF σ7 13 4 r8) 13 5 x2)))
set_option maxRecDepth 20000 in
theorem sj_X8_byLaw_68 {E : rfE} {Q : Int32 → rfS → Prop} (X : rfX ΛM E yX8_byLaw cX8_byLaw 4 (some .int)) (x1 : Int32) (x2 : Int32) (xs0 : Int32) (xs1 : Int32) (σ : rfS) (h : wj_X8_byLaw_68 Q x1 x2 xs0 xs1 σ) : Rf ΛM 2 E 4 (qi Q) 68 [(0, .ref 0), (1, .int x1), (2, .int x2)] [.int xs0, .int xs1, .ref 13] σ := by
  unfold wj_X8_byLaw_68 at h
  obtain ⟨s5, h⟩ := h
  refine Rf_iastore X (Nat.le_of_ble_eq_true rfl) rfl rfl s5 dX8_byLaw_68 rfl ?_
  refine Rf_aload_n X (j := 0) rfl rfl dX8_byLaw_69 rfl ?_
  refine Rf_get X kc8 (Nat.le_of_ble_eq_true rfl) rfl (j := 20) (Nat.le_of_ble_eq_true rfl) lf_X8_48 (v := .ref 13) rfl dX8_byLaw_70 rfl ?_
  refine Rf_iconst X (v := 4) rfl dX8_byLaw_73 rfl ?_
  refine Rf_aload_n X (j := 0) rfl rfl dX8_byLaw_74 rfl ?_
  refine Rf_get X kc8 (Nat.le_of_ble_eq_true rfl) rfl (j := 1) (Nat.le_of_ble_eq_true rfl) lf_X8_9 (v := .ref 1) rfl dX8_byLaw_75 rfl ?_
  refine Rf_bipush X (v := 14) rfl dX8_byLaw_78 rfl ?_
  refine Rf_iload_n X (j := 1) rfl rfl dX8_byLaw_80 rfl ?_
  refine Rf_iadd X dX8_byLaw_81 rfl ?_
  obtain ⟨s6, h⟩ := h
  refine Rf_iaload X (Nat.le_of_ble_eq_true rfl) rfl rfl s6 dX8_byLaw_82 rfl (v := gF σ 1 ((14 + x1).toNatClampNeg)) (show gF (sF σ 13 (xs1.toNatClampNeg) xs0) 1 ((14 + x1).toNatClampNeg) = gF σ 1 ((14 + x1).toNatClampNeg) from gF_sFn (by decide)) ?_
  refine Rf_cSi (as := [.int (gF σ 1 ((14 + x1).toNatClampNeg))]) (st := [.int 4, .ref 13]) X ms_J6_bitCount_0f7a4 lm_X8_209 (k_J6_bitCount_0f7a4 h) (Nat.le_of_ble_eq_true rfl) rfl rfl (Nat.le_of_ble_eq_true rfl) dX8_byLaw_83 rfl (fun r8 σ7 h => ?_)
  refine Rf_iastore X (Nat.le_of_ble_eq_true rfl) rfl rfl (by unfold vp_in; decide) dX8_byLaw_86 rfl ?_
  refine Rf_aload_n X (j := 0) rfl rfl dX8_byLaw_87 rfl ?_
  refine Rf_get X kc8 (Nat.le_of_ble_eq_true rfl) rfl (j := 20) (Nat.le_of_ble_eq_true rfl) lf_X8_48 (v := .ref 13) rfl dX8_byLaw_88 rfl ?_
  refine Rf_iconst X (v := 5) rfl dX8_byLaw_91 rfl ?_
  refine Rf_iload_n X (j := 2) rfl rfl dX8_byLaw_92 rfl ?_
  refine Rf_iastore X (Nat.le_of_ble_eq_true rfl) rfl rfl (by unfold vp_in; decide) dX8_byLaw_93 rfl ?_
  refine Rf_iconst X (v := 0) rfl dX8_byLaw_94 rfl ?_
  refine Rf_istore_n X rfl (i := 3) (Nat.le_of_ble_eq_true rfl) (ls2 := [(3, .int 0), (0, .ref 0), (1, .int x1), (2, .int x2)]) rfl dX8_byLaw_95 rfl ?_
  obtain ⟨n18, h⟩ := h
  refine Rf_sub [1, 0] rfl ?_
  refine sl_X8_byLaw_96 X (fun x3_19 σ20 h => ?_) n18 _ _ h
  · exact sj_X8_byLaw_141 X _ _ h
def wp_X8_byLaw (σ : rfS) (x1 : Int32) (Q : Int32 → rfS → Prop) : Prop :=
  vp_in (28 + (gF σ 2 1)) 42 ∧ vp_in (7 + x1) 42 ∧ wp_X8_wants (sF (sF (sF σ 13 0 (gF σ 1 ((28 + (gF σ 2 1)).toNatClampNeg))) 13 1 (gF σ 1 ((7 + x1).toNatClampNeg))) 13 2 (gF σ 2 0)) x1 (gF σ 2 1) (fun (r4 : Int32) (σ3 : rfS) => ((r4 = 0 → wj_X8_byLaw_68 Q x1 (gF σ 2 1) 0 3 σ3) ∧ (¬ r4 = 0 → wj_X8_byLaw_68 Q x1 (gF σ 2 1) 1 3 σ3)))
set_option maxRecDepth 20000 in
theorem k_X8_byLaw {σ : rfS} {x1 : Int32} {Q : Int32 → rfS → Prop} (h : wp_X8_byLaw σ x1 Q) : RM ΛM 2 yX8_byLaw cX8_byLaw 4 (some .int) [.ref 0, .int x1] σ (qi Q) := by
  unfold wp_X8_byLaw at h
  refine RM.intro (by decide) (Nat.le_of_ble_eq_true rfl) (fun E X => ?_)
  show Rf ΛM 2 E 4 (qi Q) 0 [(0, .ref 0), (1, .int x1)] [] σ
  refine Rf_aload_n X (j := 0) rfl rfl dX8_byLaw_0 rfl ?_
  refine Rf_get X kc8 (Nat.le_of_ble_eq_true rfl) rfl (j := 2) (Nat.le_of_ble_eq_true rfl) lf_X8_15 (v := .ref 2) rfl dX8_byLaw_1 rfl ?_
  refine Rf_iconst X (v := 1) rfl dX8_byLaw_4 rfl ?_
  refine Rf_iaload X (Nat.le_of_ble_eq_true rfl) rfl rfl (by unfold vp_in; decide) dX8_byLaw_5 rfl (v := gF σ 2 1) rfl ?_
  refine Rf_istore_n X rfl (i := 2) (Nat.le_of_ble_eq_true rfl) (ls2 := [(2, .int (gF σ 2 1)), (0, .ref 0), (1, .int x1)]) rfl dX8_byLaw_6 rfl ?_
  refine Rf_aload_n X (j := 1) rfl rfl dX8_byLaw_7 rfl ?_
  refine Rf_get X kc8 (Nat.le_of_ble_eq_true rfl) rfl (j := 20) (Nat.le_of_ble_eq_true rfl) lf_X8_48 (v := .ref 13) rfl dX8_byLaw_8 rfl ?_
  refine Rf_iconst X (v := 0) rfl dX8_byLaw_11 rfl ?_
  refine Rf_aload_n X (j := 1) rfl rfl dX8_byLaw_12 rfl ?_
  refine Rf_get X kc8 (Nat.le_of_ble_eq_true rfl) rfl (j := 1) (Nat.le_of_ble_eq_true rfl) lf_X8_9 (v := .ref 1) rfl dX8_byLaw_13 rfl ?_
  refine Rf_bipush X (v := 28) rfl dX8_byLaw_16 rfl ?_
  refine Rf_iload_n X (j := 0) rfl rfl dX8_byLaw_18 rfl ?_
  refine Rf_iadd X dX8_byLaw_19 rfl ?_
  obtain ⟨s1, h⟩ := h
  refine Rf_iaload X (Nat.le_of_ble_eq_true rfl) rfl rfl s1 dX8_byLaw_20 rfl (v := gF σ 1 ((28 + (gF σ 2 1)).toNatClampNeg)) rfl ?_
  refine Rf_iastore X (Nat.le_of_ble_eq_true rfl) rfl rfl (by unfold vp_in; decide) dX8_byLaw_21 rfl ?_
  refine Rf_aload_n X (j := 1) rfl rfl dX8_byLaw_22 rfl ?_
  refine Rf_get X kc8 (Nat.le_of_ble_eq_true rfl) rfl (j := 20) (Nat.le_of_ble_eq_true rfl) lf_X8_48 (v := .ref 13) rfl dX8_byLaw_23 rfl ?_
  refine Rf_iconst X (v := 1) rfl dX8_byLaw_26 rfl ?_
  refine Rf_aload_n X (j := 1) rfl rfl dX8_byLaw_27 rfl ?_
  refine Rf_get X kc8 (Nat.le_of_ble_eq_true rfl) rfl (j := 1) (Nat.le_of_ble_eq_true rfl) lf_X8_9 (v := .ref 1) rfl dX8_byLaw_28 rfl ?_
  refine Rf_bipush X (v := 7) rfl dX8_byLaw_31 rfl ?_
  refine Rf_iload_n X (j := 2) rfl rfl dX8_byLaw_33 rfl ?_
  refine Rf_iadd X dX8_byLaw_34 rfl ?_
  obtain ⟨s2, h⟩ := h
  refine Rf_iaload X (Nat.le_of_ble_eq_true rfl) rfl rfl s2 dX8_byLaw_35 rfl (v := gF σ 1 ((7 + x1).toNatClampNeg)) (show gF (sF σ 13 0 (gF σ 1 ((28 + (gF σ 2 1)).toNatClampNeg))) 1 ((7 + x1).toNatClampNeg) = gF σ 1 ((7 + x1).toNatClampNeg) from gF_sFn (by decide)) ?_
  refine Rf_iastore X (Nat.le_of_ble_eq_true rfl) rfl rfl (by unfold vp_in; decide) dX8_byLaw_36 rfl ?_
  refine Rf_aload_n X (j := 1) rfl rfl dX8_byLaw_37 rfl ?_
  refine Rf_get X kc8 (Nat.le_of_ble_eq_true rfl) rfl (j := 20) (Nat.le_of_ble_eq_true rfl) lf_X8_48 (v := .ref 13) rfl dX8_byLaw_38 rfl ?_
  refine Rf_iconst X (v := 2) rfl dX8_byLaw_41 rfl ?_
  refine Rf_aload_n X (j := 1) rfl rfl dX8_byLaw_42 rfl ?_
  refine Rf_get X kc8 (Nat.le_of_ble_eq_true rfl) rfl (j := 2) (Nat.le_of_ble_eq_true rfl) lf_X8_15 (v := .ref 2) rfl dX8_byLaw_43 rfl ?_
  refine Rf_iconst X (v := 0) rfl dX8_byLaw_46 rfl ?_
  refine Rf_iaload X (Nat.le_of_ble_eq_true rfl) rfl rfl (by unfold vp_in; decide) dX8_byLaw_47 rfl (v := gF σ 2 0) (show gF (sF (sF σ 13 0 (gF σ 1 ((28 + (gF σ 2 1)).toNatClampNeg))) 13 1 (gF σ 1 ((7 + x1).toNatClampNeg))) 2 0 = gF σ 2 0 from (gF_sFn (by decide)).trans (gF_sFn (by decide))) ?_
  refine Rf_iastore X (Nat.le_of_ble_eq_true rfl) rfl rfl (by unfold vp_in; decide) dX8_byLaw_48 rfl ?_
  refine Rf_aload_n X (j := 1) rfl rfl dX8_byLaw_49 rfl ?_
  refine Rf_get X kc8 (Nat.le_of_ble_eq_true rfl) rfl (j := 20) (Nat.le_of_ble_eq_true rfl) lf_X8_48 (v := .ref 13) rfl dX8_byLaw_50 rfl ?_
  refine Rf_iconst X (v := 3) rfl dX8_byLaw_53 rfl ?_
  refine Rf_aload_n X (j := 1) rfl rfl dX8_byLaw_54 rfl ?_
  refine Rf_iload_n X (j := 2) rfl rfl dX8_byLaw_55 rfl ?_
  refine Rf_iload_n X (j := 0) rfl rfl dX8_byLaw_56 rfl ?_
  refine Rf_cVi (as := [.int x1, .int (gF σ 2 1)]) (st := [.int 3, .ref 13]) X mi_X8_wants lm_X8_206 rfl (Nat.le_of_ble_eq_true rfl) rfl (k_X8_wants h) (Nat.le_of_ble_eq_true rfl) rfl rfl (Nat.le_of_ble_eq_true rfl) dX8_byLaw_57 rfl (fun r4 σ3 h => ?_)
  refine Rf_if_eq X (tgt := 67) dX8_byLaw_60 rfl rfl (fun c25 => ?_) (fun c25 => ?_)
  · have h := h.1 c25
    refine Rf_iconst X (v := 0) rfl dX8_byLaw_67 rfl ?_
    refine Rf_sub [1, 2, 0] rfl ?_
    exact sj_X8_byLaw_68 X _ _ _ _ _ h
  · have h := h.2 c25
    refine Rf_iconst X (v := 1) rfl dX8_byLaw_63 rfl ?_
    refine Rf_goto X (tgt := 68) dX8_byLaw_64 rfl ?_
    refine Rf_sub [1, 2, 0] rfl ?_
    exact sj_X8_byLaw_68 X _ _ _ _ _ h
def wj_X8_doneBy_70 (Q : Int32 → rfS → Prop) (xs0 : Int32) (σ : rfS) : Prop :=
  Q (if 0 < (if xs0 < 20 then xs0 else 20) then (if xs0 < 20 then xs0 else 20) else 0) σ
set_option maxRecDepth 20000 in
theorem sj_X8_doneBy_70 {E : rfE} {Q : Int32 → rfS → Prop} (X : rfX ΛM E yX8_doneBy cX8_doneBy 4 (some .int)) (xs0 : Int32) (σ : rfS) (h : wj_X8_doneBy_70 Q xs0 σ) : Rf ΛM 3 E 4 (qi Q) 70 [] [.int xs0] σ := by
  unfold wj_X8_doneBy_70 at h
  refine Rf_istore_n X rfl (i := 3) (Nat.le_of_ble_eq_true rfl) (ls2 := [(3, .int xs0)]) rfl dX8_doneBy_70 rfl ?_
  refine Rf_iconst X (v := 0) rfl dX8_doneBy_71 rfl ?_
  refine Rf_bipush X (v := 20) rfl dX8_doneBy_72 rfl ?_
  refine Rf_iload_n X (j := 0) rfl rfl dX8_doneBy_74 rfl ?_
  refine Rf_min X lm_X8_220 mm_min.1 mm_min.2.1 mm_min.2.2 (Nat.le_of_ble_eq_true rfl) (Nat.le_of_ble_eq_true rfl) dX8_doneBy_75 rfl ?_
  refine Rf_max X lm_X8_225 mm_max.1 mm_max.2.1 mm_max.2.2 (Nat.le_of_ble_eq_true rfl) (Nat.le_of_ble_eq_true rfl) dX8_doneBy_78 rfl ?_
  exact Rf_iret X rfl dX8_doneBy_81 ⟨_, rfl, h⟩
def wj_X8_doneBy_47 (Q : Int32 → rfS → Prop) (x1 : Int32) (xs0 : Int32) (xs1 : Int32) (σ : rfS) : Prop :=
  vp_in (7 + x1) 42 ∧ (wj_X8_doneBy_70 Q (((xs1 + xs0) + ((gF σ 1 ((7 + x1).toNatClampNeg)) / 5)) - ((gF σ 2 0) / 10)) σ)
set_option maxRecDepth 20000 in
theorem sj_X8_doneBy_47 {E : rfE} {Q : Int32 → rfS → Prop} (X : rfX ΛM E yX8_doneBy cX8_doneBy 4 (some .int)) (x1 : Int32) (xs0 : Int32) (xs1 : Int32) (σ : rfS) (h : wj_X8_doneBy_47 Q x1 xs0 xs1 σ) : Rf ΛM 3 E 4 (qi Q) 47 [(0, .ref 0), (1, .int x1)] [.int xs0, .int xs1] σ := by
  unfold wj_X8_doneBy_47 at h
  refine Rf_iadd X dX8_doneBy_47 rfl ?_
  refine Rf_aload_n X (j := 0) rfl rfl dX8_doneBy_48 rfl ?_
  refine Rf_get X kc8 (Nat.le_of_ble_eq_true rfl) rfl (j := 1) (Nat.le_of_ble_eq_true rfl) lf_X8_9 (v := .ref 1) rfl dX8_doneBy_49 rfl ?_
  refine Rf_bipush X (v := 7) rfl dX8_doneBy_52 rfl ?_
  refine Rf_iload_n X (j := 1) rfl rfl dX8_doneBy_54 rfl ?_
  refine Rf_iadd X dX8_doneBy_55 rfl ?_
  obtain ⟨s4, h⟩ := h
  refine Rf_iaload X (Nat.le_of_ble_eq_true rfl) rfl rfl s4 dX8_doneBy_56 rfl (v := gF σ 1 ((7 + x1).toNatClampNeg)) rfl ?_
  refine Rf_iconst X (v := 5) rfl dX8_doneBy_57 rfl ?_
  refine Rf_idiv X (by decide) dX8_doneBy_58 rfl ?_
  refine Rf_iadd X dX8_doneBy_59 rfl ?_
  refine Rf_aload_n X (j := 0) rfl rfl dX8_doneBy_60 rfl ?_
  refine Rf_get X kc8 (Nat.le_of_ble_eq_true rfl) rfl (j := 2) (Nat.le_of_ble_eq_true rfl) lf_X8_15 (v := .ref 2) rfl dX8_doneBy_61 rfl ?_
  refine Rf_iconst X (v := 0) rfl dX8_doneBy_64 rfl ?_
  refine Rf_iaload X (Nat.le_of_ble_eq_true rfl) rfl rfl (by unfold vp_in; decide) dX8_doneBy_65 rfl (v := gF σ 2 0) rfl ?_
  refine Rf_bipush X (v := 10) rfl dX8_doneBy_66 rfl ?_
  refine Rf_idiv X (by decide) dX8_doneBy_68 rfl ?_
  refine Rf_isub X dX8_doneBy_69 rfl ?_
  refine Rf_sub [] rfl ?_
  exact sj_X8_doneBy_70 X _ _ h
def wp_X8_doneBy (σ : rfS) (x1 : Int32) (Q : Int32 → rfS → Prop) : Prop :=
  (((gI σ 0 5) = 0 → vp_in (28 + (gF σ 2 1)) 42 ∧ wp_X8_wants σ x1 (gF σ 2 1) (fun (r3 : Int32) (σ2 : rfS) => ((r3 = 0 → wj_X8_doneBy_47 Q x1 0 (2 * (gF σ 1 ((28 + (gF σ 2 1)).toNatClampNeg))) σ2) ∧ (¬ r3 = 0 → wj_X8_doneBy_47 Q x1 3 (2 * (gF σ 1 ((28 + (gF σ 2 1)).toNatClampNeg))) σ2)))) ∧ (¬ (gI σ 0 5) = 0 → wp_X8_byLaw σ x1 (fun (r7 : Int32) (σ6 : rfS) => wj_X8_doneBy_70 Q r7 σ6)))
set_option maxRecDepth 20000 in
theorem k_X8_doneBy {σ : rfS} {x1 : Int32} {Q : Int32 → rfS → Prop} (h : wp_X8_doneBy σ x1 Q) : RM ΛM 3 yX8_doneBy cX8_doneBy 4 (some .int) [.ref 0, .int x1] σ (qi Q) := by
  unfold wp_X8_doneBy at h
  refine RM.intro (by decide) (Nat.le_of_ble_eq_true rfl) (fun E X => ?_)
  show Rf ΛM 3 E 4 (qi Q) 0 [(0, .ref 0), (1, .int x1)] [] σ
  refine Rf_aload_n X (j := 0) rfl rfl dX8_doneBy_0 rfl ?_
  refine Rf_get X kc8 (Nat.le_of_ble_eq_true rfl) rfl (j := 2) (Nat.le_of_ble_eq_true rfl) lf_X8_15 (v := .ref 2) rfl dX8_doneBy_1 rfl ?_
  refine Rf_iconst X (v := 1) rfl dX8_doneBy_4 rfl ?_
  refine Rf_iaload X (Nat.le_of_ble_eq_true rfl) rfl rfl (by unfold vp_in; decide) dX8_doneBy_5 rfl (v := gF σ 2 1) rfl ?_
  refine Rf_istore_n X rfl (i := 2) (Nat.le_of_ble_eq_true rfl) (ls2 := [(2, .int (gF σ 2 1)), (0, .ref 0), (1, .int x1)]) rfl dX8_doneBy_6 rfl ?_
  refine Rf_aload_n X (j := 1) rfl rfl dX8_doneBy_7 rfl ?_
  refine Rf_get X kc8 (Nat.le_of_ble_eq_true rfl) rfl (j := 5) (Nat.le_of_ble_eq_true rfl) lf_X8_193 (v := .int (gI σ 0 5)) rfl dX8_doneBy_8 rfl ?_
  refine Rf_if_eq X (tgt := 22) dX8_doneBy_11 rfl rfl (fun c8 => ?_) (fun c8 => ?_)
  · have h := h.1 c8
    refine Rf_iconst X (v := 2) rfl dX8_doneBy_22 rfl ?_
    refine Rf_aload_n X (j := 1) rfl rfl dX8_doneBy_23 rfl ?_
    refine Rf_get X kc8 (Nat.le_of_ble_eq_true rfl) rfl (j := 1) (Nat.le_of_ble_eq_true rfl) lf_X8_9 (v := .ref 1) rfl dX8_doneBy_24 rfl ?_
    refine Rf_bipush X (v := 28) rfl dX8_doneBy_27 rfl ?_
    refine Rf_iload_n X (j := 0) rfl rfl dX8_doneBy_29 rfl ?_
    refine Rf_iadd X dX8_doneBy_30 rfl ?_
    obtain ⟨s1, h⟩ := h
    refine Rf_iaload X (Nat.le_of_ble_eq_true rfl) rfl rfl s1 dX8_doneBy_31 rfl (v := gF σ 1 ((28 + (gF σ 2 1)).toNatClampNeg)) rfl ?_
    refine Rf_imul X dX8_doneBy_32 rfl ?_
    refine Rf_aload_n X (j := 1) rfl rfl dX8_doneBy_33 rfl ?_
    refine Rf_iload_n X (j := 2) rfl rfl dX8_doneBy_34 rfl ?_
    refine Rf_iload_n X (j := 0) rfl rfl dX8_doneBy_35 rfl ?_
    refine Rf_cVi (as := [.int x1, .int (gF σ 2 1)]) (st := [.int (2 * (gF σ 1 ((28 + (gF σ 2 1)).toNatClampNeg)))]) X mi_X8_wants lm_X8_206 rfl (Nat.le_of_ble_eq_true rfl) rfl (k_X8_wants h) (Nat.le_of_ble_eq_true rfl) rfl rfl (Nat.le_of_ble_eq_true rfl) dX8_doneBy_36 rfl (fun r3 σ2 h => ?_)
    refine Rf_if_eq X (tgt := 46) dX8_doneBy_39 rfl rfl (fun c5 => ?_) (fun c5 => ?_)
    · have h := h.1 c5
      refine Rf_iconst X (v := 0) rfl dX8_doneBy_46 rfl ?_
      refine Rf_sub [1, 2] rfl ?_
      exact sj_X8_doneBy_47 X _ _ _ _ h
    · have h := h.2 c5
      refine Rf_iconst X (v := 3) rfl dX8_doneBy_42 rfl ?_
      refine Rf_goto X (tgt := 47) dX8_doneBy_43 rfl ?_
      refine Rf_sub [1, 2] rfl ?_
      exact sj_X8_doneBy_47 X _ _ _ _ h
  · have h := h.2 c8
    refine Rf_aload_n X (j := 1) rfl rfl dX8_doneBy_14 rfl ?_
    refine Rf_iload_n X (j := 2) rfl rfl dX8_doneBy_15 rfl ?_
    refine Rf_cVi (as := [.int x1]) (st := []) X mi_X8_byLaw lm_X8_217 rfl (Nat.le_of_ble_eq_true rfl) rfl (k_X8_byLaw h) (Nat.le_of_ble_eq_true rfl) rfl rfl (Nat.le_of_ble_eq_true rfl) dX8_doneBy_16 rfl (fun r7 σ6 h => ?_)
    refine Rf_goto X (tgt := 70) dX8_doneBy_19 rfl ?_
    refine Rf_sub [] rfl ?_
    exact sj_X8_doneBy_70 X _ _ h
def wp_X8_does (σ : rfS) (x1 : Int32) (Q : Int32 → rfS → Prop) : Prop :=
  wp_X8_isOne σ x1 (fun (r2 : Int32) (σ1 : rfS) => ((r2 = 0 → Q (-1) σ1) ∧ (¬ r2 = 0 → wp_X8_doneBy σ1 x1 (fun (r4 : Int32) (σ3 : rfS) => Q r4 σ3))))
set_option maxRecDepth 20000 in
theorem k_X8_does {σ : rfS} {x1 : Int32} {Q : Int32 → rfS → Prop} (h : wp_X8_does σ x1 Q) : RM ΛM 4 yX8_does cX8_does 2 (some .int) [.ref 0, .int x1] σ (qi Q) := by
  unfold wp_X8_does at h
  refine RM.intro (by decide) (Nat.le_of_ble_eq_true rfl) (fun E X => ?_)
  show Rf ΛM 4 E 2 (qi Q) 0 [(0, .ref 0), (1, .int x1)] [] σ
  refine Rf_aload_n X (j := 0) rfl rfl dX8_does_0 rfl ?_
  refine Rf_iload_n X (j := 1) rfl rfl dX8_does_1 rfl ?_
  refine Rf_cVi (as := [.int x1]) (st := []) X mi_X8_isOne lm_X8_116 rfl (Nat.le_of_ble_eq_true rfl) rfl (k_X8_isOne h) (Nat.le_of_ble_eq_true rfl) rfl rfl (Nat.le_of_ble_eq_true rfl) dX8_does_2 rfl (fun r2 σ1 h => ?_)
  refine Rf_if_eq X (tgt := 16) dX8_does_5 rfl rfl (fun c5 => ?_) (fun c5 => ?_)
  · have h := h.1 c5
    refine Rf_iconst X (v := (-1)) (by decide) dX8_does_16 rfl ?_
    exact Rf_iret X rfl dX8_does_17 ⟨_, rfl, h⟩
  · have h := h.2 c5
    refine Rf_aload_n X (j := 0) rfl rfl dX8_does_8 rfl ?_
    refine Rf_iload_n X (j := 1) rfl rfl dX8_does_9 rfl ?_
    refine Rf_cVi (as := [.int x1]) (st := []) X mi_X8_doneBy lm_X8_228 rfl (Nat.le_of_ble_eq_true rfl) rfl (k_X8_doneBy h) (Nat.le_of_ble_eq_true rfl) rfl rfl (Nat.le_of_ble_eq_true rfl) dX8_does_10 rfl (fun r4 σ3 h => ?_)
    refine Rf_goto X (tgt := 17) dX8_does_13 rfl ?_
    exact Rf_iret X rfl dX8_does_17 ⟨_, rfl, h⟩
def wl_X8_passes_119 (Q : Int32 → rfS → Prop) (kx_177 : Int32 → Int32 → Int32 → rfS → Prop) : Nat → Int32 → Int32 → Int32 → Int32 → rfS → Prop
  | 0, _, _, _, _, _ => False
  | n + 1, x1, x2, x3, x4, σ => (((gI σ 0 0) ≤ x4 → kx_177 x1 x2 x3 σ) ∧ (¬ ((gI σ 0 0) ≤ x4) → ((x4 = x1 → wl_X8_passes_119 Q kx_177 n x1 x2 x3 (x4 + 1) σ) ∧ (¬ x4 = x1 → wp_X8_wants σ x4 x2 (fun (r4 : Int32) (σ3 : rfS) => ((r4 = 0 → wl_X8_passes_119 Q kx_177 n x1 x2 x3 (x4 + 1) σ3) ∧ (¬ r4 = 0 → vp_in (7 + x4) 42 ∧ vp_in (7 + x4) 42 ∧ (wl_X8_passes_119 Q kx_177 n x1 x2 x3 (x4 + 1) (sF σ3 1 ((7 + x4).toNatClampNeg) (if ((gF σ3 1 ((7 + x4).toNatClampNeg)) + 1) < 99 then ((gF σ3 1 ((7 + x4).toNatClampNeg)) + 1) else 99))))))))))
set_option maxRecDepth 20000 in
theorem sl_X8_passes_119 {E : rfE} {Q : Int32 → rfS → Prop} (X : rfX ΛM E yX8_passes cX8_passes 5 (some .int)) {kx_177 : Int32 → Int32 → Int32 → rfS → Prop} (hkx_177 : ∀ (x1 : Int32) (x2 : Int32) (x3 : Int32) (σ : rfS), kx_177 x1 x2 x3 σ → Rf ΛM 4 E 5 (qi Q) 177 [(0, .ref 0), (1, .int x1), (2, .int x2), (3, .int x3)] [] σ) : ∀ (n : Nat) (x1 : Int32) (x2 : Int32) (x3 : Int32) (x4 : Int32) (σ : rfS), wl_X8_passes_119 Q kx_177 n x1 x2 x3 x4 σ → Rf ΛM 4 E 5 (qi Q) 119 [(0, .ref 0), (1, .int x1), (2, .int x2), (3, .int x3), (4, .int x4)] [] σ := by
  intro n
  induction n with
  | zero =>
    intro x1 x2 x3 x4 σ h
    exact False.elim h
  | succ n hkb_119 =>
    intro x1 x2 x3 x4 σ h
    unfold wl_X8_passes_119 at h
    refine Rf_iload X (j := 4) rfl dX8_passes_119 rfl ?_
    refine Rf_aload_n X (j := 0) rfl rfl dX8_passes_121 rfl ?_
    refine Rf_get X kc8 (Nat.le_of_ble_eq_true rfl) rfl (j := 0) (Nat.le_of_ble_eq_true rfl) lf_X8_94 (v := .int (gI σ 0 0)) rfl dX8_passes_122 rfl ?_
    refine Rf_icmp_ge X (tgt := 177) dX8_passes_125 rfl rfl (fun c9 => ?_) (fun c9 => ?_)
    · have h := h.1 c9
      refine Rf_sub [0, 1, 2, 3] rfl ?_
      exact hkx_177 _ _ _ σ h
    · have h := h.2 c9
      refine Rf_iload X (j := 4) rfl dX8_passes_128 rfl ?_
      refine Rf_iload_n X (j := 1) rfl rfl dX8_passes_130 rfl ?_
      refine Rf_icmp_eq X (tgt := 171) dX8_passes_131 rfl rfl (fun c8 => ?_) (fun c8 => ?_)
      · have h := h.1 c8
        refine Rf_iinc X (i := 4) (j := 4) (v := x4 + 1) rfl rfl (Nat.le_of_ble_eq_true rfl) (ls2 := [(4, .int (x4 + 1)), (0, .ref 0), (1, .int x1), (2, .int x2), (3, .int x3)]) rfl dX8_passes_171 rfl ?_
        refine Rf_goto X (tgt := 119) dX8_passes_174 rfl ?_
        refine Rf_sub [1, 2, 3, 4, 0] rfl ?_
        exact hkb_119 _ _ _ _ σ h
      · have h := h.2 c8
        refine Rf_aload_n X (j := 0) rfl rfl dX8_passes_134 rfl ?_
        refine Rf_iload X (j := 4) rfl dX8_passes_135 rfl ?_
        refine Rf_iload_n X (j := 2) rfl rfl dX8_passes_137 rfl ?_
        refine Rf_cVi (as := [.int x4, .int x2]) (st := []) X mi_X8_wants lm_X8_206 rfl (Nat.le_of_ble_eq_true rfl) rfl (k_X8_wants h) (Nat.le_of_ble_eq_true rfl) rfl rfl (Nat.le_of_ble_eq_true rfl) dX8_passes_138 rfl (fun r4 σ3 h => ?_)
        refine Rf_if_eq X (tgt := 171) dX8_passes_141 rfl rfl (fun c7 => ?_) (fun c7 => ?_)
        · have h := h.1 c7
          refine Rf_iinc X (i := 4) (j := 4) (v := x4 + 1) rfl rfl (Nat.le_of_ble_eq_true rfl) (ls2 := [(4, .int (x4 + 1)), (0, .ref 0), (1, .int x1), (2, .int x2), (3, .int x3)]) rfl dX8_passes_171 rfl ?_
          refine Rf_goto X (tgt := 119) dX8_passes_174 rfl ?_
          refine Rf_sub [1, 2, 3, 4, 0] rfl ?_
          exact hkb_119 _ _ _ _ σ3 h
        · have h := h.2 c7
          refine Rf_aload_n X (j := 0) rfl rfl dX8_passes_144 rfl ?_
          refine Rf_get X kc8 (Nat.le_of_ble_eq_true rfl) rfl (j := 1) (Nat.le_of_ble_eq_true rfl) lf_X8_9 (v := .ref 1) rfl dX8_passes_145 rfl ?_
          refine Rf_bipush X (v := 7) rfl dX8_passes_148 rfl ?_
          refine Rf_iload X (j := 4) rfl dX8_passes_150 rfl ?_
          refine Rf_iadd X dX8_passes_152 rfl ?_
          refine Rf_bipush X (v := 99) rfl dX8_passes_153 rfl ?_
          refine Rf_aload_n X (j := 0) rfl rfl dX8_passes_155 rfl ?_
          refine Rf_get X kc8 (Nat.le_of_ble_eq_true rfl) rfl (j := 1) (Nat.le_of_ble_eq_true rfl) lf_X8_9 (v := .ref 1) rfl dX8_passes_156 rfl ?_
          refine Rf_bipush X (v := 7) rfl dX8_passes_159 rfl ?_
          refine Rf_iload X (j := 4) rfl dX8_passes_161 rfl ?_
          refine Rf_iadd X dX8_passes_163 rfl ?_
          obtain ⟨s5, h⟩ := h
          refine Rf_iaload X (Nat.le_of_ble_eq_true rfl) rfl rfl s5 dX8_passes_164 rfl (v := gF σ3 1 ((7 + x4).toNatClampNeg)) rfl ?_
          refine Rf_iconst X (v := 1) rfl dX8_passes_165 rfl ?_
          refine Rf_iadd X dX8_passes_166 rfl ?_
          refine Rf_min X lm_X8_220 mm_min.1 mm_min.2.1 mm_min.2.2 (Nat.le_of_ble_eq_true rfl) (Nat.le_of_ble_eq_true rfl) dX8_passes_167 rfl ?_
          obtain ⟨s6, h⟩ := h
          refine Rf_iastore X (Nat.le_of_ble_eq_true rfl) rfl rfl s6 dX8_passes_170 rfl ?_
          refine Rf_iinc X (i := 4) (j := 4) (v := x4 + 1) rfl rfl (Nat.le_of_ble_eq_true rfl) (ls2 := [(4, .int (x4 + 1)), (0, .ref 0), (1, .int x1), (2, .int x2), (3, .int x3)]) rfl dX8_passes_171 rfl ?_
          refine Rf_goto X (tgt := 119) dX8_passes_174 rfl ?_
          refine Rf_sub [1, 2, 3, 4, 0] rfl ?_
          exact hkb_119 _ _ _ _ (sF σ3 1 ((7 + x4).toNatClampNeg) (if ((gF σ3 1 ((7 + x4).toNatClampNeg)) + 1) < 99 then ((gF σ3 1 ((7 + x4).toNatClampNeg)) + 1) else 99)) h
def wj_X8_passes_211 (Q : Int32 → rfS → Prop) (x2 : Int32) (x3 : Int32) (σ : rfS) : Prop :=
  Q x3 (sF σ 2 1 ((x2 + 1) - (x2 + 1) / 7 * 7))
set_option maxRecDepth 20000 in
theorem sj_X8_passes_211 {E : rfE} {Q : Int32 → rfS → Prop} (X : rfX ΛM E yX8_passes cX8_passes 5 (some .int)) (x2 : Int32) (x3 : Int32) (σ : rfS) (h : wj_X8_passes_211 Q x2 x3 σ) : Rf ΛM 4 E 5 (qi Q) 211 [(0, .ref 0), (2, .int x2), (3, .int x3)] [] σ := by
  unfold wj_X8_passes_211 at h
  refine Rf_aload_n X (j := 0) rfl rfl dX8_passes_211 rfl ?_
  refine Rf_get X kc8 (Nat.le_of_ble_eq_true rfl) rfl (j := 2) (Nat.le_of_ble_eq_true rfl) lf_X8_15 (v := .ref 2) rfl dX8_passes_212 rfl ?_
  refine Rf_iconst X (v := 1) rfl dX8_passes_215 rfl ?_
  refine Rf_iload_n X (j := 1) rfl rfl dX8_passes_216 rfl ?_
  refine Rf_iconst X (v := 1) rfl dX8_passes_217 rfl ?_
  refine Rf_iadd X dX8_passes_218 rfl ?_
  refine Rf_bipush X (v := 7) rfl dX8_passes_219 rfl ?_
  refine Rf_irem X (by decide) dX8_passes_221 rfl ?_
  refine Rf_iastore X (Nat.le_of_ble_eq_true rfl) rfl rfl (by unfold vp_in; decide) dX8_passes_222 rfl ?_
  refine Rf_iload_n X (j := 2) rfl rfl dX8_passes_223 rfl ?_
  exact Rf_iret X rfl dX8_passes_224 ⟨_, rfl, h⟩
def wj_X8_passes_116 (Q : Int32 → rfS → Prop) (x1 : Int32) (x2 : Int32) (x3 : Int32) (σ : rfS) : Prop :=
  (∃ n10, wl_X8_passes_119 Q (fun (x1_11 : Int32) (x2_12 : Int32) (x3_13 : Int32) (σ14 : rfS) => ((x1_11 = 7 → wj_X8_passes_211 Q x2_12 x3_13 σ14) ∧ (¬ x1_11 = 7 → (¬ (gI σ14 0 0) = 0) ∧ vp_in (14 + ((x1_11 + 1) - (x1_11 + 1) / (gI σ14 0 0) * (gI σ14 0 0))) 42 ∧ vp_in (14 + x1_11) 42 ∧ vp_in (14 + ((x1_11 + 1) - (x1_11 + 1) / (gI σ14 0 0) * (gI σ14 0 0))) 42 ∧ (wj_X8_passes_211 Q x2_12 x3_13 (sF σ14 1 ((14 + ((x1_11 + 1) - (x1_11 + 1) / (gI σ14 0 0) * (gI σ14 0 0))).toNatClampNeg) ((gF σ14 1 ((14 + ((x1_11 + 1) - (x1_11 + 1) / (gI σ14 0 0) * (gI σ14 0 0))).toNatClampNeg)) ||| (gF σ14 1 ((14 + x1_11).toNatClampNeg)))))))) n10 x1 x2 x3 0 σ)
set_option maxRecDepth 20000 in
theorem sj_X8_passes_116 {E : rfE} {Q : Int32 → rfS → Prop} (X : rfX ΛM E yX8_passes cX8_passes 5 (some .int)) (x1 : Int32) (x2 : Int32) (x3 : Int32) (σ : rfS) (h : wj_X8_passes_116 Q x1 x2 x3 σ) : Rf ΛM 4 E 5 (qi Q) 116 [(0, .ref 0), (1, .int x1), (2, .int x2), (3, .int x3)] [] σ := by
  unfold wj_X8_passes_116 at h
  refine Rf_iconst X (v := 0) rfl dX8_passes_116 rfl ?_
  refine Rf_istore X (i := 4) (Nat.le_of_ble_eq_true rfl) (ls2 := [(4, .int 0), (0, .ref 0), (1, .int x1), (2, .int x2), (3, .int x3)]) rfl dX8_passes_117 rfl ?_
  obtain ⟨n10, h⟩ := h
  refine Rf_sub [1, 2, 3, 4, 0] rfl ?_
  refine sl_X8_passes_119 X (fun x1_11 x2_12 x3_13 σ14 h => ?_) n10 _ _ _ _ _ h
  · refine Rf_iload_n X (j := 1) rfl rfl dX8_passes_177 rfl ?_
    refine Rf_bipush X (v := 7) rfl dX8_passes_178 rfl ?_
    refine Rf_icmp_eq X (tgt := 211) dX8_passes_180 rfl rfl (fun c19 => ?_) (fun c19 => ?_)
    · have h := h.1 c19
      refine Rf_sub [0, 2, 3] rfl ?_
      exact sj_X8_passes_211 X _ _ _ h
    · have h := h.2 c19
      refine Rf_aload_n X (j := 0) rfl rfl dX8_passes_183 rfl ?_
      refine Rf_get X kc8 (Nat.le_of_ble_eq_true rfl) rfl (j := 1) (Nat.le_of_ble_eq_true rfl) lf_X8_9 (v := .ref 1) rfl dX8_passes_184 rfl ?_
      refine Rf_bipush X (v := 14) rfl dX8_passes_187 rfl ?_
      refine Rf_iload_n X (j := 1) rfl rfl dX8_passes_189 rfl ?_
      refine Rf_iconst X (v := 1) rfl dX8_passes_190 rfl ?_
      refine Rf_iadd X dX8_passes_191 rfl ?_
      refine Rf_aload_n X (j := 0) rfl rfl dX8_passes_192 rfl ?_
      refine Rf_get X kc8 (Nat.le_of_ble_eq_true rfl) rfl (j := 0) (Nat.le_of_ble_eq_true rfl) lf_X8_94 (v := .int (gI σ14 0 0)) rfl dX8_passes_193 rfl ?_
      obtain ⟨s15, h⟩ := h
      refine Rf_irem X s15 dX8_passes_196 rfl ?_
      refine Rf_iadd X dX8_passes_197 rfl ?_
      refine Rf_dup2 X rfl rfl dX8_passes_198 rfl ?_
      obtain ⟨s16, h⟩ := h
      refine Rf_iaload X (Nat.le_of_ble_eq_true rfl) rfl rfl s16 dX8_passes_199 rfl (v := gF σ14 1 ((14 + ((x1_11 + 1) - (x1_11 + 1) / (gI σ14 0 0) * (gI σ14 0 0))).toNatClampNeg)) rfl ?_
      refine Rf_aload_n X (j := 0) rfl rfl dX8_passes_200 rfl ?_
      refine Rf_get X kc8 (Nat.le_of_ble_eq_true rfl) rfl (j := 1) (Nat.le_of_ble_eq_true rfl) lf_X8_9 (v := .ref 1) rfl dX8_passes_201 rfl ?_
      refine Rf_bipush X (v := 14) rfl dX8_passes_204 rfl ?_
      refine Rf_iload_n X (j := 1) rfl rfl dX8_passes_206 rfl ?_
      refine Rf_iadd X dX8_passes_207 rfl ?_
      obtain ⟨s17, h⟩ := h
      refine Rf_iaload X (Nat.le_of_ble_eq_true rfl) rfl rfl s17 dX8_passes_208 rfl (v := gF σ14 1 ((14 + x1_11).toNatClampNeg)) rfl ?_
      refine Rf_ior X dX8_passes_209 rfl ?_
      obtain ⟨s18, h⟩ := h
      refine Rf_iastore X (Nat.le_of_ble_eq_true rfl) rfl rfl s18 dX8_passes_210 rfl ?_
      refine Rf_sub [0, 2, 3] rfl ?_
      exact sj_X8_passes_211 X _ _ _ h
def wj_X8_passes_65 (Q : Int32 → rfS → Prop) (x1 : Int32) (x2 : Int32) (x3 : Int32) (σ : rfS) : Prop :=
  vp_in (7 + x1) 42 ∧ vp_in (7 + x1) 42 ∧ vp_in (28 + x2) 42 ∧ (wj_X8_passes_116 Q x1 x2 x3 (sF (sF σ 1 ((7 + x1).toNatClampNeg) (if 0 < ((gF σ 1 ((7 + x1).toNatClampNeg)) - 2) then ((gF σ 1 ((7 + x1).toNatClampNeg)) - 2) else 0)) 2 0 (if ((gF σ 2 0) + (gF (sF σ 1 ((7 + x1).toNatClampNeg) (if 0 < ((gF σ 1 ((7 + x1).toNatClampNeg)) - 2) then ((gF σ 1 ((7 + x1).toNatClampNeg)) - 2) else 0)) 1 ((28 + x2).toNatClampNeg))) < 99 then ((gF σ 2 0) + (gF (sF σ 1 ((7 + x1).toNatClampNeg) (if 0 < ((gF σ 1 ((7 + x1).toNatClampNeg)) - 2) then ((gF σ 1 ((7 + x1).toNatClampNeg)) - 2) else 0)) 1 ((28 + x2).toNatClampNeg))) else 99)))
set_option maxRecDepth 20000 in
theorem sj_X8_passes_65 {E : rfE} {Q : Int32 → rfS → Prop} (X : rfX ΛM E yX8_passes cX8_passes 5 (some .int)) (x1 : Int32) (x2 : Int32) (x3 : Int32) (σ : rfS) (h : wj_X8_passes_65 Q x1 x2 x3 σ) : Rf ΛM 4 E 5 (qi Q) 65 [(0, .ref 0), (1, .int x1), (2, .int x2), (3, .int x3)] [] σ := by
  unfold wj_X8_passes_65 at h
  refine Rf_aload_n X (j := 0) rfl rfl dX8_passes_65 rfl ?_
  refine Rf_get X kc8 (Nat.le_of_ble_eq_true rfl) rfl (j := 1) (Nat.le_of_ble_eq_true rfl) lf_X8_9 (v := .ref 1) rfl dX8_passes_66 rfl ?_
  refine Rf_bipush X (v := 7) rfl dX8_passes_69 rfl ?_
  refine Rf_iload_n X (j := 1) rfl rfl dX8_passes_71 rfl ?_
  refine Rf_iadd X dX8_passes_72 rfl ?_
  refine Rf_iconst X (v := 0) rfl dX8_passes_73 rfl ?_
  refine Rf_aload_n X (j := 0) rfl rfl dX8_passes_74 rfl ?_
  refine Rf_get X kc8 (Nat.le_of_ble_eq_true rfl) rfl (j := 1) (Nat.le_of_ble_eq_true rfl) lf_X8_9 (v := .ref 1) rfl dX8_passes_75 rfl ?_
  refine Rf_bipush X (v := 7) rfl dX8_passes_78 rfl ?_
  refine Rf_iload_n X (j := 1) rfl rfl dX8_passes_80 rfl ?_
  refine Rf_iadd X dX8_passes_81 rfl ?_
  obtain ⟨s21, h⟩ := h
  refine Rf_iaload X (Nat.le_of_ble_eq_true rfl) rfl rfl s21 dX8_passes_82 rfl (v := gF σ 1 ((7 + x1).toNatClampNeg)) rfl ?_
  refine Rf_iconst X (v := 2) rfl dX8_passes_83 rfl ?_
  refine Rf_isub X dX8_passes_84 rfl ?_
  refine Rf_max X lm_X8_225 mm_max.1 mm_max.2.1 mm_max.2.2 (Nat.le_of_ble_eq_true rfl) (Nat.le_of_ble_eq_true rfl) dX8_passes_85 rfl ?_
  obtain ⟨s22, h⟩ := h
  refine Rf_iastore X (Nat.le_of_ble_eq_true rfl) rfl rfl s22 dX8_passes_88 rfl ?_
  refine Rf_aload_n X (j := 0) rfl rfl dX8_passes_89 rfl ?_
  refine Rf_get X kc8 (Nat.le_of_ble_eq_true rfl) rfl (j := 2) (Nat.le_of_ble_eq_true rfl) lf_X8_15 (v := .ref 2) rfl dX8_passes_90 rfl ?_
  refine Rf_iconst X (v := 0) rfl dX8_passes_93 rfl ?_
  refine Rf_bipush X (v := 99) rfl dX8_passes_94 rfl ?_
  refine Rf_aload_n X (j := 0) rfl rfl dX8_passes_96 rfl ?_
  refine Rf_get X kc8 (Nat.le_of_ble_eq_true rfl) rfl (j := 2) (Nat.le_of_ble_eq_true rfl) lf_X8_15 (v := .ref 2) rfl dX8_passes_97 rfl ?_
  refine Rf_iconst X (v := 0) rfl dX8_passes_100 rfl ?_
  refine Rf_iaload X (Nat.le_of_ble_eq_true rfl) rfl rfl (by unfold vp_in; decide) dX8_passes_101 rfl (v := gF σ 2 0) (show gF (sF σ 1 ((7 + x1).toNatClampNeg) (if 0 < ((gF σ 1 ((7 + x1).toNatClampNeg)) - 2) then ((gF σ 1 ((7 + x1).toNatClampNeg)) - 2) else 0)) 2 0 = gF σ 2 0 from gF_sFn (by decide)) ?_
  refine Rf_aload_n X (j := 0) rfl rfl dX8_passes_102 rfl ?_
  refine Rf_get X kc8 (Nat.le_of_ble_eq_true rfl) rfl (j := 1) (Nat.le_of_ble_eq_true rfl) lf_X8_9 (v := .ref 1) rfl dX8_passes_103 rfl ?_
  refine Rf_bipush X (v := 28) rfl dX8_passes_106 rfl ?_
  refine Rf_iload_n X (j := 2) rfl rfl dX8_passes_108 rfl ?_
  refine Rf_iadd X dX8_passes_109 rfl ?_
  obtain ⟨s23, h⟩ := h
  refine Rf_iaload X (Nat.le_of_ble_eq_true rfl) rfl rfl s23 dX8_passes_110 rfl (v := gF (sF σ 1 ((7 + x1).toNatClampNeg) (if 0 < ((gF σ 1 ((7 + x1).toNatClampNeg)) - 2) then ((gF σ 1 ((7 + x1).toNatClampNeg)) - 2) else 0)) 1 ((28 + x2).toNatClampNeg)) rfl ?_
  refine Rf_iadd X dX8_passes_111 rfl ?_
  refine Rf_min X lm_X8_220 mm_min.1 mm_min.2.1 mm_min.2.2 (Nat.le_of_ble_eq_true rfl) (Nat.le_of_ble_eq_true rfl) dX8_passes_112 rfl ?_
  refine Rf_iastore X (Nat.le_of_ble_eq_true rfl) rfl rfl (by unfold vp_in; decide) dX8_passes_115 rfl ?_
  exact sj_X8_passes_116 X _ _ _ _ h
def wj_X8_passes_22 (Q : Int32 → rfS → Prop) (x1 : Int32) (x2 : Int32) (xs0 : Int32) (σ : rfS) : Prop :=
  ((x1 = 7 → wj_X8_passes_116 Q x1 x2 xs0 σ) ∧ (¬ x1 = 7 → vp_in (28 + x2) 42 ∧ ((¬ (gF σ 1 ((28 + x2).toNatClampNeg)) = 2 → wj_X8_passes_65 Q x1 x2 xs0 σ) ∧ ((gF σ 1 ((28 + x2).toNatClampNeg)) = 2 → vp_in (14 + x1) 42 ∧ vp_in (35 + x2) 42 ∧ vp_in (14 + x1) 42 ∧ (wj_X8_passes_65 Q x1 x2 xs0 (sF σ 1 ((14 + x1).toNatClampNeg) ((gF σ 1 ((14 + x1).toNatClampNeg)) ||| (1 <<< ((gF σ 1 ((35 + x2).toNatClampNeg)) &&& 31)))))))))
set_option maxRecDepth 20000 in
theorem sj_X8_passes_22 {E : rfE} {Q : Int32 → rfS → Prop} (X : rfX ΛM E yX8_passes cX8_passes 5 (some .int)) (x1 : Int32) (x2 : Int32) (xs0 : Int32) (σ : rfS) (h : wj_X8_passes_22 Q x1 x2 xs0 σ) : Rf ΛM 4 E 5 (qi Q) 22 [(0, .ref 0), (1, .int x1), (2, .int x2)] [.int xs0] σ := by
  unfold wj_X8_passes_22 at h
  refine Rf_istore_n X rfl (i := 3) (Nat.le_of_ble_eq_true rfl) (ls2 := [(3, .int xs0), (0, .ref 0), (1, .int x1), (2, .int x2)]) rfl dX8_passes_22 rfl ?_
  refine Rf_iload_n X (j := 2) rfl rfl dX8_passes_23 rfl ?_
  refine Rf_bipush X (v := 7) rfl dX8_passes_24 rfl ?_
  refine Rf_icmp_eq X (tgt := 116) dX8_passes_26 rfl rfl (fun c28 => ?_) (fun c28 => ?_)
  · have h := h.1 c28
    refine Rf_sub [1, 2, 3, 0] rfl ?_
    exact sj_X8_passes_116 X _ _ _ _ h
  · have h := h.2 c28
    refine Rf_aload_n X (j := 1) rfl rfl dX8_passes_29 rfl ?_
    refine Rf_get X kc8 (Nat.le_of_ble_eq_true rfl) rfl (j := 1) (Nat.le_of_ble_eq_true rfl) lf_X8_9 (v := .ref 1) rfl dX8_passes_30 rfl ?_
    refine Rf_bipush X (v := 28) rfl dX8_passes_33 rfl ?_
    refine Rf_iload_n X (j := 3) rfl rfl dX8_passes_35 rfl ?_
    refine Rf_iadd X dX8_passes_36 rfl ?_
    obtain ⟨s20, h⟩ := h
    refine Rf_iaload X (Nat.le_of_ble_eq_true rfl) rfl rfl s20 dX8_passes_37 rfl (v := gF σ 1 ((28 + x2).toNatClampNeg)) rfl ?_
    refine Rf_iconst X (v := 2) rfl dX8_passes_38 rfl ?_
    refine Rf_icmp_ne X (tgt := 65) dX8_passes_39 rfl rfl (fun c27 => ?_) (fun c27 => ?_)
    · have h := h.1 c27
      refine Rf_sub [1, 2, 3, 0] rfl ?_
      exact sj_X8_passes_65 X _ _ _ _ h
    · have h := h.2 c27
      refine Rf_aload_n X (j := 1) rfl rfl dX8_passes_42 rfl ?_
      refine Rf_get X kc8 (Nat.le_of_ble_eq_true rfl) rfl (j := 1) (Nat.le_of_ble_eq_true rfl) lf_X8_9 (v := .ref 1) rfl dX8_passes_43 rfl ?_
      refine Rf_bipush X (v := 14) rfl dX8_passes_46 rfl ?_
      refine Rf_iload_n X (j := 2) rfl rfl dX8_passes_48 rfl ?_
      refine Rf_iadd X dX8_passes_49 rfl ?_
      refine Rf_dup2 X rfl rfl dX8_passes_50 rfl ?_
      obtain ⟨s24, h⟩ := h
      refine Rf_iaload X (Nat.le_of_ble_eq_true rfl) rfl rfl s24 dX8_passes_51 rfl (v := gF σ 1 ((14 + x1).toNatClampNeg)) rfl ?_
      refine Rf_iconst X (v := 1) rfl dX8_passes_52 rfl ?_
      refine Rf_aload_n X (j := 1) rfl rfl dX8_passes_53 rfl ?_
      refine Rf_get X kc8 (Nat.le_of_ble_eq_true rfl) rfl (j := 1) (Nat.le_of_ble_eq_true rfl) lf_X8_9 (v := .ref 1) rfl dX8_passes_54 rfl ?_
      refine Rf_bipush X (v := 35) rfl dX8_passes_57 rfl ?_
      refine Rf_iload_n X (j := 3) rfl rfl dX8_passes_59 rfl ?_
      refine Rf_iadd X dX8_passes_60 rfl ?_
      obtain ⟨s25, h⟩ := h
      refine Rf_iaload X (Nat.le_of_ble_eq_true rfl) rfl rfl s25 dX8_passes_61 rfl (v := gF σ 1 ((35 + x2).toNatClampNeg)) rfl ?_
      refine Rf_ishl X dX8_passes_62 rfl ?_
      refine Rf_ior X dX8_passes_63 rfl ?_
      obtain ⟨s26, h⟩ := h
      refine Rf_iastore X (Nat.le_of_ble_eq_true rfl) rfl rfl s26 dX8_passes_64 rfl ?_
      refine Rf_sub [1, 2, 3, 0] rfl ?_
      exact sj_X8_passes_65 X _ _ _ _ h
def wp_X8_passes (σ : rfS) (x1 : Int32) (Q : Int32 → rfS → Prop) : Prop :=
  ((¬ x1 = 7 → wp_X8_doneBy σ x1 (fun (r2 : Int32) (σ1 : rfS) => wj_X8_passes_22 Q x1 (gF σ 2 1) r2 σ1)) ∧ (x1 = 7 → wj_X8_passes_22 Q x1 (gF σ 2 1) 0 σ))
set_option maxRecDepth 20000 in
theorem k_X8_passes {σ : rfS} {x1 : Int32} {Q : Int32 → rfS → Prop} (h : wp_X8_passes σ x1 Q) : RM ΛM 4 yX8_passes cX8_passes 5 (some .int) [.ref 0, .int x1] σ (qi Q) := by
  unfold wp_X8_passes at h
  refine RM.intro (by decide) (Nat.le_of_ble_eq_true rfl) (fun E X => ?_)
  show Rf ΛM 4 E 5 (qi Q) 0 [(0, .ref 0), (1, .int x1)] [] σ
  refine Rf_aload_n X (j := 0) rfl rfl dX8_passes_0 rfl ?_
  refine Rf_get X kc8 (Nat.le_of_ble_eq_true rfl) rfl (j := 2) (Nat.le_of_ble_eq_true rfl) lf_X8_15 (v := .ref 2) rfl dX8_passes_1 rfl ?_
  refine Rf_iconst X (v := 1) rfl dX8_passes_4 rfl ?_
  refine Rf_iaload X (Nat.le_of_ble_eq_true rfl) rfl rfl (by unfold vp_in; decide) dX8_passes_5 rfl (v := gF σ 2 1) rfl ?_
  refine Rf_istore_n X rfl (i := 2) (Nat.le_of_ble_eq_true rfl) (ls2 := [(2, .int (gF σ 2 1)), (0, .ref 0), (1, .int x1)]) rfl dX8_passes_6 rfl ?_
  refine Rf_iload_n X (j := 2) rfl rfl dX8_passes_7 rfl ?_
  refine Rf_bipush X (v := 7) rfl dX8_passes_8 rfl ?_
  refine Rf_icmp_ne X (tgt := 17) dX8_passes_10 rfl rfl (fun c29 => ?_) (fun c29 => ?_)
  · have h := h.1 c29
    refine Rf_aload_n X (j := 1) rfl rfl dX8_passes_17 rfl ?_
    refine Rf_iload_n X (j := 2) rfl rfl dX8_passes_18 rfl ?_
    refine Rf_cVi (as := [.int x1]) (st := []) X mi_X8_doneBy lm_X8_228 rfl (Nat.le_of_ble_eq_true rfl) rfl (k_X8_doneBy h) (Nat.le_of_ble_eq_true rfl) rfl rfl (Nat.le_of_ble_eq_true rfl) dX8_passes_19 rfl (fun r2 σ1 h => ?_)
    refine Rf_sub [1, 2, 0] rfl ?_
    exact sj_X8_passes_22 X _ _ _ _ h
  · have h := h.2 c29
    refine Rf_iconst X (v := 0) rfl dX8_passes_13 rfl ?_
    refine Rf_goto X (tgt := 22) dX8_passes_14 rfl ?_
    refine Rf_sub [1, 2, 0] rfl ?_
    exact sj_X8_passes_22 X _ _ _ _ h
def wl_X8_keeps_2 (Q : rfS → Prop) (kx_41 : Nat → rfS → Prop) : Nat → Nat → Int32 → rfS → Prop
  | 0, _, _, _ => False
  | n + 1, a1, x2, σ => ((7 ≤ x2 → kx_41 a1 σ) ∧ (¬ (7 ≤ x2) → vp_in (7 + x2) 42 ∧ vp_in x2 16 ∧ vp_in (14 + x2) 42 ∧ vp_in (7 + x2) 16 ∧ (wl_X8_keeps_2 Q kx_41 n a1 (x2 + 1) (sF (sF σ a1 (x2.toNatClampNeg) (gF σ 1 ((7 + x2).toNatClampNeg))) a1 ((7 + x2).toNatClampNeg) (gF (sF σ a1 (x2.toNatClampNeg) (gF σ 1 ((7 + x2).toNatClampNeg))) 1 ((14 + x2).toNatClampNeg))))))
set_option maxRecDepth 20000 in
theorem sl_X8_keeps_2 {E : rfE} {Q : rfS → Prop} (X : rfX ΛM E yX8_keeps cX8_keeps 3 none) {kx_41 : Nat → rfS → Prop} (hkx_41 : ∀ (a1 : Nat) (σ : rfS), isW a1 → kx_41 a1 σ → Rf ΛM 0 E 3 (qv Q) 41 [(0, .ref 0), (1, .ref a1)] [] σ) : ∀ (n : Nat) (a1 : Nat) (x2 : Int32) (σ : rfS), isW a1 → wl_X8_keeps_2 Q kx_41 n a1 x2 σ → Rf ΛM 0 E 3 (qv Q) 2 [(0, .ref 0), (1, .ref a1), (2, .int x2)] [] σ := by
  intro n
  induction n with
  | zero =>
    intro a1 x2 σ ha1 h
    exact False.elim h
  | succ n hkb_2 =>
    intro a1 x2 σ ha1 h
    unfold wl_X8_keeps_2 at h
    refine Rf_iload_n X (j := 2) rfl rfl dX8_keeps_2 rfl ?_
    refine Rf_bipush X (v := 7) rfl dX8_keeps_3 rfl ?_
    refine Rf_icmp_ge X (tgt := 41) dX8_keeps_5 rfl rfl (fun c5 => ?_) (fun c5 => ?_)
    · have h := h.1 c5
      refine Rf_sub [0, 1] rfl ?_
      exact hkx_41 _ σ ha1 h
    · have h := h.2 c5
      refine Rf_aload_n X (j := 1) rfl rfl dX8_keeps_8 rfl ?_
      refine Rf_iload_n X (j := 2) rfl rfl dX8_keeps_9 rfl ?_
      refine Rf_aload_n X (j := 0) rfl rfl dX8_keeps_10 rfl ?_
      refine Rf_get X kc8 (Nat.le_of_ble_eq_true rfl) rfl (j := 1) (Nat.le_of_ble_eq_true rfl) lf_X8_9 (v := .ref 1) rfl dX8_keeps_11 rfl ?_
      refine Rf_bipush X (v := 7) rfl dX8_keeps_14 rfl ?_
      refine Rf_iload_n X (j := 2) rfl rfl dX8_keeps_16 rfl ?_
      refine Rf_iadd X dX8_keeps_17 rfl ?_
      obtain ⟨s1, h⟩ := h
      refine Rf_iaload X (Nat.le_of_ble_eq_true rfl) rfl rfl s1 dX8_keeps_18 rfl (v := gF σ 1 ((7 + x2).toNatClampNeg)) rfl ?_
      obtain ⟨s2, h⟩ := h
      refine Rf_iastore X (isW_f _ ha1).1 (isW_f _ ha1).2.1 (isW_f _ ha1).2.2 s2 dX8_keeps_19 rfl ?_
      refine Rf_aload_n X (j := 1) rfl rfl dX8_keeps_20 rfl ?_
      refine Rf_bipush X (v := 7) rfl dX8_keeps_21 rfl ?_
      refine Rf_iload_n X (j := 2) rfl rfl dX8_keeps_23 rfl ?_
      refine Rf_iadd X dX8_keeps_24 rfl ?_
      refine Rf_aload_n X (j := 0) rfl rfl dX8_keeps_25 rfl ?_
      refine Rf_get X kc8 (Nat.le_of_ble_eq_true rfl) rfl (j := 1) (Nat.le_of_ble_eq_true rfl) lf_X8_9 (v := .ref 1) rfl dX8_keeps_26 rfl ?_
      refine Rf_bipush X (v := 14) rfl dX8_keeps_29 rfl ?_
      refine Rf_iload_n X (j := 2) rfl rfl dX8_keeps_31 rfl ?_
      refine Rf_iadd X dX8_keeps_32 rfl ?_
      obtain ⟨s3, h⟩ := h
      refine Rf_iaload X (Nat.le_of_ble_eq_true rfl) rfl rfl s3 dX8_keeps_33 rfl (v := gF (sF σ a1 (x2.toNatClampNeg) (gF σ 1 ((7 + x2).toNatClampNeg))) 1 ((14 + x2).toNatClampNeg)) rfl ?_
      obtain ⟨s4, h⟩ := h
      refine Rf_iastore X (isW_f _ ha1).1 (isW_f _ ha1).2.1 (isW_f _ ha1).2.2 s4 dX8_keeps_34 rfl ?_
      refine Rf_iinc X (i := 2) (j := 2) (v := x2 + 1) rfl rfl (Nat.le_of_ble_eq_true rfl) (ls2 := [(2, .int (x2 + 1)), (0, .ref 0), (1, .ref a1)]) rfl dX8_keeps_35 rfl ?_
      refine Rf_goto X (tgt := 2) dX8_keeps_38 rfl ?_
      refine Rf_sub [1, 2, 0] rfl ?_
      exact hkb_2 _ _ (sF (sF σ a1 (x2.toNatClampNeg) (gF σ 1 ((7 + x2).toNatClampNeg))) a1 ((7 + x2).toNatClampNeg) (gF (sF σ a1 (x2.toNatClampNeg) (gF σ 1 ((7 + x2).toNatClampNeg))) 1 ((14 + x2).toNatClampNeg))) ha1 h
def wp_X8_keeps (σ : rfS) (a1 : Nat) (Q : rfS → Prop) : Prop :=
  (∃ n6, wl_X8_keeps_2 Q (fun (a1_7 : Nat) (σ8 : rfS) => Q (sF (sF σ8 a1_7 14 (gF σ8 2 0)) a1_7 15 (gF (sF σ8 a1_7 14 (gF σ8 2 0)) 2 1))) n6 a1 0 σ)
set_option maxRecDepth 20000 in
theorem k_X8_keeps {σ : rfS} {a1 : Nat} {Q : rfS → Prop} (ha1 : isW a1) (h : wp_X8_keeps σ a1 Q) : RM ΛM 0 yX8_keeps cX8_keeps 3 none [.ref 0, .ref a1] σ (qv Q) := by
  unfold wp_X8_keeps at h
  refine RM.intro (by decide) (Nat.le_of_ble_eq_true rfl) (fun E X => ?_)
  show Rf ΛM 0 E 3 (qv Q) 0 [(0, .ref 0), (1, .ref a1)] [] σ
  refine Rf_iconst X (v := 0) rfl dX8_keeps_0 rfl ?_
  refine Rf_istore_n X rfl (i := 2) (Nat.le_of_ble_eq_true rfl) (ls2 := [(2, .int 0), (0, .ref 0), (1, .ref a1)]) rfl dX8_keeps_1 rfl ?_
  obtain ⟨n6, h⟩ := h
  refine Rf_sub [1, 2, 0] rfl ?_
  refine sl_X8_keeps_2 X (fun a1_7 σ8 ha1_7 h => ?_) n6 _ _ _ ha1 h
  · refine Rf_aload_n X (j := 1) rfl rfl dX8_keeps_41 rfl ?_
    refine Rf_bipush X (v := 14) rfl dX8_keeps_42 rfl ?_
    refine Rf_aload_n X (j := 0) rfl rfl dX8_keeps_44 rfl ?_
    refine Rf_get X kc8 (Nat.le_of_ble_eq_true rfl) rfl (j := 2) (Nat.le_of_ble_eq_true rfl) lf_X8_15 (v := .ref 2) rfl dX8_keeps_45 rfl ?_
    refine Rf_iconst X (v := 0) rfl dX8_keeps_48 rfl ?_
    refine Rf_iaload X (Nat.le_of_ble_eq_true rfl) rfl rfl (by unfold vp_in; decide) dX8_keeps_49 rfl (v := gF σ8 2 0) rfl ?_
    refine Rf_iastore X (isW_f _ ha1_7).1 (isW_f _ ha1_7).2.1 (isW_f _ ha1_7).2.2 (by unfold vp_in; decide) dX8_keeps_50 rfl ?_
    refine Rf_aload_n X (j := 1) rfl rfl dX8_keeps_51 rfl ?_
    refine Rf_bipush X (v := 15) rfl dX8_keeps_52 rfl ?_
    refine Rf_aload_n X (j := 0) rfl rfl dX8_keeps_54 rfl ?_
    refine Rf_get X kc8 (Nat.le_of_ble_eq_true rfl) rfl (j := 2) (Nat.le_of_ble_eq_true rfl) lf_X8_15 (v := .ref 2) rfl dX8_keeps_55 rfl ?_
    refine Rf_iconst X (v := 1) rfl dX8_keeps_58 rfl ?_
    refine Rf_iaload X (Nat.le_of_ble_eq_true rfl) rfl rfl (by unfold vp_in; decide) dX8_keeps_59 rfl (v := gF (sF σ8 a1_7 14 (gF σ8 2 0)) 2 1) rfl ?_
    refine Rf_iastore X (isW_f _ ha1_7).1 (isW_f _ ha1_7).2.1 (isW_f _ ha1_7).2.2 (by unfold vp_in; decide) dX8_keeps_60 rfl ?_
    exact Rf_vret X dX8_keeps_61 ⟨rfl, h⟩
def wl_X8_laysBack_2 (Q : rfS → Prop) (kx_41 : Nat → rfS → Prop) : Nat → Nat → Int32 → rfS → Prop
  | 0, _, _, _ => False
  | n + 1, a1, x2, σ => ((7 ≤ x2 → kx_41 a1 σ) ∧ (¬ (7 ≤ x2) → vp_in x2 16 ∧ vp_in (7 + x2) 42 ∧ vp_in (7 + x2) 16 ∧ vp_in (14 + x2) 42 ∧ (wl_X8_laysBack_2 Q kx_41 n a1 (x2 + 1) (sF (sF σ 1 ((7 + x2).toNatClampNeg) (gF σ a1 (x2.toNatClampNeg))) 1 ((14 + x2).toNatClampNeg) (gF (sF σ 1 ((7 + x2).toNatClampNeg) (gF σ a1 (x2.toNatClampNeg))) a1 ((7 + x2).toNatClampNeg))))))
set_option maxRecDepth 20000 in
theorem sl_X8_laysBack_2 {E : rfE} {Q : rfS → Prop} (X : rfX ΛM E yX8_laysBack cX8_laysBack 3 none) {kx_41 : Nat → rfS → Prop} (hkx_41 : ∀ (a1 : Nat) (σ : rfS), isW a1 → kx_41 a1 σ → Rf ΛM 0 E 3 (qv Q) 41 [(0, .ref 0), (1, .ref a1)] [] σ) : ∀ (n : Nat) (a1 : Nat) (x2 : Int32) (σ : rfS), isW a1 → wl_X8_laysBack_2 Q kx_41 n a1 x2 σ → Rf ΛM 0 E 3 (qv Q) 2 [(0, .ref 0), (1, .ref a1), (2, .int x2)] [] σ := by
  intro n
  induction n with
  | zero =>
    intro a1 x2 σ ha1 h
    exact False.elim h
  | succ n hkb_2 =>
    intro a1 x2 σ ha1 h
    unfold wl_X8_laysBack_2 at h
    refine Rf_iload_n X (j := 2) rfl rfl dX8_laysBack_2 rfl ?_
    refine Rf_bipush X (v := 7) rfl dX8_laysBack_3 rfl ?_
    refine Rf_icmp_ge X (tgt := 41) dX8_laysBack_5 rfl rfl (fun c5 => ?_) (fun c5 => ?_)
    · have h := h.1 c5
      refine Rf_sub [0, 1] rfl ?_
      exact hkx_41 _ σ ha1 h
    · have h := h.2 c5
      refine Rf_aload_n X (j := 0) rfl rfl dX8_laysBack_8 rfl ?_
      refine Rf_get X kc8 (Nat.le_of_ble_eq_true rfl) rfl (j := 1) (Nat.le_of_ble_eq_true rfl) lf_X8_9 (v := .ref 1) rfl dX8_laysBack_9 rfl ?_
      refine Rf_bipush X (v := 7) rfl dX8_laysBack_12 rfl ?_
      refine Rf_iload_n X (j := 2) rfl rfl dX8_laysBack_14 rfl ?_
      refine Rf_iadd X dX8_laysBack_15 rfl ?_
      refine Rf_aload_n X (j := 1) rfl rfl dX8_laysBack_16 rfl ?_
      refine Rf_iload_n X (j := 2) rfl rfl dX8_laysBack_17 rfl ?_
      obtain ⟨s1, h⟩ := h
      refine Rf_iaload X (isW_f _ ha1).1 (isW_f _ ha1).2.1 (isW_f _ ha1).2.2 s1 dX8_laysBack_18 rfl (v := gF σ a1 (x2.toNatClampNeg)) rfl ?_
      obtain ⟨s2, h⟩ := h
      refine Rf_iastore X (Nat.le_of_ble_eq_true rfl) rfl rfl s2 dX8_laysBack_19 rfl ?_
      refine Rf_aload_n X (j := 0) rfl rfl dX8_laysBack_20 rfl ?_
      refine Rf_get X kc8 (Nat.le_of_ble_eq_true rfl) rfl (j := 1) (Nat.le_of_ble_eq_true rfl) lf_X8_9 (v := .ref 1) rfl dX8_laysBack_21 rfl ?_
      refine Rf_bipush X (v := 14) rfl dX8_laysBack_24 rfl ?_
      refine Rf_iload_n X (j := 2) rfl rfl dX8_laysBack_26 rfl ?_
      refine Rf_iadd X dX8_laysBack_27 rfl ?_
      refine Rf_aload_n X (j := 1) rfl rfl dX8_laysBack_28 rfl ?_
      refine Rf_bipush X (v := 7) rfl dX8_laysBack_29 rfl ?_
      refine Rf_iload_n X (j := 2) rfl rfl dX8_laysBack_31 rfl ?_
      refine Rf_iadd X dX8_laysBack_32 rfl ?_
      obtain ⟨s3, h⟩ := h
      refine Rf_iaload X (isW_f _ ha1).1 (isW_f _ ha1).2.1 (isW_f _ ha1).2.2 s3 dX8_laysBack_33 rfl (v := gF (sF σ 1 ((7 + x2).toNatClampNeg) (gF σ a1 (x2.toNatClampNeg))) a1 ((7 + x2).toNatClampNeg)) rfl ?_
      obtain ⟨s4, h⟩ := h
      refine Rf_iastore X (Nat.le_of_ble_eq_true rfl) rfl rfl s4 dX8_laysBack_34 rfl ?_
      refine Rf_iinc X (i := 2) (j := 2) (v := x2 + 1) rfl rfl (Nat.le_of_ble_eq_true rfl) (ls2 := [(2, .int (x2 + 1)), (0, .ref 0), (1, .ref a1)]) rfl dX8_laysBack_35 rfl ?_
      refine Rf_goto X (tgt := 2) dX8_laysBack_38 rfl ?_
      refine Rf_sub [1, 2, 0] rfl ?_
      exact hkb_2 _ _ (sF (sF σ 1 ((7 + x2).toNatClampNeg) (gF σ a1 (x2.toNatClampNeg))) 1 ((14 + x2).toNatClampNeg) (gF (sF σ 1 ((7 + x2).toNatClampNeg) (gF σ a1 (x2.toNatClampNeg))) a1 ((7 + x2).toNatClampNeg))) ha1 h
def wp_X8_laysBack (σ : rfS) (a1 : Nat) (Q : rfS → Prop) : Prop :=
  (∃ n6, wl_X8_laysBack_2 Q (fun (a1_7 : Nat) (σ8 : rfS) => Q (sF (sF σ8 2 0 (gF σ8 a1_7 14)) 2 1 (gF (sF σ8 2 0 (gF σ8 a1_7 14)) a1_7 15))) n6 a1 0 σ)
set_option maxRecDepth 20000 in
theorem k_X8_laysBack {σ : rfS} {a1 : Nat} {Q : rfS → Prop} (ha1 : isW a1) (h : wp_X8_laysBack σ a1 Q) : RM ΛM 0 yX8_laysBack cX8_laysBack 3 none [.ref 0, .ref a1] σ (qv Q) := by
  unfold wp_X8_laysBack at h
  refine RM.intro (by decide) (Nat.le_of_ble_eq_true rfl) (fun E X => ?_)
  show Rf ΛM 0 E 3 (qv Q) 0 [(0, .ref 0), (1, .ref a1)] [] σ
  refine Rf_iconst X (v := 0) rfl dX8_laysBack_0 rfl ?_
  refine Rf_istore_n X rfl (i := 2) (Nat.le_of_ble_eq_true rfl) (ls2 := [(2, .int 0), (0, .ref 0), (1, .ref a1)]) rfl dX8_laysBack_1 rfl ?_
  obtain ⟨n6, h⟩ := h
  refine Rf_sub [1, 2, 0] rfl ?_
  refine sl_X8_laysBack_2 X (fun a1_7 σ8 ha1_7 h => ?_) n6 _ _ _ ha1 h
  · refine Rf_aload_n X (j := 0) rfl rfl dX8_laysBack_41 rfl ?_
    refine Rf_get X kc8 (Nat.le_of_ble_eq_true rfl) rfl (j := 2) (Nat.le_of_ble_eq_true rfl) lf_X8_15 (v := .ref 2) rfl dX8_laysBack_42 rfl ?_
    refine Rf_iconst X (v := 0) rfl dX8_laysBack_45 rfl ?_
    refine Rf_aload_n X (j := 1) rfl rfl dX8_laysBack_46 rfl ?_
    refine Rf_bipush X (v := 14) rfl dX8_laysBack_47 rfl ?_
    refine Rf_iaload X (isW_f _ ha1_7).1 (isW_f _ ha1_7).2.1 (isW_f _ ha1_7).2.2 (by unfold vp_in; decide) dX8_laysBack_49 rfl (v := gF σ8 a1_7 14) rfl ?_
    refine Rf_iastore X (Nat.le_of_ble_eq_true rfl) rfl rfl (by unfold vp_in; decide) dX8_laysBack_50 rfl ?_
    refine Rf_aload_n X (j := 0) rfl rfl dX8_laysBack_51 rfl ?_
    refine Rf_get X kc8 (Nat.le_of_ble_eq_true rfl) rfl (j := 2) (Nat.le_of_ble_eq_true rfl) lf_X8_15 (v := .ref 2) rfl dX8_laysBack_52 rfl ?_
    refine Rf_iconst X (v := 1) rfl dX8_laysBack_55 rfl ?_
    refine Rf_aload_n X (j := 1) rfl rfl dX8_laysBack_56 rfl ?_
    refine Rf_bipush X (v := 15) rfl dX8_laysBack_57 rfl ?_
    refine Rf_iaload X (isW_f _ ha1_7).1 (isW_f _ ha1_7).2.1 (isW_f _ ha1_7).2.2 (by unfold vp_in; decide) dX8_laysBack_59 rfl (v := gF (sF σ8 2 0 (gF σ8 a1_7 14)) a1_7 15) rfl ?_
    refine Rf_iastore X (Nat.le_of_ble_eq_true rfl) rfl rfl (by unfold vp_in; decide) dX8_laysBack_60 rfl ?_
    exact Rf_vret X dX8_laysBack_61 ⟨rfl, h⟩
def wl_X8_allOwed_4 (Q : Int32 → rfS → Prop) : Nat → Int32 → Int32 → rfS → Prop
  | 0, _, _, _ => False
  | n + 1, x1, x2, σ => (((gI σ 0 0) ≤ x2 → Q x1 σ) ∧ (¬ ((gI σ 0 0) ≤ x2) → vp_in (7 + x2) 42 ∧ (wl_X8_allOwed_4 Q n (x1 + (gF σ 1 ((7 + x2).toNatClampNeg))) (x2 + 1) σ)))
set_option maxRecDepth 20000 in
theorem sl_X8_allOwed_4 {E : rfE} {Q : Int32 → rfS → Prop} (X : rfX ΛM E yX8_allOwed cX8_allOwed 3 (some .int)) : ∀ (n : Nat) (x1 : Int32) (x2 : Int32) (σ : rfS), wl_X8_allOwed_4 Q n x1 x2 σ → Rf ΛM 0 E 3 (qi Q) 4 [(0, .ref 0), (1, .int x1), (2, .int x2)] [] σ := by
  intro n
  induction n with
  | zero =>
    intro x1 x2 σ h
    exact False.elim h
  | succ n hkb_4 =>
    intro x1 x2 σ h
    unfold wl_X8_allOwed_4 at h
    refine Rf_iload_n X (j := 2) rfl rfl dX8_allOwed_4 rfl ?_
    refine Rf_aload_n X (j := 0) rfl rfl dX8_allOwed_5 rfl ?_
    refine Rf_get X kc8 (Nat.le_of_ble_eq_true rfl) rfl (j := 0) (Nat.le_of_ble_eq_true rfl) lf_X8_94 (v := .int (gI σ 0 0)) rfl dX8_allOwed_6 rfl ?_
    refine Rf_icmp_ge X (tgt := 30) dX8_allOwed_9 rfl rfl (fun c2 => ?_) (fun c2 => ?_)
    · have h := h.1 c2
      refine Rf_iload_n X (j := 1) rfl rfl dX8_allOwed_30 rfl ?_
      exact Rf_iret X rfl dX8_allOwed_31 ⟨_, rfl, h⟩
    · have h := h.2 c2
      refine Rf_iload_n X (j := 1) rfl rfl dX8_allOwed_12 rfl ?_
      refine Rf_aload_n X (j := 0) rfl rfl dX8_allOwed_13 rfl ?_
      refine Rf_get X kc8 (Nat.le_of_ble_eq_true rfl) rfl (j := 1) (Nat.le_of_ble_eq_true rfl) lf_X8_9 (v := .ref 1) rfl dX8_allOwed_14 rfl ?_
      refine Rf_bipush X (v := 7) rfl dX8_allOwed_17 rfl ?_
      refine Rf_iload_n X (j := 2) rfl rfl dX8_allOwed_19 rfl ?_
      refine Rf_iadd X dX8_allOwed_20 rfl ?_
      obtain ⟨s1, h⟩ := h
      refine Rf_iaload X (Nat.le_of_ble_eq_true rfl) rfl rfl s1 dX8_allOwed_21 rfl (v := gF σ 1 ((7 + x2).toNatClampNeg)) rfl ?_
      refine Rf_iadd X dX8_allOwed_22 rfl ?_
      refine Rf_istore_n X rfl (i := 1) (Nat.le_of_ble_eq_true rfl) (ls2 := [(1, .int (x1 + (gF σ 1 ((7 + x2).toNatClampNeg)))), (0, .ref 0), (2, .int x2)]) rfl dX8_allOwed_23 rfl ?_
      refine Rf_iinc X (i := 2) (j := 2) (v := x2 + 1) rfl rfl (Nat.le_of_ble_eq_true rfl) (ls2 := [(2, .int (x2 + 1)), (1, .int (x1 + (gF σ 1 ((7 + x2).toNatClampNeg)))), (0, .ref 0)]) rfl dX8_allOwed_24 rfl ?_
      refine Rf_goto X (tgt := 4) dX8_allOwed_27 rfl ?_
      refine Rf_sub [2, 1, 0] rfl ?_
      exact hkb_4 _ _ σ h
def wp_X8_allOwed (σ : rfS) (Q : Int32 → rfS → Prop) : Prop :=
  (∃ n3, wl_X8_allOwed_4 Q n3 0 0 σ)
set_option maxRecDepth 20000 in
theorem k_X8_allOwed {σ : rfS} {Q : Int32 → rfS → Prop} (h : wp_X8_allOwed σ Q) : RM ΛM 0 yX8_allOwed cX8_allOwed 3 (some .int) [.ref 0] σ (qi Q) := by
  unfold wp_X8_allOwed at h
  refine RM.intro (by decide) (Nat.le_of_ble_eq_true rfl) (fun E X => ?_)
  show Rf ΛM 0 E 3 (qi Q) 0 [(0, .ref 0)] [] σ
  refine Rf_iconst X (v := 0) rfl dX8_allOwed_0 rfl ?_
  refine Rf_istore_n X rfl (i := 1) (Nat.le_of_ble_eq_true rfl) (ls2 := [(1, .int 0), (0, .ref 0)]) rfl dX8_allOwed_1 rfl ?_
  refine Rf_iconst X (v := 0) rfl dX8_allOwed_2 rfl ?_
  refine Rf_istore_n X rfl (i := 2) (Nat.le_of_ble_eq_true rfl) (ls2 := [(2, .int 0), (1, .int 0), (0, .ref 0)]) rfl dX8_allOwed_3 rfl ?_
  obtain ⟨n3, h⟩ := h
  refine Rf_sub [2, 1, 0] rfl ?_
  exact sl_X8_allOwed_4 X n3 _ _ _ h
def wp_X8_noBytes (σ : rfS) (x1 : Int32) (Q : Int32 → rfS → Prop) : Prop :=
  vp_in x1 6 ∧ ((¬ (gF σ 20 (x1.toNatClampNeg)) = (-1) → vp_in x1 6 ∧ (((gF σ 20 (x1.toNatClampNeg)) = 0 → Q 0 σ) ∧ (¬ (gF σ 20 (x1.toNatClampNeg)) = 0 → Q (-12) σ))) ∧ ((gF σ 20 (x1.toNatClampNeg)) = (-1) → Q (-11) σ))
set_option maxRecDepth 20000 in
theorem k_X8_noBytes {σ : rfS} {x1 : Int32} {Q : Int32 → rfS → Prop} (h : wp_X8_noBytes σ x1 Q) : RM ΛM 0 yX8_noBytes cX8_noBytes 2 (some .int) [.ref 0, .int x1] σ (qi Q) := by
  unfold wp_X8_noBytes at h
  refine RM.intro (by decide) (Nat.le_of_ble_eq_true rfl) (fun E X => ?_)
  show Rf ΛM 0 E 2 (qi Q) 0 [(0, .ref 0), (1, .int x1)] [] σ
  refine Rf_aload_n X (j := 0) rfl rfl dX8_noBytes_0 rfl ?_
  refine Rf_get X kc8 (Nat.le_of_ble_eq_true rfl) rfl (j := 33) (Nat.le_of_ble_eq_true rfl) lf_X8_69 (v := .ref 20) rfl dX8_noBytes_1 rfl ?_
  refine Rf_iload_n X (j := 1) rfl rfl dX8_noBytes_4 rfl ?_
  obtain ⟨s1, h⟩ := h
  refine Rf_iaload X (Nat.le_of_ble_eq_true rfl) rfl rfl s1 dX8_noBytes_5 rfl (v := gF σ 20 (x1.toNatClampNeg)) rfl ?_
  refine Rf_iconst X (v := (-1)) (by decide) dX8_noBytes_6 rfl ?_
  refine Rf_icmp_ne X (tgt := 15) dX8_noBytes_7 rfl rfl (fun c4 => ?_) (fun c4 => ?_)
  · have h := h.1 c4
    refine Rf_aload_n X (j := 0) rfl rfl dX8_noBytes_15 rfl ?_
    refine Rf_get X kc8 (Nat.le_of_ble_eq_true rfl) rfl (j := 33) (Nat.le_of_ble_eq_true rfl) lf_X8_69 (v := .ref 20) rfl dX8_noBytes_16 rfl ?_
    refine Rf_iload_n X (j := 1) rfl rfl dX8_noBytes_19 rfl ?_
    obtain ⟨s2, h⟩ := h
    refine Rf_iaload X (Nat.le_of_ble_eq_true rfl) rfl rfl s2 dX8_noBytes_20 rfl (v := gF σ 20 (x1.toNatClampNeg)) rfl ?_
    refine Rf_if_eq X (tgt := 29) dX8_noBytes_21 rfl rfl (fun c3 => ?_) (fun c3 => ?_)
    · have h := h.1 c3
      refine Rf_iconst X (v := 0) rfl dX8_noBytes_29 rfl ?_
      exact Rf_iret X rfl dX8_noBytes_30 ⟨_, rfl, h⟩
    · have h := h.2 c3
      refine Rf_bipush X (v := (-12)) (by decide) dX8_noBytes_24 rfl ?_
      refine Rf_goto X (tgt := 30) dX8_noBytes_26 rfl ?_
      exact Rf_iret X rfl dX8_noBytes_30 ⟨_, rfl, h⟩
  · have h := h.2 c4
    refine Rf_bipush X (v := (-11)) (by decide) dX8_noBytes_10 rfl ?_
    refine Rf_goto X (tgt := 30) dX8_noBytes_12 rfl ?_
    exact Rf_iret X rfl dX8_noBytes_30 ⟨_, rfl, h⟩
def wl_X8_daysOf_2 (Q : Int32 → rfS → Prop) : Nat → Int32 → Int32 → rfS → Prop
  | 0, _, _, _ => False
  | n + 1, x1, x2, σ => vp_in x1 6 ∧ (((gF σ 21 (x1.toNatClampNeg)) ≤ x2 → Q x2 σ) ∧ (¬ ((gF σ 21 (x1.toNatClampNeg)) ≤ x2) → ((28 ≤ x2 → Q x2 σ) ∧ (¬ (28 ≤ x2) → wp_X8_toldAt σ x1 x2 (fun (r3 : Int32) (σ2 : rfS) => wp_X8_isOne σ2 r3 (fun (r5 : Int32) (σ4 : rfS) => ((¬ r5 = 0 → wl_X8_daysOf_2 Q n x1 (x2 + 1) σ4) ∧ (r5 = 0 → wp_X8_toldAt σ4 x1 x2 (fun (r7 : Int32) (σ6 : rfS) => ((¬ r7 = 7 → Q x2 σ6) ∧ (r7 = 7 → wl_X8_daysOf_2 Q n x1 (x2 + 1) σ6)))))))))))
set_option maxRecDepth 20000 in
theorem sl_X8_daysOf_2 {E : rfE} {Q : Int32 → rfS → Prop} (X : rfX ΛM E yX8_daysOf cX8_daysOf 3 (some .int)) : ∀ (n : Nat) (x1 : Int32) (x2 : Int32) (σ : rfS), wl_X8_daysOf_2 Q n x1 x2 σ → Rf ΛM 2 E 3 (qi Q) 2 [(0, .ref 0), (1, .int x1), (2, .int x2)] [] σ := by
  intro n
  induction n with
  | zero =>
    intro x1 x2 σ h
    exact False.elim h
  | succ n hkb_2 =>
    intro x1 x2 σ h
    unfold wl_X8_daysOf_2 at h
    refine Rf_iload_n X (j := 2) rfl rfl dX8_daysOf_2 rfl ?_
    refine Rf_aload_n X (j := 0) rfl rfl dX8_daysOf_3 rfl ?_
    refine Rf_get X kc8 (Nat.le_of_ble_eq_true rfl) rfl (j := 34) (Nat.le_of_ble_eq_true rfl) lf_X8_72 (v := .ref 21) rfl dX8_daysOf_4 rfl ?_
    refine Rf_iload_n X (j := 1) rfl rfl dX8_daysOf_7 rfl ?_
    obtain ⟨s1, h⟩ := h
    refine Rf_iaload X (Nat.le_of_ble_eq_true rfl) rfl rfl s1 dX8_daysOf_8 rfl (v := gF σ 21 (x1.toNatClampNeg)) rfl ?_
    refine Rf_icmp_ge X (tgt := 48) dX8_daysOf_9 rfl rfl (fun c11 => ?_) (fun c11 => ?_)
    · have h := h.1 c11
      refine Rf_iload_n X (j := 2) rfl rfl dX8_daysOf_48 rfl ?_
      exact Rf_iret X rfl dX8_daysOf_49 ⟨_, rfl, h⟩
    · have h := h.2 c11
      refine Rf_iload_n X (j := 2) rfl rfl dX8_daysOf_12 rfl ?_
      refine Rf_bipush X (v := 28) rfl dX8_daysOf_13 rfl ?_
      refine Rf_icmp_ge X (tgt := 48) dX8_daysOf_15 rfl rfl (fun c10 => ?_) (fun c10 => ?_)
      · have h := h.1 c10
        refine Rf_iload_n X (j := 2) rfl rfl dX8_daysOf_48 rfl ?_
        exact Rf_iret X rfl dX8_daysOf_49 ⟨_, rfl, h⟩
      · have h := h.2 c10
        refine Rf_aload_n X (j := 0) rfl rfl dX8_daysOf_18 rfl ?_
        refine Rf_aload_n X (j := 0) rfl rfl dX8_daysOf_19 rfl ?_
        refine Rf_iload_n X (j := 1) rfl rfl dX8_daysOf_20 rfl ?_
        refine Rf_iload_n X (j := 2) rfl rfl dX8_daysOf_21 rfl ?_
        refine Rf_cVi (as := [.int x1, .int x2]) (st := [.ref 0]) X mi_X8_toldAt lm_X8_112 rfl (Nat.le_of_ble_eq_true rfl) rfl (k_X8_toldAt h) (Nat.le_of_ble_eq_true rfl) rfl rfl (Nat.le_of_ble_eq_true rfl) dX8_daysOf_22 rfl (fun r3 σ2 h => ?_)
        refine Rf_cVi (as := [.int r3]) (st := []) X mi_X8_isOne lm_X8_116 rfl (Nat.le_of_ble_eq_true rfl) rfl (k_X8_isOne h) (Nat.le_of_ble_eq_true rfl) rfl rfl (Nat.le_of_ble_eq_true rfl) dX8_daysOf_25 rfl (fun r5 σ4 h => ?_)
        refine Rf_if_ne X (tgt := 42) dX8_daysOf_28 rfl rfl (fun c9 => ?_) (fun c9 => ?_)
        · have h := h.1 c9
          refine Rf_iinc X (i := 2) (j := 2) (v := x2 + 1) rfl rfl (Nat.le_of_ble_eq_true rfl) (ls2 := [(2, .int (x2 + 1)), (0, .ref 0), (1, .int x1)]) rfl dX8_daysOf_42 rfl ?_
          refine Rf_goto X (tgt := 2) dX8_daysOf_45 rfl ?_
          refine Rf_sub [1, 2, 0] rfl ?_
          exact hkb_2 _ _ σ4 h
        · have h := h.2 c9
          refine Rf_aload_n X (j := 0) rfl rfl dX8_daysOf_31 rfl ?_
          refine Rf_iload_n X (j := 1) rfl rfl dX8_daysOf_32 rfl ?_
          refine Rf_iload_n X (j := 2) rfl rfl dX8_daysOf_33 rfl ?_
          refine Rf_cVi (as := [.int x1, .int x2]) (st := []) X mi_X8_toldAt lm_X8_112 rfl (Nat.le_of_ble_eq_true rfl) rfl (k_X8_toldAt h) (Nat.le_of_ble_eq_true rfl) rfl rfl (Nat.le_of_ble_eq_true rfl) dX8_daysOf_34 rfl (fun r7 σ6 h => ?_)
          refine Rf_bipush X (v := 7) rfl dX8_daysOf_37 rfl ?_
          refine Rf_icmp_ne X (tgt := 48) dX8_daysOf_39 rfl rfl (fun c8 => ?_) (fun c8 => ?_)
          · have h := h.1 c8
            refine Rf_iload_n X (j := 2) rfl rfl dX8_daysOf_48 rfl ?_
            exact Rf_iret X rfl dX8_daysOf_49 ⟨_, rfl, h⟩
          · have h := h.2 c8
            refine Rf_iinc X (i := 2) (j := 2) (v := x2 + 1) rfl rfl (Nat.le_of_ble_eq_true rfl) (ls2 := [(2, .int (x2 + 1)), (0, .ref 0), (1, .int x1)]) rfl dX8_daysOf_42 rfl ?_
            refine Rf_goto X (tgt := 2) dX8_daysOf_45 rfl ?_
            refine Rf_sub [1, 2, 0] rfl ?_
            exact hkb_2 _ _ σ6 h
def wp_X8_daysOf (σ : rfS) (x1 : Int32) (Q : Int32 → rfS → Prop) : Prop :=
  (∃ n12, wl_X8_daysOf_2 Q n12 x1 0 σ)
set_option maxRecDepth 20000 in
theorem k_X8_daysOf {σ : rfS} {x1 : Int32} {Q : Int32 → rfS → Prop} (h : wp_X8_daysOf σ x1 Q) : RM ΛM 2 yX8_daysOf cX8_daysOf 3 (some .int) [.ref 0, .int x1] σ (qi Q) := by
  unfold wp_X8_daysOf at h
  refine RM.intro (by decide) (Nat.le_of_ble_eq_true rfl) (fun E X => ?_)
  show Rf ΛM 2 E 3 (qi Q) 0 [(0, .ref 0), (1, .int x1)] [] σ
  refine Rf_iconst X (v := 0) rfl dX8_daysOf_0 rfl ?_
  refine Rf_istore_n X rfl (i := 2) (Nat.le_of_ble_eq_true rfl) (ls2 := [(2, .int 0), (0, .ref 0), (1, .int x1)]) rfl dX8_daysOf_1 rfl ?_
  obtain ⟨n12, h⟩ := h
  refine Rf_sub [1, 2, 0] rfl ?_
  exact sl_X8_daysOf_2 X n12 _ _ _ h
def wl_X8_goes_16 (Q : Int32 → rfS → Prop) : Nat → Int32 → Int32 → Int32 → Int32 → rfS → Prop
  | 0, _, _, _, _, _ => False
  | n + 1, x1, x3, x4, x5, σ => ((x4 ≤ x5 → Q x3 σ) ∧ (¬ (x4 ≤ x5) → wp_X8_toldAt σ x1 x5 (fun (r4 : Int32) (σ3 : rfS) => wp_X8_passes σ3 r4 (fun (r6 : Int32) (σ5 : rfS) => wl_X8_goes_16 Q n x1 (x3 + r6) x4 (x5 + 1) σ5))))
set_option maxRecDepth 20000 in
theorem sl_X8_goes_16 {E : rfE} {Q : Int32 → rfS → Prop} (X : rfX ΛM E yX8_goes cX8_goes 6 (some .int)) : ∀ (n : Nat) (x1 : Int32) (x3 : Int32) (x4 : Int32) (x5 : Int32) (σ : rfS), wl_X8_goes_16 Q n x1 x3 x4 x5 σ → Rf ΛM 5 E 6 (qi Q) 16 [(0, .ref 0), (1, .int x1), (3, .int x3), (4, .int x4), (5, .int x5)] [] σ := by
  intro n
  induction n with
  | zero =>
    intro x1 x3 x4 x5 σ h
    exact False.elim h
  | succ n hkb_16 =>
    intro x1 x3 x4 x5 σ h
    unfold wl_X8_goes_16 at h
    refine Rf_iload X (j := 4) rfl dX8_goes_16 rfl ?_
    refine Rf_iload X (j := 3) rfl dX8_goes_18 rfl ?_
    refine Rf_icmp_ge X (tgt := 43) dX8_goes_20 rfl rfl (fun c7 => ?_) (fun c7 => ?_)
    · have h := h.1 c7
      refine Rf_iload_n X (j := 2) rfl rfl dX8_goes_43 rfl ?_
      exact Rf_iret X rfl dX8_goes_44 ⟨_, rfl, h⟩
    · have h := h.2 c7
      refine Rf_iload_n X (j := 2) rfl rfl dX8_goes_23 rfl ?_
      refine Rf_aload_n X (j := 0) rfl rfl dX8_goes_24 rfl ?_
      refine Rf_aload_n X (j := 0) rfl rfl dX8_goes_25 rfl ?_
      refine Rf_iload_n X (j := 1) rfl rfl dX8_goes_26 rfl ?_
      refine Rf_iload X (j := 4) rfl dX8_goes_27 rfl ?_
      refine Rf_cVi (as := [.int x1, .int x5]) (st := [.ref 0, .int x3]) X mi_X8_toldAt lm_X8_112 rfl (Nat.le_of_ble_eq_true rfl) rfl (k_X8_toldAt h) (Nat.le_of_ble_eq_true rfl) rfl rfl (Nat.le_of_ble_eq_true rfl) dX8_goes_29 rfl (fun r4 σ3 h => ?_)
      refine Rf_cVi (as := [.int r4]) (st := [.int x3]) X mi_X8_passes lm_X8_234 rfl (Nat.le_of_ble_eq_true rfl) rfl (k_X8_passes h) (Nat.le_of_ble_eq_true rfl) rfl rfl (Nat.le_of_ble_eq_true rfl) dX8_goes_32 rfl (fun r6 σ5 h => ?_)
      refine Rf_iadd X dX8_goes_35 rfl ?_
      refine Rf_istore_n X rfl (i := 3) (Nat.le_of_ble_eq_true rfl) (ls2 := [(3, .int (x3 + r6)), (0, .ref 0), (1, .int x1), (4, .int x4), (5, .int x5)]) rfl dX8_goes_36 rfl ?_
      refine Rf_iinc X (i := 5) (j := 4) (v := x5 + 1) rfl rfl (Nat.le_of_ble_eq_true rfl) (ls2 := [(5, .int (x5 + 1)), (3, .int (x3 + r6)), (0, .ref 0), (1, .int x1), (4, .int x4)]) rfl dX8_goes_37 rfl ?_
      refine Rf_goto X (tgt := 16) dX8_goes_40 rfl ?_
      refine Rf_sub [2, 3, 1, 4, 0] rfl ?_
      exact hkb_16 _ _ _ _ σ5 h
def wp_X8_goes (σ : rfS) (x1 : Int32) (x2 : Int32) (Q : Int32 → rfS → Prop) : Prop :=
  wp_X8_daysOf σ x1 (fun (r2 : Int32) (σ1 : rfS) => (∃ n8, wl_X8_goes_16 Q n8 x1 0 (if r2 < x2 then r2 else x2) 0 σ1))
set_option maxRecDepth 20000 in
theorem k_X8_goes {σ : rfS} {x1 : Int32} {x2 : Int32} {Q : Int32 → rfS → Prop} (h : wp_X8_goes σ x1 x2 Q) : RM ΛM 5 yX8_goes cX8_goes 6 (some .int) [.ref 0, .int x1, .int x2] σ (qi Q) := by
  unfold wp_X8_goes at h
  refine RM.intro (by decide) (Nat.le_of_ble_eq_true rfl) (fun E X => ?_)
  show Rf ΛM 5 E 6 (qi Q) 0 [(0, .ref 0), (1, .int x1), (2, .int x2)] [] σ
  refine Rf_iconst X (v := 0) rfl dX8_goes_0 rfl ?_
  refine Rf_istore_n X rfl (i := 3) (Nat.le_of_ble_eq_true rfl) (ls2 := [(3, .int 0), (0, .ref 0), (1, .int x1), (2, .int x2)]) rfl dX8_goes_1 rfl ?_
  refine Rf_iload_n X (j := 3) rfl rfl dX8_goes_2 rfl ?_
  refine Rf_aload_n X (j := 1) rfl rfl dX8_goes_3 rfl ?_
  refine Rf_iload_n X (j := 2) rfl rfl dX8_goes_4 rfl ?_
  refine Rf_cVi (as := [.int x1]) (st := [.int x2]) X mi_X8_daysOf lm_X8_231 rfl (Nat.le_of_ble_eq_true rfl) rfl (k_X8_daysOf h) (Nat.le_of_ble_eq_true rfl) rfl rfl (Nat.le_of_ble_eq_true rfl) dX8_goes_5 rfl (fun r2 σ1 h => ?_)
  refine Rf_min X lm_X8_220 mm_min.1 mm_min.2.1 mm_min.2.2 (Nat.le_of_ble_eq_true rfl) (Nat.le_of_ble_eq_true rfl) dX8_goes_8 rfl ?_
  refine Rf_istore X (i := 4) (Nat.le_of_ble_eq_true rfl) (ls2 := [(4, .int (if r2 < x2 then r2 else x2)), (3, .int 0), (0, .ref 0), (1, .int x1), (2, .int x2)]) rfl dX8_goes_11 rfl ?_
  refine Rf_iconst X (v := 0) rfl dX8_goes_13 rfl ?_
  refine Rf_istore X (i := 5) (Nat.le_of_ble_eq_true rfl) (ls2 := [(5, .int 0), (4, .int (if r2 < x2 then r2 else x2)), (3, .int 0), (0, .ref 0), (1, .int x1), (2, .int x2)]) rfl dX8_goes_14 rfl ?_
  obtain ⟨n8, h⟩ := h
  refine Rf_sub [3, 4, 2, 1, 0] rfl ?_
  exact sl_X8_goes_16 X n8 _ _ _ _ _ h
def wj_X8_later_135 (Q : Int32 → rfS → Prop) (xs0 : Int32) (σ : rfS) : Prop :=
  wp_X8_laysBack σ 23 (fun (σ13 : rfS) => Q xs0 σ13)
set_option maxRecDepth 20000 in
theorem sj_X8_later_135 {E : rfE} {Q : Int32 → rfS → Prop} (X : rfX ΛM E yX8_later cX8_later 8 (some .int)) (xs0 : Int32) (σ : rfS) (h : wj_X8_later_135 Q xs0 σ) : Rf ΛM 6 E 8 (qi Q) 135 [(0, .ref 0)] [.int xs0] σ := by
  unfold wj_X8_later_135 at h
  refine Rf_istore X (i := 7) (Nat.le_of_ble_eq_true rfl) (ls2 := [(7, .int xs0), (0, .ref 0)]) rfl dX8_later_135 rfl ?_
  refine Rf_aload_n X (j := 1) rfl rfl dX8_later_137 rfl ?_
  refine Rf_aload_n X (j := 1) rfl rfl dX8_later_138 rfl ?_
  refine Rf_get X kc8 (Nat.le_of_ble_eq_true rfl) rfl (j := 36) (Nat.le_of_ble_eq_true rfl) lf_X8_79 (v := .ref 23) rfl dX8_later_139 rfl ?_
  refine Rf_cVv (as := [.ref 23]) (st := []) X mi_X8_laysBack lm_X8_250 rfl (Nat.le_of_ble_eq_true rfl) rfl (k_X8_laysBack (by unfold isW; decide) h) (Nat.le_of_ble_eq_true rfl) rfl rfl (Nat.le_of_ble_eq_true rfl) dX8_later_142 rfl (fun σ13 h => ?_)
  refine Rf_iload X (j := 0) rfl dX8_later_145 rfl ?_
  exact Rf_iret X rfl dX8_later_147 ⟨_, rfl, h⟩
def wj_X8_later_50 (Q : Int32 → rfS → Prop) (x1 : Int32) (x2 : Int32) (x3 : Int32) (x4 : Int32) (σ : rfS) : Prop :=
  wp_X8_noBytes σ x1 (fun (r8 : Int32) (σ7 : rfS) => ((0 ≤ r8 → wp_X8_keeps σ7 23 (fun (σ9 : rfS) => wp_X8_goes σ9 x1 x2 (fun (r11 : Int32) (σ10 : rfS) => ((¬ x4 = 2 → ((¬ x4 = 3 → ((¬ x4 = 4 → vp_in ((7 + (7 * x4)) + x3) 42 ∧ (wj_X8_later_135 Q (gF σ10 1 (((7 + (7 * x4)) + x3).toNatClampNeg)) σ10)) ∧ (x4 = 4 → wp_X8_allOwed σ10 (fun (r15 : Int32) (σ14 : rfS) => wj_X8_later_135 Q r15 σ14)))) ∧ (x4 = 3 → wj_X8_later_135 Q (gF σ10 2 0) σ10))) ∧ (x4 = 2 → wj_X8_later_135 Q r11 σ10))))) ∧ (¬ (0 ≤ r8) → Q r8 σ7)))
set_option maxRecDepth 20000 in
theorem sj_X8_later_50 {E : rfE} {Q : Int32 → rfS → Prop} (X : rfX ΛM E yX8_later cX8_later 8 (some .int)) (x1 : Int32) (x2 : Int32) (x3 : Int32) (x4 : Int32) (σ : rfS) (h : wj_X8_later_50 Q x1 x2 x3 x4 σ) : Rf ΛM 6 E 8 (qi Q) 50 [(0, .ref 0), (1, .int x1), (2, .int x2), (3, .int x3), (4, .int x4)] [] σ := by
  unfold wj_X8_later_50 at h
  refine Rf_aload_n X (j := 0) rfl rfl dX8_later_50 rfl ?_
  refine Rf_iload_n X (j := 1) rfl rfl dX8_later_51 rfl ?_
  refine Rf_cVi (as := [.int x1]) (st := []) X mi_X8_noBytes lm_X8_237 rfl (Nat.le_of_ble_eq_true rfl) rfl (k_X8_noBytes h) (Nat.le_of_ble_eq_true rfl) rfl rfl (Nat.le_of_ble_eq_true rfl) dX8_later_52 rfl (fun r8 σ7 h => ?_)
  refine Rf_istore X (i := 5) (Nat.le_of_ble_eq_true rfl) (ls2 := [(5, .int r8), (0, .ref 0), (1, .int x1), (2, .int x2), (3, .int x3), (4, .int x4)]) rfl dX8_later_55 rfl ?_
  refine Rf_iload X (j := 0) rfl dX8_later_57 rfl ?_
  refine Rf_if_ge X (tgt := 65) dX8_later_59 rfl rfl (fun c19 => ?_) (fun c19 => ?_)
  · have h := h.1 c19
    refine Rf_aload_n X (j := 1) rfl rfl dX8_later_65 rfl ?_
    refine Rf_aload_n X (j := 1) rfl rfl dX8_later_66 rfl ?_
    refine Rf_get X kc8 (Nat.le_of_ble_eq_true rfl) rfl (j := 36) (Nat.le_of_ble_eq_true rfl) lf_X8_79 (v := .ref 23) rfl dX8_later_67 rfl ?_
    refine Rf_cVv (as := [.ref 23]) (st := []) X mi_X8_keeps lm_X8_240 rfl (Nat.le_of_ble_eq_true rfl) rfl (k_X8_keeps (by unfold isW; decide) h) (Nat.le_of_ble_eq_true rfl) rfl rfl (Nat.le_of_ble_eq_true rfl) dX8_later_70 rfl (fun σ9 h => ?_)
    refine Rf_aload_n X (j := 1) rfl rfl dX8_later_73 rfl ?_
    refine Rf_iload_n X (j := 2) rfl rfl dX8_later_74 rfl ?_
    refine Rf_iload_n X (j := 3) rfl rfl dX8_later_75 rfl ?_
    refine Rf_cVi (as := [.int x1, .int x2]) (st := []) X mi_X8_goes lm_X8_244 rfl (Nat.le_of_ble_eq_true rfl) rfl (k_X8_goes h) (Nat.le_of_ble_eq_true rfl) rfl rfl (Nat.le_of_ble_eq_true rfl) dX8_later_76 rfl (fun r11 σ10 h => ?_)
    refine Rf_istore X (i := 6) (Nat.le_of_ble_eq_true rfl) (ls2 := [(6, .int r11), (5, .int r8), (0, .ref 0), (1, .int x1), (2, .int x2), (3, .int x3), (4, .int x4)]) rfl dX8_later_79 rfl ?_
    refine Rf_iload X (j := 6) rfl dX8_later_81 rfl ?_
    refine Rf_iconst X (v := 2) rfl dX8_later_83 rfl ?_
    refine Rf_icmp_ne X (tgt := 92) dX8_later_84 rfl rfl (fun c18 => ?_) (fun c18 => ?_)
    · have h := h.1 c18
      refine Rf_iload X (j := 6) rfl dX8_later_92 rfl ?_
      refine Rf_iconst X (v := 3) rfl dX8_later_94 rfl ?_
      refine Rf_icmp_ne X (tgt := 107) dX8_later_95 rfl rfl (fun c17 => ?_) (fun c17 => ?_)
      · have h := h.1 c17
        refine Rf_iload X (j := 6) rfl dX8_later_107 rfl ?_
        refine Rf_iconst X (v := 4) rfl dX8_later_109 rfl ?_
        refine Rf_icmp_ne X (tgt := 120) dX8_later_110 rfl rfl (fun c16 => ?_) (fun c16 => ?_)
        · have h := h.1 c16
          refine Rf_aload_n X (j := 2) rfl rfl dX8_later_120 rfl ?_
          refine Rf_get X kc8 (Nat.le_of_ble_eq_true rfl) rfl (j := 1) (Nat.le_of_ble_eq_true rfl) lf_X8_9 (v := .ref 1) rfl dX8_later_121 rfl ?_
          refine Rf_bipush X (v := 7) rfl dX8_later_124 rfl ?_
          refine Rf_bipush X (v := 7) rfl dX8_later_126 rfl ?_
          refine Rf_iload X (j := 6) rfl dX8_later_128 rfl ?_
          refine Rf_imul X dX8_later_130 rfl ?_
          refine Rf_iadd X dX8_later_131 rfl ?_
          refine Rf_iload_n X (j := 5) rfl rfl dX8_later_132 rfl ?_
          refine Rf_iadd X dX8_later_133 rfl ?_
          obtain ⟨s12, h⟩ := h
          refine Rf_iaload X (Nat.le_of_ble_eq_true rfl) rfl rfl s12 dX8_later_134 rfl (v := gF σ10 1 (((7 + (7 * x4)) + x3).toNatClampNeg)) rfl ?_
          refine Rf_sub [2] rfl ?_
          exact sj_X8_later_135 X _ _ h
        · have h := h.2 c16
          refine Rf_aload_n X (j := 2) rfl rfl dX8_later_113 rfl ?_
          refine Rf_cVi (as := []) (st := []) X mi_X8_allOwed lm_X8_247 rfl (Nat.le_of_ble_eq_true rfl) rfl (k_X8_allOwed h) (Nat.le_of_ble_eq_true rfl) rfl rfl (Nat.le_of_ble_eq_true rfl) dX8_later_114 rfl (fun r15 σ14 h => ?_)
          refine Rf_goto X (tgt := 135) dX8_later_117 rfl ?_
          refine Rf_sub [2] rfl ?_
          exact sj_X8_later_135 X _ _ h
      · have h := h.2 c17
        refine Rf_aload_n X (j := 2) rfl rfl dX8_later_98 rfl ?_
        refine Rf_get X kc8 (Nat.le_of_ble_eq_true rfl) rfl (j := 2) (Nat.le_of_ble_eq_true rfl) lf_X8_15 (v := .ref 2) rfl dX8_later_99 rfl ?_
        refine Rf_iconst X (v := 0) rfl dX8_later_102 rfl ?_
        refine Rf_iaload X (Nat.le_of_ble_eq_true rfl) rfl rfl (by unfold vp_in; decide) dX8_later_103 rfl (v := gF σ10 2 0) rfl ?_
        refine Rf_goto X (tgt := 135) dX8_later_104 rfl ?_
        refine Rf_sub [2] rfl ?_
        exact sj_X8_later_135 X _ _ h
    · have h := h.2 c18
      refine Rf_iload X (j := 0) rfl dX8_later_87 rfl ?_
      refine Rf_goto X (tgt := 135) dX8_later_89 rfl ?_
      refine Rf_sub [2] rfl ?_
      exact sj_X8_later_135 X _ _ h
  · have h := h.2 c19
    refine Rf_iload X (j := 0) rfl dX8_later_62 rfl ?_
    exact Rf_iret X rfl dX8_later_64 ⟨_, rfl, h⟩
def wp_X8_later (σ : rfS) (x1 : Int32) (x2 : Int32) (x3 : Int32) (x4 : Int32) (Q : Int32 → rfS → Prop) : Prop :=
  wp_X8_isShelf σ x1 (fun (r2 : Int32) (σ1 : rfS) => ((r2 = 0 → Q (-1) σ1) ∧ (¬ r2 = 0 → wp_X8_within σ1 x2 0 28 (fun (r4 : Int32) (σ3 : rfS) => ((r4 = 0 → Q (-1) σ3) ∧ (¬ r4 = 0 → wp_X8_within σ3 x4 0 4 (fun (r6 : Int32) (σ5 : rfS) => ((r6 = 0 → Q (-1) σ5) ∧ (¬ r6 = 0 → ((2 ≤ x4 → ((x3 = 0 → wj_X8_later_50 Q x1 x2 x3 x4 σ5) ∧ (¬ x3 = 0 → Q (-1) σ5))) ∧ (¬ (2 ≤ x4) → wp_X8_isOne σ5 x3 (fun (r22 : Int32) (σ21 : rfS) => ((r22 = 0 → Q (-1) σ21) ∧ (¬ r22 = 0 → wj_X8_later_50 Q x1 x2 x3 x4 σ21))))))))))))))
set_option maxRecDepth 20000 in
theorem k_X8_later {σ : rfS} {x1 : Int32} {x2 : Int32} {x3 : Int32} {x4 : Int32} {Q : Int32 → rfS → Prop} (h : wp_X8_later σ x1 x2 x3 x4 Q) : RM ΛM 6 yX8_later cX8_later 8 (some .int) [.ref 0, .int x1, .int x2, .int x3, .int x4] σ (qi Q) := by
  unfold wp_X8_later at h
  refine RM.intro (by decide) (Nat.le_of_ble_eq_true rfl) (fun E X => ?_)
  show Rf ΛM 6 E 8 (qi Q) 0 [(0, .ref 0), (1, .int x1), (2, .int x2), (3, .int x3), (4, .int x4)] [] σ
  refine Rf_iload_n X (j := 1) rfl rfl dX8_later_0 rfl ?_
  refine Rf_cSi (as := [.int x1]) (st := []) X ms_X8_isShelf lm_X8_106 (k_X8_isShelf h) (Nat.le_of_ble_eq_true rfl) rfl rfl (Nat.le_of_ble_eq_true rfl) dX8_later_1 rfl (fun r2 σ1 h => ?_)
  refine Rf_if_eq X (tgt := 48) dX8_later_4 rfl rfl (fun c27 => ?_) (fun c27 => ?_)
  · have h := h.1 c27
    refine Rf_iconst X (v := (-1)) (by decide) dX8_later_48 rfl ?_
    exact Rf_iret X rfl dX8_later_49 ⟨_, rfl, h⟩
  · have h := h.2 c27
    refine Rf_iload_n X (j := 2) rfl rfl dX8_later_7 rfl ?_
    refine Rf_iconst X (v := 0) rfl dX8_later_8 rfl ?_
    refine Rf_bipush X (v := 28) rfl dX8_later_9 rfl ?_
    refine Rf_cSi (as := [.int x2, .int 0, .int 28]) (st := []) X ms_X8_within lm_X8_98 (k_X8_within h) (Nat.le_of_ble_eq_true rfl) rfl rfl (Nat.le_of_ble_eq_true rfl) dX8_later_11 rfl (fun r4 σ3 h => ?_)
    refine Rf_if_eq X (tgt := 48) dX8_later_14 rfl rfl (fun c26 => ?_) (fun c26 => ?_)
    · have h := h.1 c26
      refine Rf_iconst X (v := (-1)) (by decide) dX8_later_48 rfl ?_
      exact Rf_iret X rfl dX8_later_49 ⟨_, rfl, h⟩
    · have h := h.2 c26
      refine Rf_iload X (j := 4) rfl dX8_later_17 rfl ?_
      refine Rf_iconst X (v := 0) rfl dX8_later_19 rfl ?_
      refine Rf_iconst X (v := 4) rfl dX8_later_20 rfl ?_
      refine Rf_cSi (as := [.int x4, .int 0, .int 4]) (st := []) X ms_X8_within lm_X8_98 (k_X8_within h) (Nat.le_of_ble_eq_true rfl) rfl rfl (Nat.le_of_ble_eq_true rfl) dX8_later_21 rfl (fun r6 σ5 h => ?_)
      refine Rf_if_eq X (tgt := 48) dX8_later_24 rfl rfl (fun c25 => ?_) (fun c25 => ?_)
      · have h := h.1 c25
        refine Rf_iconst X (v := (-1)) (by decide) dX8_later_48 rfl ?_
        exact Rf_iret X rfl dX8_later_49 ⟨_, rfl, h⟩
      · have h := h.2 c25
        refine Rf_iload X (j := 4) rfl dX8_later_27 rfl ?_
        refine Rf_iconst X (v := 2) rfl dX8_later_29 rfl ?_
        refine Rf_icmp_ge X (tgt := 44) dX8_later_30 rfl rfl (fun c24 => ?_) (fun c24 => ?_)
        · have h := h.1 c24
          refine Rf_iload_n X (j := 3) rfl rfl dX8_later_44 rfl ?_
          refine Rf_if_eq X (tgt := 50) dX8_later_45 rfl rfl (fun c20 => ?_) (fun c20 => ?_)
          · have h := h.1 c20
            exact sj_X8_later_50 X _ _ _ _ _ h
          · have h := h.2 c20
            refine Rf_iconst X (v := (-1)) (by decide) dX8_later_48 rfl ?_
            exact Rf_iret X rfl dX8_later_49 ⟨_, rfl, h⟩
        · have h := h.2 c24
          refine Rf_aload_n X (j := 0) rfl rfl dX8_later_33 rfl ?_
          refine Rf_iload_n X (j := 3) rfl rfl dX8_later_34 rfl ?_
          refine Rf_cVi (as := [.int x3]) (st := []) X mi_X8_isOne lm_X8_116 rfl (Nat.le_of_ble_eq_true rfl) rfl (k_X8_isOne h) (Nat.le_of_ble_eq_true rfl) rfl rfl (Nat.le_of_ble_eq_true rfl) dX8_later_35 rfl (fun r22 σ21 h => ?_)
          refine Rf_if_eq X (tgt := 48) dX8_later_38 rfl rfl (fun c23 => ?_) (fun c23 => ?_)
          · have h := h.1 c23
            refine Rf_iconst X (v := (-1)) (by decide) dX8_later_48 rfl ?_
            exact Rf_iret X rfl dX8_later_49 ⟨_, rfl, h⟩
          · have h := h.2 c23
            refine Rf_goto X (tgt := 50) dX8_later_41 rfl ?_
            exact sj_X8_later_50 X _ _ _ _ _ h
def wj_X8_deep_97 (Q : Int32 → rfS → Prop) (kb_64 : Int32 → Int32 → Int32 → Int32 → Int32 → Int32 → rfS → Prop) (x1 : Int32) (x2 : Int32) (x3 : Int32) (x5 : Int32) (x6 : Int32) (x7 : Int32) (σ : rfS) : Prop :=
  vp_in (7 + x2) 42 ∧ (((gF σ 1 ((7 + x2).toNatClampNeg)) < x3 → kb_64 x1 x2 x3 x5 x6 (x7 + 1) σ) ∧ (¬ ((gF σ 1 ((7 + x2).toNatClampNeg)) < x3) → kb_64 x1 x2 x3 x5 x7 (x7 + 1) σ))
set_option maxRecDepth 20000 in
theorem sj_X8_deep_97 {E : rfE} {Q : Int32 → rfS → Prop} (X : rfX ΛM E yX8_deep cX8_deep 8 (some .int)) {kb_64 : Int32 → Int32 → Int32 → Int32 → Int32 → Int32 → rfS → Prop} (hkb_64 : ∀ (x1 : Int32) (x2 : Int32) (x3 : Int32) (x5 : Int32) (x6 : Int32) (x7 : Int32) (σ : rfS), kb_64 x1 x2 x3 x5 x6 x7 σ → Rf ΛM 5 E 8 (qi Q) 64 [(0, .ref 0), (1, .int x1), (2, .int x2), (3, .int x3), (5, .int x5), (6, .int x6), (7, .int x7)] [] σ) (x1 : Int32) (x2 : Int32) (x3 : Int32) (x5 : Int32) (x6 : Int32) (x7 : Int32) (σ : rfS) (h : wj_X8_deep_97 Q kb_64 x1 x2 x3 x5 x6 x7 σ) : Rf ΛM 5 E 8 (qi Q) 97 [(0, .ref 0), (1, .int x1), (2, .int x2), (3, .int x3), (5, .int x5), (6, .int x6), (7, .int x7)] [] σ := by
  unfold wj_X8_deep_97 at h
  refine Rf_aload_n X (j := 0) rfl rfl dX8_deep_97 rfl ?_
  refine Rf_get X kc8 (Nat.le_of_ble_eq_true rfl) rfl (j := 1) (Nat.le_of_ble_eq_true rfl) lf_X8_9 (v := .ref 1) rfl dX8_deep_98 rfl ?_
  refine Rf_bipush X (v := 7) rfl dX8_deep_101 rfl ?_
  refine Rf_iload_n X (j := 2) rfl rfl dX8_deep_103 rfl ?_
  refine Rf_iadd X dX8_deep_104 rfl ?_
  obtain ⟨s12, h⟩ := h
  refine Rf_iaload X (Nat.le_of_ble_eq_true rfl) rfl rfl s12 dX8_deep_105 rfl (v := gF σ 1 ((7 + x2).toNatClampNeg)) rfl ?_
  refine Rf_iload_n X (j := 3) rfl rfl dX8_deep_106 rfl ?_
  refine Rf_icmp_lt X (tgt := 114) dX8_deep_107 rfl rfl (fun c13 => ?_) (fun c13 => ?_)
  · have h := h.1 c13
    refine Rf_iinc X (i := 7) (j := 6) (v := x7 + 1) rfl rfl (Nat.le_of_ble_eq_true rfl) (ls2 := [(7, .int (x7 + 1)), (0, .ref 0), (1, .int x1), (2, .int x2), (3, .int x3), (5, .int x5), (6, .int x6)]) rfl dX8_deep_114 rfl ?_
    refine Rf_goto X (tgt := 64) dX8_deep_117 rfl ?_
    refine Rf_sub [1, 2, 3, 4, 5, 6, 0] rfl ?_
    exact hkb_64 _ _ _ _ _ _ σ h
  · have h := h.2 c13
    refine Rf_iload X (j := 6) rfl dX8_deep_110 rfl ?_
    refine Rf_istore X (i := 6) (Nat.le_of_ble_eq_true rfl) (ls2 := [(6, .int x7), (0, .ref 0), (1, .int x1), (2, .int x2), (3, .int x3), (5, .int x5), (7, .int x7)]) rfl dX8_deep_112 rfl ?_
    refine Rf_iinc X (i := 7) (j := 6) (v := x7 + 1) rfl rfl (Nat.le_of_ble_eq_true rfl) (ls2 := [(7, .int (x7 + 1)), (6, .int x7), (0, .ref 0), (1, .int x1), (2, .int x2), (3, .int x3), (5, .int x5)]) rfl dX8_deep_114 rfl ?_
    refine Rf_goto X (tgt := 64) dX8_deep_117 rfl ?_
    refine Rf_sub [2, 3, 4, 5, 6, 1, 0] rfl ?_
    exact hkb_64 _ _ _ _ _ _ σ h
def wl_X8_deep_64 (Q : Int32 → rfS → Prop) (kx_120 : Int32 → rfS → Prop) : Nat → Int32 → Int32 → Int32 → Int32 → Int32 → Int32 → rfS → Prop
  | 0, _, _, _, _, _, _, _ => False
  | n + 1, x1, x2, x3, x5, x6, x7, σ => ((x5 < x7 → kx_120 x6 σ) ∧ (¬ (x5 < x7) → ((¬ x6 = (-2) → kx_120 x6 σ) ∧ (x6 = (-2) → ((x7 ≤ 0 → wj_X8_deep_97 Q (wl_X8_deep_64 Q kx_120 n) x1 x2 x3 x5 x6 x7 σ) ∧ (¬ (x7 ≤ 0) → wp_X8_toldAt σ x1 (x7 - 1) (fun (r15 : Int32) (σ14 : rfS) => wp_X8_passes σ14 r15 (fun (r17 : Int32) (σ16 : rfS) => wj_X8_deep_97 Q (wl_X8_deep_64 Q kx_120 n) x1 x2 x3 x5 x6 x7 σ16))))))))
set_option maxRecDepth 20000 in
theorem sl_X8_deep_64 {E : rfE} {Q : Int32 → rfS → Prop} (X : rfX ΛM E yX8_deep cX8_deep 8 (some .int)) {kx_120 : Int32 → rfS → Prop} (hkx_120 : ∀ (x6 : Int32) (σ : rfS), kx_120 x6 σ → Rf ΛM 5 E 8 (qi Q) 120 [(0, .ref 0), (6, .int x6)] [] σ) : ∀ (n : Nat) (x1 : Int32) (x2 : Int32) (x3 : Int32) (x5 : Int32) (x6 : Int32) (x7 : Int32) (σ : rfS), wl_X8_deep_64 Q kx_120 n x1 x2 x3 x5 x6 x7 σ → Rf ΛM 5 E 8 (qi Q) 64 [(0, .ref 0), (1, .int x1), (2, .int x2), (3, .int x3), (5, .int x5), (6, .int x6), (7, .int x7)] [] σ := by
  intro n
  induction n with
  | zero =>
    intro x1 x2 x3 x5 x6 x7 σ h
    exact False.elim h
  | succ n hkb_64 =>
    intro x1 x2 x3 x5 x6 x7 σ h
    unfold wl_X8_deep_64 at h
    refine Rf_iload X (j := 6) rfl dX8_deep_64 rfl ?_
    refine Rf_iload X (j := 4) rfl dX8_deep_66 rfl ?_
    refine Rf_icmp_gt X (tgt := 120) dX8_deep_68 rfl rfl (fun c20 => ?_) (fun c20 => ?_)
    · have h := h.1 c20
      refine Rf_sub [0, 5] rfl ?_
      exact hkx_120 _ σ h
    · have h := h.2 c20
      refine Rf_iload X (j := 5) rfl dX8_deep_71 rfl ?_
      refine Rf_bipush X (v := (-2)) (by decide) dX8_deep_73 rfl ?_
      refine Rf_icmp_ne X (tgt := 120) dX8_deep_75 rfl rfl (fun c19 => ?_) (fun c19 => ?_)
      · have h := h.1 c19
        refine Rf_sub [0, 5] rfl ?_
        exact hkx_120 _ σ h
      · have h := h.2 c19
        refine Rf_iload X (j := 6) rfl dX8_deep_78 rfl ?_
        refine Rf_if_le X (tgt := 97) dX8_deep_80 rfl rfl (fun c18 => ?_) (fun c18 => ?_)
        · have h := h.1 c18
          exact sj_X8_deep_97 X hkb_64 _ _ _ _ _ _ _ h
        · have h := h.2 c18
          refine Rf_aload_n X (j := 0) rfl rfl dX8_deep_83 rfl ?_
          refine Rf_aload_n X (j := 0) rfl rfl dX8_deep_84 rfl ?_
          refine Rf_iload_n X (j := 1) rfl rfl dX8_deep_85 rfl ?_
          refine Rf_iload X (j := 6) rfl dX8_deep_86 rfl ?_
          refine Rf_iconst X (v := 1) rfl dX8_deep_88 rfl ?_
          refine Rf_isub X dX8_deep_89 rfl ?_
          refine Rf_cVi (as := [.int x1, .int (x7 - 1)]) (st := [.ref 0]) X mi_X8_toldAt lm_X8_112 rfl (Nat.le_of_ble_eq_true rfl) rfl (k_X8_toldAt h) (Nat.le_of_ble_eq_true rfl) rfl rfl (Nat.le_of_ble_eq_true rfl) dX8_deep_90 rfl (fun r15 σ14 h => ?_)
          refine Rf_cVi (as := [.int r15]) (st := []) X mi_X8_passes lm_X8_234 rfl (Nat.le_of_ble_eq_true rfl) rfl (k_X8_passes h) (Nat.le_of_ble_eq_true rfl) rfl rfl (Nat.le_of_ble_eq_true rfl) dX8_deep_93 rfl (fun r17 σ16 h => ?_)
          refine Rf_pop X rfl dX8_deep_96 rfl ?_
          exact sj_X8_deep_97 X hkb_64 _ _ _ _ _ _ _ h
def wj_X8_deep_120 (Q : Int32 → rfS → Prop) (x6 : Int32) (σ : rfS) : Prop :=
  wp_X8_laysBack σ 23 (fun (σ24 : rfS) => Q x6 σ24)
set_option maxRecDepth 20000 in
theorem sj_X8_deep_120 {E : rfE} {Q : Int32 → rfS → Prop} (X : rfX ΛM E yX8_deep cX8_deep 8 (some .int)) (x6 : Int32) (σ : rfS) (h : wj_X8_deep_120 Q x6 σ) : Rf ΛM 5 E 8 (qi Q) 120 [(0, .ref 0), (6, .int x6)] [] σ := by
  unfold wj_X8_deep_120 at h
  refine Rf_aload_n X (j := 0) rfl rfl dX8_deep_120 rfl ?_
  refine Rf_aload_n X (j := 0) rfl rfl dX8_deep_121 rfl ?_
  refine Rf_get X kc8 (Nat.le_of_ble_eq_true rfl) rfl (j := 36) (Nat.le_of_ble_eq_true rfl) lf_X8_79 (v := .ref 23) rfl dX8_deep_122 rfl ?_
  refine Rf_cVv (as := [.ref 23]) (st := []) X mi_X8_laysBack lm_X8_250 rfl (Nat.le_of_ble_eq_true rfl) rfl (k_X8_laysBack (by unfold isW; decide) h) (Nat.le_of_ble_eq_true rfl) rfl rfl (Nat.le_of_ble_eq_true rfl) dX8_deep_125 rfl (fun σ24 h => ?_)
  refine Rf_iload X (j := 1) rfl dX8_deep_128 rfl ?_
  exact Rf_iret X rfl dX8_deep_130 ⟨_, rfl, h⟩
def wp_X8_deep (σ : rfS) (x1 : Int32) (x2 : Int32) (x3 : Int32) (Q : Int32 → rfS → Prop) : Prop :=
  wp_X8_isShelf σ x1 (fun (r2 : Int32) (σ1 : rfS) => ((r2 = 0 → Q (-1) σ1) ∧ (¬ r2 = 0 → wp_X8_isOne σ1 x2 (fun (r4 : Int32) (σ3 : rfS) => ((r4 = 0 → Q (-1) σ3) ∧ (¬ r4 = 0 → wp_X8_within σ3 x3 0 99 (fun (r6 : Int32) (σ5 : rfS) => ((¬ r6 = 0 → wp_X8_noBytes σ5 x1 (fun (r8 : Int32) (σ7 : rfS) => ((0 ≤ r8 → wp_X8_keeps σ7 23 (fun (σ9 : rfS) => wp_X8_daysOf σ9 x1 (fun (r11 : Int32) (σ10 : rfS) => (∃ n21, wl_X8_deep_64 Q (fun (x6_22 : Int32) (σ23 : rfS) => wj_X8_deep_120 Q x6_22 σ23) n21 x1 x2 x3 r11 (-2) 0 σ10)))) ∧ (¬ (0 ≤ r8) → Q r8 σ7)))) ∧ (r6 = 0 → Q (-1) σ5)))))))))
set_option maxRecDepth 20000 in
theorem k_X8_deep {σ : rfS} {x1 : Int32} {x2 : Int32} {x3 : Int32} {Q : Int32 → rfS → Prop} (h : wp_X8_deep σ x1 x2 x3 Q) : RM ΛM 5 yX8_deep cX8_deep 8 (some .int) [.ref 0, .int x1, .int x2, .int x3] σ (qi Q) := by
  unfold wp_X8_deep at h
  refine RM.intro (by decide) (Nat.le_of_ble_eq_true rfl) (fun E X => ?_)
  show Rf ΛM 5 E 8 (qi Q) 0 [(0, .ref 0), (1, .int x1), (2, .int x2), (3, .int x3)] [] σ
  refine Rf_iload_n X (j := 1) rfl rfl dX8_deep_0 rfl ?_
  refine Rf_cSi (as := [.int x1]) (st := []) X ms_X8_isShelf lm_X8_106 (k_X8_isShelf h) (Nat.le_of_ble_eq_true rfl) rfl rfl (Nat.le_of_ble_eq_true rfl) dX8_deep_1 rfl (fun r2 σ1 h => ?_)
  refine Rf_if_eq X (tgt := 25) dX8_deep_4 rfl rfl (fun c28 => ?_) (fun c28 => ?_)
  · have h := h.1 c28
    refine Rf_iconst X (v := (-1)) (by decide) dX8_deep_25 rfl ?_
    exact Rf_iret X rfl dX8_deep_26 ⟨_, rfl, h⟩
  · have h := h.2 c28
    refine Rf_aload_n X (j := 0) rfl rfl dX8_deep_7 rfl ?_
    refine Rf_iload_n X (j := 2) rfl rfl dX8_deep_8 rfl ?_
    refine Rf_cVi (as := [.int x2]) (st := []) X mi_X8_isOne lm_X8_116 rfl (Nat.le_of_ble_eq_true rfl) rfl (k_X8_isOne h) (Nat.le_of_ble_eq_true rfl) rfl rfl (Nat.le_of_ble_eq_true rfl) dX8_deep_9 rfl (fun r4 σ3 h => ?_)
    refine Rf_if_eq X (tgt := 25) dX8_deep_12 rfl rfl (fun c27 => ?_) (fun c27 => ?_)
    · have h := h.1 c27
      refine Rf_iconst X (v := (-1)) (by decide) dX8_deep_25 rfl ?_
      exact Rf_iret X rfl dX8_deep_26 ⟨_, rfl, h⟩
    · have h := h.2 c27
      refine Rf_iload_n X (j := 3) rfl rfl dX8_deep_15 rfl ?_
      refine Rf_iconst X (v := 0) rfl dX8_deep_16 rfl ?_
      refine Rf_bipush X (v := 99) rfl dX8_deep_17 rfl ?_
      refine Rf_cSi (as := [.int x3, .int 0, .int 99]) (st := []) X ms_X8_within lm_X8_98 (k_X8_within h) (Nat.le_of_ble_eq_true rfl) rfl rfl (Nat.le_of_ble_eq_true rfl) dX8_deep_19 rfl (fun r6 σ5 h => ?_)
      refine Rf_if_ne X (tgt := 27) dX8_deep_22 rfl rfl (fun c26 => ?_) (fun c26 => ?_)
      · have h := h.1 c26
        refine Rf_aload_n X (j := 0) rfl rfl dX8_deep_27 rfl ?_
        refine Rf_iload_n X (j := 1) rfl rfl dX8_deep_28 rfl ?_
        refine Rf_cVi (as := [.int x1]) (st := []) X mi_X8_noBytes lm_X8_237 rfl (Nat.le_of_ble_eq_true rfl) rfl (k_X8_noBytes h) (Nat.le_of_ble_eq_true rfl) rfl rfl (Nat.le_of_ble_eq_true rfl) dX8_deep_29 rfl (fun r8 σ7 h => ?_)
        refine Rf_istore X (i := 4) (Nat.le_of_ble_eq_true rfl) (ls2 := [(4, .int r8), (0, .ref 0), (1, .int x1), (2, .int x2), (3, .int x3)]) rfl dX8_deep_32 rfl ?_
        refine Rf_iload X (j := 0) rfl dX8_deep_34 rfl ?_
        refine Rf_if_ge X (tgt := 42) dX8_deep_36 rfl rfl (fun c25 => ?_) (fun c25 => ?_)
        · have h := h.1 c25
          refine Rf_aload_n X (j := 1) rfl rfl dX8_deep_42 rfl ?_
          refine Rf_aload_n X (j := 1) rfl rfl dX8_deep_43 rfl ?_
          refine Rf_get X kc8 (Nat.le_of_ble_eq_true rfl) rfl (j := 36) (Nat.le_of_ble_eq_true rfl) lf_X8_79 (v := .ref 23) rfl dX8_deep_44 rfl ?_
          refine Rf_cVv (as := [.ref 23]) (st := []) X mi_X8_keeps lm_X8_240 rfl (Nat.le_of_ble_eq_true rfl) rfl (k_X8_keeps (by unfold isW; decide) h) (Nat.le_of_ble_eq_true rfl) rfl rfl (Nat.le_of_ble_eq_true rfl) dX8_deep_47 rfl (fun σ9 h => ?_)
          refine Rf_aload_n X (j := 1) rfl rfl dX8_deep_50 rfl ?_
          refine Rf_iload_n X (j := 2) rfl rfl dX8_deep_51 rfl ?_
          refine Rf_cVi (as := [.int x1]) (st := []) X mi_X8_daysOf lm_X8_231 rfl (Nat.le_of_ble_eq_true rfl) rfl (k_X8_daysOf h) (Nat.le_of_ble_eq_true rfl) rfl rfl (Nat.le_of_ble_eq_true rfl) dX8_deep_52 rfl (fun r11 σ10 h => ?_)
          refine Rf_istore X (i := 5) (Nat.le_of_ble_eq_true rfl) (ls2 := [(5, .int r11), (4, .int r8), (0, .ref 0), (1, .int x1), (2, .int x2), (3, .int x3)]) rfl dX8_deep_55 rfl ?_
          refine Rf_bipush X (v := (-2)) (by decide) dX8_deep_57 rfl ?_
          refine Rf_istore X (i := 6) (Nat.le_of_ble_eq_true rfl) (ls2 := [(6, .int (-2)), (5, .int r11), (4, .int r8), (0, .ref 0), (1, .int x1), (2, .int x2), (3, .int x3)]) rfl dX8_deep_59 rfl ?_
          refine Rf_iconst X (v := 0) rfl dX8_deep_61 rfl ?_
          refine Rf_istore X (i := 7) (Nat.le_of_ble_eq_true rfl) (ls2 := [(7, .int 0), (6, .int (-2)), (5, .int r11), (4, .int r8), (0, .ref 0), (1, .int x1), (2, .int x2), (3, .int x3)]) rfl dX8_deep_62 rfl ?_
          obtain ⟨n21, h⟩ := h
          refine Rf_sub [4, 5, 6, 7, 2, 1, 0] rfl ?_
          refine sl_X8_deep_64 X (fun x6_22 σ23 h => ?_) n21 _ _ _ _ _ _ _ h
          · exact sj_X8_deep_120 X _ _ h
        · have h := h.2 c25
          refine Rf_iload X (j := 0) rfl dX8_deep_39 rfl ?_
          exact Rf_iret X rfl dX8_deep_41 ⟨_, rfl, h⟩
      · have h := h.2 c26
        refine Rf_iconst X (v := (-1)) (by decide) dX8_deep_25 rfl ?_
        exact Rf_iret X rfl dX8_deep_26 ⟨_, rfl, h⟩
