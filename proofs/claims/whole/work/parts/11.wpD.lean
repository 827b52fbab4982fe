def wp_X7_isWithin (σ : rfS) (x0 : Int32) (x1 : Int32) (x2 : Int32) (Q : Int32 → rfS → Prop) : Prop :=
  ((x0 < x1 → Q 0 σ) ∧ (¬ (x0 < x1) → ((x2 < x0 → Q 0 σ) ∧ (¬ (x2 < x0) → Q 1 σ))))
set_option maxRecDepth 20000 in
theorem k_X7_isWithin {σ : rfS} {x0 : Int32} {x1 : Int32} {x2 : Int32} {Q : Int32 → rfS → Prop} (h : wp_X7_isWithin σ x0 x1 x2 Q) : RM ΛC 0 yX7_isWithin cX7_isWithin 3 (some .boolean) [.int x0, .int x1, .int x2] σ (qi Q) := by
  unfold wp_X7_isWithin at h
  refine RM.intro (by decide) (Nat.le_of_ble_eq_true rfl) (fun E X => ?_)
  show Rf ΛC 0 E 3 (qi Q) 0 [(0, .int x0), (1, .int x1), (2, .int x2)] [] σ
  refine Rf_iload_n X (j := 0) rfl rfl dX7_isWithin_0 rfl ?_
  refine Rf_iload_n X (j := 1) rfl rfl dX7_isWithin_1 rfl ?_
  refine Rf_icmp_lt X (tgt := 14) dX7_isWithin_2 rfl rfl (fun c2 => ?_) (fun c2 => ?_)
  · have h := h.1 c2
    refine Rf_iconst X (v := 0) rfl dX7_isWithin_14 rfl ?_
    exact Rf_iret X rfl dX7_isWithin_15 ⟨_, rfl, h⟩
  · have h := h.2 c2
    refine Rf_iload_n X (j := 0) rfl rfl dX7_isWithin_5 rfl ?_
    refine Rf_iload_n X (j := 2) rfl rfl dX7_isWithin_6 rfl ?_
    refine Rf_icmp_gt X (tgt := 14) dX7_isWithin_7 rfl rfl (fun c1 => ?_) (fun c1 => ?_)
    · have h := h.1 c1
      refine Rf_iconst X (v := 0) rfl dX7_isWithin_14 rfl ?_
      exact Rf_iret X rfl dX7_isWithin_15 ⟨_, rfl, h⟩
    · have h := h.2 c1
      refine Rf_iconst X (v := 1) rfl dX7_isWithin_10 rfl ?_
      refine Rf_goto X (tgt := 15) dX7_isWithin_11 rfl ?_
      exact Rf_iret X rfl dX7_isWithin_15 ⟨_, rfl, h⟩
def wp_X7_welcome (σ : rfS) (x1 : Int32) (x2 : Int32) (x3 : Int32) (Q : Int32 → rfS → Prop) : Prop :=
  vp_in (gI σ 1 0) 7 ∧ vp_in (gI σ 1 0) 7 ∧ vp_in (gI σ 1 0) 7 ∧ vp_in (gI σ 1 0) 7 ∧ Q (gI σ 1 0) (sI (sF (sF (sF (sF σ 2 ((gI σ 1 0).toNatClampNeg) x1) 3 ((gI σ 1 0).toNatClampNeg) 3) 13 ((gI σ 1 0).toNatClampNeg) x2) 14 ((gI σ 1 0).toNatClampNeg) x3) 1 0 ((gI σ 1 0) + 1))
set_option maxRecDepth 20000 in
theorem k_X7_welcome {σ : rfS} {x1 : Int32} {x2 : Int32} {x3 : Int32} {Q : Int32 → rfS → Prop} (h : wp_X7_welcome σ x1 x2 x3 Q) : RM ΛC 0 yX7_welcome cX7_welcome 5 (some .int) [.ref 0, .int x1, .int x2, .int x3] σ (qi Q) := by
  unfold wp_X7_welcome at h
  refine RM.intro (by decide) (Nat.le_of_ble_eq_true rfl) (fun E X => ?_)
  show Rf ΛC 0 E 5 (qi Q) 0 [(0, .ref 0), (1, .int x1), (2, .int x2), (3, .int x3)] [] σ
  refine Rf_aload_n X (j := 0) rfl rfl dX7_welcome_0 rfl ?_
  refine Rf_get X kc7 (Nat.le_of_ble_eq_true rfl) rfl (j := 0) (Nat.le_of_ble_eq_true rfl) lf_X7_10 (v := .ref 1) rfl dX7_welcome_1 rfl ?_
  refine Rf_get X kc2 (Nat.le_of_ble_eq_true rfl) rfl (j := 0) (Nat.le_of_ble_eq_true rfl) lf_X7_67 (v := .int (gI σ 1 0)) rfl dX7_welcome_4 rfl ?_
  refine Rf_istore X (i := 4) (Nat.le_of_ble_eq_true rfl) (ls2 := [(4, .int (gI σ 1 0)), (0, .ref 0), (1, .int x1), (2, .int x2), (3, .int x3)]) rfl dX7_welcome_7 rfl ?_
  refine Rf_aload_n X (j := 1) rfl rfl dX7_welcome_9 rfl ?_
  refine Rf_get X kc7 (Nat.le_of_ble_eq_true rfl) rfl (j := 0) (Nat.le_of_ble_eq_true rfl) lf_X7_10 (v := .ref 1) rfl dX7_welcome_10 rfl ?_
  refine Rf_get X kc2 (Nat.le_of_ble_eq_true rfl) rfl (j := 1) (Nat.le_of_ble_eq_true rfl) lf_X7_91 (v := .ref 2) rfl dX7_welcome_13 rfl ?_
  refine Rf_iload X (j := 0) rfl dX7_welcome_16 rfl ?_
  refine Rf_iload_n X (j := 2) rfl rfl dX7_welcome_18 rfl ?_
  obtain ⟨s1, h⟩ := h
  refine Rf_iastore X (Nat.le_of_ble_eq_true rfl) rfl rfl s1 dX7_welcome_19 rfl ?_
  refine Rf_aload_n X (j := 1) rfl rfl dX7_welcome_20 rfl ?_
  refine Rf_get X kc7 (Nat.le_of_ble_eq_true rfl) rfl (j := 0) (Nat.le_of_ble_eq_true rfl) lf_X7_10 (v := .ref 1) rfl dX7_welcome_21 rfl ?_
  refine Rf_get X kc2 (Nat.le_of_ble_eq_true rfl) rfl (j := 2) (Nat.le_of_ble_eq_true rfl) lf_X7_94 (v := .ref 3) rfl dX7_welcome_24 rfl ?_
  refine Rf_iload X (j := 0) rfl dX7_welcome_27 rfl ?_
  refine Rf_iconst X (v := 3) rfl dX7_welcome_29 rfl ?_
  obtain ⟨s2, h⟩ := h
  refine Rf_iastore X (Nat.le_of_ble_eq_true rfl) rfl rfl s2 dX7_welcome_30 rfl ?_
  refine Rf_aload_n X (j := 1) rfl rfl dX7_welcome_31 rfl ?_
  refine Rf_get X kc7 (Nat.le_of_ble_eq_true rfl) rfl (j := 1) (Nat.le_of_ble_eq_true rfl) lf_X7_19 (v := .ref 12) rfl dX7_welcome_32 rfl ?_
  refine Rf_get X kc5 (Nat.le_of_ble_eq_true rfl) rfl (j := 0) (Nat.le_of_ble_eq_true rfl) lf_X7_97 (v := .ref 13) rfl dX7_welcome_35 rfl ?_
  refine Rf_iload X (j := 0) rfl dX7_welcome_38 rfl ?_
  refine Rf_iload_n X (j := 3) rfl rfl dX7_welcome_40 rfl ?_
  obtain ⟨s3, h⟩ := h
  refine Rf_iastore X (Nat.le_of_ble_eq_true rfl) rfl rfl s3 dX7_welcome_41 rfl ?_
  refine Rf_aload_n X (j := 1) rfl rfl dX7_welcome_42 rfl ?_
  refine Rf_get X kc7 (Nat.le_of_ble_eq_true rfl) rfl (j := 1) (Nat.le_of_ble_eq_true rfl) lf_X7_19 (v := .ref 12) rfl dX7_welcome_43 rfl ?_
  refine Rf_get X kc5 (Nat.le_of_ble_eq_true rfl) rfl (j := 1) (Nat.le_of_ble_eq_true rfl) lf_X7_100 (v := .ref 14) rfl dX7_welcome_46 rfl ?_
  refine Rf_iload X (j := 0) rfl dX7_welcome_49 rfl ?_
  refine Rf_iload_n X (j := 4) rfl rfl dX7_welcome_51 rfl ?_
  obtain ⟨s4, h⟩ := h
  refine Rf_iastore X (Nat.le_of_ble_eq_true rfl) rfl rfl s4 dX7_welcome_52 rfl ?_
  refine Rf_aload_n X (j := 1) rfl rfl dX7_welcome_53 rfl ?_
  refine Rf_get X kc7 (Nat.le_of_ble_eq_true rfl) rfl (j := 0) (Nat.le_of_ble_eq_true rfl) lf_X7_10 (v := .ref 1) rfl dX7_welcome_54 rfl ?_
  refine Rf_iload X (j := 0) rfl dX7_welcome_57 rfl ?_
  refine Rf_iconst X (v := 1) rfl dX7_welcome_59 rfl ?_
  refine Rf_iadd X dX7_welcome_60 rfl ?_
  refine Rf_put X kc2 (Nat.le_of_ble_eq_true rfl) rfl (j := 0) (Nat.le_of_ble_eq_true rfl) rfl lf_X7_67 rfl rfl rfl dX7_welcome_61 rfl ?_
  refine Rf_iload X (j := 0) rfl dX7_welcome_64 rfl ?_
  exact Rf_iret X rfl dX7_welcome_66 ⟨_, rfl, h⟩
def wp_X7_brother (σ : rfS) (x1 : Int32) (Q : Int32 → rfS → Prop) : Prop :=
  wp_X7_isWithin σ x1 0 127 (fun (r2 : Int32) (σ1 : rfS) => ((¬ r2 = 0 → ((¬ (gI σ1 1 0) = 7 → wp_X7_welcome σ1 x1 0 0 (fun (r4 : Int32) (σ3 : rfS) => Q r4 σ3)) ∧ ((gI σ1 1 0) = 7 → Q (-3) σ1))) ∧ (r2 = 0 → Q (-1) σ1)))
set_option maxRecDepth 20000 in
theorem k_X7_brother {σ : rfS} {x1 : Int32} {Q : Int32 → rfS → Prop} (h : wp_X7_brother σ x1 Q) : RM ΛC 1 yX7_brother cX7_brother 2 (some .int) [.ref 0, .int x1] σ (qi Q) := by
  unfold wp_X7_brother at h
  refine RM.intro (by decide) (Nat.le_of_ble_eq_true rfl) (fun E X => ?_)
  show Rf ΛC 1 E 2 (qi Q) 0 [(0, .ref 0), (1, .int x1)] [] σ
  refine Rf_iload_n X (j := 1) rfl rfl dX7_brother_0 rfl ?_
  refine Rf_iconst X (v := 0) rfl dX7_brother_1 rfl ?_
  refine Rf_bipush X (v := 127) rfl dX7_brother_2 rfl ?_
  refine Rf_cSi (as := [.int x1, .int 0, .int 127]) (st := []) X ms_X7_isWithin lm_X7_63 (k_X7_isWithin h) (Nat.le_of_ble_eq_true rfl) rfl rfl (Nat.le_of_ble_eq_true rfl) dX7_brother_4 rfl (fun r2 σ1 h => ?_)
  refine Rf_if_ne X (tgt := 12) dX7_brother_7 rfl rfl (fun c6 => ?_) (fun c6 => ?_)
  · have h := h.1 c6
    refine Rf_aload_n X (j := 0) rfl rfl dX7_brother_12 rfl ?_
    refine Rf_get X kc7 (Nat.le_of_ble_eq_true rfl) rfl (j := 0) (Nat.le_of_ble_eq_true rfl) lf_X7_10 (v := .ref 1) rfl dX7_brother_13 rfl ?_
    refine Rf_get X kc2 (Nat.le_of_ble_eq_true rfl) rfl (j := 0) (Nat.le_of_ble_eq_true rfl) lf_X7_67 (v := .int (gI σ1 1 0)) rfl dX7_brother_16 rfl ?_
    refine Rf_bipush X (v := 7) rfl dX7_brother_19 rfl ?_
    refine Rf_icmp_ne X (tgt := 29) dX7_brother_21 rfl rfl (fun c5 => ?_) (fun c5 => ?_)
    · have h := h.1 c5
      refine Rf_aload_n X (j := 0) rfl rfl dX7_brother_29 rfl ?_
      refine Rf_iload_n X (j := 1) rfl rfl dX7_brother_30 rfl ?_
      refine Rf_iconst X (v := 0) rfl dX7_brother_31 rfl ?_
      refine Rf_iconst X (v := 0) rfl dX7_brother_32 rfl ?_
      refine Rf_cVi (as := [.int x1, .int 0, .int 0]) (st := []) X mi_X7_welcome lm_X7_71 rfl (Nat.le_of_ble_eq_true rfl) rfl (k_X7_welcome h) (Nat.le_of_ble_eq_true rfl) rfl rfl (Nat.le_of_ble_eq_true rfl) dX7_brother_33 rfl (fun r4 σ3 h => ?_)
      exact Rf_iret X rfl dX7_brother_36 ⟨_, rfl, h⟩
    · have h := h.2 c5
      refine Rf_bipush X (v := (-3)) (by decide) dX7_brother_24 rfl ?_
      refine Rf_goto X (tgt := 36) dX7_brother_26 rfl ?_
      exact Rf_iret X rfl dX7_brother_36 ⟨_, rfl, h⟩
  · have h := h.2 c6
    refine Rf_iconst X (v := (-1)) (by decide) dX7_brother_10 rfl ?_
    exact Rf_iret X rfl dX7_brother_11 ⟨_, rfl, h⟩
def wp_X7_comesFrom (σ : rfS) (a1 : Nat) (x2 : Int32) (Q : Int32 → rfS → Prop) : Prop :=
  ((x2 < 0 → Q 0 σ) ∧ (¬ (x2 < 0) → ((((gI σ a1 2) - 3) < x2 → Q 0 σ) ∧ (¬ (((gI σ a1 2) - 3) < x2) → ((¬ (gI σ 1 0) = 7 → vp_in x2 60 ∧ vp_in (x2 + 1) 60 ∧ vp_in (x2 + 2) 60 ∧ wp_X7_isWithin σ ((gL σ (a1 + 1) (x2.toNatClampNeg)).toInt32) 0 127 (fun (r5 : Int32) (σ4 : rfS) => ((r5 = 0 → Q 0 σ4) ∧ (¬ r5 = 0 → wp_X7_isWithin σ4 ((gL σ (a1 + 1) ((x2 + 1).toNatClampNeg)).toInt32) 0 99 (fun (r7 : Int32) (σ6 : rfS) => ((r7 = 0 → Q 0 σ6) ∧ (¬ r7 = 0 → wp_X7_isWithin σ6 ((gL σ (a1 + 1) ((x2 + 2).toNatClampNeg)).toInt32) 0 255 (fun (r9 : Int32) (σ8 : rfS) => ((¬ r9 = 0 → wp_X7_welcome σ8 ((gL σ (a1 + 1) (x2.toNatClampNeg)).toInt32) ((gL σ (a1 + 1) ((x2 + 1).toNatClampNeg)).toInt32) ((gL σ (a1 + 1) ((x2 + 2).toNatClampNeg)).toInt32) (fun (r11 : Int32) (σ10 : rfS) => Q 1 σ10)) ∧ (r9 = 0 → Q 0 σ8)))))))))) ∧ ((gI σ 1 0) = 7 → Q 0 σ))))))
set_option maxRecDepth 20000 in
theorem k_X7_comesFrom {σ : rfS} {a1 : Nat} {x2 : Int32} {Q : Int32 → rfS → Prop} (ha1 : isSh a1) (h : wp_X7_comesFrom σ a1 x2 Q) : RM ΛC 1 yX7_comesFrom cX7_comesFrom 6 (some .boolean) [.ref 0, .ref a1, .int x2] σ (qi Q) := by
  unfold wp_X7_comesFrom at h
  refine RM.intro (by decide) (Nat.le_of_ble_eq_true rfl) (fun E X => ?_)
  show Rf ΛC 1 E 6 (qi Q) 0 [(0, .ref 0), (1, .ref a1), (2, .int x2)] [] σ
  refine Rf_iload_n X (j := 2) rfl rfl dX7_comesFrom_0 rfl ?_
  refine Rf_if_lt X (tgt := 26) dX7_comesFrom_1 rfl rfl (fun c17 => ?_) (fun c17 => ?_)
  · have h := h.1 c17
    refine Rf_iconst X (v := 0) rfl dX7_comesFrom_26 rfl ?_
    exact Rf_iret X rfl dX7_comesFrom_27 ⟨_, rfl, h⟩
  · have h := h.2 c17
    refine Rf_iload_n X (j := 2) rfl rfl dX7_comesFrom_4 rfl ?_
    refine Rf_aload_n X (j := 1) rfl rfl dX7_comesFrom_5 rfl ?_
    refine Rf_get X kc4 (isSh_f _ ha1).1.1 (isSh_f _ ha1).1.2 (j := 2) (Nat.le_of_ble_eq_true rfl) lf_X7_86 (v := .int (gI σ a1 2)) rfl dX7_comesFrom_6 rfl ?_
    refine Rf_iconst X (v := 3) rfl dX7_comesFrom_9 rfl ?_
    refine Rf_isub X dX7_comesFrom_10 rfl ?_
    refine Rf_icmp_gt X (tgt := 26) dX7_comesFrom_11 rfl rfl (fun c16 => ?_) (fun c16 => ?_)
    · have h := h.1 c16
      refine Rf_iconst X (v := 0) rfl dX7_comesFrom_26 rfl ?_
      exact Rf_iret X rfl dX7_comesFrom_27 ⟨_, rfl, h⟩
    · have h := h.2 c16
      refine Rf_aload_n X (j := 0) rfl rfl dX7_comesFrom_14 rfl ?_
      refine Rf_get X kc7 (Nat.le_of_ble_eq_true rfl) rfl (j := 0) (Nat.le_of_ble_eq_true rfl) lf_X7_10 (v := .ref 1) rfl dX7_comesFrom_15 rfl ?_
      refine Rf_get X kc2 (Nat.le_of_ble_eq_true rfl) rfl (j := 0) (Nat.le_of_ble_eq_true rfl) lf_X7_67 (v := .int (gI σ 1 0)) rfl dX7_comesFrom_18 rfl ?_
      refine Rf_bipush X (v := 7) rfl dX7_comesFrom_21 rfl ?_
      refine Rf_icmp_ne X (tgt := 28) dX7_comesFrom_23 rfl rfl (fun c15 => ?_) (fun c15 => ?_)
      · have h := h.1 c15
        refine Rf_aload_n X (j := 1) rfl rfl dX7_comesFrom_28 rfl ?_
        refine Rf_get X kc4 (isSh_f _ ha1).1.1 (isSh_f _ ha1).1.2 (j := 3) (Nat.le_of_ble_eq_true rfl) lf_X7_87 (v := .ref (a1 + 1)) rfl dX7_comesFrom_29 rfl ?_
        refine Rf_iload_n X (j := 2) rfl rfl dX7_comesFrom_32 rfl ?_
        obtain ⟨s1, h⟩ := h
        refine Rf_laload X (isSh_f _ ha1).2.1 (isSh_f _ ha1).2.2.1 (isSh_f _ ha1).2.2.2 s1 dX7_comesFrom_33 rfl (v := gL σ (a1 + 1) (x2.toNatClampNeg)) rfl ?_
        refine Rf_l2i X dX7_comesFrom_34 rfl ?_
        refine Rf_istore_n X rfl (i := 3) (Nat.le_of_ble_eq_true rfl) (ls2 := [(3, .int ((gL σ (a1 + 1) (x2.toNatClampNeg)).toInt32)), (0, .ref 0), (1, .ref a1), (2, .int x2)]) rfl dX7_comesFrom_35 rfl ?_
        refine Rf_aload_n X (j := 2) rfl rfl dX7_comesFrom_36 rfl ?_
        refine Rf_get X kc4 (isSh_f _ ha1).1.1 (isSh_f _ ha1).1.2 (j := 3) (Nat.le_of_ble_eq_true rfl) lf_X7_87 (v := .ref (a1 + 1)) rfl dX7_comesFrom_37 rfl ?_
        refine Rf_iload_n X (j := 3) rfl rfl dX7_comesFrom_40 rfl ?_
        refine Rf_iconst X (v := 1) rfl dX7_comesFrom_41 rfl ?_
        refine Rf_iadd X dX7_comesFrom_42 rfl ?_
        obtain ⟨s2, h⟩ := h
        refine Rf_laload X (isSh_f _ ha1).2.1 (isSh_f _ ha1).2.2.1 (isSh_f _ ha1).2.2.2 s2 dX7_comesFrom_43 rfl (v := gL σ (a1 + 1) ((x2 + 1).toNatClampNeg)) rfl ?_
        refine Rf_l2i X dX7_comesFrom_44 rfl ?_
        refine Rf_istore X (i := 4) (Nat.le_of_ble_eq_true rfl) (ls2 := [(4, .int ((gL σ (a1 + 1) ((x2 + 1).toNatClampNeg)).toInt32)), (3, .int ((gL σ (a1 + 1) (x2.toNatClampNeg)).toInt32)), (0, .ref 0), (1, .ref a1), (2, .int x2)]) rfl dX7_comesFrom_45 rfl ?_
        refine Rf_aload_n X (j := 3) rfl rfl dX7_comesFrom_47 rfl ?_
        refine Rf_get X kc4 (isSh_f _ ha1).1.1 (isSh_f _ ha1).1.2 (j := 3) (Nat.le_of_ble_eq_true rfl) lf_X7_87 (v := .ref (a1 + 1)) rfl dX7_comesFrom_48 rfl ?_
        refine Rf_iload_n X (j := 4) rfl rfl dX7_comesFrom_51 rfl ?_
        refine Rf_iconst X (v := 2) rfl dX7_comesFrom_52 rfl ?_
        refine Rf_iadd X dX7_comesFrom_53 rfl ?_
        obtain ⟨s3, h⟩ := h
        refine Rf_laload X (isSh_f _ ha1).2.1 (isSh_f _ ha1).2.2.1 (isSh_f _ ha1).2.2.2 s3 dX7_comesFrom_54 rfl (v := gL σ (a1 + 1) ((x2 + 2).toNatClampNeg)) rfl ?_
        refine Rf_l2i X dX7_comesFrom_55 rfl ?_
        refine Rf_istore X (i := 5) (Nat.le_of_ble_eq_true rfl) (ls2 := [(5, .int ((gL σ (a1 + 1) ((x2 + 2).toNatClampNeg)).toInt32)), (4, .int ((gL σ (a1 + 1) ((x2 + 1).toNatClampNeg)).toInt32)), (3, .int ((gL σ (a1 + 1) (x2.toNatClampNeg)).toInt32)), (0, .ref 0), (1, .ref a1), (2, .int x2)]) rfl dX7_comesFrom_56 rfl ?_
        refine Rf_iload_n X (j := 2) rfl rfl dX7_comesFrom_58 rfl ?_
        refine Rf_iconst X (v := 0) rfl dX7_comesFrom_59 rfl ?_
        refine Rf_bipush X (v := 127) rfl dX7_comesFrom_60 rfl ?_
        refine Rf_cSi (as := [.int ((gL σ (a1 + 1) (x2.toNatClampNeg)).toInt32), .int 0, .int 127]) (st := []) X ms_X7_isWithin lm_X7_63 (k_X7_isWithin h) (Nat.le_of_ble_eq_true rfl) rfl rfl (Nat.le_of_ble_eq_true rfl) dX7_comesFrom_62 rfl (fun r5 σ4 h => ?_)
        refine Rf_if_eq X (tgt := 91) dX7_comesFrom_65 rfl rfl (fun c14 => ?_) (fun c14 => ?_)
        · have h := h.1 c14
          refine Rf_iconst X (v := 0) rfl dX7_comesFrom_91 rfl ?_
          exact Rf_iret X rfl dX7_comesFrom_92 ⟨_, rfl, h⟩
        · have h := h.2 c14
          refine Rf_iload X (j := 1) rfl dX7_comesFrom_68 rfl ?_
          refine Rf_iconst X (v := 0) rfl dX7_comesFrom_70 rfl ?_
          refine Rf_bipush X (v := 99) rfl dX7_comesFrom_71 rfl ?_
          refine Rf_cSi (as := [.int ((gL σ (a1 + 1) ((x2 + 1).toNatClampNeg)).toInt32), .int 0, .int 99]) (st := []) X ms_X7_isWithin lm_X7_63 (k_X7_isWithin h) (Nat.le_of_ble_eq_true rfl) rfl rfl (Nat.le_of_ble_eq_true rfl) dX7_comesFrom_73 rfl (fun r7 σ6 h => ?_)
          refine Rf_if_eq X (tgt := 91) dX7_comesFrom_76 rfl rfl (fun c13 => ?_) (fun c13 => ?_)
          · have h := h.1 c13
            refine Rf_iconst X (v := 0) rfl dX7_comesFrom_91 rfl ?_
            exact Rf_iret X rfl dX7_comesFrom_92 ⟨_, rfl, h⟩
          · have h := h.2 c13
            refine Rf_iload X (j := 0) rfl dX7_comesFrom_79 rfl ?_
            refine Rf_iconst X (v := 0) rfl dX7_comesFrom_81 rfl ?_
            refine Rf_sipush X (v := 255) rfl dX7_comesFrom_82 rfl ?_
            refine Rf_cSi (as := [.int ((gL σ (a1 + 1) ((x2 + 2).toNatClampNeg)).toInt32), .int 0, .int 255]) (st := []) X ms_X7_isWithin lm_X7_63 (k_X7_isWithin h) (Nat.le_of_ble_eq_true rfl) rfl rfl (Nat.le_of_ble_eq_true rfl) dX7_comesFrom_85 rfl (fun r9 σ8 h => ?_)
            refine Rf_if_ne X (tgt := 93) dX7_comesFrom_88 rfl rfl (fun c12 => ?_) (fun c12 => ?_)
            · have h := h.1 c12
              refine Rf_aload_n X (j := 3) rfl rfl dX7_comesFrom_93 rfl ?_
              refine Rf_iload_n X (j := 2) rfl rfl dX7_comesFrom_94 rfl ?_
              refine Rf_iload X (j := 1) rfl dX7_comesFrom_95 rfl ?_
              refine Rf_iload X (j := 0) rfl dX7_comesFrom_97 rfl ?_
              refine Rf_cVi (as := [.int ((gL σ (a1 + 1) (x2.toNatClampNeg)).toInt32), .int ((gL σ (a1 + 1) ((x2 + 1).toNatClampNeg)).toInt32), .int ((gL σ (a1 + 1) ((x2 + 2).toNatClampNeg)).toInt32)]) (st := []) X mi_X7_welcome lm_X7_71 rfl (Nat.le_of_ble_eq_true rfl) rfl (k_X7_welcome h) (Nat.le_of_ble_eq_true rfl) rfl rfl (Nat.le_of_ble_eq_true rfl) dX7_comesFrom_99 rfl (fun r11 σ10 h => ?_)
              refine Rf_pop X rfl dX7_comesFrom_102 rfl ?_
              refine Rf_iconst X (v := 1) rfl dX7_comesFrom_103 rfl ?_
              exact Rf_iret X rfl dX7_comesFrom_104 ⟨_, rfl, h⟩
            · have h := h.2 c12
              refine Rf_iconst X (v := 0) rfl dX7_comesFrom_91 rfl ?_
              exact Rf_iret X rfl dX7_comesFrom_92 ⟨_, rfl, h⟩
      · have h := h.2 c15
        refine Rf_iconst X (v := 0) rfl dX7_comesFrom_26 rfl ?_
        exact Rf_iret X rfl dX7_comesFrom_27 ⟨_, rfl, h⟩
def wp_X7_isShelf (σ : rfS) (x0 : Int32) (Q : Int32 → rfS → Prop) : Prop :=
  wp_X7_isWithin σ x0 0 5 (fun (r2 : Int32) (σ1 : rfS) => (rfZ r2) ∧ Q r2 σ1)
set_option maxRecDepth 20000 in
theorem k_X7_isShelf {σ : rfS} {x0 : Int32} {Q : Int32 → rfS → Prop} (h : wp_X7_isShelf σ x0 Q) : RM ΛC 1 yX7_isShelf cX7_isShelf 1 (some .boolean) [.int x0] σ (qi Q) := by
  unfold wp_X7_isShelf at h
  refine RM.intro (by decide) (Nat.le_of_ble_eq_true rfl) (fun E X => ?_)
  show Rf ΛC 1 E 1 (qi Q) 0 [(0, .int x0)] [] σ
  refine Rf_iload_n X (j := 0) rfl rfl dX7_isShelf_0 rfl ?_
  refine Rf_iconst X (v := 0) rfl dX7_isShelf_1 rfl ?_
  refine Rf_iconst X (v := 5) rfl dX7_isShelf_2 rfl ?_
  refine Rf_cSi (as := [.int x0, .int 0, .int 5]) (st := []) X ms_X7_isWithin lm_X7_63 (k_X7_isWithin h) (Nat.le_of_ble_eq_true rfl) rfl rfl (Nat.le_of_ble_eq_true rfl) dX7_isShelf_3 rfl (fun r2 σ1 h => ?_)
  obtain ⟨s3, h⟩ := h
  exact Rf_iret X (rfZ_n s3) dX7_isShelf_6 ⟨_, rfl, h⟩
def wl_X7_brothers_57 (Q : Int32 → rfS → Prop) : Nat → Int32 → Nat → Int32 → Int32 → rfS → Prop
  | 0, _, _, _, _, _ => False
  | n + 1, x3, a4, x5, x6, σ => ((x3 ≤ x5 → Q x5 σ) ∧ (¬ (x3 ≤ x5) → wp_X7_comesFrom σ a4 x6 (fun (r7 : Int32) (σ6 : rfS) => ((r7 = 0 → Q x5 σ6) ∧ (¬ r7 = 0 → wl_X7_brothers_57 Q n x3 a4 (x5 + 1) (x6 + 3) σ6)))))
set_option maxRecDepth 20000 in
theorem sl_X7_brothers_57 {E : rfE} {Q : Int32 → rfS → Prop} (X : rfX ΛC E yX7_brothers cX7_brothers 7 (some .int)) : ∀ (n : Nat) (x3 : Int32) (a4 : Nat) (x5 : Int32) (x6 : Int32) (σ : rfS), isSh a4 → wl_X7_brothers_57 Q n x3 a4 x5 x6 σ → Rf ΛC 2 E 7 (qi Q) 57 [(0, .ref 0), (3, .int x3), (4, .ref a4), (5, .int x5), (6, .int x6)] [] σ := by
  intro n
  induction n with
  | zero =>
    intro x3 a4 x5 x6 σ ha4 h
    exact False.elim h
  | succ n hkb_57 =>
    intro x3 a4 x5 x6 σ ha4 h
    unfold wl_X7_brothers_57 at h
    refine Rf_iload X (j := 3) rfl dX7_brothers_57 rfl ?_
    refine Rf_iload_n X (j := 1) rfl rfl dX7_brothers_59 rfl ?_
    refine Rf_icmp_ge X (tgt := 83) dX7_brothers_60 rfl rfl (fun c9 => ?_) (fun c9 => ?_)
    · have h := h.1 c9
      refine Rf_iload X (j := 3) rfl dX7_brothers_83 rfl ?_
      exact Rf_iret X rfl dX7_brothers_85 ⟨_, rfl, h⟩
    · have h := h.2 c9
      refine Rf_aload_n X (j := 0) rfl rfl dX7_brothers_63 rfl ?_
      refine Rf_aload X (j := 2) rfl dX7_brothers_64 rfl ?_
      refine Rf_iload X (j := 4) rfl dX7_brothers_66 rfl ?_
      refine Rf_cVi (as := [.ref a4, .int x6]) (st := []) X mi_X7_comesFrom lm_X7_82 rfl (Nat.le_of_ble_eq_true rfl) rfl (k_X7_comesFrom ha4 h) (Nat.le_of_ble_eq_true rfl) rfl rfl (Nat.le_of_ble_eq_true rfl) dX7_brothers_68 rfl (fun r7 σ6 h => ?_)
      refine Rf_if_eq X (tgt := 83) dX7_brothers_71 rfl rfl (fun c8 => ?_) (fun c8 => ?_)
      · have h := h.1 c8
        refine Rf_iload X (j := 3) rfl dX7_brothers_83 rfl ?_
        exact Rf_iret X rfl dX7_brothers_85 ⟨_, rfl, h⟩
      · have h := h.2 c8
        refine Rf_iinc X (i := 5) (j := 3) (v := x5 + 1) rfl rfl (Nat.le_of_ble_eq_true rfl) (ls2 := [(5, .int (x5 + 1)), (0, .ref 0), (3, .int x3), (4, .ref a4), (6, .int x6)]) rfl dX7_brothers_74 rfl ?_
        refine Rf_iinc X (i := 6) (j := 4) (v := x6 + 3) rfl rfl (Nat.le_of_ble_eq_true rfl) (ls2 := [(6, .int (x6 + 3)), (5, .int (x5 + 1)), (0, .ref 0), (3, .int x3), (4, .ref a4)]) rfl dX7_brothers_77 rfl ?_
        refine Rf_goto X (tgt := 57) dX7_brothers_80 rfl ?_
        refine Rf_sub [2, 3, 4, 1, 0] rfl ?_
        exact hkb_57 _ _ _ _ σ6 ha4 h
def wp_X7_brothers (σ : rfS) (x1 : Int32) (x2 : Int32) (x3 : Int32) (Q : Int32 → rfS → Prop) : Prop :=
  wp_X7_isShelf σ x1 (fun (r2 : Int32) (σ1 : rfS) => ((r2 = 0 → Q (-1) σ1) ∧ (¬ r2 = 0 → wp_X7_isWithin σ1 x3 1 7 (fun (r4 : Int32) (σ3 : rfS) => ((¬ r4 = 0 → vp_in x1 6 ∧ ((¬ (gI σ3 (53 + 2 * x1.toNatClampNeg) 0) = (-2) → (((gI σ3 (53 + 2 * x1.toNatClampNeg) 0) = 1 → (∃ n10, wl_X7_brothers_57 Q n10 x3 (53 + 2 * x1.toNatClampNeg) 0 x2 σ3)) ∧ (¬ (gI σ3 (53 + 2 * x1.toNatClampNeg) 0) = 1 → Q (-12) σ3))) ∧ ((gI σ3 (53 + 2 * x1.toNatClampNeg) 0) = (-2) → Q 0 σ3))) ∧ (r4 = 0 → Q (-1) σ3))))))
set_option maxRecDepth 20000 in
theorem k_X7_brothers {σ : rfS} {x1 : Int32} {x2 : Int32} {x3 : Int32} {Q : Int32 → rfS → Prop} (h : wp_X7_brothers σ x1 x2 x3 Q) : RM ΛC 2 yX7_brothers cX7_brothers 7 (some .int) [.ref 0, .int x1, .int x2, .int x3] σ (qi Q) := by
  unfold wp_X7_brothers at h
  refine RM.intro (by decide) (Nat.le_of_ble_eq_true rfl) (fun E X => ?_)
  show Rf ΛC 2 E 7 (qi Q) 0 [(0, .ref 0), (1, .int x1), (2, .int x2), (3, .int x3)] [] σ
  refine Rf_iload_n X (j := 1) rfl rfl dX7_brothers_0 rfl ?_
  refine Rf_cSi (as := [.int x1]) (st := []) X ms_X7_isShelf lm_X7_75 (k_X7_isShelf h) (Nat.le_of_ble_eq_true rfl) rfl rfl (Nat.le_of_ble_eq_true rfl) dX7_brothers_1 rfl (fun r2 σ1 h => ?_)
  refine Rf_if_eq X (tgt := 17) dX7_brothers_4 rfl rfl (fun c14 => ?_) (fun c14 => ?_)
  · have h := h.1 c14
    refine Rf_iconst X (v := (-1)) (by decide) dX7_brothers_17 rfl ?_
    exact Rf_iret X rfl dX7_brothers_18 ⟨_, rfl, h⟩
  · have h := h.2 c14
    refine Rf_iload_n X (j := 3) rfl rfl dX7_brothers_7 rfl ?_
    refine Rf_iconst X (v := 1) rfl dX7_brothers_8 rfl ?_
    refine Rf_bipush X (v := 7) rfl dX7_brothers_9 rfl ?_
    refine Rf_cSi (as := [.int x3, .int 1, .int 7]) (st := []) X ms_X7_isWithin lm_X7_63 (k_X7_isWithin h) (Nat.le_of_ble_eq_true rfl) rfl rfl (Nat.le_of_ble_eq_true rfl) dX7_brothers_11 rfl (fun r4 σ3 h => ?_)
    refine Rf_if_ne X (tgt := 19) dX7_brothers_14 rfl rfl (fun c13 => ?_) (fun c13 => ?_)
    · have h := h.1 c13
      refine Rf_aload_n X (j := 0) rfl rfl dX7_brothers_19 rfl ?_
      refine Rf_get X kc7 (Nat.le_of_ble_eq_true rfl) rfl (j := 10) (Nat.le_of_ble_eq_true rfl) lf_X7_58 (v := .ref 52) rfl dX7_brothers_20 rfl ?_
      refine Rf_iload_n X (j := 1) rfl rfl dX7_brothers_23 rfl ?_
      obtain ⟨s5, h⟩ := h
      refine Rf_aaload3 X (Nat.le_of_ble_eq_true rfl) rfl rfl s5 dX7_brothers_24 rfl ?_
      refine Rf_astore X (i := 4) (Nat.le_of_ble_eq_true rfl) (ls2 := [(4, .ref (53 + 2 * x1.toNatClampNeg)), (0, .ref 0), (1, .int x1), (2, .int x2), (3, .int x3)]) rfl dX7_brothers_25 rfl ?_
      refine Rf_aload X (j := 0) rfl dX7_brothers_27 rfl ?_
      refine Rf_get X kc4 (isSh_f _ (isSh_of s5)).1.1 (isSh_f _ (isSh_of s5)).1.2 (j := 0) (Nat.le_of_ble_eq_true rfl) lf_X7_79 (v := .int (gI σ3 (53 + 2 * x1.toNatClampNeg) 0)) rfl dX7_brothers_29 rfl ?_
      refine Rf_bipush X (v := (-2)) (by decide) dX7_brothers_32 rfl ?_
      refine Rf_icmp_ne X (tgt := 39) dX7_brothers_34 rfl rfl (fun c12 => ?_) (fun c12 => ?_)
      · have h := h.1 c12
        refine Rf_aload X (j := 0) rfl dX7_brothers_39 rfl ?_
        refine Rf_get X kc4 (isSh_f _ (isSh_of s5)).1.1 (isSh_f _ (isSh_of s5)).1.2 (j := 0) (Nat.le_of_ble_eq_true rfl) lf_X7_79 (v := .int (gI σ3 (53 + 2 * x1.toNatClampNeg) 0)) rfl dX7_brothers_41 rfl ?_
        refine Rf_iconst X (v := 1) rfl dX7_brothers_44 rfl ?_
        refine Rf_icmp_eq X (tgt := 51) dX7_brothers_45 rfl rfl (fun c11 => ?_) (fun c11 => ?_)
        · have h := h.1 c11
          refine Rf_iconst X (v := 0) rfl dX7_brothers_51 rfl ?_
          refine Rf_istore X (i := 5) (Nat.le_of_ble_eq_true rfl) (ls2 := [(5, .int 0), (4, .ref (53 + 2 * x1.toNatClampNeg)), (0, .ref 0), (1, .int x1), (2, .int x2), (3, .int x3)]) rfl dX7_brothers_52 rfl ?_
          refine Rf_iload_n X (j := 4) rfl rfl dX7_brothers_54 rfl ?_
          refine Rf_istore X (i := 6) (Nat.le_of_ble_eq_true rfl) (ls2 := [(6, .int x2), (5, .int 0), (4, .ref (53 + 2 * x1.toNatClampNeg)), (0, .ref 0), (1, .int x1), (2, .int x2), (3, .int x3)]) rfl dX7_brothers_55 rfl ?_
          obtain ⟨n10, h⟩ := h
          refine Rf_sub [3, 6, 2, 1, 0] rfl ?_
          exact sl_X7_brothers_57 X n10 _ _ _ _ _ (isSh_of s5) h
        · have h := h.2 c11
          refine Rf_bipush X (v := (-12)) (by decide) dX7_brothers_48 rfl ?_
          exact Rf_iret X rfl dX7_brothers_50 ⟨_, rfl, h⟩
      · have h := h.2 c12
        refine Rf_iconst X (v := 0) rfl dX7_brothers_37 rfl ?_
        exact Rf_iret X rfl dX7_brothers_38 ⟨_, rfl, h⟩
    · have h := h.2 c13
      refine Rf_iconst X (v := (-1)) (by decide) dX7_brothers_17 rfl ?_
      exact Rf_iret X rfl dX7_brothers_18 ⟨_, rfl, h⟩
def wp_X7_become (σ : rfS) (x1 : Int32) (x2 : Int32) (x3 : Int32) (Q : rfS → Prop) : Prop :=
  ((x2 = 0 → vp_in x1 7 ∧ (Q (sF σ 2 (x1.toNatClampNeg) x3))) ∧ (¬ x2 = 0 → ((x2 = 1 → vp_in x1 7 ∧ (Q (sF σ 13 (x1.toNatClampNeg) x3))) ∧ (¬ x2 = 1 → ((x2 = 2 → vp_in x1 7 ∧ (Q (sF σ 14 (x1.toNatClampNeg) x3))) ∧ (¬ x2 = 2 → ((x2 = 3 → vp_in x1 7 ∧ (Q (sF σ 3 (x1.toNatClampNeg) x3))) ∧ (¬ x2 = 3 → ((x2 = 4 → vp_in x1 7 ∧ (Q (sF σ 4 (x1.toNatClampNeg) x3))) ∧ (¬ x2 = 4 → ((x2 = 5 → vp_in x1 7 ∧ (Q (sF σ 5 (x1.toNatClampNeg) x3))) ∧ (¬ x2 = 5 → ((x2 = 6 → Q (sI σ 12 2 x3)) ∧ (¬ x2 = 6 → Q (sI σ 12 3 x3)))))))))))))))
set_option maxRecDepth 20000 in
theorem k_X7_become {σ : rfS} {x1 : Int32} {x2 : Int32} {x3 : Int32} {Q : rfS → Prop} (h : wp_X7_become σ x1 x2 x3 Q) : RM ΛC 0 yX7_become cX7_become 4 none [.ref 0, .int x1, .int x2, .int x3] σ (qv Q) := by
  unfold wp_X7_become at h
  refine RM.intro (by decide) (Nat.le_of_ble_eq_true rfl) (fun E X => ?_)
  show Rf ΛC 0 E 4 (qv Q) 0 [(0, .ref 0), (1, .int x1), (2, .int x2), (3, .int x3)] [] σ
  refine Rf_iload_n X (j := 2) rfl rfl dX7_become_0 rfl ?_
  refine Rf_tsw X (dt := 133) [(0, 44), (1, 57), (2, 70), (3, 83), (4, 96), (5, 109), (6, 122)] dX7_become_1 rfl (by decide +kernel) (by decide +kernel) (by decide +kernel) ?_
  refine And.intro (fun c1 => ?_) (fun c1 => ?_)
  · have h := h.1 c1
    refine Rf_aload_n X (j := 0) rfl rfl dX7_become_44 rfl ?_
    refine Rf_get X kc7 (Nat.le_of_ble_eq_true rfl) rfl (j := 0) (Nat.le_of_ble_eq_true rfl) lf_X7_10 (v := .ref 1) rfl dX7_become_45 rfl ?_
    refine Rf_get X kc2 (Nat.le_of_ble_eq_true rfl) rfl (j := 1) (Nat.le_of_ble_eq_true rfl) lf_X7_91 (v := .ref 2) rfl dX7_become_48 rfl ?_
    refine Rf_iload_n X (j := 1) rfl rfl dX7_become_51 rfl ?_
    refine Rf_iload_n X (j := 3) rfl rfl dX7_become_52 rfl ?_
    obtain ⟨s2, h⟩ := h
    refine Rf_iastore X (Nat.le_of_ble_eq_true rfl) rfl rfl s2 dX7_become_53 rfl ?_
    refine Rf_goto X (tgt := 141) dX7_become_54 rfl ?_
    exact Rf_vret X dX7_become_141 ⟨rfl, h⟩
  · have h := h.2 c1
    refine And.intro (fun c3 => ?_) (fun c3 => ?_)
    · have h := h.1 c3
      refine Rf_aload_n X (j := 0) rfl rfl dX7_become_57 rfl ?_
      refine Rf_get X kc7 (Nat.le_of_ble_eq_true rfl) rfl (j := 1) (Nat.le_of_ble_eq_true rfl) lf_X7_19 (v := .ref 12) rfl dX7_become_58 rfl ?_
      refine Rf_get X kc5 (Nat.le_of_ble_eq_true rfl) rfl (j := 0) (Nat.le_of_ble_eq_true rfl) lf_X7_97 (v := .ref 13) rfl dX7_become_61 rfl ?_
      refine Rf_iload_n X (j := 1) rfl rfl dX7_become_64 rfl ?_
      refine Rf_iload_n X (j := 3) rfl rfl dX7_become_65 rfl ?_
      obtain ⟨s4, h⟩ := h
      refine Rf_iastore X (Nat.le_of_ble_eq_true rfl) rfl rfl s4 dX7_become_66 rfl ?_
      refine Rf_goto X (tgt := 141) dX7_become_67 rfl ?_
      exact Rf_vret X dX7_become_141 ⟨rfl, h⟩
    · have h := h.2 c3
      refine And.intro (fun c5 => ?_) (fun c5 => ?_)
      · have h := h.1 c5
        refine Rf_aload_n X (j := 0) rfl rfl dX7_become_70 rfl ?_
        refine Rf_get X kc7 (Nat.le_of_ble_eq_true rfl) rfl (j := 1) (Nat.le_of_ble_eq_true rfl) lf_X7_19 (v := .ref 12) rfl dX7_become_71 rfl ?_
        refine Rf_get X kc5 (Nat.le_of_ble_eq_true rfl) rfl (j := 1) (Nat.le_of_ble_eq_true rfl) lf_X7_100 (v := .ref 14) rfl dX7_become_74 rfl ?_
        refine Rf_iload_n X (j := 1) rfl rfl dX7_become_77 rfl ?_
        refine Rf_iload_n X (j := 3) rfl rfl dX7_become_78 rfl ?_
        obtain ⟨s6, h⟩ := h
        refine Rf_iastore X (Nat.le_of_ble_eq_true rfl) rfl rfl s6 dX7_become_79 rfl ?_
        refine Rf_goto X (tgt := 141) dX7_become_80 rfl ?_
        exact Rf_vret X dX7_become_141 ⟨rfl, h⟩
      · have h := h.2 c5
        refine And.intro (fun c7 => ?_) (fun c7 => ?_)
        · have h := h.1 c7
          refine Rf_aload_n X (j := 0) rfl rfl dX7_become_83 rfl ?_
          refine Rf_get X kc7 (Nat.le_of_ble_eq_true rfl) rfl (j := 0) (Nat.le_of_ble_eq_true rfl) lf_X7_10 (v := .ref 1) rfl dX7_become_84 rfl ?_
          refine Rf_get X kc2 (Nat.le_of_ble_eq_true rfl) rfl (j := 2) (Nat.le_of_ble_eq_true rfl) lf_X7_94 (v := .ref 3) rfl dX7_become_87 rfl ?_
          refine Rf_iload_n X (j := 1) rfl rfl dX7_become_90 rfl ?_
          refine Rf_iload_n X (j := 3) rfl rfl dX7_become_91 rfl ?_
          obtain ⟨s8, h⟩ := h
          refine Rf_iastore X (Nat.le_of_ble_eq_true rfl) rfl rfl s8 dX7_become_92 rfl ?_
          refine Rf_goto X (tgt := 141) dX7_become_93 rfl ?_
          exact Rf_vret X dX7_become_141 ⟨rfl, h⟩
        · have h := h.2 c7
          refine And.intro (fun c9 => ?_) (fun c9 => ?_)
          · have h := h.1 c9
            refine Rf_aload_n X (j := 0) rfl rfl dX7_become_96 rfl ?_
            refine Rf_get X kc7 (Nat.le_of_ble_eq_true rfl) rfl (j := 0) (Nat.le_of_ble_eq_true rfl) lf_X7_10 (v := .ref 1) rfl dX7_become_97 rfl ?_
            refine Rf_get X kc2 (Nat.le_of_ble_eq_true rfl) rfl (j := 3) (Nat.le_of_ble_eq_true rfl) lf_X7_128 (v := .ref 4) rfl dX7_become_100 rfl ?_
            refine Rf_iload_n X (j := 1) rfl rfl dX7_become_103 rfl ?_
            refine Rf_iload_n X (j := 3) rfl rfl dX7_become_104 rfl ?_
            obtain ⟨s10, h⟩ := h
            refine Rf_iastore X (Nat.le_of_ble_eq_true rfl) rfl rfl s10 dX7_become_105 rfl ?_
            refine Rf_goto X (tgt := 141) dX7_become_106 rfl ?_
            exact Rf_vret X dX7_become_141 ⟨rfl, h⟩
          · have h := h.2 c9
            refine And.intro (fun c11 => ?_) (fun c11 => ?_)
            · have h := h.1 c11
              refine Rf_aload_n X (j := 0) rfl rfl dX7_become_109 rfl ?_
              refine Rf_get X kc7 (Nat.le_of_ble_eq_true rfl) rfl (j := 0) (Nat.le_of_ble_eq_true rfl) lf_X7_10 (v := .ref 1) rfl dX7_become_110 rfl ?_
              refine Rf_get X kc2 (Nat.le_of_ble_eq_true rfl) rfl (j := 4) (Nat.le_of_ble_eq_true rfl) lf_X7_131 (v := .ref 5) rfl dX7_become_113 rfl ?_
              refine Rf_iload_n X (j := 1) rfl rfl dX7_become_116 rfl ?_
              refine Rf_iload_n X (j := 3) rfl rfl dX7_become_117 rfl ?_
              obtain ⟨s12, h⟩ := h
              refine Rf_iastore X (Nat.le_of_ble_eq_true rfl) rfl rfl s12 dX7_become_118 rfl ?_
              refine Rf_goto X (tgt := 141) dX7_become_119 rfl ?_
              exact Rf_vret X dX7_become_141 ⟨rfl, h⟩
            · have h := h.2 c11
              refine And.intro (fun c13 => ?_) (fun c13 => ?_)
              · have h := h.1 c13
                refine Rf_aload_n X (j := 0) rfl rfl dX7_become_122 rfl ?_
                refine Rf_get X kc7 (Nat.le_of_ble_eq_true rfl) rfl (j := 1) (Nat.le_of_ble_eq_true rfl) lf_X7_19 (v := .ref 12) rfl dX7_become_123 rfl ?_
                refine Rf_iload_n X (j := 3) rfl rfl dX7_become_126 rfl ?_
                refine Rf_put X kc5 (Nat.le_of_ble_eq_true rfl) rfl (j := 2) (Nat.le_of_ble_eq_true rfl) rfl lf_X7_134 rfl rfl rfl dX7_become_127 rfl ?_
                refine Rf_goto X (tgt := 141) dX7_become_130 rfl ?_
                exact Rf_vret X dX7_become_141 ⟨rfl, h⟩
              · have h := h.2 c13
                show Rf ΛC 0 E 4 (qv Q) 133 [(0, .ref 0), (1, .int x1), (2, .int x2), (3, .int x3)] [] σ
                refine Rf_aload_n X (j := 0) rfl rfl dX7_become_133 rfl ?_
                refine Rf_get X kc7 (Nat.le_of_ble_eq_true rfl) rfl (j := 1) (Nat.le_of_ble_eq_true rfl) lf_X7_19 (v := .ref 12) rfl dX7_become_134 rfl ?_
                refine Rf_iload_n X (j := 3) rfl rfl dX7_become_137 rfl ?_
                refine Rf_put X kc5 (Nat.le_of_ble_eq_true rfl) rfl (j := 3) (Nat.le_of_ble_eq_true rfl) rfl lf_X7_137 rfl rfl rfl dX7_become_138 rfl ?_
                exact Rf_vret X dX7_become_141 ⟨rfl, h⟩
def wp_X7_isNumber (σ : rfS) (x1 : Int32) (x2 : Int32) (Q : Int32 → rfS → Prop) : Prop :=
  wp_X7_isWithin σ x2 0 7 (fun (r2 : Int32) (σ1 : rfS) => ((¬ r2 = 0 → ((3 < x2 → ((5 < x2 → ((¬ x1 = 0 → Q 0 σ1) ∧ (x1 = 0 → Q 1 σ1))) ∧ (¬ (5 < x2) → wp_X7_isWithin σ1 x1 0 6 (fun (r5 : Int32) (σ4 : rfS) => (rfZ r5) ∧ Q r5 σ4)))) ∧ (¬ (3 < x2) → wp_X2_isOne σ1 x1 (fun (r9 : Int32) (σ8 : rfS) => (rfZ r9) ∧ Q r9 σ8)))) ∧ (r2 = 0 → Q 0 σ1)))
set_option maxRecDepth 20000 in
theorem k_X7_isNumber {σ : rfS} {x1 : Int32} {x2 : Int32} {Q : Int32 → rfS → Prop} (h : wp_X7_isNumber σ x1 x2 Q) : RM ΛC 1 yX7_isNumber cX7_isNumber 3 (some .boolean) [.ref 0, .int x1, .int x2] σ (qi Q) := by
  unfold wp_X7_isNumber at h
  refine RM.intro (by decide) (Nat.le_of_ble_eq_true rfl) (fun E X => ?_)
  show Rf ΛC 1 E 3 (qi Q) 0 [(0, .ref 0), (1, .int x1), (2, .int x2)] [] σ
  refine Rf_iload_n X (j := 2) rfl rfl dX7_isNumber_0 rfl ?_
  refine Rf_iconst X (v := 0) rfl dX7_isNumber_1 rfl ?_
  refine Rf_bipush X (v := 7) rfl dX7_isNumber_2 rfl ?_
  refine Rf_cSi (as := [.int x2, .int 0, .int 7]) (st := []) X ms_X7_isWithin lm_X7_63 (k_X7_isWithin h) (Nat.le_of_ble_eq_true rfl) rfl rfl (Nat.le_of_ble_eq_true rfl) dX7_isNumber_4 rfl (fun r2 σ1 h => ?_)
  refine Rf_if_ne X (tgt := 12) dX7_isNumber_7 rfl rfl (fun c12 => ?_) (fun c12 => ?_)
  · have h := h.1 c12
    refine Rf_iload_n X (j := 2) rfl rfl dX7_isNumber_12 rfl ?_
    refine Rf_iconst X (v := 3) rfl dX7_isNumber_13 rfl ?_
    refine Rf_icmp_gt X (tgt := 26) dX7_isNumber_14 rfl rfl (fun c11 => ?_) (fun c11 => ?_)
    · have h := h.1 c11
      refine Rf_iload_n X (j := 2) rfl rfl dX7_isNumber_26 rfl ?_
      refine Rf_iconst X (v := 5) rfl dX7_isNumber_27 rfl ?_
      refine Rf_icmp_gt X (tgt := 41) dX7_isNumber_28 rfl rfl (fun c7 => ?_) (fun c7 => ?_)
      · have h := h.1 c7
        refine Rf_iload_n X (j := 1) rfl rfl dX7_isNumber_41 rfl ?_
        refine Rf_if_ne X (tgt := 49) dX7_isNumber_42 rfl rfl (fun c3 => ?_) (fun c3 => ?_)
        · have h := h.1 c3
          refine Rf_iconst X (v := 0) rfl dX7_isNumber_49 rfl ?_
          exact Rf_iret X rfl dX7_isNumber_50 ⟨_, rfl, h⟩
        · have h := h.2 c3
          refine Rf_iconst X (v := 1) rfl dX7_isNumber_45 rfl ?_
          refine Rf_goto X (tgt := 50) dX7_isNumber_46 rfl ?_
          exact Rf_iret X rfl dX7_isNumber_50 ⟨_, rfl, h⟩
      · have h := h.2 c7
        refine Rf_iload_n X (j := 1) rfl rfl dX7_isNumber_31 rfl ?_
        refine Rf_iconst X (v := 0) rfl dX7_isNumber_32 rfl ?_
        refine Rf_bipush X (v := 6) rfl dX7_isNumber_33 rfl ?_
        refine Rf_cSi (as := [.int x1, .int 0, .int 6]) (st := []) X ms_X7_isWithin lm_X7_63 (k_X7_isWithin h) (Nat.le_of_ble_eq_true rfl) rfl rfl (Nat.le_of_ble_eq_true rfl) dX7_isNumber_35 rfl (fun r5 σ4 h => ?_)
        refine Rf_goto X (tgt := 50) dX7_isNumber_38 rfl ?_
        obtain ⟨s6, h⟩ := h
        exact Rf_iret X (rfZ_n s6) dX7_isNumber_50 ⟨_, rfl, h⟩
    · have h := h.2 c11
      refine Rf_aload_n X (j := 0) rfl rfl dX7_isNumber_17 rfl ?_
      refine Rf_get X kc7 (Nat.le_of_ble_eq_true rfl) rfl (j := 0) (Nat.le_of_ble_eq_true rfl) lf_X7_10 (v := .ref 1) rfl dX7_isNumber_18 rfl ?_
      refine Rf_iload_n X (j := 1) rfl rfl dX7_isNumber_21 rfl ?_
      refine Rf_cVi (as := [.int x1]) (st := []) X mi_X2_isOne lm_X7_125 rfl (Nat.le_of_ble_eq_true rfl) rfl (k_X2_isOne h) (Nat.le_of_ble_eq_true rfl) rfl rfl (Nat.le_of_ble_eq_true rfl) dX7_isNumber_22 rfl (fun r9 σ8 h => ?_)
      obtain ⟨s10, h⟩ := h
      exact Rf_iret X (rfZ_n s10) dX7_isNumber_25 ⟨_, rfl, h⟩
  · have h := h.2 c12
    refine Rf_iconst X (v := 0) rfl dX7_isNumber_10 rfl ?_
    exact Rf_iret X rfl dX7_isNumber_11 ⟨_, rfl, h⟩
def wp_X7_numberOf (σ : rfS) (x1 : Int32) (x2 : Int32) (Q : Int32 → rfS → Prop) : Prop :=
  ((x2 = 0 → vp_in x1 7 ∧ Q (gF σ 2 (x1.toNatClampNeg)) σ) ∧ (¬ x2 = 0 → ((x2 = 1 → vp_in x1 7 ∧ Q (gF σ 13 (x1.toNatClampNeg)) σ) ∧ (¬ x2 = 1 → ((x2 = 2 → vp_in x1 7 ∧ Q (gF σ 14 (x1.toNatClampNeg)) σ) ∧ (¬ x2 = 2 → ((x2 = 3 → vp_in x1 7 ∧ Q (gF σ 3 (x1.toNatClampNeg)) σ) ∧ (¬ x2 = 3 → ((x2 = 4 → vp_in x1 7 ∧ Q (gF σ 4 (x1.toNatClampNeg)) σ) ∧ (¬ x2 = 4 → ((x2 = 5 → vp_in x1 7 ∧ Q (gF σ 5 (x1.toNatClampNeg)) σ) ∧ (¬ x2 = 5 → ((x2 = 6 → Q (gI σ 12 2) σ) ∧ (¬ x2 = 6 → Q (gI σ 12 3) σ))))))))))))))
set_option maxRecDepth 20000 in
theorem k_X7_numberOf {σ : rfS} {x1 : Int32} {x2 : Int32} {Q : Int32 → rfS → Prop} (h : wp_X7_numberOf σ x1 x2 Q) : RM ΛC 0 yX7_numberOf cX7_numberOf 3 (some .int) [.ref 0, .int x1, .int x2] σ (qi Q) := by
  unfold wp_X7_numberOf at h
  refine RM.intro (by decide) (Nat.le_of_ble_eq_true rfl) (fun E X => ?_)
  show Rf ΛC 0 E 3 (qi Q) 0 [(0, .ref 0), (1, .int x1), (2, .int x2)] [] σ
  refine Rf_iload_n X (j := 2) rfl rfl dX7_numberOf_0 rfl ?_
  refine Rf_tsw X (dt := 112) [(0, 44), (1, 54), (2, 64), (3, 74), (4, 84), (5, 94), (6, 104)] dX7_numberOf_1 rfl (by decide +kernel) (by decide +kernel) (by decide +kernel) ?_
  refine And.intro (fun c1 => ?_) (fun c1 => ?_)
  · have h := h.1 c1
    refine Rf_aload_n X (j := 0) rfl rfl dX7_numberOf_44 rfl ?_
    refine Rf_get X kc7 (Nat.le_of_ble_eq_true rfl) rfl (j := 0) (Nat.le_of_ble_eq_true rfl) lf_X7_10 (v := .ref 1) rfl dX7_numberOf_45 rfl ?_
    refine Rf_get X kc2 (Nat.le_of_ble_eq_true rfl) rfl (j := 1) (Nat.le_of_ble_eq_true rfl) lf_X7_91 (v := .ref 2) rfl dX7_numberOf_48 rfl ?_
    refine Rf_iload_n X (j := 1) rfl rfl dX7_numberOf_51 rfl ?_
    obtain ⟨s2, h⟩ := h
    refine Rf_iaload X (Nat.le_of_ble_eq_true rfl) rfl rfl s2 dX7_numberOf_52 rfl (v := gF σ 2 (x1.toNatClampNeg)) rfl ?_
    exact Rf_iret X rfl dX7_numberOf_53 ⟨_, rfl, h⟩
  · have h := h.2 c1
    refine And.intro (fun c3 => ?_) (fun c3 => ?_)
    · have h := h.1 c3
      refine Rf_aload_n X (j := 0) rfl rfl dX7_numberOf_54 rfl ?_
      refine Rf_get X kc7 (Nat.le_of_ble_eq_true rfl) rfl (j := 1) (Nat.le_of_ble_eq_true rfl) lf_X7_19 (v := .ref 12) rfl dX7_numberOf_55 rfl ?_
      refine Rf_get X kc5 (Nat.le_of_ble_eq_true rfl) rfl (j := 0) (Nat.le_of_ble_eq_true rfl) lf_X7_97 (v := .ref 13) rfl dX7_numberOf_58 rfl ?_
      refine Rf_iload_n X (j := 1) rfl rfl dX7_numberOf_61 rfl ?_
      obtain ⟨s4, h⟩ := h
      refine Rf_iaload X (Nat.le_of_ble_eq_true rfl) rfl rfl s4 dX7_numberOf_62 rfl (v := gF σ 13 (x1.toNatClampNeg)) rfl ?_
      exact Rf_iret X rfl dX7_numberOf_63 ⟨_, rfl, h⟩
    · have h := h.2 c3
      refine And.intro (fun c5 => ?_) (fun c5 => ?_)
      · have h := h.1 c5
        refine Rf_aload_n X (j := 0) rfl rfl dX7_numberOf_64 rfl ?_
        refine Rf_get X kc7 (Nat.le_of_ble_eq_true rfl) rfl (j := 1) (Nat.le_of_ble_eq_true rfl) lf_X7_19 (v := .ref 12) rfl dX7_numberOf_65 rfl ?_
        refine Rf_get X kc5 (Nat.le_of_ble_eq_true rfl) rfl (j := 1) (Nat.le_of_ble_eq_true rfl) lf_X7_100 (v := .ref 14) rfl dX7_numberOf_68 rfl ?_
        refine Rf_iload_n X (j := 1) rfl rfl dX7_numberOf_71 rfl ?_
        obtain ⟨s6, h⟩ := h
        refine Rf_iaload X (Nat.le_of_ble_eq_true rfl) rfl rfl s6 dX7_numberOf_72 rfl (v := gF σ 14 (x1.toNatClampNeg)) rfl ?_
        exact Rf_iret X rfl dX7_numberOf_73 ⟨_, rfl, h⟩
      · have h := h.2 c5
        refine And.intro (fun c7 => ?_) (fun c7 => ?_)
        · have h := h.1 c7
          refine Rf_aload_n X (j := 0) rfl rfl dX7_numberOf_74 rfl ?_
          refine Rf_get X kc7 (Nat.le_of_ble_eq_true rfl) rfl (j := 0) (Nat.le_of_ble_eq_true rfl) lf_X7_10 (v := .ref 1) rfl dX7_numberOf_75 rfl ?_
          refine Rf_get X kc2 (Nat.le_of_ble_eq_true rfl) rfl (j := 2) (Nat.le_of_ble_eq_true rfl) lf_X7_94 (v := .ref 3) rfl dX7_numberOf_78 rfl ?_
          refine Rf_iload_n X (j := 1) rfl rfl dX7_numberOf_81 rfl ?_
          obtain ⟨s8, h⟩ := h
          refine Rf_iaload X (Nat.le_of_ble_eq_true rfl) rfl rfl s8 dX7_numberOf_82 rfl (v := gF σ 3 (x1.toNatClampNeg)) rfl ?_
          exact Rf_iret X rfl dX7_numberOf_83 ⟨_, rfl, h⟩
        · have h := h.2 c7
          refine And.intro (fun c9 => ?_) (fun c9 => ?_)
          · have h := h.1 c9
            refine Rf_aload_n X (j := 0) rfl rfl dX7_numberOf_84 rfl ?_
            refine Rf_get X kc7 (Nat.le_of_ble_eq_true rfl) rfl (j := 0) (Nat.le_of_ble_eq_true rfl) lf_X7_10 (v := .ref 1) rfl dX7_numberOf_85 rfl ?_
            refine Rf_get X kc2 (Nat.le_of_ble_eq_true rfl) rfl (j := 3) (Nat.le_of_ble_eq_true rfl) lf_X7_128 (v := .ref 4) rfl dX7_numberOf_88 rfl ?_
            refine Rf_iload_n X (j := 1) rfl rfl dX7_numberOf_91 rfl ?_
            obtain ⟨s10, h⟩ := h
            refine Rf_iaload X (Nat.le_of_ble_eq_true rfl) rfl rfl s10 dX7_numberOf_92 rfl (v := gF σ 4 (x1.toNatClampNeg)) rfl ?_
            exact Rf_iret X rfl dX7_numberOf_93 ⟨_, rfl, h⟩
          · have h := h.2 c9
            refine And.intro (fun c11 => ?_) (fun c11 => ?_)
            · have h := h.1 c11
              refine Rf_aload_n X (j := 0) rfl rfl dX7_numberOf_94 rfl ?_
              refine Rf_get X kc7 (Nat.le_of_ble_eq_true rfl) rfl (j := 0) (Nat.le_of_ble_eq_true rfl) lf_X7_10 (v := .ref 1) rfl dX7_numberOf_95 rfl ?_
              refine Rf_get X kc2 (Nat.le_of_ble_eq_true rfl) rfl (j := 4) (Nat.le_of_ble_eq_true rfl) lf_X7_131 (v := .ref 5) rfl dX7_numberOf_98 rfl ?_
              refine Rf_iload_n X (j := 1) rfl rfl dX7_numberOf_101 rfl ?_
              obtain ⟨s12, h⟩ := h
              refine Rf_iaload X (Nat.le_of_ble_eq_true rfl) rfl rfl s12 dX7_numberOf_102 rfl (v := gF σ 5 (x1.toNatClampNeg)) rfl ?_
              exact Rf_iret X rfl dX7_numberOf_103 ⟨_, rfl, h⟩
            · have h := h.2 c11
              refine And.intro (fun c13 => ?_) (fun c13 => ?_)
              · have h := h.1 c13
                refine Rf_aload_n X (j := 0) rfl rfl dX7_numberOf_104 rfl ?_
                refine Rf_get X kc7 (Nat.le_of_ble_eq_true rfl) rfl (j := 1) (Nat.le_of_ble_eq_true rfl) lf_X7_19 (v := .ref 12) rfl dX7_numberOf_105 rfl ?_
                refine Rf_get X kc5 (Nat.le_of_ble_eq_true rfl) rfl (j := 2) (Nat.le_of_ble_eq_true rfl) lf_X7_134 (v := .int (gI σ 12 2)) rfl dX7_numberOf_108 rfl ?_
                exact Rf_iret X rfl dX7_numberOf_111 ⟨_, rfl, h⟩
              · have h := h.2 c13
                show Rf ΛC 0 E 3 (qi Q) 112 [(0, .ref 0), (1, .int x1), (2, .int x2)] [] σ
                refine Rf_aload_n X (j := 0) rfl rfl dX7_numberOf_112 rfl ?_
                refine Rf_get X kc7 (Nat.le_of_ble_eq_true rfl) rfl (j := 1) (Nat.le_of_ble_eq_true rfl) lf_X7_19 (v := .ref 12) rfl dX7_numberOf_113 rfl ?_
                refine Rf_get X kc5 (Nat.le_of_ble_eq_true rfl) rfl (j := 3) (Nat.le_of_ble_eq_true rfl) lf_X7_137 (v := .int (gI σ 12 3)) rfl dX7_numberOf_116 rfl ?_
                exact Rf_iret X rfl dX7_numberOf_119 ⟨_, rfl, h⟩
def wp_X7_mend (σ : rfS) (x1 : Int32) (x2 : Int32) (x3 : Int32) (Q : Int32 → rfS → Prop) : Prop :=
  wp_X7_isNumber σ x1 x2 (fun (r2 : Int32) (σ1 : rfS) => ((r2 = 0 → Q (-1) σ1) ∧ (¬ r2 = 0 → vp_in x2 8 ∧ vp_in x2 8 ∧ wp_X7_isWithin σ1 x3 (rfSL[0].2.2.2.getD x2.toNatClampNeg 0) (rfSL[1].2.2.2.getD x2.toNatClampNeg 0) (fun (r6 : Int32) (σ5 : rfS) => ((¬ r6 = 0 → wp_X7_numberOf σ5 x1 x2 (fun (r8 : Int32) (σ7 : rfS) => ((r8 = x3 → Q r8 σ7) ∧ (¬ r8 = x3 → wp_X1_add σ7 x1 x2 r8 x3 (fun (σ9 : rfS) => wp_X7_become σ9 x1 x2 x3 (fun (σ10 : rfS) => Q r8 σ10)))))) ∧ (r6 = 0 → Q (-1) σ5))))))
set_option maxRecDepth 20000 in
theorem k_X7_mend {σ : rfS} {x1 : Int32} {x2 : Int32} {x3 : Int32} {Q : Int32 → rfS → Prop} (h : wp_X7_mend σ x1 x2 x3 Q) : RM ΛC 3 yX7_mend cX7_mend 5 (some .int) [.ref 0, .int x1, .int x2, .int x3] σ (qi Q) := by
  unfold wp_X7_mend at h
  refine RM.intro (by decide) (Nat.le_of_ble_eq_true rfl) (fun E X => ?_)
  show Rf ΛC 3 E 5 (qi Q) 0 [(0, .ref 0), (1, .int x1), (2, .int x2), (3, .int x3)] [] σ
  refine Rf_aload_n X (j := 0) rfl rfl dX7_mend_0 rfl ?_
  refine Rf_iload_n X (j := 1) rfl rfl dX7_mend_1 rfl ?_
  refine Rf_iload_n X (j := 2) rfl rfl dX7_mend_2 rfl ?_
  refine Rf_cVi (as := [.int x1, .int x2]) (st := []) X mi_X7_isNumber lm_X7_103 rfl (Nat.le_of_ble_eq_true rfl) rfl (k_X7_isNumber h) (Nat.le_of_ble_eq_true rfl) rfl rfl (Nat.le_of_ble_eq_true rfl) dX7_mend_3 rfl (fun r2 σ1 h => ?_)
  refine Rf_if_eq X (tgt := 26) dX7_mend_6 rfl rfl (fun c13 => ?_) (fun c13 => ?_)
  · have h := h.1 c13
    refine Rf_iconst X (v := (-1)) (by decide) dX7_mend_26 rfl ?_
    exact Rf_iret X rfl dX7_mend_27 ⟨_, rfl, h⟩
  · have h := h.2 c13
    refine Rf_iload_n X (j := 3) rfl rfl dX7_mend_9 rfl ?_
    refine Rf_getstatic X (q := rfSL[0]) (List.getElem_mem _) lf_X7_107 dX7_mend_10 rfl ?_
    refine Rf_iload_n X (j := 2) rfl rfl dX7_mend_13 rfl ?_
    obtain ⟨s3, h⟩ := h
    refine Rf_siaload X (q := rfSL[0]) (List.getElem_mem _) s3 dX7_mend_14 rfl ?_
    refine Rf_getstatic X (q := rfSL[1]) (List.getElem_mem _) lf_X7_110 dX7_mend_15 rfl ?_
    refine Rf_iload_n X (j := 2) rfl rfl dX7_mend_18 rfl ?_
    obtain ⟨s4, h⟩ := h
    refine Rf_siaload X (q := rfSL[1]) (List.getElem_mem _) s4 dX7_mend_19 rfl ?_
    refine Rf_cSi (as := [.int x3, .int (rfSL[0].2.2.2.getD x2.toNatClampNeg 0), .int (rfSL[1].2.2.2.getD x2.toNatClampNeg 0)]) (st := []) X ms_X7_isWithin lm_X7_63 (k_X7_isWithin h) (Nat.le_of_ble_eq_true rfl) rfl rfl (Nat.le_of_ble_eq_true rfl) dX7_mend_20 rfl (fun r6 σ5 h => ?_)
    refine Rf_if_ne X (tgt := 28) dX7_mend_23 rfl rfl (fun c12 => ?_) (fun c12 => ?_)
    · have h := h.1 c12
      refine Rf_aload_n X (j := 0) rfl rfl dX7_mend_28 rfl ?_
      refine Rf_iload_n X (j := 1) rfl rfl dX7_mend_29 rfl ?_
      refine Rf_iload_n X (j := 2) rfl rfl dX7_mend_30 rfl ?_
      refine Rf_cVi (as := [.int x1, .int x2]) (st := []) X mi_X7_numberOf lm_X7_113 rfl (Nat.le_of_ble_eq_true rfl) rfl (k_X7_numberOf h) (Nat.le_of_ble_eq_true rfl) rfl rfl (Nat.le_of_ble_eq_true rfl) dX7_mend_31 rfl (fun r8 σ7 h => ?_)
      refine Rf_istore X (i := 4) (Nat.le_of_ble_eq_true rfl) (ls2 := [(4, .int r8), (0, .ref 0), (1, .int x1), (2, .int x2), (3, .int x3)]) rfl dX7_mend_34 rfl ?_
      refine Rf_iload X (j := 0) rfl dX7_mend_36 rfl ?_
      refine Rf_iload_n X (j := 4) rfl rfl dX7_mend_38 rfl ?_
      refine Rf_icmp_eq X (tgt := 61) dX7_mend_39 rfl rfl (fun c11 => ?_) (fun c11 => ?_)
      · have h := h.1 c11
        refine Rf_iload X (j := 0) rfl dX7_mend_61 rfl ?_
        exact Rf_iret X rfl dX7_mend_63 ⟨_, rfl, h⟩
      · have h := h.2 c11
        refine Rf_aload_n X (j := 1) rfl rfl dX7_mend_42 rfl ?_
        refine Rf_get X kc7 (Nat.le_of_ble_eq_true rfl) rfl (j := 8) (Nat.le_of_ble_eq_true rfl) lf_X7_45 (v := .ref 44) rfl dX7_mend_43 rfl ?_
        refine Rf_iload_n X (j := 2) rfl rfl dX7_mend_46 rfl ?_
        refine Rf_iload_n X (j := 3) rfl rfl dX7_mend_47 rfl ?_
        refine Rf_iload X (j := 0) rfl dX7_mend_48 rfl ?_
        refine Rf_iload_n X (j := 4) rfl rfl dX7_mend_50 rfl ?_
        refine Rf_cVv (as := [.int x1, .int x2, .int r8, .int x3]) (st := []) X mi_X1_add lm_X7_117 rfl (Nat.le_of_ble_eq_true rfl) rfl (k_X1_add h) (Nat.le_of_ble_eq_true rfl) rfl rfl (Nat.le_of_ble_eq_true rfl) dX7_mend_51 rfl (fun σ9 h => ?_)
        refine Rf_aload_n X (j := 1) rfl rfl dX7_mend_54 rfl ?_
        refine Rf_iload_n X (j := 2) rfl rfl dX7_mend_55 rfl ?_
        refine Rf_iload_n X (j := 3) rfl rfl dX7_mend_56 rfl ?_
        refine Rf_iload_n X (j := 4) rfl rfl dX7_mend_57 rfl ?_
        refine Rf_cVv (as := [.int x1, .int x2, .int x3]) (st := []) X mi_X7_become lm_X7_121 rfl (Nat.le_of_ble_eq_true rfl) rfl (k_X7_become h) (Nat.le_of_ble_eq_true rfl) rfl rfl (Nat.le_of_ble_eq_true rfl) dX7_mend_58 rfl (fun σ10 h => ?_)
        refine Rf_iload X (j := 0) rfl dX7_mend_61 rfl ?_
        exact Rf_iret X rfl dX7_mend_63 ⟨_, rfl, h⟩
    · have h := h.2 c12
      refine Rf_iconst X (v := (-1)) (by decide) dX7_mend_26 rfl ?_
      exact Rf_iret X rfl dX7_mend_27 ⟨_, rfl, h⟩
def wp_X7_of (σ : rfS) (x1 : Int32) (x2 : Int32) (Q : Int32 → rfS → Prop) : Prop :=
  wp_X7_isNumber σ x1 x2 (fun (r2 : Int32) (σ1 : rfS) => ((r2 = 0 → Q (-1) σ1) ∧ (¬ r2 = 0 → wp_X7_numberOf σ1 x1 x2 (fun (r4 : Int32) (σ3 : rfS) => Q r4 σ3))))
set_option maxRecDepth 20000 in
theorem k_X7_of {σ : rfS} {x1 : Int32} {x2 : Int32} {Q : Int32 → rfS → Prop} (h : wp_X7_of σ x1 x2 Q) : RM ΛC 2 yX7_of cX7_of 3 (some .int) [.ref 0, .int x1, .int x2] σ (qi Q) := by
  unfold wp_X7_of at h
  refine RM.intro (by decide) (Nat.le_of_ble_eq_true rfl) (fun E X => ?_)
  show Rf ΛC 2 E 3 (qi Q) 0 [(0, .ref 0), (1, .int x1), (2, .int x2)] [] σ
  refine Rf_aload_n X (j := 0) rfl rfl dX7_of_0 rfl ?_
  refine Rf_iload_n X (j := 1) rfl rfl dX7_of_1 rfl ?_
  refine Rf_iload_n X (j := 2) rfl rfl dX7_of_2 rfl ?_
  refine Rf_cVi (as := [.int x1, .int x2]) (st := []) X mi_X7_isNumber lm_X7_103 rfl (Nat.le_of_ble_eq_true rfl) rfl (k_X7_isNumber h) (Nat.le_of_ble_eq_true rfl) rfl rfl (Nat.le_of_ble_eq_true rfl) dX7_of_3 rfl (fun r2 σ1 h => ?_)
  refine Rf_if_eq X (tgt := 18) dX7_of_6 rfl rfl (fun c5 => ?_) (fun c5 => ?_)
  · have h := h.1 c5
    refine Rf_iconst X (v := (-1)) (by decide) dX7_of_18 rfl ?_
    exact Rf_iret X rfl dX7_of_19 ⟨_, rfl, h⟩
  · have h := h.2 c5
    refine Rf_aload_n X (j := 0) rfl rfl dX7_of_9 rfl ?_
    refine Rf_iload_n X (j := 1) rfl rfl dX7_of_10 rfl ?_
    refine Rf_iload_n X (j := 2) rfl rfl dX7_of_11 rfl ?_
    refine Rf_cVi (as := [.int x1, .int x2]) (st := []) X mi_X7_numberOf lm_X7_113 rfl (Nat.le_of_ble_eq_true rfl) rfl (k_X7_numberOf h) (Nat.le_of_ble_eq_true rfl) rfl rfl (Nat.le_of_ble_eq_true rfl) dX7_of_12 rfl (fun r4 σ3 h => ?_)
    refine Rf_goto X (tgt := 19) dX7_of_15 rfl ?_
    exact Rf_iret X rfl dX7_of_19 ⟨_, rfl, h⟩
def wp_X7_feed (σ : rfS) (x1 : Int32) (Q : Int32 → rfS → Prop) : Prop :=
  wp_X7_isWithin σ x1 0 255 (fun (r2 : Int32) (σ1 : rfS) => ((¬ r2 = 0 → ((¬ (gI σ1 6 4) = 120 → wp_X3_write σ1 x1 (fun (r4 : Int32) (σ3 : rfS) => Q r4 σ3)) ∧ ((gI σ1 6 4) = 120 → Q (-3) σ1))) ∧ (r2 = 0 → Q (-1) σ1)))
set_option maxRecDepth 20000 in
theorem k_X7_feed {σ : rfS} {x1 : Int32} {Q : Int32 → rfS → Prop} (h : wp_X7_feed σ x1 Q) : RM ΛC 1 yX7_feed cX7_feed 2 (some .int) [.ref 0, .int x1] σ (qi Q) := by
  unfold wp_X7_feed at h
  refine RM.intro (by decide) (Nat.le_of_ble_eq_true rfl) (fun E X => ?_)
  show Rf ΛC 1 E 2 (qi Q) 0 [(0, .ref 0), (1, .int x1)] [] σ
  refine Rf_iload_n X (j := 1) rfl rfl dX7_feed_0 rfl ?_
  refine Rf_iconst X (v := 0) rfl dX7_feed_1 rfl ?_
  refine Rf_sipush X (v := 255) rfl dX7_feed_2 rfl ?_
  refine Rf_cSi (as := [.int x1, .int 0, .int 255]) (st := []) X ms_X7_isWithin lm_X7_63 (k_X7_isWithin h) (Nat.le_of_ble_eq_true rfl) rfl rfl (Nat.le_of_ble_eq_true rfl) dX7_feed_5 rfl (fun r2 σ1 h => ?_)
  refine Rf_if_ne X (tgt := 13) dX7_feed_8 rfl rfl (fun c6 => ?_) (fun c6 => ?_)
  · have h := h.1 c6
    refine Rf_aload_n X (j := 0) rfl rfl dX7_feed_13 rfl ?_
    refine Rf_get X kc7 (Nat.le_of_ble_eq_true rfl) rfl (j := 0) (Nat.le_of_ble_eq_true rfl) lf_X7_10 (v := .ref 1) rfl dX7_feed_14 rfl ?_
    refine Rf_get X kc2 (Nat.le_of_ble_eq_true rfl) rfl (j := 5) (Nat.le_of_ble_eq_true rfl) lf_X7_140 (v := .ref 6) rfl dX7_feed_17 rfl ?_
    refine Rf_get X kc3 (Nat.le_of_ble_eq_true rfl) rfl (j := 4) (Nat.le_of_ble_eq_true rfl) lf_X7_144 (v := .int (gI σ1 6 4)) rfl dX7_feed_20 rfl ?_
    refine Rf_bipush X (v := 120) rfl dX7_feed_23 rfl ?_
    refine Rf_icmp_ne X (tgt := 33) dX7_feed_25 rfl rfl (fun c5 => ?_) (fun c5 => ?_)
    · have h := h.1 c5
      refine Rf_aload_n X (j := 0) rfl rfl dX7_feed_33 rfl ?_
      refine Rf_get X kc7 (Nat.le_of_ble_eq_true rfl) rfl (j := 0) (Nat.le_of_ble_eq_true rfl) lf_X7_10 (v := .ref 1) rfl dX7_feed_34 rfl ?_
      refine Rf_get X kc2 (Nat.le_of_ble_eq_true rfl) rfl (j := 5) (Nat.le_of_ble_eq_true rfl) lf_X7_140 (v := .ref 6) rfl dX7_feed_37 rfl ?_
      refine Rf_iload_n X (j := 1) rfl rfl dX7_feed_40 rfl ?_
      refine Rf_cVi (as := [.int x1]) (st := []) X mi_X3_write lm_X7_149 rfl (Nat.le_of_ble_eq_true rfl) rfl (k_X3_write h) (Nat.le_of_ble_eq_true rfl) rfl rfl (Nat.le_of_ble_eq_true rfl) dX7_feed_41 rfl (fun r4 σ3 h => ?_)
      exact Rf_iret X rfl dX7_feed_44 ⟨_, rfl, h⟩
    · have h := h.2 c5
      refine Rf_bipush X (v := (-3)) (by decide) dX7_feed_28 rfl ?_
      refine Rf_goto X (tgt := 44) dX7_feed_30 rfl ?_
      exact Rf_iret X rfl dX7_feed_44 ⟨_, rfl, h⟩
  · have h := h.2 c6
    refine Rf_iconst X (v := (-1)) (by decide) dX7_feed_11 rfl ?_
    exact Rf_iret X rfl dX7_feed_12 ⟨_, rfl, h⟩
def wp_X7_law (κ_X3_read : rfS → (Int32 → rfS → Prop) → Prop) (σ : rfS) (Q : Int32 → rfS → Prop) : Prop :=
  κ_X3_read σ (fun (r2 : Int32) (σ1 : rfS) => ((¬ r2 = (-1) → Q ((-100) - r2) σ1) ∧ (r2 = (-1) → Q 1 σ1)))
set_option maxRecDepth 20000 in
theorem k_X7_law {d : Nat} {κ_X3_read : rfS → (Int32 → rfS → Prop) → Prop} (hκ_X3_read : ∀ (σ : rfS) (Q : Int32 → rfS → Prop), κ_X3_read σ Q → RM ΛC d yX3_read cX3_read 2 (some .int) [.ref 6] σ (qi Q)) (hB : 0 ≤ d) {σ : rfS} {Q : Int32 → rfS → Prop} (h : wp_X7_law κ_X3_read σ Q) : RM ΛC (d + 1) yX7_law cX7_law 2 (some .int) [.ref 0] σ (qi Q) := by
  unfold wp_X7_law at h
  refine RM.intro (by decide) (Nat.le_of_ble_eq_true rfl) (fun E X => ?_)
  show Rf ΛC (d + 1) E 2 (qi Q) 0 [(0, .ref 0)] [] σ
  refine Rf_aload_n X (j := 0) rfl rfl dX7_law_0 rfl ?_
  refine Rf_get X kc7 (Nat.le_of_ble_eq_true rfl) rfl (j := 0) (Nat.le_of_ble_eq_true rfl) lf_X7_10 (v := .ref 1) rfl dX7_law_1 rfl ?_
  refine Rf_get X kc2 (Nat.le_of_ble_eq_true rfl) rfl (j := 5) (Nat.le_of_ble_eq_true rfl) lf_X7_140 (v := .ref 6) rfl dX7_law_4 rfl ?_
  refine Rf_cVi (as := []) (st := []) X mi_X3_read lm_X7_153 rfl (Nat.le_of_ble_eq_true rfl) rfl (hκ_X3_read _ _ h) (Nat.le_refl _) rfl rfl (Nat.le_of_ble_eq_true rfl) dX7_law_7 rfl (fun r2 σ1 h => ?_)
  refine Rf_istore_n X rfl (i := 1) (Nat.le_of_ble_eq_true rfl) (ls2 := [(1, .int r2), (0, .ref 0)]) rfl dX7_law_10 rfl ?_
  refine Rf_iload_n X (j := 0) rfl rfl dX7_law_11 rfl ?_
  refine Rf_iconst X (v := (-1)) (by decide) dX7_law_12 rfl ?_
  refine Rf_icmp_ne X (tgt := 20) dX7_law_13 rfl rfl (fun c3 => ?_) (fun c3 => ?_)
  · have h := h.1 c3
    refine Rf_bipush X (v := (-100)) (by decide) dX7_law_20 rfl ?_
    refine Rf_iload_n X (j := 0) rfl rfl dX7_law_22 rfl ?_
    refine Rf_isub X dX7_law_23 rfl ?_
    exact Rf_iret X rfl dX7_law_24 ⟨_, rfl, h⟩
  · have h := h.2 c3
    refine Rf_iconst X (v := 1) rfl dX7_law_16 rfl ?_
    refine Rf_goto X (tgt := 24) dX7_law_17 rfl ?_
    exact Rf_iret X rfl dX7_law_24 ⟨_, rfl, h⟩
def wp_X7_does (σ : rfS) (x1 : Int32) (Q : Int32 → rfS → Prop) : Prop :=
  wp_X2_isOne σ x1 (fun (r2 : Int32) (σ1 : rfS) => ((r2 = 0 → Q (-1) σ1) ∧ (¬ r2 = 0 → wp_X2_doneBy σ1 12 x1 (fun (r4 : Int32) (σ3 : rfS) => Q r4 σ3))))
set_option maxRecDepth 20000 in
theorem k_X7_does {σ : rfS} {x1 : Int32} {Q : Int32 → rfS → Prop} (h : wp_X7_does σ x1 Q) : RM ΛC 3 yX7_does cX7_does 2 (some .int) [.ref 0, .int x1] σ (qi Q) := by
  unfold wp_X7_does at h
  refine RM.intro (by decide) (Nat.le_of_ble_eq_true rfl) (fun E X => ?_)
  show Rf ΛC 3 E 2 (qi Q) 0 [(0, .ref 0), (1, .int x1)] [] σ
  refine Rf_aload_n X (j := 0) rfl rfl dX7_does_0 rfl ?_
  refine Rf_get X kc7 (Nat.le_of_ble_eq_true rfl) rfl (j := 0) (Nat.le_of_ble_eq_true rfl) lf_X7_10 (v := .ref 1) rfl dX7_does_1 rfl ?_
  refine Rf_iload_n X (j := 1) rfl rfl dX7_does_4 rfl ?_
  refine Rf_cVi (as := [.int x1]) (st := []) X mi_X2_isOne lm_X7_125 rfl (Nat.le_of_ble_eq_true rfl) rfl (k_X2_isOne h) (Nat.le_of_ble_eq_true rfl) rfl rfl (Nat.le_of_ble_eq_true rfl) dX7_does_5 rfl (fun r2 σ1 h => ?_)
  refine Rf_if_eq X (tgt := 26) dX7_does_8 rfl rfl (fun c5 => ?_) (fun c5 => ?_)
  · have h := h.1 c5
    refine Rf_iconst X (v := (-1)) (by decide) dX7_does_26 rfl ?_
    exact Rf_iret X rfl dX7_does_27 ⟨_, rfl, h⟩
  · have h := h.2 c5
    refine Rf_aload_n X (j := 0) rfl rfl dX7_does_11 rfl ?_
    refine Rf_get X kc7 (Nat.le_of_ble_eq_true rfl) rfl (j := 0) (Nat.le_of_ble_eq_true rfl) lf_X7_10 (v := .ref 1) rfl dX7_does_12 rfl ?_
    refine Rf_aload_n X (j := 0) rfl rfl dX7_does_15 rfl ?_
    refine Rf_get X kc7 (Nat.le_of_ble_eq_true rfl) rfl (j := 1) (Nat.le_of_ble_eq_true rfl) lf_X7_19 (v := .ref 12) rfl dX7_does_16 rfl ?_
    refine Rf_iload_n X (j := 1) rfl rfl dX7_does_19 rfl ?_
    refine Rf_cVi (as := [.ref 12, .int x1]) (st := []) X mi_X2_doneBy lm_X7_157 rfl (Nat.le_of_ble_eq_true rfl) rfl (k_X2_doneBy (by unfold isSt; decide) h) (Nat.le_of_ble_eq_true rfl) rfl rfl (Nat.le_of_ble_eq_true rfl) dX7_does_20 rfl (fun r4 σ3 h => ?_)
    refine Rf_goto X (tgt := 27) dX7_does_23 rfl ?_
    exact Rf_iret X rfl dX7_does_27 ⟨_, rfl, h⟩
def wj_X7_later_43 (Q : Int32 → rfS → Prop) (x1 : Int32) (x2 : Int32) (x3 : Int32) (x4 : Int32) (xs0 : Int32) (σ : rfS) : Prop :=
  wp_X7_isShelf σ x1 (fun (r2 : Int32) (σ1 : rfS) => ((r2 = 0 → Q (-1) σ1) ∧ (¬ r2 = 0 → wp_X7_isWithin σ1 x2 0 28 (fun (r4 : Int32) (σ3 : rfS) => ((r4 = 0 → Q (-1) σ3) ∧ (¬ r4 = 0 → ((xs0 = 0 → Q (-1) σ3) ∧ (¬ xs0 = 0 → wp_X7_isWithin σ3 x4 0 4 (fun (r6 : Int32) (σ5 : rfS) => ((¬ r6 = 0 → vp_in x1 6 ∧ wp_X4_refusalFor σ5 (53 + 2 * x1.toNatClampNeg) 0 (fun (r9 : Int32) (σ8 : rfS) => ((r9 = 0 → vp_in x1 6 ∧ wp_X6_follow σ8 12 (53 + 2 * x1.toNatClampNeg) x2 (fun (r12 : Int32) (σ11 : rfS) => wp_X6_latest σ11 (fun (r14 : Nat) (σ13 : rfS) => isSt r14 ∧ (((x4 = 0 → vp_in x3 7 ∧ Q (gF σ13 (r14 + 1) (x3.toNatClampNeg)) σ13) ∧ (¬ x4 = 0 → ((x4 = 1 → vp_in x3 7 ∧ Q (gF σ13 (r14 + 2) (x3.toNatClampNeg)) σ13) ∧ (¬ x4 = 1 → ((x4 = 2 → Q r12 σ13) ∧ (¬ x4 = 2 → ((x4 = 3 → Q (gI σ13 r14 2) σ13) ∧ (¬ x4 = 3 → wp_X5_owedOfAll σ13 r14 (gI σ13 1 0) (fun (r22 : Int32) (σ21 : rfS) => Q r22 σ21))))))))))))) ∧ (¬ r9 = 0 → Q r9 σ8)))) ∧ (r6 = 0 → Q (-1) σ5)))))))))))
set_option maxRecDepth 20000 in
theorem sj_X7_later_43 {E : rfE} {Q : Int32 → rfS → Prop} (X : rfX ΛC E yX7_later cX7_later 10 (some .int)) (x1 : Int32) (x2 : Int32) (x3 : Int32) (x4 : Int32) (xs0 : Int32) (σ : rfS) (h : wj_X7_later_43 Q x1 x2 x3 x4 xs0 σ) : Rf ΛC 5 E 10 (qi Q) 43 [(0, .ref 0), (1, .int x1), (2, .int x2), (3, .int x3), (4, .int x4)] [.int xs0] σ := by
  unfold wj_X7_later_43 at h
  refine Rf_istore X (i := 6) (Nat.le_of_ble_eq_true rfl) (ls2 := [(6, .int xs0), (0, .ref 0), (1, .int x1), (2, .int x2), (3, .int x3), (4, .int x4)]) rfl dX7_later_43 rfl ?_
  refine Rf_iload_n X (j := 2) rfl rfl dX7_later_45 rfl ?_
  refine Rf_cSi (as := [.int x1]) (st := []) X ms_X7_isShelf lm_X7_75 (k_X7_isShelf h) (Nat.le_of_ble_eq_true rfl) rfl rfl (Nat.le_of_ble_eq_true rfl) dX7_later_46 rfl (fun r2 σ1 h => ?_)
  refine Rf_if_eq X (tgt := 77) dX7_later_49 rfl rfl (fun c27 => ?_) (fun c27 => ?_)
  · have h := h.1 c27
    refine Rf_iconst X (v := (-1)) (by decide) dX7_later_77 rfl ?_
    exact Rf_iret X rfl dX7_later_78 ⟨_, rfl, h⟩
  · have h := h.2 c27
    refine Rf_iload_n X (j := 3) rfl rfl dX7_later_52 rfl ?_
    refine Rf_iconst X (v := 0) rfl dX7_later_53 rfl ?_
    refine Rf_bipush X (v := 28) rfl dX7_later_54 rfl ?_
    refine Rf_cSi (as := [.int x2, .int 0, .int 28]) (st := []) X ms_X7_isWithin lm_X7_63 (k_X7_isWithin h) (Nat.le_of_ble_eq_true rfl) rfl rfl (Nat.le_of_ble_eq_true rfl) dX7_later_56 rfl (fun r4 σ3 h => ?_)
    refine Rf_if_eq X (tgt := 77) dX7_later_59 rfl rfl (fun c26 => ?_) (fun c26 => ?_)
    · have h := h.1 c26
      refine Rf_iconst X (v := (-1)) (by decide) dX7_later_77 rfl ?_
      exact Rf_iret X rfl dX7_later_78 ⟨_, rfl, h⟩
    · have h := h.2 c26
      refine Rf_iload X (j := 0) rfl dX7_later_62 rfl ?_
      refine Rf_if_eq X (tgt := 77) dX7_later_64 rfl rfl (fun c25 => ?_) (fun c25 => ?_)
      · have h := h.1 c25
        refine Rf_iconst X (v := (-1)) (by decide) dX7_later_77 rfl ?_
        exact Rf_iret X rfl dX7_later_78 ⟨_, rfl, h⟩
      · have h := h.2 c25
        refine Rf_iload X (j := 5) rfl dX7_later_67 rfl ?_
        refine Rf_iconst X (v := 0) rfl dX7_later_69 rfl ?_
        refine Rf_iconst X (v := 4) rfl dX7_later_70 rfl ?_
        refine Rf_cSi (as := [.int x4, .int 0, .int 4]) (st := []) X ms_X7_isWithin lm_X7_63 (k_X7_isWithin h) (Nat.le_of_ble_eq_true rfl) rfl rfl (Nat.le_of_ble_eq_true rfl) dX7_later_71 rfl (fun r6 σ5 h => ?_)
        refine Rf_if_ne X (tgt := 79) dX7_later_74 rfl rfl (fun c24 => ?_) (fun c24 => ?_)
        · have h := h.1 c24
          refine Rf_aload_n X (j := 1) rfl rfl dX7_later_79 rfl ?_
          refine Rf_get X kc7 (Nat.le_of_ble_eq_true rfl) rfl (j := 10) (Nat.le_of_ble_eq_true rfl) lf_X7_58 (v := .ref 52) rfl dX7_later_80 rfl ?_
          refine Rf_iload_n X (j := 2) rfl rfl dX7_later_83 rfl ?_
          obtain ⟨s7, h⟩ := h
          refine Rf_aaload3 X (Nat.le_of_ble_eq_true rfl) rfl rfl s7 dX7_later_84 rfl ?_
          refine Rf_iconst X (v := 0) rfl dX7_later_85 rfl ?_
          refine Rf_cVi (as := [.int 0]) (st := []) X mi_X4_refusalFor lm_X7_161 rfl (isSh_f _ (isSh_of s7)).1.1 (isSh_f _ (isSh_of s7)).1.2 (k_X4_refusalFor (isSh_of s7) h) (Nat.le_of_ble_eq_true rfl) rfl rfl (Nat.le_of_ble_eq_true rfl) dX7_later_86 rfl (fun r9 σ8 h => ?_)
          refine Rf_istore X (i := 7) (Nat.le_of_ble_eq_true rfl) (ls2 := [(7, .int r9), (6, .int xs0), (0, .ref 0), (1, .int x1), (2, .int x2), (3, .int x3), (4, .int x4)]) rfl dX7_later_89 rfl ?_
          refine Rf_iload X (j := 0) rfl dX7_later_91 rfl ?_
          refine Rf_if_eq X (tgt := 99) dX7_later_93 rfl rfl (fun c23 => ?_) (fun c23 => ?_)
          · have h := h.1 c23
            refine Rf_aload_n X (j := 2) rfl rfl dX7_later_99 rfl ?_
            refine Rf_get X kc7 (Nat.le_of_ble_eq_true rfl) rfl (j := 7) (Nat.le_of_ble_eq_true rfl) lf_X7_38 (v := .ref 20) rfl dX7_later_100 rfl ?_
            refine Rf_aload_n X (j := 2) rfl rfl dX7_later_103 rfl ?_
            refine Rf_get X kc7 (Nat.le_of_ble_eq_true rfl) rfl (j := 1) (Nat.le_of_ble_eq_true rfl) lf_X7_19 (v := .ref 12) rfl dX7_later_104 rfl ?_
            refine Rf_aload_n X (j := 2) rfl rfl dX7_later_107 rfl ?_
            refine Rf_get X kc7 (Nat.le_of_ble_eq_true rfl) rfl (j := 10) (Nat.le_of_ble_eq_true rfl) lf_X7_58 (v := .ref 52) rfl dX7_later_108 rfl ?_
            refine Rf_iload_n X (j := 3) rfl rfl dX7_later_111 rfl ?_
            obtain ⟨s10, h⟩ := h
            refine Rf_aaload3 X (Nat.le_of_ble_eq_true rfl) rfl rfl s10 dX7_later_112 rfl ?_
            refine Rf_iload_n X (j := 4) rfl rfl dX7_later_113 rfl ?_
            refine Rf_cVi (as := [.ref 12, .ref (53 + 2 * x1.toNatClampNeg), .int x2]) (st := []) X mi_X6_follow lm_X7_164 rfl (Nat.le_of_ble_eq_true rfl) rfl (k_X6_follow (by unfold isSt; decide) (isSh_of s10) h) (Nat.le_of_ble_eq_true rfl) rfl rfl (Nat.le_of_ble_eq_true rfl) dX7_later_114 rfl (fun r12 σ11 h => ?_)
            refine Rf_istore X (i := 8) (Nat.le_of_ble_eq_true rfl) (ls2 := [(8, .int r12), (7, .int r9), (6, .int xs0), (0, .ref 0), (1, .int x1), (2, .int x2), (3, .int x3), (4, .int x4)]) rfl dX7_later_117 rfl ?_
            refine Rf_aload_n X (j := 3) rfl rfl dX7_later_119 rfl ?_
            refine Rf_get X kc7 (Nat.le_of_ble_eq_true rfl) rfl (j := 7) (Nat.le_of_ble_eq_true rfl) lf_X7_38 (v := .ref 20) rfl dX7_later_120 rfl ?_
            refine Rf_cVr (as := []) (st := []) X mi_X6_latest lm_X7_168 rfl (Nat.le_of_ble_eq_true rfl) rfl (k_X6_latest h) (Nat.le_of_ble_eq_true rfl) rfl rfl (Nat.le_of_ble_eq_true rfl) dX7_later_123 rfl (fun r14 σ13 h => ?_)
            obtain ⟨hr14, h⟩ := h
            refine Rf_astore X (i := 9) (Nat.le_of_ble_eq_true rfl) (ls2 := [(9, .ref r14), (8, .int r12), (7, .int r9), (6, .int xs0), (0, .ref 0), (1, .int x1), (2, .int x2), (3, .int x3), (4, .int x4)]) rfl dX7_later_126 rfl ?_
            refine Rf_iload X (j := 8) rfl dX7_later_128 rfl ?_
            refine Rf_tsw X (dt := 185) [(0, 160), (1, 168), (2, 176), (3, 179)] dX7_later_130 rfl (by decide +kernel) (by decide +kernel) (by decide +kernel) ?_
            refine And.intro (fun c15 => ?_) (fun c15 => ?_)
            · have h := h.1 c15
              refine Rf_aload X (j := 0) rfl dX7_later_160 rfl ?_
              refine Rf_get X kc5 (isSt_f _ hr14).1.1 (isSt_f _ hr14).1.2 (j := 0) (Nat.le_of_ble_eq_true rfl) lf_X7_97 (v := .ref (r14 + 1)) rfl dX7_later_162 rfl ?_
              refine Rf_iload_n X (j := 7) rfl rfl dX7_later_165 rfl ?_
              obtain ⟨s16, h⟩ := h
              refine Rf_iaload X (isSt_f _ hr14).2.1.1 (isSt_f _ hr14).2.1.2.1 (isSt_f _ hr14).2.1.2.2 s16 dX7_later_166 rfl (v := gF σ13 (r14 + 1) (x3.toNatClampNeg)) rfl ?_
              exact Rf_iret X rfl dX7_later_167 ⟨_, rfl, h⟩
            · have h := h.2 c15
              refine And.intro (fun c17 => ?_) (fun c17 => ?_)
              · have h := h.1 c17
                refine Rf_aload X (j := 0) rfl dX7_later_168 rfl ?_
                refine Rf_get X kc5 (isSt_f _ hr14).1.1 (isSt_f _ hr14).1.2 (j := 1) (Nat.le_of_ble_eq_true rfl) lf_X7_100 (v := .ref (r14 + 2)) rfl dX7_later_170 rfl ?_
                refine Rf_iload_n X (j := 7) rfl rfl dX7_later_173 rfl ?_
                obtain ⟨s18, h⟩ := h
                refine Rf_iaload X (isSt_f _ hr14).2.2.1 (isSt_f _ hr14).2.2.2.1 (isSt_f _ hr14).2.2.2.2 s18 dX7_later_174 rfl (v := gF σ13 (r14 + 2) (x3.toNatClampNeg)) rfl ?_
                exact Rf_iret X rfl dX7_later_175 ⟨_, rfl, h⟩
              · have h := h.2 c17
                refine And.intro (fun c19 => ?_) (fun c19 => ?_)
                · have h := h.1 c19
                  refine Rf_iload X (j := 1) rfl dX7_later_176 rfl ?_
                  exact Rf_iret X rfl dX7_later_178 ⟨_, rfl, h⟩
                · have h := h.2 c19
                  refine And.intro (fun c20 => ?_) (fun c20 => ?_)
                  · have h := h.1 c20
                    refine Rf_aload X (j := 0) rfl dX7_later_179 rfl ?_
                    refine Rf_get X kc5 (isSt_f _ hr14).1.1 (isSt_f _ hr14).1.2 (j := 2) (Nat.le_of_ble_eq_true rfl) lf_X7_134 (v := .int (gI σ13 r14 2)) rfl dX7_later_181 rfl ?_
                    exact Rf_iret X rfl dX7_later_184 ⟨_, rfl, h⟩
                  · have h := h.2 c20
                    show Rf ΛC 5 E 10 (qi Q) 185 [(9, .ref r14), (8, .int r12), (7, .int r9), (6, .int xs0), (0, .ref 0), (1, .int x1), (2, .int x2), (3, .int x3), (4, .int x4)] [] σ13
                    refine Rf_aload X (j := 0) rfl dX7_later_185 rfl ?_
                    refine Rf_aload_n X (j := 4) rfl rfl dX7_later_187 rfl ?_
                    refine Rf_get X kc7 (Nat.le_of_ble_eq_true rfl) rfl (j := 0) (Nat.le_of_ble_eq_true rfl) lf_X7_10 (v := .ref 1) rfl dX7_later_188 rfl ?_
                    refine Rf_get X kc2 (Nat.le_of_ble_eq_true rfl) rfl (j := 0) (Nat.le_of_ble_eq_true rfl) lf_X7_67 (v := .int (gI σ13 1 0)) rfl dX7_later_191 rfl ?_
                    refine Rf_cVi (as := [.int (gI σ13 1 0)]) (st := []) X mi_X5_owedOfAll lm_X7_172 rfl (isSt_f _ hr14).1.1 (isSt_f _ hr14).1.2 (k_X5_owedOfAll hr14 h) (Nat.le_of_ble_eq_true rfl) rfl rfl (Nat.le_of_ble_eq_true rfl) dX7_later_194 rfl (fun r22 σ21 h => ?_)
                    exact Rf_iret X rfl dX7_later_197 ⟨_, rfl, h⟩
          · have h := h.2 c23
            refine Rf_iload X (j := 0) rfl dX7_later_96 rfl ?_
            exact Rf_iret X rfl dX7_later_98 ⟨_, rfl, h⟩
        · have h := h.2 c24
          refine Rf_iconst X (v := (-1)) (by decide) dX7_later_77 rfl ?_
          exact Rf_iret X rfl dX7_later_78 ⟨_, rfl, h⟩
def wj_X7_later_16 (Q : Int32 → rfS → Prop) (x1 : Int32) (x2 : Int32) (x3 : Int32) (x4 : Int32) (xs0 : Int32) (σ : rfS) : Prop :=
  ((xs0 = 0 → ((¬ x3 = 0 → wj_X7_later_43 Q x1 x2 x3 x4 0 σ) ∧ (x3 = 0 → wj_X7_later_43 Q x1 x2 x3 x4 1 σ))) ∧ (¬ xs0 = 0 → wp_X2_isOne σ x3 (fun (r30 : Int32) (σ29 : rfS) => wj_X7_later_43 Q x1 x2 x3 x4 r30 σ29)))
set_option maxRecDepth 20000 in
theorem sj_X7_later_16 {E : rfE} {Q : Int32 → rfS → Prop} (X : rfX ΛC E yX7_later cX7_later 10 (some .int)) (x1 : Int32) (x2 : Int32) (x3 : Int32) (x4 : Int32) (xs0 : Int32) (σ : rfS) (h : wj_X7_later_16 Q x1 x2 x3 x4 xs0 σ) : Rf ΛC 5 E 10 (qi Q) 16 [(0, .ref 0), (1, .int x1), (2, .int x2), (3, .int x3), (4, .int x4)] [.int xs0] σ := by
  unfold wj_X7_later_16 at h
  refine Rf_istore X (i := 5) (Nat.le_of_ble_eq_true rfl) (ls2 := [(5, .int xs0), (0, .ref 0), (1, .int x1), (2, .int x2), (3, .int x3), (4, .int x4)]) rfl dX7_later_16 rfl ?_
  refine Rf_iload X (j := 0) rfl dX7_later_18 rfl ?_
  refine Rf_if_eq X (tgt := 34) dX7_later_20 rfl rfl (fun c31 => ?_) (fun c31 => ?_)
  · have h := h.1 c31
    refine Rf_iload_n X (j := 4) rfl rfl dX7_later_34 rfl ?_
    refine Rf_if_ne X (tgt := 42) dX7_later_35 rfl rfl (fun c28 => ?_) (fun c28 => ?_)
    · have h := h.1 c28
      refine Rf_iconst X (v := 0) rfl dX7_later_42 rfl ?_
      refine Rf_sub [1, 2, 3, 4, 5] rfl ?_
      exact sj_X7_later_43 X _ _ _ _ _ _ h
    · have h := h.2 c28
      refine Rf_iconst X (v := 1) rfl dX7_later_38 rfl ?_
      refine Rf_goto X (tgt := 43) dX7_later_39 rfl ?_
      refine Rf_sub [1, 2, 3, 4, 5] rfl ?_
      exact sj_X7_later_43 X _ _ _ _ _ _ h
  · have h := h.2 c31
    refine Rf_aload_n X (j := 1) rfl rfl dX7_later_23 rfl ?_
    refine Rf_get X kc7 (Nat.le_of_ble_eq_true rfl) rfl (j := 0) (Nat.le_of_ble_eq_true rfl) lf_X7_10 (v := .ref 1) rfl dX7_later_24 rfl ?_
    refine Rf_iload_n X (j := 4) rfl rfl dX7_later_27 rfl ?_
    refine Rf_cVi (as := [.int x3]) (st := []) X mi_X2_isOne lm_X7_125 rfl (Nat.le_of_ble_eq_true rfl) rfl (k_X2_isOne h) (Nat.le_of_ble_eq_true rfl) rfl rfl (Nat.le_of_ble_eq_true rfl) dX7_later_28 rfl (fun r30 σ29 h => ?_)
    refine Rf_goto X (tgt := 43) dX7_later_31 rfl ?_
    refine Rf_sub [1, 2, 3, 4, 5] rfl ?_
    exact sj_X7_later_43 X _ _ _ _ _ _ h
def wj_X7_later_11 (Q : Int32 → rfS → Prop) (x1 : Int32) (x2 : Int32) (x3 : Int32) (x4 : Int32) (σ : rfS) : Prop :=
  wj_X7_later_16 Q x1 x2 x3 x4 1 σ
set_option maxRecDepth 20000 in
theorem sj_X7_later_11 {E : rfE} {Q : Int32 → rfS → Prop} (X : rfX ΛC E yX7_later cX7_later 10 (some .int)) (x1 : Int32) (x2 : Int32) (x3 : Int32) (x4 : Int32) (σ : rfS) (h : wj_X7_later_11 Q x1 x2 x3 x4 σ) : Rf ΛC 5 E 10 (qi Q) 11 [(0, .ref 0), (1, .int x1), (2, .int x2), (3, .int x3), (4, .int x4)] [] σ := by
  unfold wj_X7_later_11 at h
  refine Rf_iconst X (v := 1) rfl dX7_later_11 rfl ?_
  refine Rf_goto X (tgt := 16) dX7_later_12 rfl ?_
  exact sj_X7_later_16 X _ _ _ _ _ _ h
def wp_X7_later (σ : rfS) (x1 : Int32) (x2 : Int32) (x3 : Int32) (x4 : Int32) (Q : Int32 → rfS → Prop) : Prop :=
  ((x4 = 0 → wj_X7_later_11 Q x1 x2 x3 x4 σ) ∧ (¬ x4 = 0 → ((¬ x4 = 1 → wj_X7_later_16 Q x1 x2 x3 x4 0 σ) ∧ (x4 = 1 → wj_X7_later_11 Q x1 x2 x3 x4 σ))))
set_option maxRecDepth 20000 in
theorem k_X7_later {σ : rfS} {x1 : Int32} {x2 : Int32} {x3 : Int32} {x4 : Int32} {Q : Int32 → rfS → Prop} (h : wp_X7_later σ x1 x2 x3 x4 Q) : RM ΛC 5 yX7_later cX7_later 10 (some .int) [.ref 0, .int x1, .int x2, .int x3, .int x4] σ (qi Q) := by
  unfold wp_X7_later at h
  refine RM.intro (by decide) (Nat.le_of_ble_eq_true rfl) (fun E X => ?_)
  show Rf ΛC 5 E 10 (qi Q) 0 [(0, .ref 0), (1, .int x1), (2, .int x2), (3, .int x3), (4, .int x4)] [] σ
  refine Rf_iload X (j := 4) rfl dX7_later_0 rfl ?_
  refine Rf_if_eq X (tgt := 11) dX7_later_2 rfl rfl (fun c33 => ?_) (fun c33 => ?_)
  · have h := h.1 c33
    exact sj_X7_later_11 X _ _ _ _ _ h
  · have h := h.2 c33
    refine Rf_iload X (j := 4) rfl dX7_later_5 rfl ?_
    refine Rf_iconst X (v := 1) rfl dX7_later_7 rfl ?_
    refine Rf_icmp_ne X (tgt := 15) dX7_later_8 rfl rfl (fun c32 => ?_) (fun c32 => ?_)
    · have h := h.1 c32
      refine Rf_iconst X (v := 0) rfl dX7_later_15 rfl ?_
      exact sj_X7_later_16 X _ _ _ _ _ _ h
    · have h := h.2 c32
      exact sj_X7_later_11 X _ _ _ _ _ h
def wl_X7_deep_83 (Q : Int32 → rfS → Prop) : Nat → Int32 → Int32 → Nat → Int32 → Int32 → Int32 → rfS → Prop
  | 0, _, _, _, _, _, _, _ => False
  | n + 1, x2, x3, a5, x6, x7, x8, σ => ((x6 < x8 → Q (-2) σ) ∧ (¬ (x6 < x8) → ((x7 < x3 → ((x6 ≤ x8 → wl_X7_deep_83 Q n x2 x3 a5 x6 x7 (x8 + 1) σ) ∧ (¬ (x6 ≤ x8) → vp_in x2 7 ∧ vp_in x8 60 ∧ wp_X2_owedBehind σ x7 x2 (gF σ 2 (x2.toNatClampNeg)) ((gL σ (a5 + 1) (x8.toNatClampNeg)).toInt32) ((gI σ 12 3) + x8) (fun (r17 : Int32) (σ16 : rfS) => wl_X7_deep_83 Q n x2 x3 a5 x6 r17 (x8 + 1) σ16)))) ∧ (¬ (x7 < x3) → Q x8 σ))))
set_option maxRecDepth 20000 in
theorem sl_X7_deep_83 {E : rfE} {Q : Int32 → rfS → Prop} (X : rfX ΛC E yX7_deep cX7_deep 9 (some .int)) : ∀ (n : Nat) (x2 : Int32) (x3 : Int32) (a5 : Nat) (x6 : Int32) (x7 : Int32) (x8 : Int32) (σ : rfS), isSh a5 → wl_X7_deep_83 Q n x2 x3 a5 x6 x7 x8 σ → Rf ΛC 2 E 9 (qi Q) 83 [(0, .ref 0), (2, .int x2), (3, .int x3), (5, .ref a5), (6, .int x6), (7, .int x7), (8, .int x8)] [] σ := by
  intro n
  induction n with
  | zero =>
    intro x2 x3 a5 x6 x7 x8 σ ha5 h
    exact False.elim h
  | succ n hkb_83 =>
    intro x2 x3 a5 x6 x7 x8 σ ha5 h
    unfold wl_X7_deep_83 at h
    refine Rf_iload X (j := 6) rfl dX7_deep_83 rfl ?_
    refine Rf_iload X (j := 4) rfl dX7_deep_85 rfl ?_
    refine Rf_icmp_gt X (tgt := 152) dX7_deep_87 rfl rfl (fun c20 => ?_) (fun c20 => ?_)
    · have h := h.1 c20
      refine Rf_bipush X (v := (-2)) (by decide) dX7_deep_152 rfl ?_
      exact Rf_iret X rfl dX7_deep_154 ⟨_, rfl, h⟩
    · have h := h.2 c20
      refine Rf_iload X (j := 5) rfl dX7_deep_90 rfl ?_
      refine Rf_iload_n X (j := 2) rfl rfl dX7_deep_92 rfl ?_
      refine Rf_icmp_lt X (tgt := 99) dX7_deep_93 rfl rfl (fun c19 => ?_) (fun c19 => ?_)
      · have h := h.1 c19
        refine Rf_iload X (j := 6) rfl dX7_deep_99 rfl ?_
        refine Rf_iload X (j := 4) rfl dX7_deep_101 rfl ?_
        refine Rf_icmp_ge X (tgt := 146) dX7_deep_103 rfl rfl (fun c18 => ?_) (fun c18 => ?_)
        · have h := h.1 c18
          refine Rf_iinc X (i := 8) (j := 6) (v := x8 + 1) rfl rfl (Nat.le_of_ble_eq_true rfl) (ls2 := [(8, .int (x8 + 1)), (0, .ref 0), (2, .int x2), (3, .int x3), (5, .ref a5), (6, .int x6), (7, .int x7)]) rfl dX7_deep_146 rfl ?_
          refine Rf_goto X (tgt := 83) dX7_deep_149 rfl ?_
          refine Rf_sub [1, 2, 3, 4, 5, 6, 0] rfl ?_
          exact hkb_83 _ _ _ _ _ _ σ ha5 h
        · have h := h.2 c18
          refine Rf_aload_n X (j := 0) rfl rfl dX7_deep_106 rfl ?_
          refine Rf_get X kc7 (Nat.le_of_ble_eq_true rfl) rfl (j := 0) (Nat.le_of_ble_eq_true rfl) lf_X7_10 (v := .ref 1) rfl dX7_deep_107 rfl ?_
          refine Rf_iload X (j := 5) rfl dX7_deep_110 rfl ?_
          refine Rf_iload_n X (j := 1) rfl rfl dX7_deep_112 rfl ?_
          refine Rf_aload_n X (j := 0) rfl rfl dX7_deep_113 rfl ?_
          refine Rf_get X kc7 (Nat.le_of_ble_eq_true rfl) rfl (j := 0) (Nat.le_of_ble_eq_true rfl) lf_X7_10 (v := .ref 1) rfl dX7_deep_114 rfl ?_
          refine Rf_get X kc2 (Nat.le_of_ble_eq_true rfl) rfl (j := 1) (Nat.le_of_ble_eq_true rfl) lf_X7_91 (v := .ref 2) rfl dX7_deep_117 rfl ?_
          refine Rf_iload_n X (j := 1) rfl rfl dX7_deep_120 rfl ?_
          obtain ⟨s14, h⟩ := h
          refine Rf_iaload X (Nat.le_of_ble_eq_true rfl) rfl rfl s14 dX7_deep_121 rfl (v := gF σ 2 (x2.toNatClampNeg)) rfl ?_
          refine Rf_aload X (j := 3) rfl dX7_deep_122 rfl ?_
          refine Rf_get X kc4 (isSh_f _ ha5).1.1 (isSh_f _ ha5).1.2 (j := 3) (Nat.le_of_ble_eq_true rfl) lf_X7_87 (v := .ref (a5 + 1)) rfl dX7_deep_124 rfl ?_
          refine Rf_iload X (j := 6) rfl dX7_deep_127 rfl ?_
          obtain ⟨s15, h⟩ := h
          refine Rf_laload X (isSh_f _ ha5).2.1 (isSh_f _ ha5).2.2.1 (isSh_f _ ha5).2.2.2 s15 dX7_deep_129 rfl (v := gL σ (a5 + 1) (x8.toNatClampNeg)) rfl ?_
          refine Rf_l2i X dX7_deep_130 rfl ?_
          refine Rf_aload_n X (j := 0) rfl rfl dX7_deep_131 rfl ?_
          refine Rf_get X kc7 (Nat.le_of_ble_eq_true rfl) rfl (j := 1) (Nat.le_of_ble_eq_true rfl) lf_X7_19 (v := .ref 12) rfl dX7_deep_132 rfl ?_
          refine Rf_get X kc5 (Nat.le_of_ble_eq_true rfl) rfl (j := 3) (Nat.le_of_ble_eq_true rfl) lf_X7_137 (v := .int (gI σ 12 3)) rfl dX7_deep_135 rfl ?_
          refine Rf_iload X (j := 6) rfl dX7_deep_138 rfl ?_
          refine Rf_iadd X dX7_deep_140 rfl ?_
          refine Rf_cVi (as := [.int x7, .int x2, .int (gF σ 2 (x2.toNatClampNeg)), .int ((gL σ (a5 + 1) (x8.toNatClampNeg)).toInt32), .int ((gI σ 12 3) + x8)]) (st := []) X mi_X2_owedBehind lm_X7_179 rfl (Nat.le_of_ble_eq_true rfl) rfl (k_X2_owedBehind h) (Nat.le_of_ble_eq_true rfl) rfl rfl (Nat.le_of_ble_eq_true rfl) dX7_deep_141 rfl (fun r17 σ16 h => ?_)
          refine Rf_istore X (i := 7) (Nat.le_of_ble_eq_true rfl) (ls2 := [(7, .int r17), (0, .ref 0), (2, .int x2), (3, .int x3), (5, .ref a5), (6, .int x6), (8, .int x8)]) rfl dX7_deep_144 rfl ?_
          refine Rf_iinc X (i := 8) (j := 6) (v := x8 + 1) rfl rfl (Nat.le_of_ble_eq_true rfl) (ls2 := [(8, .int (x8 + 1)), (7, .int r17), (0, .ref 0), (2, .int x2), (3, .int x3), (5, .ref a5), (6, .int x6)]) rfl dX7_deep_146 rfl ?_
          refine Rf_goto X (tgt := 83) dX7_deep_149 rfl ?_
          refine Rf_sub [2, 3, 4, 5, 6, 1, 0] rfl ?_
          exact hkb_83 _ _ _ _ _ _ σ16 ha5 h
      · have h := h.2 c19
        refine Rf_iload X (j := 6) rfl dX7_deep_96 rfl ?_
        exact Rf_iret X rfl dX7_deep_98 ⟨_, rfl, h⟩
def wp_X7_deep (σ : rfS) (x1 : Int32) (x2 : Int32) (x3 : Int32) (Q : Int32 → rfS → Prop) : Prop :=
  wp_X7_isShelf σ x1 (fun (r2 : Int32) (σ1 : rfS) => ((r2 = 0 → Q (-1) σ1) ∧ (¬ r2 = 0 → wp_X2_isOne σ1 x2 (fun (r4 : Int32) (σ3 : rfS) => ((r4 = 0 → Q (-1) σ3) ∧ (¬ r4 = 0 → wp_X7_isWithin σ3 x3 0 99 (fun (r6 : Int32) (σ5 : rfS) => ((¬ r6 = 0 → vp_in x1 6 ∧ wp_X4_refusalFor σ5 (53 + 2 * x1.toNatClampNeg) 0 (fun (r9 : Int32) (σ8 : rfS) => ((r9 = 0 → vp_in x1 6 ∧ wp_X2_daysOf σ8 (53 + 2 * x1.toNatClampNeg) (fun (r12 : Int32) (σ11 : rfS) => vp_in x2 7 ∧ ((∃ n21, wl_X7_deep_83 Q n21 x2 x3 (53 + 2 * x1.toNatClampNeg) r12 (gF σ11 13 (x2.toNatClampNeg)) 0 σ11)))) ∧ (¬ r9 = 0 → Q r9 σ8)))) ∧ (r6 = 0 → Q (-1) σ5)))))))))
set_option maxRecDepth 20000 in
theorem k_X7_deep {σ : rfS} {x1 : Int32} {x2 : Int32} {x3 : Int32} {Q : Int32 → rfS → Prop} (h : wp_X7_deep σ x1 x2 x3 Q) : RM ΛC 2 yX7_deep cX7_deep 9 (some .int) [.ref 0, .int x1, .int x2, .int x3] σ (qi Q) := by
  unfold wp_X7_deep at h
  refine RM.intro (by decide) (Nat.le_of_ble_eq_true rfl) (fun E X => ?_)
  show Rf ΛC 2 E 9 (qi Q) 0 [(0, .ref 0), (1, .int x1), (2, .int x2), (3, .int x3)] [] σ
  refine Rf_iload_n X (j := 1) rfl rfl dX7_deep_0 rfl ?_
  refine Rf_cSi (as := [.int x1]) (st := []) X ms_X7_isShelf lm_X7_75 (k_X7_isShelf h) (Nat.le_of_ble_eq_true rfl) rfl rfl (Nat.le_of_ble_eq_true rfl) dX7_deep_1 rfl (fun r2 σ1 h => ?_)
  refine Rf_if_eq X (tgt := 28) dX7_deep_4 rfl rfl (fun c25 => ?_) (fun c25 => ?_)
  · have h := h.1 c25
    refine Rf_iconst X (v := (-1)) (by decide) dX7_deep_28 rfl ?_
    exact Rf_iret X rfl dX7_deep_29 ⟨_, rfl, h⟩
  · have h := h.2 c25
    refine Rf_aload_n X (j := 0) rfl rfl dX7_deep_7 rfl ?_
    refine Rf_get X kc7 (Nat.le_of_ble_eq_true rfl) rfl (j := 0) (Nat.le_of_ble_eq_true rfl) lf_X7_10 (v := .ref 1) rfl dX7_deep_8 rfl ?_
    refine Rf_iload_n X (j := 2) rfl rfl dX7_deep_11 rfl ?_
    refine Rf_cVi (as := [.int x2]) (st := []) X mi_X2_isOne lm_X7_125 rfl (Nat.le_of_ble_eq_true rfl) rfl (k_X2_isOne h) (Nat.le_of_ble_eq_true rfl) rfl rfl (Nat.le_of_ble_eq_true rfl) dX7_deep_12 rfl (fun r4 σ3 h => ?_)
    refine Rf_if_eq X (tgt := 28) dX7_deep_15 rfl rfl (fun c24 => ?_) (fun c24 => ?_)
    · have h := h.1 c24
      refine Rf_iconst X (v := (-1)) (by decide) dX7_deep_28 rfl ?_
      exact Rf_iret X rfl dX7_deep_29 ⟨_, rfl, h⟩
    · have h := h.2 c24
      refine Rf_iload_n X (j := 3) rfl rfl dX7_deep_18 rfl ?_
      refine Rf_iconst X (v := 0) rfl dX7_deep_19 rfl ?_
      refine Rf_bipush X (v := 99) rfl dX7_deep_20 rfl ?_
      refine Rf_cSi (as := [.int x3, .int 0, .int 99]) (st := []) X ms_X7_isWithin lm_X7_63 (k_X7_isWithin h) (Nat.le_of_ble_eq_true rfl) rfl rfl (Nat.le_of_ble_eq_true rfl) dX7_deep_22 rfl (fun r6 σ5 h => ?_)
      refine Rf_if_ne X (tgt := 30) dX7_deep_25 rfl rfl (fun c23 => ?_) (fun c23 => ?_)
      · have h := h.1 c23
        refine Rf_aload_n X (j := 0) rfl rfl dX7_deep_30 rfl ?_
        refine Rf_get X kc7 (Nat.le_of_ble_eq_true rfl) rfl (j := 10) (Nat.le_of_ble_eq_true rfl) lf_X7_58 (v := .ref 52) rfl dX7_deep_31 rfl ?_
        refine Rf_iload_n X (j := 1) rfl rfl dX7_deep_34 rfl ?_
        obtain ⟨s7, h⟩ := h
        refine Rf_aaload3 X (Nat.le_of_ble_eq_true rfl) rfl rfl s7 dX7_deep_35 rfl ?_
        refine Rf_iconst X (v := 0) rfl dX7_deep_36 rfl ?_
        refine Rf_cVi (as := [.int 0]) (st := []) X mi_X4_refusalFor lm_X7_161 rfl (isSh_f _ (isSh_of s7)).1.1 (isSh_f _ (isSh_of s7)).1.2 (k_X4_refusalFor (isSh_of s7) h) (Nat.le_of_ble_eq_true rfl) rfl rfl (Nat.le_of_ble_eq_true rfl) dX7_deep_37 rfl (fun r9 σ8 h => ?_)
        refine Rf_istore X (i := 4) (Nat.le_of_ble_eq_true rfl) (ls2 := [(4, .int r9), (0, .ref 0), (1, .int x1), (2, .int x2), (3, .int x3)]) rfl dX7_deep_40 rfl ?_
        refine Rf_iload X (j := 0) rfl dX7_deep_42 rfl ?_
        refine Rf_if_eq X (tgt := 50) dX7_deep_44 rfl rfl (fun c22 => ?_) (fun c22 => ?_)
        · have h := h.1 c22
          refine Rf_aload_n X (j := 1) rfl rfl dX7_deep_50 rfl ?_
          refine Rf_get X kc7 (Nat.le_of_ble_eq_true rfl) rfl (j := 10) (Nat.le_of_ble_eq_true rfl) lf_X7_58 (v := .ref 52) rfl dX7_deep_51 rfl ?_
          refine Rf_iload_n X (j := 2) rfl rfl dX7_deep_54 rfl ?_
          obtain ⟨s10, h⟩ := h
          refine Rf_aaload3 X (Nat.le_of_ble_eq_true rfl) rfl rfl s10 dX7_deep_55 rfl ?_
          refine Rf_astore X (i := 5) (Nat.le_of_ble_eq_true rfl) (ls2 := [(5, .ref (53 + 2 * x1.toNatClampNeg)), (4, .int r9), (0, .ref 0), (1, .int x1), (2, .int x2), (3, .int x3)]) rfl dX7_deep_56 rfl ?_
          refine Rf_aload_n X (j := 2) rfl rfl dX7_deep_58 rfl ?_
          refine Rf_get X kc7 (Nat.le_of_ble_eq_true rfl) rfl (j := 0) (Nat.le_of_ble_eq_true rfl) lf_X7_10 (v := .ref 1) rfl dX7_deep_59 rfl ?_
          refine Rf_aload X (j := 0) rfl dX7_deep_62 rfl ?_
          refine Rf_cVi (as := [.ref (53 + 2 * x1.toNatClampNeg)]) (st := []) X mi_X2_daysOf lm_X7_175 rfl (Nat.le_of_ble_eq_true rfl) rfl (k_X2_daysOf (isSh_of s10) h) (Nat.le_of_ble_eq_true rfl) rfl rfl (Nat.le_of_ble_eq_true rfl) dX7_deep_64 rfl (fun r12 σ11 h => ?_)
          refine Rf_istore X (i := 6) (Nat.le_of_ble_eq_true rfl) (ls2 := [(6, .int r12), (5, .ref (53 + 2 * x1.toNatClampNeg)), (4, .int r9), (0, .ref 0), (1, .int x1), (2, .int x2), (3, .int x3)]) rfl dX7_deep_67 rfl ?_
          refine Rf_aload_n X (j := 3) rfl rfl dX7_deep_69 rfl ?_
          refine Rf_get X kc7 (Nat.le_of_ble_eq_true rfl) rfl (j := 1) (Nat.le_of_ble_eq_true rfl) lf_X7_19 (v := .ref 12) rfl dX7_deep_70 rfl ?_
          refine Rf_get X kc5 (Nat.le_of_ble_eq_true rfl) rfl (j := 0) (Nat.le_of_ble_eq_true rfl) lf_X7_97 (v := .ref 13) rfl dX7_deep_73 rfl ?_
          refine Rf_iload_n X (j := 5) rfl rfl dX7_deep_76 rfl ?_
          obtain ⟨s13, h⟩ := h
          refine Rf_iaload X (Nat.le_of_ble_eq_true rfl) rfl rfl s13 dX7_deep_77 rfl (v := gF σ11 13 (x2.toNatClampNeg)) rfl ?_
          refine Rf_istore X (i := 7) (Nat.le_of_ble_eq_true rfl) (ls2 := [(7, .int (gF σ11 13 (x2.toNatClampNeg))), (6, .int r12), (5, .ref (53 + 2 * x1.toNatClampNeg)), (4, .int r9), (0, .ref 0), (1, .int x1), (2, .int x2), (3, .int x3)]) rfl dX7_deep_78 rfl ?_
          refine Rf_iconst X (v := 0) rfl dX7_deep_80 rfl ?_
          refine Rf_istore X (i := 8) (Nat.le_of_ble_eq_true rfl) (ls2 := [(8, .int 0), (7, .int (gF σ11 13 (x2.toNatClampNeg))), (6, .int r12), (5, .ref (53 + 2 * x1.toNatClampNeg)), (4, .int r9), (0, .ref 0), (1, .int x1), (2, .int x2), (3, .int x3)]) rfl dX7_deep_81 rfl ?_
          obtain ⟨n21, h⟩ := h
          refine Rf_sub [5, 7, 8, 3, 2, 1, 0] rfl ?_
          exact sl_X7_deep_83 X n21 _ _ _ _ _ _ _ (isSh_of s10) h
        · have h := h.2 c22
          refine Rf_iload X (j := 0) rfl dX7_deep_47 rfl ?_
          exact Rf_iret X rfl dX7_deep_49 ⟨_, rfl, h⟩
      · have h := h.2 c23
        refine Rf_iconst X (v := (-1)) (by decide) dX7_deep_28 rfl ?_
        exact Rf_iret X rfl dX7_deep_29 ⟨_, rfl, h⟩
def wp_X7_bestRota (κ_X6_seekBest : rfS → Nat → Int32 → (rfS → Prop) → Prop) (σ : rfS) (x1 : Int32) (x2 : Int32) (Q : Int32 → rfS → Prop) : Prop :=
  wp_X7_isWithin σ x1 0 4 (fun (r2 : Int32) (σ1 : rfS) => ((r2 = 0 → Q (-1) σ1) ∧ (¬ r2 = 0 → wp_X7_isWithin σ1 x2 (-2) (x1 - 1) (fun (r4 : Int32) (σ3 : rfS) => ((¬ r4 = 0 → κ_X6_seekBest σ3 12 x1 (fun (σ5 : rfS) => ((¬ x2 = (-1) → ((¬ x2 = (-2) → vp_in x2 4 ∧ (Q (gF σ5 21 (x2.toNatClampNeg)) σ5)) ∧ (x2 = (-2) → Q (gI σ5 20 1) σ5))) ∧ (x2 = (-1) → Q (gI σ5 20 0) σ5)))) ∧ (r4 = 0 → Q (-1) σ3))))))
set_option maxRecDepth 20000 in
theorem k_X7_bestRota {d : Nat} {κ_X6_seekBest : rfS → Nat → Int32 → (rfS → Prop) → Prop} (hκ_X6_seekBest : ∀ (σ : rfS) (a1 : Nat) (x2 : Int32) (Q : rfS → Prop), isSt a1 → κ_X6_seekBest σ a1 x2 Q → RM ΛC d yX6_seekBest cX6_seekBest 3 none [.ref 20, .ref a1, .int x2] σ (qv Q)) (hB : 0 ≤ d) {σ : rfS} {x1 : Int32} {x2 : Int32} {Q : Int32 → rfS → Prop} (h : wp_X7_bestRota κ_X6_seekBest σ x1 x2 Q) : RM ΛC (d + 1) yX7_bestRota cX7_bestRota 3 (some .int) [.ref 0, .int x1, .int x2] σ (qi Q) := by
  unfold wp_X7_bestRota at h
  refine RM.intro (by decide) (Nat.le_of_ble_eq_true rfl) (fun E X => ?_)
  show Rf ΛC (d + 1) E 3 (qi Q) 0 [(0, .ref 0), (1, .int x1), (2, .int x2)] [] σ
  refine Rf_iload_n X (j := 1) rfl rfl dX7_bestRota_0 rfl ?_
  refine Rf_iconst X (v := 0) rfl dX7_bestRota_1 rfl ?_
  refine Rf_iconst X (v := 4) rfl dX7_bestRota_2 rfl ?_
  refine Rf_cSi (as := [.int x1, .int 0, .int 4]) (st := []) X ms_X7_isWithin lm_X7_63 (k_X7_isWithin h) (by omega) rfl rfl (Nat.le_of_ble_eq_true rfl) dX7_bestRota_3 rfl (fun r2 σ1 h => ?_)
  refine Rf_if_eq X (tgt := 21) dX7_bestRota_6 rfl rfl (fun c10 => ?_) (fun c10 => ?_)
  · have h := h.1 c10
    refine Rf_iconst X (v := (-1)) (by decide) dX7_bestRota_21 rfl ?_
    exact Rf_iret X rfl dX7_bestRota_22 ⟨_, rfl, h⟩
  · have h := h.2 c10
    refine Rf_iload_n X (j := 2) rfl rfl dX7_bestRota_9 rfl ?_
    refine Rf_bipush X (v := (-2)) (by decide) dX7_bestRota_10 rfl ?_
    refine Rf_iload_n X (j := 1) rfl rfl dX7_bestRota_12 rfl ?_
    refine Rf_iconst X (v := 1) rfl dX7_bestRota_13 rfl ?_
    refine Rf_isub X dX7_bestRota_14 rfl ?_
    refine Rf_cSi (as := [.int x2, .int (-2), .int (x1 - 1)]) (st := []) X ms_X7_isWithin lm_X7_63 (k_X7_isWithin h) (by omega) rfl rfl (Nat.le_of_ble_eq_true rfl) dX7_bestRota_15 rfl (fun r4 σ3 h => ?_)
    refine Rf_if_ne X (tgt := 23) dX7_bestRota_18 rfl rfl (fun c9 => ?_) (fun c9 => ?_)
    · have h := h.1 c9
      refine Rf_aload_n X (j := 0) rfl rfl dX7_bestRota_23 rfl ?_
      refine Rf_get X kc7 (Nat.le_of_ble_eq_true rfl) rfl (j := 7) (Nat.le_of_ble_eq_true rfl) lf_X7_38 (v := .ref 20) rfl dX7_bestRota_24 rfl ?_
      refine Rf_aload_n X (j := 0) rfl rfl dX7_bestRota_27 rfl ?_
      refine Rf_get X kc7 (Nat.le_of_ble_eq_true rfl) rfl (j := 1) (Nat.le_of_ble_eq_true rfl) lf_X7_19 (v := .ref 12) rfl dX7_bestRota_28 rfl ?_
      refine Rf_iload_n X (j := 1) rfl rfl dX7_bestRota_31 rfl ?_
      refine Rf_cVv (as := [.ref 12, .int x1]) (st := []) X mi_X6_seekBest lm_X7_183 rfl (Nat.le_of_ble_eq_true rfl) rfl (hκ_X6_seekBest _ _ _ _ (by unfold isSt; decide) h) (Nat.le_refl _) rfl rfl (Nat.le_of_ble_eq_true rfl) dX7_bestRota_32 rfl (fun σ5 h => ?_)
      refine Rf_iload_n X (j := 2) rfl rfl dX7_bestRota_35 rfl ?_
      refine Rf_iconst X (v := (-1)) (by decide) dX7_bestRota_36 rfl ?_
      refine Rf_icmp_ne X (tgt := 48) dX7_bestRota_37 rfl rfl (fun c8 => ?_) (fun c8 => ?_)
      · have h := h.1 c8
        refine Rf_iload_n X (j := 2) rfl rfl dX7_bestRota_48 rfl ?_
        refine Rf_bipush X (v := (-2)) (by decide) dX7_bestRota_49 rfl ?_
        refine Rf_icmp_ne X (tgt := 64) dX7_bestRota_51 rfl rfl (fun c7 => ?_) (fun c7 => ?_)
        · have h := h.1 c7
          refine Rf_aload_n X (j := 0) rfl rfl dX7_bestRota_64 rfl ?_
          refine Rf_get X kc7 (Nat.le_of_ble_eq_true rfl) rfl (j := 7) (Nat.le_of_ble_eq_true rfl) lf_X7_38 (v := .ref 20) rfl dX7_bestRota_65 rfl ?_
          refine Rf_get X kc6 (Nat.le_of_ble_eq_true rfl) rfl (j := 2) (Nat.le_of_ble_eq_true rfl) lf_X7_193 (v := .ref 21) rfl dX7_bestRota_68 rfl ?_
          refine Rf_iload_n X (j := 2) rfl rfl dX7_bestRota_71 rfl ?_
          obtain ⟨s6, h⟩ := h
          refine Rf_iaload X (Nat.le_of_ble_eq_true rfl) rfl rfl s6 dX7_bestRota_72 rfl (v := gF σ5 21 (x2.toNatClampNeg)) rfl ?_
          exact Rf_iret X rfl dX7_bestRota_73 ⟨_, rfl, h⟩
        · have h := h.2 c7
          refine Rf_aload_n X (j := 0) rfl rfl dX7_bestRota_54 rfl ?_
          refine Rf_get X kc7 (Nat.le_of_ble_eq_true rfl) rfl (j := 7) (Nat.le_of_ble_eq_true rfl) lf_X7_38 (v := .ref 20) rfl dX7_bestRota_55 rfl ?_
          refine Rf_get X kc6 (Nat.le_of_ble_eq_true rfl) rfl (j := 1) (Nat.le_of_ble_eq_true rfl) lf_X7_190 (v := .int (gI σ5 20 1)) rfl dX7_bestRota_58 rfl ?_
          refine Rf_goto X (tgt := 73) dX7_bestRota_61 rfl ?_
          exact Rf_iret X rfl dX7_bestRota_73 ⟨_, rfl, h⟩
      · have h := h.2 c8
        refine Rf_aload_n X (j := 0) rfl rfl dX7_bestRota_40 rfl ?_
        refine Rf_get X kc7 (Nat.le_of_ble_eq_true rfl) rfl (j := 7) (Nat.le_of_ble_eq_true rfl) lf_X7_38 (v := .ref 20) rfl dX7_bestRota_41 rfl ?_
        refine Rf_get X kc6 (Nat.le_of_ble_eq_true rfl) rfl (j := 0) (Nat.le_of_ble_eq_true rfl) lf_X7_187 (v := .int (gI σ5 20 0)) rfl dX7_bestRota_44 rfl ?_
        exact Rf_iret X rfl dX7_bestRota_47 ⟨_, rfl, h⟩
    · have h := h.2 c9
      refine Rf_iconst X (v := (-1)) (by decide) dX7_bestRota_21 rfl ?_
      exact Rf_iret X rfl dX7_bestRota_22 ⟨_, rfl, h⟩
def wp_X7_fewer (σ : rfS) (x0 : Int32) (x1 : Int32) (Q : Int32 → rfS → Prop) : Prop :=
  ((x0 = (-2) → Q x1 σ) ∧ (¬ x0 = (-2) → wp_J6_bitCount_0f7a4 σ x1 (fun (r2 : Int32) (σ1 : rfS) => wp_J6_bitCount_0f7a4 σ1 x0 (fun (r4 : Int32) (σ3 : rfS) => ((r4 ≤ r2 → Q x0 σ3) ∧ (¬ (r4 ≤ r2) → Q x1 σ3))))))
set_option maxRecDepth 20000 in
theorem k_X7_fewer {σ : rfS} {x0 : Int32} {x1 : Int32} {Q : Int32 → rfS → Prop} (h : wp_X7_fewer σ x0 x1 Q) : RM ΛC 1 yX7_fewer cX7_fewer 2 (some .int) [.int x0, .int x1] σ (qi Q) := by
  unfold wp_X7_fewer at h
  refine RM.intro (by decide) (Nat.le_of_ble_eq_true rfl) (fun E X => ?_)
  show Rf ΛC 1 E 2 (qi Q) 0 [(0, .int x0), (1, .int x1)] [] σ
  refine Rf_iload_n X (j := 0) rfl rfl dX7_fewer_0 rfl ?_
  refine Rf_bipush X (v := (-2)) (by decide) dX7_fewer_1 rfl ?_
  refine Rf_icmp_eq X (tgt := 17) dX7_fewer_3 rfl rfl (fun c6 => ?_) (fun c6 => ?_)
  · have h := h.1 c6
    refine Rf_iload_n X (j := 1) rfl rfl dX7_fewer_17 rfl ?_
    refine Rf_goto X (tgt := 22) dX7_fewer_18 rfl ?_
    exact Rf_iret X rfl dX7_fewer_22 ⟨_, rfl, h⟩
  · have h := h.2 c6
    refine Rf_iload_n X (j := 1) rfl rfl dX7_fewer_6 rfl ?_
    refine Rf_cSi (as := [.int x1]) (st := []) X ms_J6_bitCount_0f7a4 lm_X7_214 (k_J6_bitCount_0f7a4 h) (Nat.le_of_ble_eq_true rfl) rfl rfl (Nat.le_of_ble_eq_true rfl) dX7_fewer_7 rfl (fun r2 σ1 h => ?_)
    refine Rf_iload_n X (j := 0) rfl rfl dX7_fewer_10 rfl ?_
    refine Rf_cSi (as := [.int x0]) (st := [.int r2]) X ms_J6_bitCount_0f7a4 lm_X7_214 (k_J6_bitCount_0f7a4 h) (Nat.le_of_ble_eq_true rfl) rfl rfl (Nat.le_of_ble_eq_true rfl) dX7_fewer_11 rfl (fun r4 σ3 h => ?_)
    refine Rf_icmp_ge X (tgt := 21) dX7_fewer_14 rfl rfl (fun c5 => ?_) (fun c5 => ?_)
    · have h := h.1 c5
      refine Rf_iload_n X (j := 0) rfl rfl dX7_fewer_21 rfl ?_
      exact Rf_iret X rfl dX7_fewer_22 ⟨_, rfl, h⟩
    · have h := h.2 c5
      refine Rf_iload_n X (j := 1) rfl rfl dX7_fewer_17 rfl ?_
      refine Rf_goto X (tgt := 22) dX7_fewer_18 rfl ?_
      exact Rf_iret X rfl dX7_fewer_22 ⟨_, rfl, h⟩
def wl_X7_knownByGroup_4 (Q : Int32 → rfS → Prop) : Nat → Int32 → Int32 → Int32 → rfS → Prop
  | 0, _, _, _, _ => False
  | n + 1, x1, x2, x3, σ => (((gI σ 1 0) ≤ x3 → Q x2 σ) ∧ (¬ ((gI σ 1 0) ≤ x3) → ((((x1 >>> (x3 &&& 31)) &&& 1) = 0 → wl_X7_knownByGroup_4 Q n x1 x2 (x3 + 1) σ) ∧ (¬ ((x1 >>> (x3 &&& 31)) &&& 1) = 0 → vp_in x3 7 ∧ (wl_X7_knownByGroup_4 Q n x1 (x2 ||| (gF σ 14 (x3.toNatClampNeg))) (x3 + 1) σ)))))
set_option maxRecDepth 20000 in
theorem sl_X7_knownByGroup_4 {E : rfE} {Q : Int32 → rfS → Prop} (X : rfX ΛC E yX7_knownByGroup cX7_knownByGroup 4 (some .int)) : ∀ (n : Nat) (x1 : Int32) (x2 : Int32) (x3 : Int32) (σ : rfS), wl_X7_knownByGroup_4 Q n x1 x2 x3 σ → Rf ΛC 0 E 4 (qi Q) 4 [(0, .ref 0), (1, .int x1), (2, .int x2), (3, .int x3)] [] σ := by
  intro n
  induction n with
  | zero =>
    intro x1 x2 x3 σ h
    exact False.elim h
  | succ n hkb_4 =>
    intro x1 x2 x3 σ h
    unfold wl_X7_knownByGroup_4 at h
    refine Rf_iload_n X (j := 3) rfl rfl dX7_knownByGroup_4 rfl ?_
    refine Rf_aload_n X (j := 0) rfl rfl dX7_knownByGroup_5 rfl ?_
    refine Rf_get X kc7 (Nat.le_of_ble_eq_true rfl) rfl (j := 0) (Nat.le_of_ble_eq_true rfl) lf_X7_10 (v := .ref 1) rfl dX7_knownByGroup_6 rfl ?_
    refine Rf_get X kc2 (Nat.le_of_ble_eq_true rfl) rfl (j := 0) (Nat.le_of_ble_eq_true rfl) lf_X7_67 (v := .int (gI σ 1 0)) rfl dX7_knownByGroup_9 rfl ?_
    refine Rf_icmp_ge X (tgt := 41) dX7_knownByGroup_12 rfl rfl (fun c3 => ?_) (fun c3 => ?_)
    · have h := h.1 c3
      refine Rf_iload_n X (j := 2) rfl rfl dX7_knownByGroup_41 rfl ?_
      exact Rf_iret X rfl dX7_knownByGroup_42 ⟨_, rfl, h⟩
    · have h := h.2 c3
      refine Rf_iload_n X (j := 1) rfl rfl dX7_knownByGroup_15 rfl ?_
      refine Rf_iload_n X (j := 3) rfl rfl dX7_knownByGroup_16 rfl ?_
      refine Rf_ishr X dX7_knownByGroup_17 rfl ?_
      refine Rf_iconst X (v := 1) rfl dX7_knownByGroup_18 rfl ?_
      refine Rf_iand X dX7_knownByGroup_19 rfl ?_
      refine Rf_if_eq X (tgt := 35) dX7_knownByGroup_20 rfl rfl (fun c2 => ?_) (fun c2 => ?_)
      · have h := h.1 c2
        refine Rf_iinc X (i := 3) (j := 3) (v := x3 + 1) rfl rfl (Nat.le_of_ble_eq_true rfl) (ls2 := [(3, .int (x3 + 1)), (0, .ref 0), (1, .int x1), (2, .int x2)]) rfl dX7_knownByGroup_35 rfl ?_
        refine Rf_goto X (tgt := 4) dX7_knownByGroup_38 rfl ?_
        refine Rf_sub [1, 2, 3, 0] rfl ?_
        exact hkb_4 _ _ _ σ h
      · have h := h.2 c2
        refine Rf_iload_n X (j := 2) rfl rfl dX7_knownByGroup_23 rfl ?_
        refine Rf_aload_n X (j := 0) rfl rfl dX7_knownByGroup_24 rfl ?_
        refine Rf_get X kc7 (Nat.le_of_ble_eq_true rfl) rfl (j := 1) (Nat.le_of_ble_eq_true rfl) lf_X7_19 (v := .ref 12) rfl dX7_knownByGroup_25 rfl ?_
        refine Rf_get X kc5 (Nat.le_of_ble_eq_true rfl) rfl (j := 1) (Nat.le_of_ble_eq_true rfl) lf_X7_100 (v := .ref 14) rfl dX7_knownByGroup_28 rfl ?_
        refine Rf_iload_n X (j := 3) rfl rfl dX7_knownByGroup_31 rfl ?_
        obtain ⟨s1, h⟩ := h
        refine Rf_iaload X (Nat.le_of_ble_eq_true rfl) rfl rfl s1 dX7_knownByGroup_32 rfl (v := gF σ 14 (x3.toNatClampNeg)) rfl ?_
        refine Rf_ior X dX7_knownByGroup_33 rfl ?_
        refine Rf_istore_n X rfl (i := 2) (Nat.le_of_ble_eq_true rfl) (ls2 := [(2, .int (x2 ||| (gF σ 14 (x3.toNatClampNeg)))), (0, .ref 0), (1, .int x1), (3, .int x3)]) rfl dX7_knownByGroup_34 rfl ?_
        refine Rf_iinc X (i := 3) (j := 3) (v := x3 + 1) rfl rfl (Nat.le_of_ble_eq_true rfl) (ls2 := [(3, .int (x3 + 1)), (2, .int (x2 ||| (gF σ 14 (x3.toNatClampNeg)))), (0, .ref 0), (1, .int x1)]) rfl dX7_knownByGroup_35 rfl ?_
        refine Rf_goto X (tgt := 4) dX7_knownByGroup_38 rfl ?_
        refine Rf_sub [2, 3, 1, 0] rfl ?_
        exact hkb_4 _ _ _ σ h
def wp_X7_knownByGroup (σ : rfS) (x1 : Int32) (Q : Int32 → rfS → Prop) : Prop :=
  (∃ n4, wl_X7_knownByGroup_4 Q n4 x1 0 0 σ)
set_option maxRecDepth 20000 in
theorem k_X7_knownByGroup {σ : rfS} {x1 : Int32} {Q : Int32 → rfS → Prop} (h : wp_X7_knownByGroup σ x1 Q) : RM ΛC 0 yX7_knownByGroup cX7_knownByGroup 4 (some .int) [.ref 0, .int x1] σ (qi Q) := by
  unfold wp_X7_knownByGroup at h
  refine RM.intro (by decide) (Nat.le_of_ble_eq_true rfl) (fun E X => ?_)
  show Rf ΛC 0 E 4 (qi Q) 0 [(0, .ref 0), (1, .int x1)] [] σ
  refine Rf_iconst X (v := 0) rfl dX7_knownByGroup_0 rfl ?_
  refine Rf_istore_n X rfl (i := 2) (Nat.le_of_ble_eq_true rfl) (ls2 := [(2, .int 0), (0, .ref 0), (1, .int x1)]) rfl dX7_knownByGroup_1 rfl ?_
  refine Rf_iconst X (v := 0) rfl dX7_knownByGroup_2 rfl ?_
  refine Rf_istore_n X rfl (i := 3) (Nat.le_of_ble_eq_true rfl) (ls2 := [(3, .int 0), (2, .int 0), (0, .ref 0), (1, .int x1)]) rfl dX7_knownByGroup_3 rfl ?_
  obtain ⟨n4, h⟩ := h
  refine Rf_sub [2, 3, 1, 0] rfl ?_
  exact sl_X7_knownByGroup_4 X n4 _ _ _ _ h
def wp_X7_manyOrWhich (σ : rfS) (x0 : Int32) (x1 : Int32) (Q : Int32 → rfS → Prop) : Prop :=
  ((x0 = (-2) → Q x0 σ) ∧ (¬ x0 = (-2) → ((¬ x1 = 0 → Q x0 σ) ∧ (x1 = 0 → wp_J6_bitCount_0f7a4 σ x0 (fun (r2 : Int32) (σ1 : rfS) => Q r2 σ1)))))
set_option maxRecDepth 20000 in
theorem k_X7_manyOrWhich {σ : rfS} {x0 : Int32} {x1 : Int32} {Q : Int32 → rfS → Prop} (h : wp_X7_manyOrWhich σ x0 x1 Q) : RM ΛC 1 yX7_manyOrWhich cX7_manyOrWhich 2 (some .int) [.int x0, .int x1] σ (qi Q) := by
  unfold wp_X7_manyOrWhich at h
  refine RM.intro (by decide) (Nat.le_of_ble_eq_true rfl) (fun E X => ?_)
  show Rf ΛC 1 E 2 (qi Q) 0 [(0, .int x0), (1, .int x1)] [] σ
  refine Rf_iload_n X (j := 0) rfl rfl dX7_manyOrWhich_0 rfl ?_
  refine Rf_bipush X (v := (-2)) (by decide) dX7_manyOrWhich_1 rfl ?_
  refine Rf_icmp_eq X (tgt := 17) dX7_manyOrWhich_3 rfl rfl (fun c4 => ?_) (fun c4 => ?_)
  · have h := h.1 c4
    refine Rf_iload_n X (j := 0) rfl rfl dX7_manyOrWhich_17 rfl ?_
    exact Rf_iret X rfl dX7_manyOrWhich_18 ⟨_, rfl, h⟩
  · have h := h.2 c4
    refine Rf_iload_n X (j := 1) rfl rfl dX7_manyOrWhich_6 rfl ?_
    refine Rf_if_ne X (tgt := 17) dX7_manyOrWhich_7 rfl rfl (fun c3 => ?_) (fun c3 => ?_)
    · have h := h.1 c3
      refine Rf_iload_n X (j := 0) rfl rfl dX7_manyOrWhich_17 rfl ?_
      exact Rf_iret X rfl dX7_manyOrWhich_18 ⟨_, rfl, h⟩
    · have h := h.2 c3
      refine Rf_iload_n X (j := 0) rfl rfl dX7_manyOrWhich_10 rfl ?_
      refine Rf_cSi (as := [.int x0]) (st := []) X ms_J6_bitCount_0f7a4 lm_X7_214 (k_J6_bitCount_0f7a4 h) (Nat.le_of_ble_eq_true rfl) rfl rfl (Nat.le_of_ble_eq_true rfl) dX7_manyOrWhich_11 rfl (fun r2 σ1 h => ?_)
      refine Rf_goto X (tgt := 18) dX7_manyOrWhich_14 rfl ?_
      exact Rf_iret X rfl dX7_manyOrWhich_18 ⟨_, rfl, h⟩
def wj_X7_told_68 (Q : Int32 → rfS → Prop) (kb_40 : Int32 → Int32 → Int32 → Int32 → Int32 → rfS → Prop) (x1 : Int32) (x2 : Int32) (x3 : Int32) (x4 : Int32) (x5 : Int32) (xs0 : Int32) (σ : rfS) : Prop :=
  vp_in x1 7 ∧ wp_X7_knownByGroup σ x5 (fun (r9 : Int32) (σ8 : rfS) => ((¬ xs0 = 0 → kb_40 x1 x2 x3 x4 (x5 + 1) σ8) ∧ (xs0 = 0 → ((¬ (x2 &&& (((gF σ 14 (x1.toNatClampNeg)) ||| r9) ^^^ (-1))) = 0 → kb_40 x1 x2 x3 x4 (x5 + 1) σ8) ∧ ((x2 &&& (((gF σ 14 (x1.toNatClampNeg)) ||| r9) ^^^ (-1))) = 0 → wp_X7_fewer σ8 x4 x5 (fun (r11 : Int32) (σ10 : rfS) => kb_40 x1 x2 x3 r11 (x5 + 1) σ10))))))
set_option maxRecDepth 20000 in
theorem sj_X7_told_68 {E : rfE} {Q : Int32 → rfS → Prop} (X : rfX ΛC E yX7_told cX7_told 8 (some .int)) {kb_40 : Int32 → Int32 → Int32 → Int32 → Int32 → rfS → Prop} (hkb_40 : ∀ (x1 : Int32) (x2 : Int32) (x3 : Int32) (x4 : Int32) (x5 : Int32) (σ : rfS), kb_40 x1 x2 x3 x4 x5 σ → Rf ΛC 2 E 8 (qi Q) 40 [(0, .ref 0), (1, .int x1), (2, .int x2), (3, .int x3), (4, .int x4), (5, .int x5)] [] σ) (x1 : Int32) (x2 : Int32) (x3 : Int32) (x4 : Int32) (x5 : Int32) (xs0 : Int32) (σ : rfS) (h : wj_X7_told_68 Q kb_40 x1 x2 x3 x4 x5 xs0 σ) : Rf ΛC 2 E 8 (qi Q) 68 [(0, .ref 0), (1, .int x1), (2, .int x2), (3, .int x3), (4, .int x4), (5, .int x5)] [.int xs0] σ := by
  unfold wj_X7_told_68 at h
  refine Rf_istore X (i := 6) (Nat.le_of_ble_eq_true rfl) (ls2 := [(6, .int xs0), (0, .ref 0), (1, .int x1), (2, .int x2), (3, .int x3), (4, .int x4), (5, .int x5)]) rfl dX7_told_68 rfl ?_
  refine Rf_aload_n X (j := 1) rfl rfl dX7_told_70 rfl ?_
  refine Rf_get X kc7 (Nat.le_of_ble_eq_true rfl) rfl (j := 1) (Nat.le_of_ble_eq_true rfl) lf_X7_19 (v := .ref 12) rfl dX7_told_71 rfl ?_
  refine Rf_get X kc5 (Nat.le_of_ble_eq_true rfl) rfl (j := 1) (Nat.le_of_ble_eq_true rfl) lf_X7_100 (v := .ref 14) rfl dX7_told_74 rfl ?_
  refine Rf_iload_n X (j := 2) rfl rfl dX7_told_77 rfl ?_
  obtain ⟨s7, h⟩ := h
  refine Rf_iaload X (Nat.le_of_ble_eq_true rfl) rfl rfl s7 dX7_told_78 rfl (v := gF σ 14 (x1.toNatClampNeg)) rfl ?_
  refine Rf_aload_n X (j := 1) rfl rfl dX7_told_79 rfl ?_
  refine Rf_iload X (j := 6) rfl dX7_told_80 rfl ?_
  refine Rf_cVi (as := [.int x5]) (st := [.int (gF σ 14 (x1.toNatClampNeg))]) X mi_X7_knownByGroup lm_X7_196 rfl (Nat.le_of_ble_eq_true rfl) rfl (k_X7_knownByGroup h) (Nat.le_of_ble_eq_true rfl) rfl rfl (Nat.le_of_ble_eq_true rfl) dX7_told_82 rfl (fun r9 σ8 h => ?_)
  refine Rf_ior X dX7_told_85 rfl ?_
  refine Rf_istore X (i := 7) (Nat.le_of_ble_eq_true rfl) (ls2 := [(7, .int ((gF σ 14 (x1.toNatClampNeg)) ||| r9)), (6, .int xs0), (0, .ref 0), (1, .int x1), (2, .int x2), (3, .int x3), (4, .int x4), (5, .int x5)]) rfl dX7_told_86 rfl ?_
  refine Rf_iload X (j := 1) rfl dX7_told_88 rfl ?_
  refine Rf_if_ne X (tgt := 111) dX7_told_90 rfl rfl (fun c13 => ?_) (fun c13 => ?_)
  · have h := h.1 c13
    refine Rf_iinc X (i := 5) (j := 7) (v := x5 + 1) rfl rfl (Nat.le_of_ble_eq_true rfl) (ls2 := [(5, .int (x5 + 1)), (7, .int ((gF σ 14 (x1.toNatClampNeg)) ||| r9)), (6, .int xs0), (0, .ref 0), (1, .int x1), (2, .int x2), (3, .int x3), (4, .int x4)]) rfl dX7_told_111 rfl ?_
    refine Rf_goto X (tgt := 40) dX7_told_114 rfl ?_
    refine Rf_sub [3, 4, 5, 6, 7, 0] rfl ?_
    exact hkb_40 _ _ _ _ _ σ8 h
  · have h := h.2 c13
    refine Rf_iload_n X (j := 4) rfl rfl dX7_told_93 rfl ?_
    refine Rf_iload X (j := 0) rfl dX7_told_94 rfl ?_
    refine Rf_iconst X (v := (-1)) (by decide) dX7_told_96 rfl ?_
    refine Rf_ixor X dX7_told_97 rfl ?_
    refine Rf_iand X dX7_told_98 rfl ?_
    refine Rf_if_ne X (tgt := 111) dX7_told_99 rfl rfl (fun c12 => ?_) (fun c12 => ?_)
    · have h := h.1 c12
      refine Rf_iinc X (i := 5) (j := 7) (v := x5 + 1) rfl rfl (Nat.le_of_ble_eq_true rfl) (ls2 := [(5, .int (x5 + 1)), (7, .int ((gF σ 14 (x1.toNatClampNeg)) ||| r9)), (6, .int xs0), (0, .ref 0), (1, .int x1), (2, .int x2), (3, .int x3), (4, .int x4)]) rfl dX7_told_111 rfl ?_
      refine Rf_goto X (tgt := 40) dX7_told_114 rfl ?_
      refine Rf_sub [3, 4, 5, 6, 7, 0] rfl ?_
      exact hkb_40 _ _ _ _ _ σ8 h
    · have h := h.2 c12
      refine Rf_iload X (j := 6) rfl dX7_told_102 rfl ?_
      refine Rf_iload X (j := 7) rfl dX7_told_104 rfl ?_
      refine Rf_cSi (as := [.int x4, .int x5]) (st := []) X ms_X7_fewer lm_X7_199 (k_X7_fewer h) (Nat.le_of_ble_eq_true rfl) rfl rfl (Nat.le_of_ble_eq_true rfl) dX7_told_106 rfl (fun r11 σ10 h => ?_)
      refine Rf_istore X (i := 4) (Nat.le_of_ble_eq_true rfl) (ls2 := [(4, .int r11), (7, .int ((gF σ 14 (x1.toNatClampNeg)) ||| r9)), (6, .int xs0), (0, .ref 0), (1, .int x1), (2, .int x2), (3, .int x3), (5, .int x5)]) rfl dX7_told_109 rfl ?_
      refine Rf_iinc X (i := 5) (j := 7) (v := x5 + 1) rfl rfl (Nat.le_of_ble_eq_true rfl) (ls2 := [(5, .int (x5 + 1)), (4, .int r11), (7, .int ((gF σ 14 (x1.toNatClampNeg)) ||| r9)), (6, .int xs0), (0, .ref 0), (1, .int x1), (2, .int x2), (3, .int x3)]) rfl dX7_told_111 rfl ?_
      refine Rf_goto X (tgt := 40) dX7_told_114 rfl ?_
      refine Rf_sub [4, 5, 6, 7, 1, 0] rfl ?_
      exact hkb_40 _ _ _ _ _ σ10 h
def wl_X7_told_40 (Q : Int32 → rfS → Prop) (kx_117 : Int32 → Int32 → rfS → Prop) : Nat → Int32 → Int32 → Int32 → Int32 → Int32 → rfS → Prop
  | 0, _, _, _, _, _, _ => False
  | n + 1, x1, x2, x3, x4, x5, σ => (((1 <<< ((gI σ 1 0) &&& 31)) ≤ x5 → kx_117 x3 x4 σ) ∧ (¬ ((1 <<< ((gI σ 1 0) &&& 31)) ≤ x5) → ((((x5 >>> (x1 &&& 31)) &&& 1) = 0 → wj_X7_told_68 Q (wl_X7_told_40 Q kx_117 n) x1 x2 x3 x4 x5 0 σ) ∧ (¬ ((x5 >>> (x1 &&& 31)) &&& 1) = 0 → wj_X7_told_68 Q (wl_X7_told_40 Q kx_117 n) x1 x2 x3 x4 x5 1 σ))))
set_option maxRecDepth 20000 in
theorem sl_X7_told_40 {E : rfE} {Q : Int32 → rfS → Prop} (X : rfX ΛC E yX7_told cX7_told 8 (some .int)) {kx_117 : Int32 → Int32 → rfS → Prop} (hkx_117 : ∀ (x3 : Int32) (x4 : Int32) (σ : rfS), kx_117 x3 x4 σ → Rf ΛC 2 E 8 (qi Q) 117 [(3, .int x3), (4, .int x4)] [] σ) : ∀ (n : Nat) (x1 : Int32) (x2 : Int32) (x3 : Int32) (x4 : Int32) (x5 : Int32) (σ : rfS), wl_X7_told_40 Q kx_117 n x1 x2 x3 x4 x5 σ → Rf ΛC 2 E 8 (qi Q) 40 [(0, .ref 0), (1, .int x1), (2, .int x2), (3, .int x3), (4, .int x4), (5, .int x5)] [] σ := by
  intro n
  induction n with
  | zero =>
    intro x1 x2 x3 x4 x5 σ h
    exact False.elim h
  | succ n hkb_40 =>
    intro x1 x2 x3 x4 x5 σ h
    unfold wl_X7_told_40 at h
    refine Rf_iload X (j := 5) rfl dX7_told_40 rfl ?_
    refine Rf_iconst X (v := 1) rfl dX7_told_42 rfl ?_
    refine Rf_aload_n X (j := 0) rfl rfl dX7_told_43 rfl ?_
    refine Rf_get X kc7 (Nat.le_of_ble_eq_true rfl) rfl (j := 0) (Nat.le_of_ble_eq_true rfl) lf_X7_10 (v := .ref 1) rfl dX7_told_44 rfl ?_
    refine Rf_get X kc2 (Nat.le_of_ble_eq_true rfl) rfl (j := 0) (Nat.le_of_ble_eq_true rfl) lf_X7_67 (v := .int (gI σ 1 0)) rfl dX7_told_47 rfl ?_
    refine Rf_ishl X dX7_told_50 rfl ?_
    refine Rf_icmp_ge X (tgt := 117) dX7_told_51 rfl rfl (fun c15 => ?_) (fun c15 => ?_)
    · have h := h.1 c15
      refine Rf_sub [3, 4] rfl ?_
      exact hkx_117 _ _ σ h
    · have h := h.2 c15
      refine Rf_iload X (j := 5) rfl dX7_told_54 rfl ?_
      refine Rf_iload_n X (j := 1) rfl rfl dX7_told_56 rfl ?_
      refine Rf_ishr X dX7_told_57 rfl ?_
      refine Rf_iconst X (v := 1) rfl dX7_told_58 rfl ?_
      refine Rf_iand X dX7_told_59 rfl ?_
      refine Rf_if_eq X (tgt := 67) dX7_told_60 rfl rfl (fun c14 => ?_) (fun c14 => ?_)
      · have h := h.1 c14
        refine Rf_iconst X (v := 0) rfl dX7_told_67 rfl ?_
        exact sj_X7_told_68 X hkb_40 _ _ _ _ _ _ _ h
      · have h := h.2 c14
        refine Rf_iconst X (v := 1) rfl dX7_told_63 rfl ?_
        refine Rf_goto X (tgt := 68) dX7_told_64 rfl ?_
        exact sj_X7_told_68 X hkb_40 _ _ _ _ _ _ _ h
def wp_X7_told (σ : rfS) (x1 : Int32) (x2 : Int32) (x3 : Int32) (Q : Int32 → rfS → Prop) : Prop :=
  wp_X2_isOne σ x1 (fun (r2 : Int32) (σ1 : rfS) => ((r2 = 0 → Q (-1) σ1) ∧ (¬ r2 = 0 → wp_X7_isWithin σ1 x2 0 255 (fun (r4 : Int32) (σ3 : rfS) => ((r4 = 0 → Q (-1) σ3) ∧ (¬ r4 = 0 → wp_X7_isWithin σ3 x3 0 1 (fun (r6 : Int32) (σ5 : rfS) => ((¬ r6 = 0 → (∃ n16, wl_X7_told_40 Q (fun (x3_17 : Int32) (x4_18 : Int32) (σ19 : rfS) => wp_X7_manyOrWhich σ19 x4_18 x3_17 (fun (r21 : Int32) (σ20 : rfS) => Q r21 σ20)) n16 x1 x2 x3 (-2) 0 σ5)) ∧ (r6 = 0 → Q (-1) σ5)))))))))
set_option maxRecDepth 20000 in
theorem k_X7_told {σ : rfS} {x1 : Int32} {x2 : Int32} {x3 : Int32} {Q : Int32 → rfS → Prop} (h : wp_X7_told σ x1 x2 x3 Q) : RM ΛC 2 yX7_told cX7_told 8 (some .int) [.ref 0, .int x1, .int x2, .int x3] σ (qi Q) := by
  unfold wp_X7_told at h
  refine RM.intro (by decide) (Nat.le_of_ble_eq_true rfl) (fun E X => ?_)
  show Rf ΛC 2 E 8 (qi Q) 0 [(0, .ref 0), (1, .int x1), (2, .int x2), (3, .int x3)] [] σ
  refine Rf_aload_n X (j := 0) rfl rfl dX7_told_0 rfl ?_
  refine Rf_get X kc7 (Nat.le_of_ble_eq_true rfl) rfl (j := 0) (Nat.le_of_ble_eq_true rfl) lf_X7_10 (v := .ref 1) rfl dX7_told_1 rfl ?_
  refine Rf_iload_n X (j := 1) rfl rfl dX7_told_4 rfl ?_
  refine Rf_cVi (as := [.int x1]) (st := []) X mi_X2_isOne lm_X7_125 rfl (Nat.le_of_ble_eq_true rfl) rfl (k_X2_isOne h) (Nat.le_of_ble_eq_true rfl) rfl rfl (Nat.le_of_ble_eq_true rfl) dX7_told_5 rfl (fun r2 σ1 h => ?_)
  refine Rf_if_eq X (tgt := 31) dX7_told_8 rfl rfl (fun c24 => ?_) (fun c24 => ?_)
  · have h := h.1 c24
    refine Rf_iconst X (v := (-1)) (by decide) dX7_told_31 rfl ?_
    exact Rf_iret X rfl dX7_told_32 ⟨_, rfl, h⟩
  · have h := h.2 c24
    refine Rf_iload_n X (j := 2) rfl rfl dX7_told_11 rfl ?_
    refine Rf_iconst X (v := 0) rfl dX7_told_12 rfl ?_
    refine Rf_sipush X (v := 255) rfl dX7_told_13 rfl ?_
    refine Rf_cSi (as := [.int x2, .int 0, .int 255]) (st := []) X ms_X7_isWithin lm_X7_63 (k_X7_isWithin h) (Nat.le_of_ble_eq_true rfl) rfl rfl (Nat.le_of_ble_eq_true rfl) dX7_told_16 rfl (fun r4 σ3 h => ?_)
    refine Rf_if_eq X (tgt := 31) dX7_told_19 rfl rfl (fun c23 => ?_) (fun c23 => ?_)
    · have h := h.1 c23
      refine Rf_iconst X (v := (-1)) (by decide) dX7_told_31 rfl ?_
      exact Rf_iret X rfl dX7_told_32 ⟨_, rfl, h⟩
    · have h := h.2 c23
      refine Rf_iload_n X (j := 3) rfl rfl dX7_told_22 rfl ?_
      refine Rf_iconst X (v := 0) rfl dX7_told_23 rfl ?_
      refine Rf_iconst X (v := 1) rfl dX7_told_24 rfl ?_
      refine Rf_cSi (as := [.int x3, .int 0, .int 1]) (st := []) X ms_X7_isWithin lm_X7_63 (k_X7_isWithin h) (Nat.le_of_ble_eq_true rfl) rfl rfl (Nat.le_of_ble_eq_true rfl) dX7_told_25 rfl (fun r6 σ5 h => ?_)
      refine Rf_if_ne X (tgt := 33) dX7_told_28 rfl rfl (fun c22 => ?_) (fun c22 => ?_)
      · have h := h.1 c22
        refine Rf_bipush X (v := (-2)) (by decide) dX7_told_33 rfl ?_
        refine Rf_istore X (i := 4) (Nat.le_of_ble_eq_true rfl) (ls2 := [(4, .int (-2)), (0, .ref 0), (1, .int x1), (2, .int x2), (3, .int x3)]) rfl dX7_told_35 rfl ?_
        refine Rf_iconst X (v := 0) rfl dX7_told_37 rfl ?_
        refine Rf_istore X (i := 5) (Nat.le_of_ble_eq_true rfl) (ls2 := [(5, .int 0), (4, .int (-2)), (0, .ref 0), (1, .int x1), (2, .int x2), (3, .int x3)]) rfl dX7_told_38 rfl ?_
        obtain ⟨n16, h⟩ := h
        refine Rf_sub [2, 3, 4, 5, 1, 0] rfl ?_
        refine sl_X7_told_40 X (fun x3_17 x4_18 σ19 h => ?_) n16 _ _ _ _ _ _ h
        · refine Rf_iload X (j := 1) rfl dX7_told_117 rfl ?_
          refine Rf_iload_n X (j := 0) rfl rfl dX7_told_119 rfl ?_
          refine Rf_cSi (as := [.int x4_18, .int x3_17]) (st := []) X ms_X7_manyOrWhich lm_X7_202 (k_X7_manyOrWhich h) (Nat.le_of_ble_eq_true rfl) rfl rfl (Nat.le_of_ble_eq_true rfl) dX7_told_120 rfl (fun r21 σ20 h => ?_)
          exact Rf_iret X rfl dX7_told_123 ⟨_, rfl, h⟩
      · have h := h.2 c22
        refine Rf_iconst X (v := (-1)) (by decide) dX7_told_31 rfl ?_
        exact Rf_iret X rfl dX7_told_32 ⟨_, rfl, h⟩
def wl_X7_areToldApart_15 (Q : Int32 → rfS → Prop) (kx_52 : Int32 → Int32 → rfS → Prop) : Nat → Int32 → Int32 → Int32 → rfS → Prop
  | 0, _, _, _, _ => False
  | n + 1, x1, x2, x3, σ => ((x2 ≤ x3 → kx_52 x1 x2 σ) ∧ (¬ (x2 ≤ x3) → vp_in x2 7 ∧ vp_in x3 7 ∧ ((¬ (((gF σ 14 (x2.toNatClampNeg)) ^^^ (gF σ 14 (x3.toNatClampNeg))) &&& x1) = 0 → wl_X7_areToldApart_15 Q kx_52 n x1 x2 (x3 + 1) σ) ∧ ((((gF σ 14 (x2.toNatClampNeg)) ^^^ (gF σ 14 (x3.toNatClampNeg))) &&& x1) = 0 → Q 0 σ))))
set_option maxRecDepth 20000 in
theorem sl_X7_areToldApart_15 {E : rfE} {Q : Int32 → rfS → Prop} (X : rfX ΛC E yX7_areToldApart cX7_areToldApart 4 (some .boolean)) {kx_52 : Int32 → Int32 → rfS → Prop} (hkx_52 : ∀ (x1 : Int32) (x2 : Int32) (σ : rfS), kx_52 x1 x2 σ → Rf ΛC 0 E 4 (qi Q) 52 [(0, .ref 0), (1, .int x1), (2, .int x2)] [] σ) : ∀ (n : Nat) (x1 : Int32) (x2 : Int32) (x3 : Int32) (σ : rfS), wl_X7_areToldApart_15 Q kx_52 n x1 x2 x3 σ → Rf ΛC 0 E 4 (qi Q) 15 [(0, .ref 0), (1, .int x1), (2, .int x2), (3, .int x3)] [] σ := by
  intro n
  induction n with
  | zero =>
    intro x1 x2 x3 σ h
    exact False.elim h
  | succ n hkb_15 =>
    intro x1 x2 x3 σ h
    unfold wl_X7_areToldApart_15 at h
    refine Rf_iload_n X (j := 3) rfl rfl dX7_areToldApart_15 rfl ?_
    refine Rf_iload_n X (j := 2) rfl rfl dX7_areToldApart_16 rfl ?_
    refine Rf_icmp_ge X (tgt := 52) dX7_areToldApart_17 rfl rfl (fun c4 => ?_) (fun c4 => ?_)
    · have h := h.1 c4
      refine Rf_sub [0, 1, 2] rfl ?_
      exact hkx_52 _ _ σ h
    · have h := h.2 c4
      refine Rf_aload_n X (j := 0) rfl rfl dX7_areToldApart_20 rfl ?_
      refine Rf_get X kc7 (Nat.le_of_ble_eq_true rfl) rfl (j := 1) (Nat.le_of_ble_eq_true rfl) lf_X7_19 (v := .ref 12) rfl dX7_areToldApart_21 rfl ?_
      refine Rf_get X kc5 (Nat.le_of_ble_eq_true rfl) rfl (j := 1) (Nat.le_of_ble_eq_true rfl) lf_X7_100 (v := .ref 14) rfl dX7_areToldApart_24 rfl ?_
      refine Rf_iload_n X (j := 2) rfl rfl dX7_areToldApart_27 rfl ?_
      obtain ⟨s1, h⟩ := h
      refine Rf_iaload X (Nat.le_of_ble_eq_true rfl) rfl rfl s1 dX7_areToldApart_28 rfl (v := gF σ 14 (x2.toNatClampNeg)) rfl ?_
      refine Rf_aload_n X (j := 0) rfl rfl dX7_areToldApart_29 rfl ?_
      refine Rf_get X kc7 (Nat.le_of_ble_eq_true rfl) rfl (j := 1) (Nat.le_of_ble_eq_true rfl) lf_X7_19 (v := .ref 12) rfl dX7_areToldApart_30 rfl ?_
      refine Rf_get X kc5 (Nat.le_of_ble_eq_true rfl) rfl (j := 1) (Nat.le_of_ble_eq_true rfl) lf_X7_100 (v := .ref 14) rfl dX7_areToldApart_33 rfl ?_
      refine Rf_iload_n X (j := 3) rfl rfl dX7_areToldApart_36 rfl ?_
      obtain ⟨s2, h⟩ := h
      refine Rf_iaload X (Nat.le_of_ble_eq_true rfl) rfl rfl s2 dX7_areToldApart_37 rfl (v := gF σ 14 (x3.toNatClampNeg)) rfl ?_
      refine Rf_ixor X dX7_areToldApart_38 rfl ?_
      refine Rf_iload_n X (j := 1) rfl rfl dX7_areToldApart_39 rfl ?_
      refine Rf_iand X dX7_areToldApart_40 rfl ?_
      refine Rf_if_ne X (tgt := 46) dX7_areToldApart_41 rfl rfl (fun c3 => ?_) (fun c3 => ?_)
      · have h := h.1 c3
        refine Rf_iinc X (i := 3) (j := 3) (v := x3 + 1) rfl rfl (Nat.le_of_ble_eq_true rfl) (ls2 := [(3, .int (x3 + 1)), (0, .ref 0), (1, .int x1), (2, .int x2)]) rfl dX7_areToldApart_46 rfl ?_
        refine Rf_goto X (tgt := 15) dX7_areToldApart_49 rfl ?_
        refine Rf_sub [1, 2, 3, 0] rfl ?_
        exact hkb_15 _ _ _ σ h
      · have h := h.2 c3
        refine Rf_iconst X (v := 0) rfl dX7_areToldApart_44 rfl ?_
        exact Rf_iret X rfl dX7_areToldApart_45 ⟨_, rfl, h⟩
def wl_X7_areToldApart_2 (Q : Int32 → rfS → Prop) : Nat → Int32 → Int32 → rfS → Prop
  | 0, _, _, _ => False
  | n + 1, x1, x2, σ => (((gI σ 1 0) ≤ x2 → Q 1 σ) ∧ (¬ ((gI σ 1 0) ≤ x2) → (∃ n5, wl_X7_areToldApart_15 Q (fun (x1_6 : Int32) (x2_7 : Int32) (σ8 : rfS) => wl_X7_areToldApart_2 Q n x1_6 (x2_7 + 1) σ8) n5 x1 x2 0 σ)))
set_option maxRecDepth 20000 in
theorem sl_X7_areToldApart_2 {E : rfE} {Q : Int32 → rfS → Prop} (X : rfX ΛC E yX7_areToldApart cX7_areToldApart 4 (some .boolean)) : ∀ (n : Nat) (x1 : Int32) (x2 : Int32) (σ : rfS), wl_X7_areToldApart_2 Q n x1 x2 σ → Rf ΛC 0 E 4 (qi Q) 2 [(0, .ref 0), (1, .int x1), (2, .int x2)] [] σ := by
  intro n
  induction n with
  | zero =>
    intro x1 x2 σ h
    exact False.elim h
  | succ n hkb_2 =>
    intro x1 x2 σ h
    unfold wl_X7_areToldApart_2 at h
    refine Rf_iload_n X (j := 2) rfl rfl dX7_areToldApart_2 rfl ?_
    refine Rf_aload_n X (j := 0) rfl rfl dX7_areToldApart_3 rfl ?_
    refine Rf_get X kc7 (Nat.le_of_ble_eq_true rfl) rfl (j := 0) (Nat.le_of_ble_eq_true rfl) lf_X7_10 (v := .ref 1) rfl dX7_areToldApart_4 rfl ?_
    refine Rf_get X kc2 (Nat.le_of_ble_eq_true rfl) rfl (j := 0) (Nat.le_of_ble_eq_true rfl) lf_X7_67 (v := .int (gI σ 1 0)) rfl dX7_areToldApart_7 rfl ?_
    refine Rf_icmp_ge X (tgt := 58) dX7_areToldApart_10 rfl rfl (fun c9 => ?_) (fun c9 => ?_)
    · have h := h.1 c9
      refine Rf_iconst X (v := 1) rfl dX7_areToldApart_58 rfl ?_
      exact Rf_iret X rfl dX7_areToldApart_59 ⟨_, rfl, h⟩
    · have h := h.2 c9
      refine Rf_iconst X (v := 0) rfl dX7_areToldApart_13 rfl ?_
      refine Rf_istore_n X rfl (i := 3) (Nat.le_of_ble_eq_true rfl) (ls2 := [(3, .int 0), (0, .ref 0), (1, .int x1), (2, .int x2)]) rfl dX7_areToldApart_14 rfl ?_
      obtain ⟨n5, h⟩ := h
      refine Rf_sub [1, 2, 3, 0] rfl ?_
      refine sl_X7_areToldApart_15 X (fun x1_6 x2_7 σ8 h => ?_) n5 _ _ _ _ h
      · refine Rf_iinc X (i := 2) (j := 2) (v := x2_7 + 1) rfl rfl (Nat.le_of_ble_eq_true rfl) (ls2 := [(2, .int (x2_7 + 1)), (0, .ref 0), (1, .int x1_6)]) rfl dX7_areToldApart_52 rfl ?_
        refine Rf_goto X (tgt := 2) dX7_areToldApart_55 rfl ?_
        refine Rf_sub [1, 2, 0] rfl ?_
        exact hkb_2 _ _ σ8 h
def wp_X7_areToldApart (σ : rfS) (x1 : Int32) (Q : Int32 → rfS → Prop) : Prop :=
  (∃ n10, wl_X7_areToldApart_2 Q n10 x1 0 σ)
set_option maxRecDepth 20000 in
theorem k_X7_areToldApart {σ : rfS} {x1 : Int32} {Q : Int32 → rfS → Prop} (h : wp_X7_areToldApart σ x1 Q) : RM ΛC 0 yX7_areToldApart cX7_areToldApart 4 (some .boolean) [.ref 0, .int x1] σ (qi Q) := by
  unfold wp_X7_areToldApart at h
  refine RM.intro (by decide) (Nat.le_of_ble_eq_true rfl) (fun E X => ?_)
  show Rf ΛC 0 E 4 (qi Q) 0 [(0, .ref 0), (1, .int x1)] [] σ
  refine Rf_iconst X (v := 0) rfl dX7_areToldApart_0 rfl ?_
  refine Rf_istore_n X rfl (i := 2) (Nat.le_of_ble_eq_true rfl) (ls2 := [(2, .int 0), (0, .ref 0), (1, .int x1)]) rfl dX7_areToldApart_1 rfl ?_
  obtain ⟨n10, h⟩ := h
  refine Rf_sub [1, 2, 0] rfl ?_
  exact sl_X7_areToldApart_2 X n10 _ _ _ h
def wl_X7_fewestApart_5 (Q : Int32 → rfS → Prop) : Nat → Int32 → Int32 → rfS → Prop
  | 0, _, _, _ => False
  | n + 1, x1, x2, σ => ((256 ≤ x2 → Q x1 σ) ∧ (¬ (256 ≤ x2) → wp_X7_areToldApart σ x2 (fun (r2 : Int32) (σ1 : rfS) => ((r2 = 0 → wl_X7_fewestApart_5 Q n x1 (x2 + 1) σ1) ∧ (¬ r2 = 0 → wp_X7_fewer σ1 x1 x2 (fun (r4 : Int32) (σ3 : rfS) => wl_X7_fewestApart_5 Q n r4 (x2 + 1) σ3))))))
set_option maxRecDepth 20000 in
theorem sl_X7_fewestApart_5 {E : rfE} {Q : Int32 → rfS → Prop} (X : rfX ΛC E yX7_fewestApart cX7_fewestApart 3 (some .int)) : ∀ (n : Nat) (x1 : Int32) (x2 : Int32) (σ : rfS), wl_X7_fewestApart_5 Q n x1 x2 σ → Rf ΛC 2 E 3 (qi Q) 5 [(0, .ref 0), (1, .int x1), (2, .int x2)] [] σ := by
  intro n
  induction n with
  | zero =>
    intro x1 x2 σ h
    exact False.elim h
  | succ n hkb_5 =>
    intro x1 x2 σ h
    unfold wl_X7_fewestApart_5 at h
    refine Rf_iload_n X (j := 2) rfl rfl dX7_fewestApart_5 rfl ?_
    refine Rf_sipush X (v := 256) rfl dX7_fewestApart_6 rfl ?_
    refine Rf_icmp_ge X (tgt := 32) dX7_fewestApart_9 rfl rfl (fun c6 => ?_) (fun c6 => ?_)
    · have h := h.1 c6
      refine Rf_iload_n X (j := 1) rfl rfl dX7_fewestApart_32 rfl ?_
      exact Rf_iret X rfl dX7_fewestApart_33 ⟨_, rfl, h⟩
    · have h := h.2 c6
      refine Rf_aload_n X (j := 0) rfl rfl dX7_fewestApart_12 rfl ?_
      refine Rf_iload_n X (j := 2) rfl rfl dX7_fewestApart_13 rfl ?_
      refine Rf_cVi (as := [.int x2]) (st := []) X mi_X7_areToldApart lm_X7_211 rfl (Nat.le_of_ble_eq_true rfl) rfl (k_X7_areToldApart h) (Nat.le_of_ble_eq_true rfl) rfl rfl (Nat.le_of_ble_eq_true rfl) dX7_fewestApart_14 rfl (fun r2 σ1 h => ?_)
      refine Rf_if_eq X (tgt := 26) dX7_fewestApart_17 rfl rfl (fun c5 => ?_) (fun c5 => ?_)
      · have h := h.1 c5
        refine Rf_iinc X (i := 2) (j := 2) (v := x2 + 1) rfl rfl (Nat.le_of_ble_eq_true rfl) (ls2 := [(2, .int (x2 + 1)), (0, .ref 0), (1, .int x1)]) rfl dX7_fewestApart_26 rfl ?_
        refine Rf_goto X (tgt := 5) dX7_fewestApart_29 rfl ?_
        refine Rf_sub [1, 2, 0] rfl ?_
        exact hkb_5 _ _ σ1 h
      · have h := h.2 c5
        refine Rf_iload_n X (j := 1) rfl rfl dX7_fewestApart_20 rfl ?_
        refine Rf_iload_n X (j := 2) rfl rfl dX7_fewestApart_21 rfl ?_
        refine Rf_cSi (as := [.int x1, .int x2]) (st := []) X ms_X7_fewer lm_X7_199 (k_X7_fewer h) (Nat.le_of_ble_eq_true rfl) rfl rfl (Nat.le_of_ble_eq_true rfl) dX7_fewestApart_22 rfl (fun r4 σ3 h => ?_)
        refine Rf_istore_n X rfl (i := 1) (Nat.le_of_ble_eq_true rfl) (ls2 := [(1, .int r4), (0, .ref 0), (2, .int x2)]) rfl dX7_fewestApart_25 rfl ?_
        refine Rf_iinc X (i := 2) (j := 2) (v := x2 + 1) rfl rfl (Nat.le_of_ble_eq_true rfl) (ls2 := [(2, .int (x2 + 1)), (1, .int r4), (0, .ref 0)]) rfl dX7_fewestApart_26 rfl ?_
        refine Rf_goto X (tgt := 5) dX7_fewestApart_29 rfl ?_
        refine Rf_sub [2, 1, 0] rfl ?_
        exact hkb_5 _ _ σ3 h
def wp_X7_fewestApart (σ : rfS) (Q : Int32 → rfS → Prop) : Prop :=
  (∃ n7, wl_X7_fewestApart_5 Q n7 (-2) 0 σ)
set_option maxRecDepth 20000 in
theorem k_X7_fewestApart {σ : rfS} {Q : Int32 → rfS → Prop} (h : wp_X7_fewestApart σ Q) : RM ΛC 2 yX7_fewestApart cX7_fewestApart 3 (some .int) [.ref 0] σ (qi Q) := by
  unfold wp_X7_fewestApart at h
  refine RM.intro (by decide) (Nat.le_of_ble_eq_true rfl) (fun E X => ?_)
  show Rf ΛC 2 E 3 (qi Q) 0 [(0, .ref 0)] [] σ
  refine Rf_bipush X (v := (-2)) (by decide) dX7_fewestApart_0 rfl ?_
  refine Rf_istore_n X rfl (i := 1) (Nat.le_of_ble_eq_true rfl) (ls2 := [(1, .int (-2)), (0, .ref 0)]) rfl dX7_fewestApart_2 rfl ?_
  refine Rf_iconst X (v := 0) rfl dX7_fewestApart_3 rfl ?_
  refine Rf_istore_n X rfl (i := 2) (Nat.le_of_ble_eq_true rfl) (ls2 := [(2, .int 0), (1, .int (-2)), (0, .ref 0)]) rfl dX7_fewestApart_4 rfl ?_
  obtain ⟨n7, h⟩ := h
  refine Rf_sub [2, 1, 0] rfl ?_
  exact sl_X7_fewestApart_5 X n7 _ _ _ h
def wl_X7_knownByAll_6 (Q : Int32 → rfS → Prop) : Nat → Int32 → Int32 → rfS → Prop
  | 0, _, _, _ => False
  | n + 1, x1, x2, σ => (((gI σ 1 0) ≤ x2 → Q x1 σ) ∧ (¬ ((gI σ 1 0) ≤ x2) → vp_in x2 7 ∧ (wl_X7_knownByAll_6 Q n (x1 &&& (gF σ 14 (x2.toNatClampNeg))) (x2 + 1) σ)))
set_option maxRecDepth 20000 in
theorem sl_X7_knownByAll_6 {E : rfE} {Q : Int32 → rfS → Prop} (X : rfX ΛC E yX7_knownByAll cX7_knownByAll 3 (some .int)) : ∀ (n : Nat) (x1 : Int32) (x2 : Int32) (σ : rfS), wl_X7_knownByAll_6 Q n x1 x2 σ → Rf ΛC 0 E 3 (qi Q) 6 [(0, .ref 0), (1, .int x1), (2, .int x2)] [] σ := by
  intro n
  induction n with
  | zero =>
    intro x1 x2 σ h
    exact False.elim h
  | succ n hkb_6 =>
    intro x1 x2 σ h
    unfold wl_X7_knownByAll_6 at h
    refine Rf_iload_n X (j := 2) rfl rfl dX7_knownByAll_6 rfl ?_
    refine Rf_aload_n X (j := 0) rfl rfl dX7_knownByAll_7 rfl ?_
    refine Rf_get X kc7 (Nat.le_of_ble_eq_true rfl) rfl (j := 0) (Nat.le_of_ble_eq_true rfl) lf_X7_10 (v := .ref 1) rfl dX7_knownByAll_8 rfl ?_
    refine Rf_get X kc2 (Nat.le_of_ble_eq_true rfl) rfl (j := 0) (Nat.le_of_ble_eq_true rfl) lf_X7_67 (v := .int (gI σ 1 0)) rfl dX7_knownByAll_11 rfl ?_
    refine Rf_icmp_ge X (tgt := 35) dX7_knownByAll_14 rfl rfl (fun c2 => ?_) (fun c2 => ?_)
    · have h := h.1 c2
      refine Rf_iload_n X (j := 1) rfl rfl dX7_knownByAll_35 rfl ?_
      exact Rf_iret X rfl dX7_knownByAll_36 ⟨_, rfl, h⟩
    · have h := h.2 c2
      refine Rf_iload_n X (j := 1) rfl rfl dX7_knownByAll_17 rfl ?_
      refine Rf_aload_n X (j := 0) rfl rfl dX7_knownByAll_18 rfl ?_
      refine Rf_get X kc7 (Nat.le_of_ble_eq_true rfl) rfl (j := 1) (Nat.le_of_ble_eq_true rfl) lf_X7_19 (v := .ref 12) rfl dX7_knownByAll_19 rfl ?_
      refine Rf_get X kc5 (Nat.le_of_ble_eq_true rfl) rfl (j := 1) (Nat.le_of_ble_eq_true rfl) lf_X7_100 (v := .ref 14) rfl dX7_knownByAll_22 rfl ?_
      refine Rf_iload_n X (j := 2) rfl rfl dX7_knownByAll_25 rfl ?_
      obtain ⟨s1, h⟩ := h
      refine Rf_iaload X (Nat.le_of_ble_eq_true rfl) rfl rfl s1 dX7_knownByAll_26 rfl (v := gF σ 14 (x2.toNatClampNeg)) rfl ?_
      refine Rf_iand X dX7_knownByAll_27 rfl ?_
      refine Rf_istore_n X rfl (i := 1) (Nat.le_of_ble_eq_true rfl) (ls2 := [(1, .int (x1 &&& (gF σ 14 (x2.toNatClampNeg)))), (0, .ref 0), (2, .int x2)]) rfl dX7_knownByAll_28 rfl ?_
      refine Rf_iinc X (i := 2) (j := 2) (v := x2 + 1) rfl rfl (Nat.le_of_ble_eq_true rfl) (ls2 := [(2, .int (x2 + 1)), (1, .int (x1 &&& (gF σ 14 (x2.toNatClampNeg)))), (0, .ref 0)]) rfl dX7_knownByAll_29 rfl ?_
      refine Rf_goto X (tgt := 6) dX7_knownByAll_32 rfl ?_
      refine Rf_sub [2, 1, 0] rfl ?_
      exact hkb_6 _ _ σ h
def wp_X7_knownByAll (σ : rfS) (Q : Int32 → rfS → Prop) : Prop :=
  (∃ n3, wl_X7_knownByAll_6 Q n3 255 0 σ)
set_option maxRecDepth 20000 in
theorem k_X7_knownByAll {σ : rfS} {Q : Int32 → rfS → Prop} (h : wp_X7_knownByAll σ Q) : RM ΛC 0 yX7_knownByAll cX7_knownByAll 3 (some .int) [.ref 0] σ (qi Q) := by
  unfold wp_X7_knownByAll at h
  refine RM.intro (by decide) (Nat.le_of_ble_eq_true rfl) (fun E X => ?_)
  show Rf ΛC 0 E 3 (qi Q) 0 [(0, .ref 0)] [] σ
  refine Rf_sipush X (v := 255) rfl dX7_knownByAll_0 rfl ?_
  refine Rf_istore_n X rfl (i := 1) (Nat.le_of_ble_eq_true rfl) (ls2 := [(1, .int 255), (0, .ref 0)]) rfl dX7_knownByAll_3 rfl ?_
  refine Rf_iconst X (v := 0) rfl dX7_knownByAll_4 rfl ?_
  refine Rf_istore_n X rfl (i := 2) (Nat.le_of_ble_eq_true rfl) (ls2 := [(2, .int 0), (1, .int 255), (0, .ref 0)]) rfl dX7_knownByAll_5 rfl ?_
  obtain ⟨n3, h⟩ := h
  refine Rf_sub [2, 1, 0] rfl ?_
  exact sl_X7_knownByAll_6 X n3 _ _ _ h
def wp_X7_apart (σ : rfS) (x1 : Int32) (Q : Int32 → rfS → Prop) : Prop :=
  ((x1 = 0 → wp_X7_fewestApart σ (fun (r3 : Int32) (σ2 : rfS) => wp_X7_manyOrWhich σ2 r3 x1 (fun (r5 : Int32) (σ4 : rfS) => Q r5 σ4))) ∧ (¬ x1 = 0 → ((x1 = 1 → wp_X7_fewestApart σ (fun (r8 : Int32) (σ7 : rfS) => wp_X7_manyOrWhich σ7 r8 x1 (fun (r10 : Int32) (σ9 : rfS) => Q r10 σ9))) ∧ (¬ x1 = 1 → ((x1 = 2 → wp_X7_knownByAll σ (fun (r13 : Int32) (σ12 : rfS) => Q r13 σ12)) ∧ (¬ x1 = 2 → ((x1 = 3 → wp_X7_knownByGroup σ ((1 <<< ((gI σ 1 0) &&& 31)) - 1) (fun (r16 : Int32) (σ15 : rfS) => Q r16 σ15)) ∧ (¬ x1 = 3 → Q (-1) σ))))))))
set_option maxRecDepth 20000 in
theorem k_X7_apart {σ : rfS} {x1 : Int32} {Q : Int32 → rfS → Prop} (h : wp_X7_apart σ x1 Q) : RM ΛC 3 yX7_apart cX7_apart 2 (some .int) [.ref 0, .int x1] σ (qi Q) := by
  unfold wp_X7_apart at h
  refine RM.intro (by decide) (Nat.le_of_ble_eq_true rfl) (fun E X => ?_)
  show Rf ΛC 3 E 2 (qi Q) 0 [(0, .ref 0), (1, .int x1)] [] σ
  refine Rf_iload_n X (j := 1) rfl rfl dX7_apart_0 rfl ?_
  refine Rf_tsw X (dt := 62) [(0, 32), (1, 32), (2, 41), (3, 46)] dX7_apart_1 rfl (by decide +kernel) (by decide +kernel) (by decide +kernel) ?_
  refine And.intro (fun c1 => ?_) (fun c1 => ?_)
  · have h := h.1 c1
    refine Rf_aload_n X (j := 0) rfl rfl dX7_apart_32 rfl ?_
    refine Rf_cVi (as := []) (st := []) X mi_X7_fewestApart lm_X7_205 rfl (Nat.le_of_ble_eq_true rfl) rfl (k_X7_fewestApart h) (Nat.le_of_ble_eq_true rfl) rfl rfl (Nat.le_of_ble_eq_true rfl) dX7_apart_33 rfl (fun r3 σ2 h => ?_)
    refine Rf_iload_n X (j := 1) rfl rfl dX7_apart_36 rfl ?_
    refine Rf_cSi (as := [.int r3, .int x1]) (st := []) X ms_X7_manyOrWhich lm_X7_202 (k_X7_manyOrWhich h) (Nat.le_of_ble_eq_true rfl) rfl rfl (Nat.le_of_ble_eq_true rfl) dX7_apart_37 rfl (fun r5 σ4 h => ?_)
    exact Rf_iret X rfl dX7_apart_40 ⟨_, rfl, h⟩
  · have h := h.2 c1
    refine And.intro (fun c6 => ?_) (fun c6 => ?_)
    · have h := h.1 c6
      refine Rf_aload_n X (j := 0) rfl rfl dX7_apart_32 rfl ?_
      refine Rf_cVi (as := []) (st := []) X mi_X7_fewestApart lm_X7_205 rfl (Nat.le_of_ble_eq_true rfl) rfl (k_X7_fewestApart h) (Nat.le_of_ble_eq_true rfl) rfl rfl (Nat.le_of_ble_eq_true rfl) dX7_apart_33 rfl (fun r8 σ7 h => ?_)
      refine Rf_iload_n X (j := 1) rfl rfl dX7_apart_36 rfl ?_
      refine Rf_cSi (as := [.int r8, .int x1]) (st := []) X ms_X7_manyOrWhich lm_X7_202 (k_X7_manyOrWhich h) (Nat.le_of_ble_eq_true rfl) rfl rfl (Nat.le_of_ble_eq_true rfl) dX7_apart_37 rfl (fun r10 σ9 h => ?_)
      exact Rf_iret X rfl dX7_apart_40 ⟨_, rfl, h⟩
    · have h := h.2 c6
      refine And.intro (fun c11 => ?_) (fun c11 => ?_)
      · have h := h.1 c11
        refine Rf_aload_n X (j := 0) rfl rfl dX7_apart_41 rfl ?_
        refine Rf_cVi (as := []) (st := []) X mi_X7_knownByAll lm_X7_208 rfl (Nat.le_of_ble_eq_true rfl) rfl (k_X7_knownByAll h) (Nat.le_of_ble_eq_true rfl) rfl rfl (Nat.le_of_ble_eq_true rfl) dX7_apart_42 rfl (fun r13 σ12 h => ?_)
        exact Rf_iret X rfl dX7_apart_45 ⟨_, rfl, h⟩
      · have h := h.2 c11
        refine And.intro (fun c14 => ?_) (fun c14 => ?_)
        · have h := h.1 c14
          refine Rf_aload_n X (j := 0) rfl rfl dX7_apart_46 rfl ?_
          refine Rf_iconst X (v := 1) rfl dX7_apart_47 rfl ?_
          refine Rf_aload_n X (j := 0) rfl rfl dX7_apart_48 rfl ?_
          refine Rf_get X kc7 (Nat.le_of_ble_eq_true rfl) rfl (j := 0) (Nat.le_of_ble_eq_true rfl) lf_X7_10 (v := .ref 1) rfl dX7_apart_49 rfl ?_
          refine Rf_get X kc2 (Nat.le_of_ble_eq_true rfl) rfl (j := 0) (Nat.le_of_ble_eq_true rfl) lf_X7_67 (v := .int (gI σ 1 0)) rfl dX7_apart_52 rfl ?_
          refine Rf_ishl X dX7_apart_55 rfl ?_
          refine Rf_iconst X (v := 1) rfl dX7_apart_56 rfl ?_
          refine Rf_isub X dX7_apart_57 rfl ?_
          refine Rf_cVi (as := [.int ((1 <<< ((gI σ 1 0) &&& 31)) - 1)]) (st := []) X mi_X7_knownByGroup lm_X7_196 rfl (Nat.le_of_ble_eq_true rfl) rfl (k_X7_knownByGroup h) (Nat.le_of_ble_eq_true rfl) rfl rfl (Nat.le_of_ble_eq_true rfl) dX7_apart_58 rfl (fun r16 σ15 h => ?_)
          exact Rf_iret X rfl dX7_apart_61 ⟨_, rfl, h⟩
        · have h := h.2 c14
          show Rf ΛC 3 E 2 (qi Q) 62 [(0, .ref 0), (1, .int x1)] [] σ
          refine Rf_iconst X (v := (-1)) (by decide) dX7_apart_62 rfl ?_
          exact Rf_iret X rfl dX7_apart_63 ⟨_, rfl, h⟩
def wp_X7_week (σ : rfS) (x1 : Int32) (Q : Int32 → rfS → Prop) : Prop :=
  wp_X7_isWithin σ x1 (-1) 6 (fun (r2 : Int32) (σ1 : rfS) => ((r2 = 0 → Q (-1) σ1) ∧ (¬ r2 = 0 → wp_X6_dealt σ1 x1 (fun (r4 : Int32) (σ3 : rfS) => Q r4 σ3))))
set_option maxRecDepth 20000 in
theorem k_X7_week {σ : rfS} {x1 : Int32} {Q : Int32 → rfS → Prop} (h : wp_X7_week σ x1 Q) : RM ΛC 4 yX7_week cX7_week 2 (some .int) [.ref 0, .int x1] σ (qi Q) := by
  unfold wp_X7_week at h
  refine RM.intro (by decide) (Nat.le_of_ble_eq_true rfl) (fun E X => ?_)
  show Rf ΛC 4 E 2 (qi Q) 0 [(0, .ref 0), (1, .int x1)] [] σ
  refine Rf_iload_n X (j := 1) rfl rfl dX7_week_0 rfl ?_
  refine Rf_iconst X (v := (-1)) (by decide) dX7_week_1 rfl ?_
  refine Rf_bipush X (v := 6) rfl dX7_week_2 rfl ?_
  refine Rf_cSi (as := [.int x1, .int (-1), .int 6]) (st := []) X ms_X7_isWithin lm_X7_63 (k_X7_isWithin h) (Nat.le_of_ble_eq_true rfl) rfl rfl (Nat.le_of_ble_eq_true rfl) dX7_week_4 rfl (fun r2 σ1 h => ?_)
  refine Rf_if_eq X (tgt := 21) dX7_week_7 rfl rfl (fun c5 => ?_) (fun c5 => ?_)
  · have h := h.1 c5
    refine Rf_iconst X (v := (-1)) (by decide) dX7_week_21 rfl ?_
    exact Rf_iret X rfl dX7_week_22 ⟨_, rfl, h⟩
  · have h := h.2 c5
    refine Rf_aload_n X (j := 0) rfl rfl dX7_week_10 rfl ?_
    refine Rf_get X kc7 (Nat.le_of_ble_eq_true rfl) rfl (j := 7) (Nat.le_of_ble_eq_true rfl) lf_X7_38 (v := .ref 20) rfl dX7_week_11 rfl ?_
    refine Rf_iload_n X (j := 1) rfl rfl dX7_week_14 rfl ?_
    refine Rf_cVi (as := [.int x1]) (st := []) X mi_X6_dealt lm_X7_219 rfl (Nat.le_of_ble_eq_true rfl) rfl (k_X6_dealt h) (Nat.le_of_ble_eq_true rfl) rfl rfl (Nat.le_of_ble_eq_true rfl) dX7_week_15 rfl (fun r4 σ3 h => ?_)
    refine Rf_goto X (tgt := 22) dX7_week_18 rfl ?_
    exact Rf_iret X rfl dX7_week_22 ⟨_, rfl, h⟩
def wp_X7_firstOut (σ : rfS) (Q : Int32 → rfS → Prop) : Prop :=
  Q (if 2 < (gI σ 1 0) then 2 else (gI σ 1 0)) σ
set_option maxRecDepth 20000 in
theorem k_X7_firstOut {σ : rfS} {Q : Int32 → rfS → Prop} (h : wp_X7_firstOut σ Q) : RM ΛC 1 yX7_firstOut cX7_firstOut 1 (some .int) [.ref 0] σ (qi Q) := by
  unfold wp_X7_firstOut at h
  refine RM.intro (by decide) (Nat.le_of_ble_eq_true rfl) (fun E X => ?_)
  show Rf ΛC 1 E 1 (qi Q) 0 [(0, .ref 0)] [] σ
  refine Rf_aload_n X (j := 0) rfl rfl dX7_firstOut_0 rfl ?_
  refine Rf_get X kc7 (Nat.le_of_ble_eq_true rfl) rfl (j := 0) (Nat.le_of_ble_eq_true rfl) lf_X7_10 (v := .ref 1) rfl dX7_firstOut_1 rfl ?_
  refine Rf_get X kc2 (Nat.le_of_ble_eq_true rfl) rfl (j := 0) (Nat.le_of_ble_eq_true rfl) lf_X7_67 (v := .int (gI σ 1 0)) rfl dX7_firstOut_4 rfl ?_
  refine Rf_iconst X (v := 2) rfl dX7_firstOut_7 rfl ?_
  refine Rf_min X lm_X7_228 mm_min.1 mm_min.2.1 mm_min.2.2 (Nat.le_of_ble_eq_true rfl) (Nat.le_of_ble_eq_true rfl) dX7_firstOut_8 rfl ?_
  exact Rf_iret X rfl dX7_firstOut_11 ⟨_, rfl, h⟩
def wp_X7_fire (σ : rfS) (x1 : Int32) (Q : Int32 → rfS → Prop) : Prop :=
  ((x1 = 0 → wp_X6_minutesOut σ (fun (r3 : Int32) (σ2 : rfS) => Q r3 σ2)) ∧ (¬ x1 = 0 → ((x1 = 1 → wp_X7_firstOut σ (fun (r6 : Int32) (σ5 : rfS) => Q r6 σ5)) ∧ (¬ x1 = 1 → Q (-1) σ))))
set_option maxRecDepth 20000 in
theorem k_X7_fire {σ : rfS} {x1 : Int32} {Q : Int32 → rfS → Prop} (h : wp_X7_fire σ x1 Q) : RM ΛC 2 yX7_fire cX7_fire 2 (some .int) [.ref 0, .int x1] σ (qi Q) := by
  unfold wp_X7_fire at h
  refine RM.intro (by decide) (Nat.le_of_ble_eq_true rfl) (fun E X => ?_)
  show Rf ΛC 2 E 2 (qi Q) 0 [(0, .ref 0), (1, .int x1)] [] σ
  refine Rf_iload_n X (j := 1) rfl rfl dX7_fire_0 rfl ?_
  refine Rf_lsw X (dt := 41) [(0, 28), (1, 36)] dX7_fire_1 (by decide +kernel) rfl (by decide +kernel) ?_
  refine And.intro (fun c1 => ?_) (fun c1 => ?_)
  · have h := h.1 c1
    refine Rf_aload_n X (j := 0) rfl rfl dX7_fire_28 rfl ?_
    refine Rf_get X kc7 (Nat.le_of_ble_eq_true rfl) rfl (j := 7) (Nat.le_of_ble_eq_true rfl) lf_X7_38 (v := .ref 20) rfl dX7_fire_29 rfl ?_
    refine Rf_cVi (as := []) (st := []) X mi_X6_minutesOut lm_X7_222 rfl (Nat.le_of_ble_eq_true rfl) rfl (k_X6_minutesOut h) (Nat.le_of_ble_eq_true rfl) rfl rfl (Nat.le_of_ble_eq_true rfl) dX7_fire_32 rfl (fun r3 σ2 h => ?_)
    exact Rf_iret X rfl dX7_fire_35 ⟨_, rfl, h⟩
  · have h := h.2 c1
    refine And.intro (fun c4 => ?_) (fun c4 => ?_)
    · have h := h.1 c4
      refine Rf_aload_n X (j := 0) rfl rfl dX7_fire_36 rfl ?_
      refine Rf_cVi (as := []) (st := []) X mi_X7_firstOut lm_X7_225 rfl (Nat.le_of_ble_eq_true rfl) rfl (k_X7_firstOut h) (Nat.le_of_ble_eq_true rfl) rfl rfl (Nat.le_of_ble_eq_true rfl) dX7_fire_37 rfl (fun r6 σ5 h => ?_)
      exact Rf_iret X rfl dX7_fire_40 ⟨_, rfl, h⟩
    · have h := h.2 c4
      show Rf ΛC 2 E 2 (qi Q) 41 [(0, .ref 0), (1, .int x1)] [] σ
      refine Rf_iconst X (v := (-1)) (by decide) dX7_fire_41 rfl ?_
      exact Rf_iret X rfl dX7_fire_42 ⟨_, rfl, h⟩
def wp_X7_areShelves (σ : rfS) (x1 : Int32) (Q : Int32 → rfS → Prop) : Prop :=
  ((x1 < 0 → Q 0 σ) ∧ (¬ (x1 < 0) → wp_X7_isShelf σ (x1 / 10) (fun (r2 : Int32) (σ1 : rfS) => ((r2 = 0 → Q 0 σ1) ∧ (¬ r2 = 0 → wp_X7_isShelf σ1 (x1 - x1 / 10 * 10) (fun (r4 : Int32) (σ3 : rfS) => ((r4 = 0 → Q 0 σ3) ∧ (¬ r4 = 0 → Q 1 σ3))))))))
set_option maxRecDepth 20000 in
theorem k_X7_areShelves {σ : rfS} {x1 : Int32} {Q : Int32 → rfS → Prop} (h : wp_X7_areShelves σ x1 Q) : RM ΛC 2 yX7_areShelves cX7_areShelves 2 (some .boolean) [.ref 0, .int x1] σ (qi Q) := by
  unfold wp_X7_areShelves at h
  refine RM.intro (by decide) (Nat.le_of_ble_eq_true rfl) (fun E X => ?_)
  show Rf ΛC 2 E 2 (qi Q) 0 [(0, .ref 0), (1, .int x1)] [] σ
  refine Rf_iload_n X (j := 1) rfl rfl dX7_areShelves_0 rfl ?_
  refine Rf_if_lt X (tgt := 28) dX7_areShelves_1 rfl rfl (fun c7 => ?_) (fun c7 => ?_)
  · have h := h.1 c7
    refine Rf_iconst X (v := 0) rfl dX7_areShelves_28 rfl ?_
    exact Rf_iret X rfl dX7_areShelves_29 ⟨_, rfl, h⟩
  · have h := h.2 c7
    refine Rf_iload_n X (j := 1) rfl rfl dX7_areShelves_4 rfl ?_
    refine Rf_bipush X (v := 10) rfl dX7_areShelves_5 rfl ?_
    refine Rf_idiv X (by decide) dX7_areShelves_7 rfl ?_
    refine Rf_cSi (as := [.int (x1 / 10)]) (st := []) X ms_X7_isShelf lm_X7_75 (k_X7_isShelf h) (Nat.le_of_ble_eq_true rfl) rfl rfl (Nat.le_of_ble_eq_true rfl) dX7_areShelves_8 rfl (fun r2 σ1 h => ?_)
    refine Rf_if_eq X (tgt := 28) dX7_areShelves_11 rfl rfl (fun c6 => ?_) (fun c6 => ?_)
    · have h := h.1 c6
      refine Rf_iconst X (v := 0) rfl dX7_areShelves_28 rfl ?_
      exact Rf_iret X rfl dX7_areShelves_29 ⟨_, rfl, h⟩
    · have h := h.2 c6
      refine Rf_iload_n X (j := 1) rfl rfl dX7_areShelves_14 rfl ?_
      refine Rf_bipush X (v := 10) rfl dX7_areShelves_15 rfl ?_
      refine Rf_irem X (by decide) dX7_areShelves_17 rfl ?_
      refine Rf_cSi (as := [.int (x1 - x1 / 10 * 10)]) (st := []) X ms_X7_isShelf lm_X7_75 (k_X7_isShelf h) (Nat.le_of_ble_eq_true rfl) rfl rfl (Nat.le_of_ble_eq_true rfl) dX7_areShelves_18 rfl (fun r4 σ3 h => ?_)
      refine Rf_if_eq X (tgt := 28) dX7_areShelves_21 rfl rfl (fun c5 => ?_) (fun c5 => ?_)
      · have h := h.1 c5
        refine Rf_iconst X (v := 0) rfl dX7_areShelves_28 rfl ?_
        exact Rf_iret X rfl dX7_areShelves_29 ⟨_, rfl, h⟩
      · have h := h.2 c5
        refine Rf_iconst X (v := 1) rfl dX7_areShelves_24 rfl ?_
        refine Rf_goto X (tgt := 29) dX7_areShelves_25 rfl ?_
        exact Rf_iret X rfl dX7_areShelves_29 ⟨_, rfl, h⟩
def wl_X7_firstNotSo_40 (Q : Int32 → rfS → Prop) : Nat → Int32 → Int32 → Nat → Nat → Int32 → Int32 → Int32 → rfS → Prop
  | 0, _, _, _, _, _, _, _, _ => False
  | n + 1, x2, x3, a5, a6, x7, x8, x9, σ => (((gI σ a6 2) ≤ x9 → Q (-2) σ) ∧ (¬ ((gI σ a6 2) ≤ x9) → ((x7 < x9 → Q x9 σ) ∧ (¬ (x7 < x9) → vp_in x9 60 ∧ (((lg_cmp (gL σ (a6 + 1) (x9.toNatClampNeg)) (x8.toInt64)) = 0 → ((x7 ≤ x9 → wl_X7_firstNotSo_40 Q n x2 x3 a5 a6 x7 x8 (x9 + 1) σ) ∧ (¬ (x7 ≤ x9) → vp_in x9 60 ∧ wp_X2_owedBehind σ x8 x2 x3 ((gL σ (a5 + 1) (x9.toNatClampNeg)).toInt32) ((gI σ 12 3) + x9) (fun (r8 : Int32) (σ7 : rfS) => wl_X7_firstNotSo_40 Q n x2 x3 a5 a6 x7 r8 (x9 + 1) σ7)))) ∧ (¬ (lg_cmp (gL σ (a6 + 1) (x9.toNatClampNeg)) (x8.toInt64)) = 0 → Q x9 σ))))))
set_option maxRecDepth 20000 in
theorem sl_X7_firstNotSo_40 {E : rfE} {Q : Int32 → rfS → Prop} (X : rfX ΛC E yX7_firstNotSo cX7_firstNotSo 10 (some .int)) : ∀ (n : Nat) (x2 : Int32) (x3 : Int32) (a5 : Nat) (a6 : Nat) (x7 : Int32) (x8 : Int32) (x9 : Int32) (σ : rfS), isSh a5 → isSh a6 → wl_X7_firstNotSo_40 Q n x2 x3 a5 a6 x7 x8 x9 σ → Rf ΛC 2 E 10 (qi Q) 40 [(0, .ref 0), (2, .int x2), (3, .int x3), (5, .ref a5), (6, .ref a6), (7, .int x7), (8, .int x8), (9, .int x9)] [] σ := by
  intro n
  induction n with
  | zero =>
    intro x2 x3 a5 a6 x7 x8 x9 σ ha5 ha6 h
    exact False.elim h
  | succ n hkb_40 =>
    intro x2 x3 a5 a6 x7 x8 x9 σ ha5 ha6 h
    unfold wl_X7_firstNotSo_40 at h
    refine Rf_iload X (j := 7) rfl dX7_firstNotSo_40 rfl ?_
    refine Rf_aload X (j := 4) rfl dX7_firstNotSo_42 rfl ?_
    refine Rf_get X kc4 (isSh_f _ ha6).1.1 (isSh_f _ ha6).1.2 (j := 2) (Nat.le_of_ble_eq_true rfl) lf_X7_86 (v := .int (gI σ a6 2)) rfl dX7_firstNotSo_44 rfl ?_
    refine Rf_icmp_ge X (tgt := 120) dX7_firstNotSo_47 rfl rfl (fun c12 => ?_) (fun c12 => ?_)
    · have h := h.1 c12
      refine Rf_bipush X (v := (-2)) (by decide) dX7_firstNotSo_120 rfl ?_
      exact Rf_iret X rfl dX7_firstNotSo_122 ⟨_, rfl, h⟩
    · have h := h.2 c12
      refine Rf_iload X (j := 7) rfl dX7_firstNotSo_50 rfl ?_
      refine Rf_iload X (j := 5) rfl dX7_firstNotSo_52 rfl ?_
      refine Rf_icmp_gt X (tgt := 72) dX7_firstNotSo_54 rfl rfl (fun c11 => ?_) (fun c11 => ?_)
      · have h := h.1 c11
        refine Rf_iload X (j := 7) rfl dX7_firstNotSo_72 rfl ?_
        exact Rf_iret X rfl dX7_firstNotSo_74 ⟨_, rfl, h⟩
      · have h := h.2 c11
        refine Rf_aload X (j := 4) rfl dX7_firstNotSo_57 rfl ?_
        refine Rf_get X kc4 (isSh_f _ ha6).1.1 (isSh_f _ ha6).1.2 (j := 3) (Nat.le_of_ble_eq_true rfl) lf_X7_87 (v := .ref (a6 + 1)) rfl dX7_firstNotSo_59 rfl ?_
        refine Rf_iload X (j := 7) rfl dX7_firstNotSo_62 rfl ?_
        obtain ⟨s5, h⟩ := h
        refine Rf_laload X (isSh_f _ ha6).2.1 (isSh_f _ ha6).2.2.1 (isSh_f _ ha6).2.2.2 s5 dX7_firstNotSo_64 rfl (v := gL σ (a6 + 1) (x9.toNatClampNeg)) rfl ?_
        refine Rf_iload X (j := 6) rfl dX7_firstNotSo_65 rfl ?_
        refine Rf_i2l X dX7_firstNotSo_67 rfl ?_
        refine Rf_lcmp X dX7_firstNotSo_68 rfl ?_
        refine Rf_if_eq X (tgt := 75) dX7_firstNotSo_69 rfl rfl (fun c10 => ?_) (fun c10 => ?_)
        · have h := h.1 c10
          refine Rf_iload X (j := 7) rfl dX7_firstNotSo_75 rfl ?_
          refine Rf_iload X (j := 5) rfl dX7_firstNotSo_77 rfl ?_
          refine Rf_icmp_ge X (tgt := 114) dX7_firstNotSo_79 rfl rfl (fun c9 => ?_) (fun c9 => ?_)
          · have h := h.1 c9
            refine Rf_iinc X (i := 9) (j := 7) (v := x9 + 1) rfl rfl (Nat.le_of_ble_eq_true rfl) (ls2 := [(9, .int (x9 + 1)), (0, .ref 0), (2, .int x2), (3, .int x3), (5, .ref a5), (6, .ref a6), (7, .int x7), (8, .int x8)]) rfl dX7_firstNotSo_114 rfl ?_
            refine Rf_goto X (tgt := 40) dX7_firstNotSo_117 rfl ?_
            refine Rf_sub [1, 2, 3, 4, 5, 6, 7, 0] rfl ?_
            exact hkb_40 _ _ _ _ _ _ _ σ ha5 ha6 h
          · have h := h.2 c9
            refine Rf_aload_n X (j := 0) rfl rfl dX7_firstNotSo_82 rfl ?_
            refine Rf_get X kc7 (Nat.le_of_ble_eq_true rfl) rfl (j := 0) (Nat.le_of_ble_eq_true rfl) lf_X7_10 (v := .ref 1) rfl dX7_firstNotSo_83 rfl ?_
            refine Rf_iload X (j := 6) rfl dX7_firstNotSo_86 rfl ?_
            refine Rf_iload_n X (j := 1) rfl rfl dX7_firstNotSo_88 rfl ?_
            refine Rf_iload_n X (j := 2) rfl rfl dX7_firstNotSo_89 rfl ?_
            refine Rf_aload X (j := 3) rfl dX7_firstNotSo_90 rfl ?_
            refine Rf_get X kc4 (isSh_f _ ha5).1.1 (isSh_f _ ha5).1.2 (j := 3) (Nat.le_of_ble_eq_true rfl) lf_X7_87 (v := .ref (a5 + 1)) rfl dX7_firstNotSo_92 rfl ?_
            refine Rf_iload X (j := 7) rfl dX7_firstNotSo_95 rfl ?_
            obtain ⟨s6, h⟩ := h
            refine Rf_laload X (isSh_f _ ha5).2.1 (isSh_f _ ha5).2.2.1 (isSh_f _ ha5).2.2.2 s6 dX7_firstNotSo_97 rfl (v := gL σ (a5 + 1) (x9.toNatClampNeg)) rfl ?_
            refine Rf_l2i X dX7_firstNotSo_98 rfl ?_
            refine Rf_aload_n X (j := 0) rfl rfl dX7_firstNotSo_99 rfl ?_
            refine Rf_get X kc7 (Nat.le_of_ble_eq_true rfl) rfl (j := 1) (Nat.le_of_ble_eq_true rfl) lf_X7_19 (v := .ref 12) rfl dX7_firstNotSo_100 rfl ?_
            refine Rf_get X kc5 (Nat.le_of_ble_eq_true rfl) rfl (j := 3) (Nat.le_of_ble_eq_true rfl) lf_X7_137 (v := .int (gI σ 12 3)) rfl dX7_firstNotSo_103 rfl ?_
            refine Rf_iload X (j := 7) rfl dX7_firstNotSo_106 rfl ?_
            refine Rf_iadd X dX7_firstNotSo_108 rfl ?_
            refine Rf_cVi (as := [.int x8, .int x2, .int x3, .int ((gL σ (a5 + 1) (x9.toNatClampNeg)).toInt32), .int ((gI σ 12 3) + x9)]) (st := []) X mi_X2_owedBehind lm_X7_179 rfl (Nat.le_of_ble_eq_true rfl) rfl (k_X2_owedBehind h) (Nat.le_of_ble_eq_true rfl) rfl rfl (Nat.le_of_ble_eq_true rfl) dX7_firstNotSo_109 rfl (fun r8 σ7 h => ?_)
            refine Rf_istore X (i := 8) (Nat.le_of_ble_eq_true rfl) (ls2 := [(8, .int r8), (0, .ref 0), (2, .int x2), (3, .int x3), (5, .ref a5), (6, .ref a6), (7, .int x7), (9, .int x9)]) rfl dX7_firstNotSo_112 rfl ?_
            refine Rf_iinc X (i := 9) (j := 7) (v := x9 + 1) rfl rfl (Nat.le_of_ble_eq_true rfl) (ls2 := [(9, .int (x9 + 1)), (8, .int r8), (0, .ref 0), (2, .int x2), (3, .int x3), (5, .ref a5), (6, .ref a6), (7, .int x7)]) rfl dX7_firstNotSo_114 rfl ?_
            refine Rf_goto X (tgt := 40) dX7_firstNotSo_117 rfl ?_
            refine Rf_sub [2, 3, 4, 5, 6, 7, 1, 0] rfl ?_
            exact hkb_40 _ _ _ _ _ _ _ σ7 ha5 ha6 h
        · have h := h.2 c10
          refine Rf_iload X (j := 7) rfl dX7_firstNotSo_72 rfl ?_
          exact Rf_iret X rfl dX7_firstNotSo_74 ⟨_, rfl, h⟩
def wp_X7_firstNotSo (σ : rfS) (x1 : Int32) (x2 : Int32) (x3 : Int32) (x4 : Int32) (Q : Int32 → rfS → Prop) : Prop :=
  vp_in (x1 / 10) 6 ∧ vp_in (x1 - x1 / 10 * 10) 6 ∧ wp_X2_daysOf σ (53 + 2 * (x1 / 10).toNatClampNeg) (fun (r4 : Int32) (σ3 : rfS) => (∃ n13, wl_X7_firstNotSo_40 Q n13 x2 x3 (53 + 2 * (x1 / 10).toNatClampNeg) (53 + 2 * (x1 - x1 / 10 * 10).toNatClampNeg) r4 x4 0 σ3))
set_option maxRecDepth 20000 in
theorem k_X7_firstNotSo {σ : rfS} {x1 : Int32} {x2 : Int32} {x3 : Int32} {x4 : Int32} {Q : Int32 → rfS → Prop} (h : wp_X7_firstNotSo σ x1 x2 x3 x4 Q) : RM ΛC 2 yX7_firstNotSo cX7_firstNotSo 10 (some .int) [.ref 0, .int x1, .int x2, .int x3, .int x4] σ (qi Q) := by
  unfold wp_X7_firstNotSo at h
  refine RM.intro (by decide) (Nat.le_of_ble_eq_true rfl) (fun E X => ?_)
  show Rf ΛC 2 E 10 (qi Q) 0 [(0, .ref 0), (1, .int x1), (2, .int x2), (3, .int x3), (4, .int x4)] [] σ
  refine Rf_aload_n X (j := 0) rfl rfl dX7_firstNotSo_0 rfl ?_
  refine Rf_get X kc7 (Nat.le_of_ble_eq_true rfl) rfl (j := 10) (Nat.le_of_ble_eq_true rfl) lf_X7_58 (v := .ref 52) rfl dX7_firstNotSo_1 rfl ?_
  refine Rf_iload_n X (j := 1) rfl rfl dX7_firstNotSo_4 rfl ?_
  refine Rf_bipush X (v := 10) rfl dX7_firstNotSo_5 rfl ?_
  refine Rf_idiv X (by decide) dX7_firstNotSo_7 rfl ?_
  obtain ⟨s1, h⟩ := h
  refine Rf_aaload3 X (Nat.le_of_ble_eq_true rfl) rfl rfl s1 dX7_firstNotSo_8 rfl ?_
  refine Rf_astore X (i := 5) (Nat.le_of_ble_eq_true rfl) (ls2 := [(5, .ref (53 + 2 * (x1 / 10).toNatClampNeg)), (0, .ref 0), (1, .int x1), (2, .int x2), (3, .int x3), (4, .int x4)]) rfl dX7_firstNotSo_9 rfl ?_
  refine Rf_aload_n X (j := 1) rfl rfl dX7_firstNotSo_11 rfl ?_
  refine Rf_get X kc7 (Nat.le_of_ble_eq_true rfl) rfl (j := 10) (Nat.le_of_ble_eq_true rfl) lf_X7_58 (v := .ref 52) rfl dX7_firstNotSo_12 rfl ?_
  refine Rf_iload_n X (j := 2) rfl rfl dX7_firstNotSo_15 rfl ?_
  refine Rf_bipush X (v := 10) rfl dX7_firstNotSo_16 rfl ?_
  refine Rf_irem X (by decide) dX7_firstNotSo_18 rfl ?_
  obtain ⟨s2, h⟩ := h
  refine Rf_aaload3 X (Nat.le_of_ble_eq_true rfl) rfl rfl s2 dX7_firstNotSo_19 rfl ?_
  refine Rf_astore X (i := 6) (Nat.le_of_ble_eq_true rfl) (ls2 := [(6, .ref (53 + 2 * (x1 - x1 / 10 * 10).toNatClampNeg)), (5, .ref (53 + 2 * (x1 / 10).toNatClampNeg)), (0, .ref 0), (1, .int x1), (2, .int x2), (3, .int x3), (4, .int x4)]) rfl dX7_firstNotSo_20 rfl ?_
  refine Rf_aload_n X (j := 2) rfl rfl dX7_firstNotSo_22 rfl ?_
  refine Rf_get X kc7 (Nat.le_of_ble_eq_true rfl) rfl (j := 0) (Nat.le_of_ble_eq_true rfl) lf_X7_10 (v := .ref 1) rfl dX7_firstNotSo_23 rfl ?_
  refine Rf_aload X (j := 1) rfl dX7_firstNotSo_26 rfl ?_
  refine Rf_cVi (as := [.ref (53 + 2 * (x1 / 10).toNatClampNeg)]) (st := []) X mi_X2_daysOf lm_X7_175 rfl (Nat.le_of_ble_eq_true rfl) rfl (k_X2_daysOf (isSh_of s1) h) (Nat.le_of_ble_eq_true rfl) rfl rfl (Nat.le_of_ble_eq_true rfl) dX7_firstNotSo_28 rfl (fun r4 σ3 h => ?_)
  refine Rf_istore X (i := 7) (Nat.le_of_ble_eq_true rfl) (ls2 := [(7, .int r4), (6, .ref (53 + 2 * (x1 - x1 / 10 * 10).toNatClampNeg)), (5, .ref (53 + 2 * (x1 / 10).toNatClampNeg)), (0, .ref 0), (1, .int x1), (2, .int x2), (3, .int x3), (4, .int x4)]) rfl dX7_firstNotSo_31 rfl ?_
  refine Rf_iload X (j := 7) rfl dX7_firstNotSo_33 rfl ?_
  refine Rf_istore X (i := 8) (Nat.le_of_ble_eq_true rfl) (ls2 := [(8, .int x4), (7, .int r4), (6, .ref (53 + 2 * (x1 - x1 / 10 * 10).toNatClampNeg)), (5, .ref (53 + 2 * (x1 / 10).toNatClampNeg)), (0, .ref 0), (1, .int x1), (2, .int x2), (3, .int x3), (4, .int x4)]) rfl dX7_firstNotSo_35 rfl ?_
  refine Rf_iconst X (v := 0) rfl dX7_firstNotSo_37 rfl ?_
  refine Rf_istore X (i := 9) (Nat.le_of_ble_eq_true rfl) (ls2 := [(9, .int 0), (8, .int x4), (7, .int r4), (6, .ref (53 + 2 * (x1 - x1 / 10 * 10).toNatClampNeg)), (5, .ref (53 + 2 * (x1 / 10).toNatClampNeg)), (0, .ref 0), (1, .int x1), (2, .int x2), (3, .int x3), (4, .int x4)]) rfl dX7_firstNotSo_38 rfl ?_
  obtain ⟨n13, h⟩ := h
  refine Rf_sub [5, 7, 8, 4, 3, 2, 1, 0] rfl ?_
  exact sl_X7_firstNotSo_40 X n13 _ _ _ _ _ _ _ _ (isSh_of s1) (isSh_of s2) h
def wp_X7_refusalOfDebts (σ : rfS) (x1 : Int32) (Q : Int32 → rfS → Prop) : Prop :=
  vp_in (x1 / 10) 6 ∧ wp_X4_refusalFor σ (53 + 2 * (x1 / 10).toNatClampNeg) 0 (fun (r3 : Int32) (σ2 : rfS) => ((r3 = 0 → vp_in (x1 - x1 / 10 * 10) 6 ∧ wp_X4_refusalFor σ2 (53 + 2 * (x1 - x1 / 10 * 10).toNatClampNeg) 0 (fun (r6 : Int32) (σ5 : rfS) => Q r6 σ5)) ∧ (¬ r3 = 0 → Q r3 σ2)))
set_option maxRecDepth 20000 in
theorem k_X7_refusalOfDebts {σ : rfS} {x1 : Int32} {Q : Int32 → rfS → Prop} (h : wp_X7_refusalOfDebts σ x1 Q) : RM ΛC 1 yX7_refusalOfDebts cX7_refusalOfDebts 3 (some .int) [.ref 0, .int x1] σ (qi Q) := by
  unfold wp_X7_refusalOfDebts at h
  refine RM.intro (by decide) (Nat.le_of_ble_eq_true rfl) (fun E X => ?_)
  show Rf ΛC 1 E 3 (qi Q) 0 [(0, .ref 0), (1, .int x1)] [] σ
  refine Rf_aload_n X (j := 0) rfl rfl dX7_refusalOfDebts_0 rfl ?_
  refine Rf_get X kc7 (Nat.le_of_ble_eq_true rfl) rfl (j := 10) (Nat.le_of_ble_eq_true rfl) lf_X7_58 (v := .ref 52) rfl dX7_refusalOfDebts_1 rfl ?_
  refine Rf_iload_n X (j := 1) rfl rfl dX7_refusalOfDebts_4 rfl ?_
  refine Rf_bipush X (v := 10) rfl dX7_refusalOfDebts_5 rfl ?_
  refine Rf_idiv X (by decide) dX7_refusalOfDebts_7 rfl ?_
  obtain ⟨s1, h⟩ := h
  refine Rf_aaload3 X (Nat.le_of_ble_eq_true rfl) rfl rfl s1 dX7_refusalOfDebts_8 rfl ?_
  refine Rf_iconst X (v := 0) rfl dX7_refusalOfDebts_9 rfl ?_
  refine Rf_cVi (as := [.int 0]) (st := []) X mi_X4_refusalFor lm_X7_161 rfl (isSh_f _ (isSh_of s1)).1.1 (isSh_f _ (isSh_of s1)).1.2 (k_X4_refusalFor (isSh_of s1) h) (Nat.le_of_ble_eq_true rfl) rfl rfl (Nat.le_of_ble_eq_true rfl) dX7_refusalOfDebts_10 rfl (fun r3 σ2 h => ?_)
  refine Rf_istore_n X rfl (i := 2) (Nat.le_of_ble_eq_true rfl) (ls2 := [(2, .int r3), (0, .ref 0), (1, .int x1)]) rfl dX7_refusalOfDebts_13 rfl ?_
  refine Rf_iload_n X (j := 0) rfl rfl dX7_refusalOfDebts_14 rfl ?_
  refine Rf_if_eq X (tgt := 22) dX7_refusalOfDebts_15 rfl rfl (fun c7 => ?_) (fun c7 => ?_)
  · have h := h.1 c7
    refine Rf_aload_n X (j := 1) rfl rfl dX7_refusalOfDebts_22 rfl ?_
    refine Rf_get X kc7 (Nat.le_of_ble_eq_true rfl) rfl (j := 10) (Nat.le_of_ble_eq_true rfl) lf_X7_58 (v := .ref 52) rfl dX7_refusalOfDebts_23 rfl ?_
    refine Rf_iload_n X (j := 2) rfl rfl dX7_refusalOfDebts_26 rfl ?_
    refine Rf_bipush X (v := 10) rfl dX7_refusalOfDebts_27 rfl ?_
    refine Rf_irem X (by decide) dX7_refusalOfDebts_29 rfl ?_
    obtain ⟨s4, h⟩ := h
    refine Rf_aaload3 X (Nat.le_of_ble_eq_true rfl) rfl rfl s4 dX7_refusalOfDebts_30 rfl ?_
    refine Rf_iconst X (v := 0) rfl dX7_refusalOfDebts_31 rfl ?_
    refine Rf_cVi (as := [.int 0]) (st := []) X mi_X4_refusalFor lm_X7_161 rfl (isSh_f _ (isSh_of s4)).1.1 (isSh_f _ (isSh_of s4)).1.2 (k_X4_refusalFor (isSh_of s4) h) (Nat.le_of_ble_eq_true rfl) rfl rfl (Nat.le_of_ble_eq_true rfl) dX7_refusalOfDebts_32 rfl (fun r6 σ5 h => ?_)
    exact Rf_iret X rfl dX7_refusalOfDebts_35 ⟨_, rfl, h⟩
  · have h := h.2 c7
    refine Rf_iload_n X (j := 0) rfl rfl dX7_refusalOfDebts_18 rfl ?_
    refine Rf_goto X (tgt := 35) dX7_refusalOfDebts_19 rfl ?_
    exact Rf_iret X rfl dX7_refusalOfDebts_35 ⟨_, rfl, h⟩
def wp_X7_judge (σ : rfS) (x1 : Int32) (x2 : Int32) (Q : Int32 → rfS → Prop) : Prop :=
  wp_X7_areShelves σ x1 (fun (r2 : Int32) (σ1 : rfS) => ((r2 = 0 → Q (-1) σ1) ∧ (¬ r2 = 0 → wp_X2_isOne σ1 x2 (fun (r4 : Int32) (σ3 : rfS) => ((¬ r4 = 0 → wp_X7_refusalOfDebts σ3 x1 (fun (r6 : Int32) (σ5 : rfS) => ((r6 = 0 → vp_in x2 7 ∧ vp_in x2 7 ∧ wp_X7_firstNotSo σ5 x1 x2 (gF σ5 2 (x2.toNatClampNeg)) (gF σ5 13 (x2.toNatClampNeg)) (fun (r10 : Int32) (σ9 : rfS) => Q r10 σ9)) ∧ (¬ r6 = 0 → Q r6 σ5)))) ∧ (r4 = 0 → Q (-1) σ3))))))
set_option maxRecDepth 20000 in
theorem k_X7_judge {σ : rfS} {x1 : Int32} {x2 : Int32} {Q : Int32 → rfS → Prop} (h : wp_X7_judge σ x1 x2 Q) : RM ΛC 3 yX7_judge cX7_judge 4 (some .int) [.ref 0, .int x1, .int x2] σ (qi Q) := by
  unfold wp_X7_judge at h
  refine RM.intro (by decide) (Nat.le_of_ble_eq_true rfl) (fun E X => ?_)
  show Rf ΛC 3 E 4 (qi Q) 0 [(0, .ref 0), (1, .int x1), (2, .int x2)] [] σ
  refine Rf_aload_n X (j := 0) rfl rfl dX7_judge_0 rfl ?_
  refine Rf_iload_n X (j := 1) rfl rfl dX7_judge_1 rfl ?_
  refine Rf_cVi (as := [.int x1]) (st := []) X mi_X7_areShelves lm_X7_233 rfl (Nat.le_of_ble_eq_true rfl) rfl (k_X7_areShelves h) (Nat.le_of_ble_eq_true rfl) rfl rfl (Nat.le_of_ble_eq_true rfl) dX7_judge_2 rfl (fun r2 σ1 h => ?_)
  refine Rf_if_eq X (tgt := 19) dX7_judge_5 rfl rfl (fun c13 => ?_) (fun c13 => ?_)
  · have h := h.1 c13
    refine Rf_iconst X (v := (-1)) (by decide) dX7_judge_19 rfl ?_
    exact Rf_iret X rfl dX7_judge_20 ⟨_, rfl, h⟩
  · have h := h.2 c13
    refine Rf_aload_n X (j := 0) rfl rfl dX7_judge_8 rfl ?_
    refine Rf_get X kc7 (Nat.le_of_ble_eq_true rfl) rfl (j := 0) (Nat.le_of_ble_eq_true rfl) lf_X7_10 (v := .ref 1) rfl dX7_judge_9 rfl ?_
    refine Rf_iload_n X (j := 2) rfl rfl dX7_judge_12 rfl ?_
    refine Rf_cVi (as := [.int x2]) (st := []) X mi_X2_isOne lm_X7_125 rfl (Nat.le_of_ble_eq_true rfl) rfl (k_X2_isOne h) (Nat.le_of_ble_eq_true rfl) rfl rfl (Nat.le_of_ble_eq_true rfl) dX7_judge_13 rfl (fun r4 σ3 h => ?_)
    refine Rf_if_ne X (tgt := 21) dX7_judge_16 rfl rfl (fun c12 => ?_) (fun c12 => ?_)
    · have h := h.1 c12
      refine Rf_aload_n X (j := 0) rfl rfl dX7_judge_21 rfl ?_
      refine Rf_iload_n X (j := 1) rfl rfl dX7_judge_22 rfl ?_
      refine Rf_cVi (as := [.int x1]) (st := []) X mi_X7_refusalOfDebts lm_X7_236 rfl (Nat.le_of_ble_eq_true rfl) rfl (k_X7_refusalOfDebts h) (Nat.le_of_ble_eq_true rfl) rfl rfl (Nat.le_of_ble_eq_true rfl) dX7_judge_23 rfl (fun r6 σ5 h => ?_)
      refine Rf_istore_n X rfl (i := 3) (Nat.le_of_ble_eq_true rfl) (ls2 := [(3, .int r6), (0, .ref 0), (1, .int x1), (2, .int x2)]) rfl dX7_judge_26 rfl ?_
      refine Rf_iload_n X (j := 0) rfl rfl dX7_judge_27 rfl ?_
      refine Rf_if_eq X (tgt := 35) dX7_judge_28 rfl rfl (fun c11 => ?_) (fun c11 => ?_)
      · have h := h.1 c11
        refine Rf_aload_n X (j := 1) rfl rfl dX7_judge_35 rfl ?_
        refine Rf_iload_n X (j := 2) rfl rfl dX7_judge_36 rfl ?_
        refine Rf_iload_n X (j := 3) rfl rfl dX7_judge_37 rfl ?_
        refine Rf_aload_n X (j := 1) rfl rfl dX7_judge_38 rfl ?_
        refine Rf_get X kc7 (Nat.le_of_ble_eq_true rfl) rfl (j := 0) (Nat.le_of_ble_eq_true rfl) lf_X7_10 (v := .ref 1) rfl dX7_judge_39 rfl ?_
        refine Rf_get X kc2 (Nat.le_of_ble_eq_true rfl) rfl (j := 1) (Nat.le_of_ble_eq_true rfl) lf_X7_91 (v := .ref 2) rfl dX7_judge_42 rfl ?_
        refine Rf_iload_n X (j := 3) rfl rfl dX7_judge_45 rfl ?_
        obtain ⟨s7, h⟩ := h
        refine Rf_iaload X (Nat.le_of_ble_eq_true rfl) rfl rfl s7 dX7_judge_46 rfl (v := gF σ5 2 (x2.toNatClampNeg)) rfl ?_
        refine Rf_aload_n X (j := 1) rfl rfl dX7_judge_47 rfl ?_
        refine Rf_get X kc7 (Nat.le_of_ble_eq_true rfl) rfl (j := 1) (Nat.le_of_ble_eq_true rfl) lf_X7_19 (v := .ref 12) rfl dX7_judge_48 rfl ?_
        refine Rf_get X kc5 (Nat.le_of_ble_eq_true rfl) rfl (j := 0) (Nat.le_of_ble_eq_true rfl) lf_X7_97 (v := .ref 13) rfl dX7_judge_51 rfl ?_
        refine Rf_iload_n X (j := 3) rfl rfl dX7_judge_54 rfl ?_
        obtain ⟨s8, h⟩ := h
        refine Rf_iaload X (Nat.le_of_ble_eq_true rfl) rfl rfl s8 dX7_judge_55 rfl (v := gF σ5 13 (x2.toNatClampNeg)) rfl ?_
        refine Rf_cVi (as := [.int x1, .int x2, .int (gF σ5 2 (x2.toNatClampNeg)), .int (gF σ5 13 (x2.toNatClampNeg))]) (st := []) X mi_X7_firstNotSo lm_X7_239 rfl (Nat.le_of_ble_eq_true rfl) rfl (k_X7_firstNotSo h) (Nat.le_of_ble_eq_true rfl) rfl rfl (Nat.le_of_ble_eq_true rfl) dX7_judge_56 rfl (fun r10 σ9 h => ?_)
        exact Rf_iret X rfl dX7_judge_59 ⟨_, rfl, h⟩
      · have h := h.2 c11
        refine Rf_iload_n X (j := 0) rfl rfl dX7_judge_31 rfl ?_
        refine Rf_goto X (tgt := 59) dX7_judge_32 rfl ?_
        exact Rf_iret X rfl dX7_judge_59 ⟨_, rfl, h⟩
    · have h := h.2 c12
      refine Rf_iconst X (v := (-1)) (by decide) dX7_judge_19 rfl ?_
      exact Rf_iret X rfl dX7_judge_20 ⟨_, rfl, h⟩
def wp_X7_areBrothers (σ : rfS) (x1 : Int32) (Q : Int32 → rfS → Prop) : Prop :=
  ((x1 < 0 → Q 0 σ) ∧ (¬ (x1 < 0) → wp_X2_isOne σ (x1 / 10) (fun (r2 : Int32) (σ1 : rfS) => ((r2 = 0 → Q 0 σ1) ∧ (¬ r2 = 0 → wp_X2_isOne σ1 (x1 - x1 / 10 * 10) (fun (r4 : Int32) (σ3 : rfS) => ((r4 = 0 → Q 0 σ3) ∧ (¬ r4 = 0 → Q 1 σ3))))))))
set_option maxRecDepth 20000 in
theorem k_X7_areBrothers {σ : rfS} {x1 : Int32} {Q : Int32 → rfS → Prop} (h : wp_X7_areBrothers σ x1 Q) : RM ΛC 1 yX7_areBrothers cX7_areBrothers 2 (some .boolean) [.ref 0, .int x1] σ (qi Q) := by
  unfold wp_X7_areBrothers at h
  refine RM.intro (by decide) (Nat.le_of_ble_eq_true rfl) (fun E X => ?_)
  show Rf ΛC 1 E 2 (qi Q) 0 [(0, .ref 0), (1, .int x1)] [] σ
  refine Rf_iload_n X (j := 1) rfl rfl dX7_areBrothers_0 rfl ?_
  refine Rf_if_lt X (tgt := 36) dX7_areBrothers_1 rfl rfl (fun c7 => ?_) (fun c7 => ?_)
  · have h := h.1 c7
    refine Rf_iconst X (v := 0) rfl dX7_areBrothers_36 rfl ?_
    exact Rf_iret X rfl dX7_areBrothers_37 ⟨_, rfl, h⟩
  · have h := h.2 c7
    refine Rf_aload_n X (j := 0) rfl rfl dX7_areBrothers_4 rfl ?_
    refine Rf_get X kc7 (Nat.le_of_ble_eq_true rfl) rfl (j := 0) (Nat.le_of_ble_eq_true rfl) lf_X7_10 (v := .ref 1) rfl dX7_areBrothers_5 rfl ?_
    refine Rf_iload_n X (j := 1) rfl rfl dX7_areBrothers_8 rfl ?_
    refine Rf_bipush X (v := 10) rfl dX7_areBrothers_9 rfl ?_
    refine Rf_idiv X (by decide) dX7_areBrothers_11 rfl ?_
    refine Rf_cVi (as := [.int (x1 / 10)]) (st := []) X mi_X2_isOne lm_X7_125 rfl (Nat.le_of_ble_eq_true rfl) rfl (k_X2_isOne h) (Nat.le_of_ble_eq_true rfl) rfl rfl (Nat.le_of_ble_eq_true rfl) dX7_areBrothers_12 rfl (fun r2 σ1 h => ?_)
    refine Rf_if_eq X (tgt := 36) dX7_areBrothers_15 rfl rfl (fun c6 => ?_) (fun c6 => ?_)
    · have h := h.1 c6
      refine Rf_iconst X (v := 0) rfl dX7_areBrothers_36 rfl ?_
      exact Rf_iret X rfl dX7_areBrothers_37 ⟨_, rfl, h⟩
    · have h := h.2 c6
      refine Rf_aload_n X (j := 0) rfl rfl dX7_areBrothers_18 rfl ?_
      refine Rf_get X kc7 (Nat.le_of_ble_eq_true rfl) rfl (j := 0) (Nat.le_of_ble_eq_true rfl) lf_X7_10 (v := .ref 1) rfl dX7_areBrothers_19 rfl ?_
      refine Rf_iload_n X (j := 1) rfl rfl dX7_areBrothers_22 rfl ?_
      refine Rf_bipush X (v := 10) rfl dX7_areBrothers_23 rfl ?_
      refine Rf_irem X (by decide) dX7_areBrothers_25 rfl ?_
      refine Rf_cVi (as := [.int (x1 - x1 / 10 * 10)]) (st := []) X mi_X2_isOne lm_X7_125 rfl (Nat.le_of_ble_eq_true rfl) rfl (k_X2_isOne h) (Nat.le_of_ble_eq_true rfl) rfl rfl (Nat.le_of_ble_eq_true rfl) dX7_areBrothers_26 rfl (fun r4 σ3 h => ?_)
      refine Rf_if_eq X (tgt := 36) dX7_areBrothers_29 rfl rfl (fun c5 => ?_) (fun c5 => ?_)
      · have h := h.1 c5
        refine Rf_iconst X (v := 0) rfl dX7_areBrothers_36 rfl ?_
        exact Rf_iret X rfl dX7_areBrothers_37 ⟨_, rfl, h⟩
      · have h := h.2 c5
        refine Rf_iconst X (v := 1) rfl dX7_areBrothers_32 rfl ?_
        refine Rf_goto X (tgt := 37) dX7_areBrothers_33 rfl ?_
        exact Rf_iret X rfl dX7_areBrothers_37 ⟨_, rfl, h⟩
def wj_X7_fits_159 (Q : Int32 → rfS → Prop) (kb_100 : Int32 → Int32 → Int32 → Int32 → Int32 → Int32 → Int32 → Int32 → Int32 → rfS → Prop) (x1 : Int32) (x3 : Int32) (x5 : Int32) (x6 : Int32) (x7 : Int32) (x8 : Int32) (x9 : Int32) (x10 : Int32) (x11 : Int32) (x12 : Int32) (xs0 : Int32) (σ : rfS) : Prop :=
  wp_X7_firstNotSo σ x1 x5 x12 xs0 (fun (r12 : Int32) (σ11 : rfS) => ((¬ r12 = (-2) → kb_100 x1 x3 x5 x6 x7 x8 x9 x10 (x11 + 1) σ11) ∧ (r12 = (-2) → ((¬ x10 = (-2) → kb_100 x1 x3 x5 x6 x7 x8 (x9 + 1) x10 (x11 + 1) σ11) ∧ (x10 = (-2) → kb_100 x1 x3 x5 x6 x7 x8 (x9 + 1) x11 (x11 + 1) σ11)))))
set_option maxRecDepth 20000 in
theorem sj_X7_fits_159 {E : rfE} {Q : Int32 → rfS → Prop} (X : rfX ΛC E yX7_fits cX7_fits 14 (some .int)) {kb_100 : Int32 → Int32 → Int32 → Int32 → Int32 → Int32 → Int32 → Int32 → Int32 → rfS → Prop} (hkb_100 : ∀ (x1 : Int32) (x3 : Int32) (x5 : Int32) (x6 : Int32) (x7 : Int32) (x8 : Int32) (x9 : Int32) (x10 : Int32) (x11 : Int32) (σ : rfS), kb_100 x1 x3 x5 x6 x7 x8 x9 x10 x11 σ → Rf ΛC 3 E 14 (qi Q) 100 [(0, .ref 0), (1, .int x1), (3, .int x3), (5, .int x5), (6, .int x6), (7, .int x7), (8, .int x8), (9, .int x9), (10, .int x10), (11, .int x11)] [] σ) (x1 : Int32) (x3 : Int32) (x5 : Int32) (x6 : Int32) (x7 : Int32) (x8 : Int32) (x9 : Int32) (x10 : Int32) (x11 : Int32) (x12 : Int32) (xs0 : Int32) (σ : rfS) (h : wj_X7_fits_159 Q kb_100 x1 x3 x5 x6 x7 x8 x9 x10 x11 x12 xs0 σ) : Rf ΛC 3 E 14 (qi Q) 159 [(0, .ref 0), (1, .int x1), (3, .int x3), (5, .int x5), (6, .int x6), (7, .int x7), (8, .int x8), (9, .int x9), (10, .int x10), (11, .int x11), (12, .int x12)] [.int xs0] σ := by
  unfold wj_X7_fits_159 at h
  refine Rf_istore X (i := 13) (Nat.le_of_ble_eq_true rfl) (ls2 := [(13, .int xs0), (0, .ref 0), (1, .int x1), (3, .int x3), (5, .int x5), (6, .int x6), (7, .int x7), (8, .int x8), (9, .int x9), (10, .int x10), (11, .int x11), (12, .int x12)]) rfl dX7_fits_159 rfl ?_
  refine Rf_aload_n X (j := 1) rfl rfl dX7_fits_161 rfl ?_
  refine Rf_iload_n X (j := 2) rfl rfl dX7_fits_162 rfl ?_
  refine Rf_iload X (j := 4) rfl dX7_fits_163 rfl ?_
  refine Rf_iload X (j := 11) rfl dX7_fits_165 rfl ?_
  refine Rf_iload X (j := 0) rfl dX7_fits_167 rfl ?_
  refine Rf_cVi (as := [.int x1, .int x5, .int x12, .int xs0]) (st := []) X mi_X7_firstNotSo lm_X7_239 rfl (Nat.le_of_ble_eq_true rfl) rfl (k_X7_firstNotSo h) (Nat.le_of_ble_eq_true rfl) rfl rfl (Nat.le_of_ble_eq_true rfl) dX7_fits_169 rfl (fun r12 σ11 h => ?_)
  refine Rf_bipush X (v := (-2)) (by decide) dX7_fits_172 rfl ?_
  refine Rf_icmp_ne X (tgt := 196) dX7_fits_174 rfl rfl (fun c14 => ?_) (fun c14 => ?_)
  · have h := h.1 c14
    refine Rf_iinc X (i := 11) (j := 10) (v := x11 + 1) rfl rfl (Nat.le_of_ble_eq_true rfl) (ls2 := [(11, .int (x11 + 1)), (13, .int xs0), (0, .ref 0), (1, .int x1), (3, .int x3), (5, .int x5), (6, .int x6), (7, .int x7), (8, .int x8), (9, .int x9), (10, .int x10), (12, .int x12)]) rfl dX7_fits_196 rfl ?_
    refine Rf_goto X (tgt := 100) dX7_fits_199 rfl ?_
    refine Rf_sub [2, 3, 4, 5, 6, 7, 8, 9, 10, 0] rfl ?_
    exact hkb_100 _ _ _ _ _ _ _ _ _ σ11 h
  · have h := h.2 c14
    refine Rf_iinc X (i := 9) (j := 8) (v := x9 + 1) rfl rfl (Nat.le_of_ble_eq_true rfl) (ls2 := [(9, .int (x9 + 1)), (13, .int xs0), (0, .ref 0), (1, .int x1), (3, .int x3), (5, .int x5), (6, .int x6), (7, .int x7), (8, .int x8), (10, .int x10), (11, .int x11), (12, .int x12)]) rfl dX7_fits_177 rfl ?_
    refine Rf_iload X (j := 9) rfl dX7_fits_180 rfl ?_
    refine Rf_bipush X (v := (-2)) (by decide) dX7_fits_182 rfl ?_
    refine Rf_icmp_ne X (tgt := 192) dX7_fits_184 rfl rfl (fun c13 => ?_) (fun c13 => ?_)
    · have h := h.1 c13
      refine Rf_iload X (j := 9) rfl dX7_fits_192 rfl ?_
      refine Rf_istore X (i := 10) (Nat.le_of_ble_eq_true rfl) (ls2 := [(10, .int x10), (9, .int (x9 + 1)), (13, .int xs0), (0, .ref 0), (1, .int x1), (3, .int x3), (5, .int x5), (6, .int x6), (7, .int x7), (8, .int x8), (11, .int x11), (12, .int x12)]) rfl dX7_fits_194 rfl ?_
      refine Rf_iinc X (i := 11) (j := 10) (v := x11 + 1) rfl rfl (Nat.le_of_ble_eq_true rfl) (ls2 := [(11, .int (x11 + 1)), (10, .int x10), (9, .int (x9 + 1)), (13, .int xs0), (0, .ref 0), (1, .int x1), (3, .int x3), (5, .int x5), (6, .int x6), (7, .int x7), (8, .int x8), (12, .int x12)]) rfl dX7_fits_196 rfl ?_
      refine Rf_goto X (tgt := 100) dX7_fits_199 rfl ?_
      refine Rf_sub [4, 5, 6, 7, 8, 9, 10, 2, 1, 0] rfl ?_
      exact hkb_100 _ _ _ _ _ _ _ _ _ σ11 h
    · have h := h.2 c13
      refine Rf_iload X (j := 10) rfl dX7_fits_187 rfl ?_
      refine Rf_goto X (tgt := 194) dX7_fits_189 rfl ?_
      refine Rf_istore X (i := 10) (Nat.le_of_ble_eq_true rfl) (ls2 := [(10, .int x11), (9, .int (x9 + 1)), (13, .int xs0), (0, .ref 0), (1, .int x1), (3, .int x3), (5, .int x5), (6, .int x6), (7, .int x7), (8, .int x8), (11, .int x11), (12, .int x12)]) rfl dX7_fits_194 rfl ?_
      refine Rf_iinc X (i := 11) (j := 10) (v := x11 + 1) rfl rfl (Nat.le_of_ble_eq_true rfl) (ls2 := [(11, .int (x11 + 1)), (10, .int x11), (9, .int (x9 + 1)), (13, .int xs0), (0, .ref 0), (1, .int x1), (3, .int x3), (5, .int x5), (6, .int x6), (7, .int x7), (8, .int x8), (12, .int x12)]) rfl dX7_fits_196 rfl ?_
      refine Rf_goto X (tgt := 100) dX7_fits_199 rfl ?_
      refine Rf_sub [4, 5, 6, 7, 8, 9, 10, 2, 1, 0] rfl ?_
      exact hkb_100 _ _ _ _ _ _ _ _ _ σ11 h
def wj_X7_fits_149 (Q : Int32 → rfS → Prop) (kb_100 : Int32 → Int32 → Int32 → Int32 → Int32 → Int32 → Int32 → Int32 → Int32 → rfS → Prop) (x1 : Int32) (x3 : Int32) (x5 : Int32) (x6 : Int32) (x7 : Int32) (x8 : Int32) (x9 : Int32) (x10 : Int32) (x11 : Int32) (x12 : Int32) (σ : rfS) : Prop :=
  vp_in x5 7 ∧ (wj_X7_fits_159 Q kb_100 x1 x3 x5 x6 x7 x8 x9 x10 x11 x12 (gF σ 13 (x5.toNatClampNeg)) σ)
set_option maxRecDepth 20000 in
theorem sj_X7_fits_149 {E : rfE} {Q : Int32 → rfS → Prop} (X : rfX ΛC E yX7_fits cX7_fits 14 (some .int)) {kb_100 : Int32 → Int32 → Int32 → Int32 → Int32 → Int32 → Int32 → Int32 → Int32 → rfS → Prop} (hkb_100 : ∀ (x1 : Int32) (x3 : Int32) (x5 : Int32) (x6 : Int32) (x7 : Int32) (x8 : Int32) (x9 : Int32) (x10 : Int32) (x11 : Int32) (σ : rfS), kb_100 x1 x3 x5 x6 x7 x8 x9 x10 x11 σ → Rf ΛC 3 E 14 (qi Q) 100 [(0, .ref 0), (1, .int x1), (3, .int x3), (5, .int x5), (6, .int x6), (7, .int x7), (8, .int x8), (9, .int x9), (10, .int x10), (11, .int x11)] [] σ) (x1 : Int32) (x3 : Int32) (x5 : Int32) (x6 : Int32) (x7 : Int32) (x8 : Int32) (x9 : Int32) (x10 : Int32) (x11 : Int32) (x12 : Int32) (σ : rfS) (h : wj_X7_fits_149 Q kb_100 x1 x3 x5 x6 x7 x8 x9 x10 x11 x12 σ) : Rf ΛC 3 E 14 (qi Q) 149 [(0, .ref 0), (1, .int x1), (3, .int x3), (5, .int x5), (6, .int x6), (7, .int x7), (8, .int x8), (9, .int x9), (10, .int x10), (11, .int x11), (12, .int x12)] [] σ := by
  unfold wj_X7_fits_149 at h
  refine Rf_aload_n X (j := 0) rfl rfl dX7_fits_149 rfl ?_
  refine Rf_get X kc7 (Nat.le_of_ble_eq_true rfl) rfl (j := 1) (Nat.le_of_ble_eq_true rfl) lf_X7_19 (v := .ref 12) rfl dX7_fits_150 rfl ?_
  refine Rf_get X kc5 (Nat.le_of_ble_eq_true rfl) rfl (j := 0) (Nat.le_of_ble_eq_true rfl) lf_X7_97 (v := .ref 13) rfl dX7_fits_153 rfl ?_
  refine Rf_iload X (j := 3) rfl dX7_fits_156 rfl ?_
  obtain ⟨s10, h⟩ := h
  refine Rf_iaload X (Nat.le_of_ble_eq_true rfl) rfl rfl s10 dX7_fits_158 rfl (v := gF σ 13 (x5.toNatClampNeg)) rfl ?_
  exact sj_X7_fits_159 X hkb_100 _ _ _ _ _ _ _ _ _ _ _ _ h
def wj_X7_fits_132 (Q : Int32 → rfS → Prop) (kb_100 : Int32 → Int32 → Int32 → Int32 → Int32 → Int32 → Int32 → Int32 → Int32 → rfS → Prop) (x1 : Int32) (x3 : Int32) (x5 : Int32) (x6 : Int32) (x7 : Int32) (x8 : Int32) (x9 : Int32) (x10 : Int32) (x11 : Int32) (xs0 : Int32) (σ : rfS) : Prop :=
  ((x6 = 0 → wj_X7_fits_149 Q kb_100 x1 x3 x5 x6 x7 x8 x9 x10 x11 xs0 σ) ∧ (¬ x6 = 0 → ((¬ x7 = 0 → wj_X7_fits_149 Q kb_100 x1 x3 x5 x6 x7 x8 x9 x10 x11 xs0 σ) ∧ (x7 = 0 → wj_X7_fits_159 Q kb_100 x1 x3 x5 x6 x7 x8 x9 x10 x11 xs0 x11 σ))))
set_option maxRecDepth 20000 in
theorem sj_X7_fits_132 {E : rfE} {Q : Int32 → rfS → Prop} (X : rfX ΛC E yX7_fits cX7_fits 14 (some .int)) {kb_100 : Int32 → Int32 → Int32 → Int32 → Int32 → Int32 → Int32 → Int32 → Int32 → rfS → Prop} (hkb_100 : ∀ (x1 : Int32) (x3 : Int32) (x5 : Int32) (x6 : Int32) (x7 : Int32) (x8 : Int32) (x9 : Int32) (x10 : Int32) (x11 : Int32) (σ : rfS), kb_100 x1 x3 x5 x6 x7 x8 x9 x10 x11 σ → Rf ΛC 3 E 14 (qi Q) 100 [(0, .ref 0), (1, .int x1), (3, .int x3), (5, .int x5), (6, .int x6), (7, .int x7), (8, .int x8), (9, .int x9), (10, .int x10), (11, .int x11)] [] σ) (x1 : Int32) (x3 : Int32) (x5 : Int32) (x6 : Int32) (x7 : Int32) (x8 : Int32) (x9 : Int32) (x10 : Int32) (x11 : Int32) (xs0 : Int32) (σ : rfS) (h : wj_X7_fits_132 Q kb_100 x1 x3 x5 x6 x7 x8 x9 x10 x11 xs0 σ) : Rf ΛC 3 E 14 (qi Q) 132 [(0, .ref 0), (1, .int x1), (3, .int x3), (5, .int x5), (6, .int x6), (7, .int x7), (8, .int x8), (9, .int x9), (10, .int x10), (11, .int x11)] [.int xs0] σ := by
  unfold wj_X7_fits_132 at h
  refine Rf_istore X (i := 12) (Nat.le_of_ble_eq_true rfl) (ls2 := [(12, .int xs0), (0, .ref 0), (1, .int x1), (3, .int x3), (5, .int x5), (6, .int x6), (7, .int x7), (8, .int x8), (9, .int x9), (10, .int x10), (11, .int x11)]) rfl dX7_fits_132 rfl ?_
  refine Rf_iload X (j := 5) rfl dX7_fits_134 rfl ?_
  refine Rf_if_eq X (tgt := 149) dX7_fits_136 rfl rfl (fun c16 => ?_) (fun c16 => ?_)
  · have h := h.1 c16
    refine Rf_sub [1, 2, 3, 4, 5, 6, 7, 8, 9, 10, 0] rfl ?_
    exact sj_X7_fits_149 X hkb_100 _ _ _ _ _ _ _ _ _ _ _ h
  · have h := h.2 c16
    refine Rf_iload X (j := 6) rfl dX7_fits_139 rfl ?_
    refine Rf_if_ne X (tgt := 149) dX7_fits_141 rfl rfl (fun c15 => ?_) (fun c15 => ?_)
    · have h := h.1 c15
      refine Rf_sub [1, 2, 3, 4, 5, 6, 7, 8, 9, 10, 0] rfl ?_
      exact sj_X7_fits_149 X hkb_100 _ _ _ _ _ _ _ _ _ _ _ h
    · have h := h.2 c15
      refine Rf_iload X (j := 10) rfl dX7_fits_144 rfl ?_
      refine Rf_goto X (tgt := 159) dX7_fits_146 rfl ?_
      refine Rf_sub [1, 2, 3, 4, 5, 6, 7, 8, 9, 10, 0] rfl ?_
      exact sj_X7_fits_159 X hkb_100 _ _ _ _ _ _ _ _ _ _ _ _ h
def wj_X7_fits_122 (Q : Int32 → rfS → Prop) (kb_100 : Int32 → Int32 → Int32 → Int32 → Int32 → Int32 → Int32 → Int32 → Int32 → rfS → Prop) (x1 : Int32) (x3 : Int32) (x5 : Int32) (x6 : Int32) (x7 : Int32) (x8 : Int32) (x9 : Int32) (x10 : Int32) (x11 : Int32) (σ : rfS) : Prop :=
  vp_in x5 7 ∧ (wj_X7_fits_132 Q kb_100 x1 x3 x5 x6 x7 x8 x9 x10 x11 (gF σ 2 (x5.toNatClampNeg)) σ)
set_option maxRecDepth 20000 in
theorem sj_X7_fits_122 {E : rfE} {Q : Int32 → rfS → Prop} (X : rfX ΛC E yX7_fits cX7_fits 14 (some .int)) {kb_100 : Int32 → Int32 → Int32 → Int32 → Int32 → Int32 → Int32 → Int32 → Int32 → rfS → Prop} (hkb_100 : ∀ (x1 : Int32) (x3 : Int32) (x5 : Int32) (x6 : Int32) (x7 : Int32) (x8 : Int32) (x9 : Int32) (x10 : Int32) (x11 : Int32) (σ : rfS), kb_100 x1 x3 x5 x6 x7 x8 x9 x10 x11 σ → Rf ΛC 3 E 14 (qi Q) 100 [(0, .ref 0), (1, .int x1), (3, .int x3), (5, .int x5), (6, .int x6), (7, .int x7), (8, .int x8), (9, .int x9), (10, .int x10), (11, .int x11)] [] σ) (x1 : Int32) (x3 : Int32) (x5 : Int32) (x6 : Int32) (x7 : Int32) (x8 : Int32) (x9 : Int32) (x10 : Int32) (x11 : Int32) (σ : rfS) (h : wj_X7_fits_122 Q kb_100 x1 x3 x5 x6 x7 x8 x9 x10 x11 σ) : Rf ΛC 3 E 14 (qi Q) 122 [(0, .ref 0), (1, .int x1), (3, .int x3), (5, .int x5), (6, .int x6), (7, .int x7), (8, .int x8), (9, .int x9), (10, .int x10), (11, .int x11)] [] σ := by
  unfold wj_X7_fits_122 at h
  refine Rf_aload_n X (j := 0) rfl rfl dX7_fits_122 rfl ?_
  refine Rf_get X kc7 (Nat.le_of_ble_eq_true rfl) rfl (j := 0) (Nat.le_of_ble_eq_true rfl) lf_X7_10 (v := .ref 1) rfl dX7_fits_123 rfl ?_
  refine Rf_get X kc2 (Nat.le_of_ble_eq_true rfl) rfl (j := 1) (Nat.le_of_ble_eq_true rfl) lf_X7_91 (v := .ref 2) rfl dX7_fits_126 rfl ?_
  refine Rf_iload X (j := 3) rfl dX7_fits_129 rfl ?_
  obtain ⟨s9, h⟩ := h
  refine Rf_iaload X (Nat.le_of_ble_eq_true rfl) rfl rfl s9 dX7_fits_131 rfl (v := gF σ 2 (x5.toNatClampNeg)) rfl ?_
  exact sj_X7_fits_132 X hkb_100 _ _ _ _ _ _ _ _ _ _ _ h
def wl_X7_fits_100 (Q : Int32 → rfS → Prop) (kx_202 : Int32 → Int32 → Int32 → rfS → Prop) : Nat → Int32 → Int32 → Int32 → Int32 → Int32 → Int32 → Int32 → Int32 → Int32 → rfS → Prop
  | 0, _, _, _, _, _, _, _, _, _, _ => False
  | n + 1, x1, x3, x5, x6, x7, x8, x9, x10, x11, σ => ((x8 < x11 → kx_202 x3 x9 x10 σ) ∧ (¬ (x8 < x11) → ((x6 = 0 → wj_X7_fits_122 Q (wl_X7_fits_100 Q kx_202 n) x1 x3 x5 x6 x7 x8 x9 x10 x11 σ) ∧ (¬ x6 = 0 → ((x7 = 0 → wj_X7_fits_122 Q (wl_X7_fits_100 Q kx_202 n) x1 x3 x5 x6 x7 x8 x9 x10 x11 σ) ∧ (¬ x7 = 0 → wj_X7_fits_132 Q (wl_X7_fits_100 Q kx_202 n) x1 x3 x5 x6 x7 x8 x9 x10 x11 x11 σ))))))
set_option maxRecDepth 20000 in
theorem sl_X7_fits_100 {E : rfE} {Q : Int32 → rfS → Prop} (X : rfX ΛC E yX7_fits cX7_fits 14 (some .int)) {kx_202 : Int32 → Int32 → Int32 → rfS → Prop} (hkx_202 : ∀ (x3 : Int32) (x9 : Int32) (x10 : Int32) (σ : rfS), kx_202 x3 x9 x10 σ → Rf ΛC 3 E 14 (qi Q) 202 [(3, .int x3), (9, .int x9), (10, .int x10)] [] σ) : ∀ (n : Nat) (x1 : Int32) (x3 : Int32) (x5 : Int32) (x6 : Int32) (x7 : Int32) (x8 : Int32) (x9 : Int32) (x10 : Int32) (x11 : Int32) (σ : rfS), wl_X7_fits_100 Q kx_202 n x1 x3 x5 x6 x7 x8 x9 x10 x11 σ → Rf ΛC 3 E 14 (qi Q) 100 [(0, .ref 0), (1, .int x1), (3, .int x3), (5, .int x5), (6, .int x6), (7, .int x7), (8, .int x8), (9, .int x9), (10, .int x10), (11, .int x11)] [] σ := by
  intro n
  induction n with
  | zero =>
    intro x1 x3 x5 x6 x7 x8 x9 x10 x11 σ h
    exact False.elim h
  | succ n hkb_100 =>
    intro x1 x3 x5 x6 x7 x8 x9 x10 x11 σ h
    unfold wl_X7_fits_100 at h
    refine Rf_iload X (j := 9) rfl dX7_fits_100 rfl ?_
    refine Rf_iload X (j := 6) rfl dX7_fits_102 rfl ?_
    refine Rf_icmp_gt X (tgt := 202) dX7_fits_104 rfl rfl (fun c19 => ?_) (fun c19 => ?_)
    · have h := h.1 c19
      refine Rf_sub [2, 7, 8] rfl ?_
      exact hkx_202 _ _ _ σ h
    · have h := h.2 c19
      refine Rf_iload X (j := 4) rfl dX7_fits_107 rfl ?_
      refine Rf_if_eq X (tgt := 122) dX7_fits_109 rfl rfl (fun c18 => ?_) (fun c18 => ?_)
      · have h := h.1 c18
        exact sj_X7_fits_122 X hkb_100 _ _ _ _ _ _ _ _ _ _ h
      · have h := h.2 c18
        refine Rf_iload X (j := 5) rfl dX7_fits_112 rfl ?_
        refine Rf_if_eq X (tgt := 122) dX7_fits_114 rfl rfl (fun c17 => ?_) (fun c17 => ?_)
        · have h := h.1 c17
          exact sj_X7_fits_122 X hkb_100 _ _ _ _ _ _ _ _ _ _ h
        · have h := h.2 c17
          refine Rf_iload X (j := 9) rfl dX7_fits_117 rfl ?_
          refine Rf_goto X (tgt := 132) dX7_fits_119 rfl ?_
          exact sj_X7_fits_132 X hkb_100 _ _ _ _ _ _ _ _ _ _ _ h
def wj_X7_fits_88 (Q : Int32 → rfS → Prop) (x1 : Int32) (x3 : Int32) (x5 : Int32) (x6 : Int32) (x7 : Int32) (xs0 : Int32) (σ : rfS) : Prop :=
  (∃ n20, wl_X7_fits_100 Q (fun (x3_21 : Int32) (x9_22 : Int32) (x10_23 : Int32) (σ24 : rfS) => ((¬ (x3_21 - x3_21 / 2 * 2) = 0 → Q x10_23 σ24) ∧ ((x3_21 - x3_21 / 2 * 2) = 0 → Q x9_22 σ24))) n20 x1 x3 x5 x6 x7 xs0 0 (-2) 0 σ)
set_option maxRecDepth 20000 in
theorem sj_X7_fits_88 {E : rfE} {Q : Int32 → rfS → Prop} (X : rfX ΛC E yX7_fits cX7_fits 14 (some .int)) (x1 : Int32) (x3 : Int32) (x5 : Int32) (x6 : Int32) (x7 : Int32) (xs0 : Int32) (σ : rfS) (h : wj_X7_fits_88 Q x1 x3 x5 x6 x7 xs0 σ) : Rf ΛC 3 E 14 (qi Q) 88 [(0, .ref 0), (1, .int x1), (3, .int x3), (5, .int x5), (6, .int x6), (7, .int x7)] [.int xs0] σ := by
  unfold wj_X7_fits_88 at h
  refine Rf_istore X (i := 8) (Nat.le_of_ble_eq_true rfl) (ls2 := [(8, .int xs0), (0, .ref 0), (1, .int x1), (3, .int x3), (5, .int x5), (6, .int x6), (7, .int x7)]) rfl dX7_fits_88 rfl ?_
  refine Rf_iconst X (v := 0) rfl dX7_fits_90 rfl ?_
  refine Rf_istore X (i := 9) (Nat.le_of_ble_eq_true rfl) (ls2 := [(9, .int 0), (8, .int xs0), (0, .ref 0), (1, .int x1), (3, .int x3), (5, .int x5), (6, .int x6), (7, .int x7)]) rfl dX7_fits_91 rfl ?_
  refine Rf_bipush X (v := (-2)) (by decide) dX7_fits_93 rfl ?_
  refine Rf_istore X (i := 10) (Nat.le_of_ble_eq_true rfl) (ls2 := [(10, .int (-2)), (9, .int 0), (8, .int xs0), (0, .ref 0), (1, .int x1), (3, .int x3), (5, .int x5), (6, .int x6), (7, .int x7)]) rfl dX7_fits_95 rfl ?_
  refine Rf_iconst X (v := 0) rfl dX7_fits_97 rfl ?_
  refine Rf_istore X (i := 11) (Nat.le_of_ble_eq_true rfl) (ls2 := [(11, .int 0), (10, .int (-2)), (9, .int 0), (8, .int xs0), (0, .ref 0), (1, .int x1), (3, .int x3), (5, .int x5), (6, .int x6), (7, .int x7)]) rfl dX7_fits_98 rfl ?_
  obtain ⟨n20, h⟩ := h
  refine Rf_sub [4, 5, 6, 7, 8, 9, 3, 2, 1, 0] rfl ?_
  refine sl_X7_fits_100 X (fun x3_21 x9_22 x10_23 σ24 h => ?_) n20 _ _ _ _ _ _ _ _ _ _ h
  · refine Rf_iload_n X (j := 0) rfl rfl dX7_fits_202 rfl ?_
    refine Rf_iconst X (v := 2) rfl dX7_fits_203 rfl ?_
    refine Rf_irem X (by decide) dX7_fits_204 rfl ?_
    refine Rf_if_ne X (tgt := 213) dX7_fits_205 rfl rfl (fun c25 => ?_) (fun c25 => ?_)
    · have h := h.1 c25
      refine Rf_iload X (j := 2) rfl dX7_fits_213 rfl ?_
      exact Rf_iret X rfl dX7_fits_215 ⟨_, rfl, h⟩
    · have h := h.2 c25
      refine Rf_iload X (j := 1) rfl dX7_fits_208 rfl ?_
      refine Rf_goto X (tgt := 215) dX7_fits_210 rfl ?_
      exact Rf_iret X rfl dX7_fits_215 ⟨_, rfl, h⟩
def wj_X7_fits_74 (Q : Int32 → rfS → Prop) (x1 : Int32) (x3 : Int32) (x5 : Int32) (x6 : Int32) (xs0 : Int32) (σ : rfS) : Prop :=
  ((xs0 = 0 → wj_X7_fits_88 Q x1 x3 x5 x6 xs0 99 σ) ∧ (¬ xs0 = 0 → wj_X7_fits_88 Q x1 x3 x5 x6 xs0 127 σ))
set_option maxRecDepth 20000 in
theorem sj_X7_fits_74 {E : rfE} {Q : Int32 → rfS → Prop} (X : rfX ΛC E yX7_fits cX7_fits 14 (some .int)) (x1 : Int32) (x3 : Int32) (x5 : Int32) (x6 : Int32) (xs0 : Int32) (σ : rfS) (h : wj_X7_fits_74 Q x1 x3 x5 x6 xs0 σ) : Rf ΛC 3 E 14 (qi Q) 74 [(0, .ref 0), (1, .int x1), (3, .int x3), (5, .int x5), (6, .int x6)] [.int xs0] σ := by
  unfold wj_X7_fits_74 at h
  refine Rf_istore X (i := 7) (Nat.le_of_ble_eq_true rfl) (ls2 := [(7, .int xs0), (0, .ref 0), (1, .int x1), (3, .int x3), (5, .int x5), (6, .int x6)]) rfl dX7_fits_74 rfl ?_
  refine Rf_iload X (j := 0) rfl dX7_fits_76 rfl ?_
  refine Rf_if_eq X (tgt := 86) dX7_fits_78 rfl rfl (fun c26 => ?_) (fun c26 => ?_)
  · have h := h.1 c26
    refine Rf_bipush X (v := 99) rfl dX7_fits_86 rfl ?_
    refine Rf_sub [1, 2, 3, 4, 5, 0] rfl ?_
    exact sj_X7_fits_88 X _ _ _ _ _ _ _ h
  · have h := h.2 c26
    refine Rf_bipush X (v := 127) rfl dX7_fits_81 rfl ?_
    refine Rf_goto X (tgt := 88) dX7_fits_83 rfl ?_
    refine Rf_sub [1, 2, 3, 4, 5, 0] rfl ?_
    exact sj_X7_fits_88 X _ _ _ _ _ _ _ h
def wj_X7_fits_62 (Q : Int32 → rfS → Prop) (x1 : Int32) (x3 : Int32) (x5 : Int32) (xs0 : Int32) (σ : rfS) : Prop :=
  ((2 ≤ x3 → wj_X7_fits_74 Q x1 x3 x5 xs0 0 σ) ∧ (¬ (2 ≤ x3) → wj_X7_fits_74 Q x1 x3 x5 xs0 1 σ))
set_option maxRecDepth 20000 in
theorem sj_X7_fits_62 {E : rfE} {Q : Int32 → rfS → Prop} (X : rfX ΛC E yX7_fits cX7_fits 14 (some .int)) (x1 : Int32) (x3 : Int32) (x5 : Int32) (xs0 : Int32) (σ : rfS) (h : wj_X7_fits_62 Q x1 x3 x5 xs0 σ) : Rf ΛC 3 E 14 (qi Q) 62 [(0, .ref 0), (1, .int x1), (3, .int x3), (5, .int x5)] [.int xs0] σ := by
  unfold wj_X7_fits_62 at h
  refine Rf_istore X (i := 6) (Nat.le_of_ble_eq_true rfl) (ls2 := [(6, .int xs0), (0, .ref 0), (1, .int x1), (3, .int x3), (5, .int x5)]) rfl dX7_fits_62 rfl ?_
  refine Rf_iload_n X (j := 3) rfl rfl dX7_fits_64 rfl ?_
  refine Rf_iconst X (v := 2) rfl dX7_fits_65 rfl ?_
  refine Rf_icmp_ge X (tgt := 73) dX7_fits_66 rfl rfl (fun c27 => ?_) (fun c27 => ?_)
  · have h := h.1 c27
    refine Rf_iconst X (v := 0) rfl dX7_fits_73 rfl ?_
    refine Rf_sub [1, 2, 3, 4, 0] rfl ?_
    exact sj_X7_fits_74 X _ _ _ _ _ _ h
  · have h := h.2 c27
    refine Rf_iconst X (v := 1) rfl dX7_fits_69 rfl ?_
    refine Rf_goto X (tgt := 74) dX7_fits_70 rfl ?_
    refine Rf_sub [1, 2, 3, 4, 0] rfl ?_
    exact sj_X7_fits_74 X _ _ _ _ _ _ h
def wp_X7_fits (σ : rfS) (x1 : Int32) (x2 : Int32) (x3 : Int32) (Q : Int32 → rfS → Prop) : Prop :=
  wp_X7_areShelves σ x1 (fun (r2 : Int32) (σ1 : rfS) => ((r2 = 0 → Q (-1) σ1) ∧ (¬ r2 = 0 → wp_X7_areBrothers σ1 x2 (fun (r4 : Int32) (σ3 : rfS) => ((r4 = 0 → Q (-1) σ3) ∧ (¬ r4 = 0 → wp_X7_isWithin σ3 x3 0 3 (fun (r6 : Int32) (σ5 : rfS) => ((¬ r6 = 0 → wp_X7_refusalOfDebts σ5 x1 (fun (r8 : Int32) (σ7 : rfS) => ((r8 = 0 → ((¬ (x2 / 10) = (x2 - x2 / 10 * 10) → wj_X7_fits_62 Q x1 x3 (x2 / 10) 0 σ7) ∧ ((x2 / 10) = (x2 - x2 / 10 * 10) → wj_X7_fits_62 Q x1 x3 (x2 / 10) 1 σ7))) ∧ (¬ r8 = 0 → Q r8 σ7)))) ∧ (r6 = 0 → Q (-1) σ5)))))))))
set_option maxRecDepth 20000 in
theorem k_X7_fits {σ : rfS} {x1 : Int32} {x2 : Int32} {x3 : Int32} {Q : Int32 → rfS → Prop} (h : wp_X7_fits σ x1 x2 x3 Q) : RM ΛC 3 yX7_fits cX7_fits 14 (some .int) [.ref 0, .int x1, .int x2, .int x3] σ (qi Q) := by
  unfold wp_X7_fits at h
  refine RM.intro (by decide) (Nat.le_of_ble_eq_true rfl) (fun E X => ?_)
  show Rf ΛC 3 E 14 (qi Q) 0 [(0, .ref 0), (1, .int x1), (2, .int x2), (3, .int x3)] [] σ
  refine Rf_aload_n X (j := 0) rfl rfl dX7_fits_0 rfl ?_
  refine Rf_iload_n X (j := 1) rfl rfl dX7_fits_1 rfl ?_
  refine Rf_cVi (as := [.int x1]) (st := []) X mi_X7_areShelves lm_X7_233 rfl (Nat.le_of_ble_eq_true rfl) rfl (k_X7_areShelves h) (Nat.le_of_ble_eq_true rfl) rfl rfl (Nat.le_of_ble_eq_true rfl) dX7_fits_2 rfl (fun r2 σ1 h => ?_)
  refine Rf_if_eq X (tgt := 25) dX7_fits_5 rfl rfl (fun c32 => ?_) (fun c32 => ?_)
  · have h := h.1 c32
    refine Rf_iconst X (v := (-1)) (by decide) dX7_fits_25 rfl ?_
    exact Rf_iret X rfl dX7_fits_26 ⟨_, rfl, h⟩
  · have h := h.2 c32
    refine Rf_aload_n X (j := 0) rfl rfl dX7_fits_8 rfl ?_
    refine Rf_iload_n X (j := 2) rfl rfl dX7_fits_9 rfl ?_
    refine Rf_cVi (as := [.int x2]) (st := []) X mi_X7_areBrothers lm_X7_243 rfl (Nat.le_of_ble_eq_true rfl) rfl (k_X7_areBrothers h) (Nat.le_of_ble_eq_true rfl) rfl rfl (Nat.le_of_ble_eq_true rfl) dX7_fits_10 rfl (fun r4 σ3 h => ?_)
    refine Rf_if_eq X (tgt := 25) dX7_fits_13 rfl rfl (fun c31 => ?_) (fun c31 => ?_)
    · have h := h.1 c31
      refine Rf_iconst X (v := (-1)) (by decide) dX7_fits_25 rfl ?_
      exact Rf_iret X rfl dX7_fits_26 ⟨_, rfl, h⟩
    · have h := h.2 c31
      refine Rf_iload_n X (j := 3) rfl rfl dX7_fits_16 rfl ?_
      refine Rf_iconst X (v := 0) rfl dX7_fits_17 rfl ?_
      refine Rf_iconst X (v := 3) rfl dX7_fits_18 rfl ?_
      refine Rf_cSi (as := [.int x3, .int 0, .int 3]) (st := []) X ms_X7_isWithin lm_X7_63 (k_X7_isWithin h) (Nat.le_of_ble_eq_true rfl) rfl rfl (Nat.le_of_ble_eq_true rfl) dX7_fits_19 rfl (fun r6 σ5 h => ?_)
      refine Rf_if_ne X (tgt := 27) dX7_fits_22 rfl rfl (fun c30 => ?_) (fun c30 => ?_)
      · have h := h.1 c30
        refine Rf_aload_n X (j := 0) rfl rfl dX7_fits_27 rfl ?_
        refine Rf_iload_n X (j := 1) rfl rfl dX7_fits_28 rfl ?_
        refine Rf_cVi (as := [.int x1]) (st := []) X mi_X7_refusalOfDebts lm_X7_236 rfl (Nat.le_of_ble_eq_true rfl) rfl (k_X7_refusalOfDebts h) (Nat.le_of_ble_eq_true rfl) rfl rfl (Nat.le_of_ble_eq_true rfl) dX7_fits_29 rfl (fun r8 σ7 h => ?_)
        refine Rf_istore X (i := 4) (Nat.le_of_ble_eq_true rfl) (ls2 := [(4, .int r8), (0, .ref 0), (1, .int x1), (2, .int x2), (3, .int x3)]) rfl dX7_fits_32 rfl ?_
        refine Rf_iload X (j := 0) rfl dX7_fits_34 rfl ?_
        refine Rf_if_eq X (tgt := 42) dX7_fits_36 rfl rfl (fun c29 => ?_) (fun c29 => ?_)
        · have h := h.1 c29
          refine Rf_iload_n X (j := 3) rfl rfl dX7_fits_42 rfl ?_
          refine Rf_bipush X (v := 10) rfl dX7_fits_43 rfl ?_
          refine Rf_idiv X (by decide) dX7_fits_45 rfl ?_
          refine Rf_istore X (i := 5) (Nat.le_of_ble_eq_true rfl) (ls2 := [(5, .int (x2 / 10)), (4, .int r8), (0, .ref 0), (1, .int x1), (2, .int x2), (3, .int x3)]) rfl dX7_fits_46 rfl ?_
          refine Rf_iload X (j := 0) rfl dX7_fits_48 rfl ?_
          refine Rf_iload_n X (j := 4) rfl rfl dX7_fits_50 rfl ?_
          refine Rf_bipush X (v := 10) rfl dX7_fits_51 rfl ?_
          refine Rf_irem X (by decide) dX7_fits_53 rfl ?_
          refine Rf_icmp_ne X (tgt := 61) dX7_fits_54 rfl rfl (fun c28 => ?_) (fun c28 => ?_)
          · have h := h.1 c28
            refine Rf_iconst X (v := 0) rfl dX7_fits_61 rfl ?_
            refine Rf_sub [2, 3, 5, 0] rfl ?_
            exact sj_X7_fits_62 X _ _ _ _ _ h
          · have h := h.2 c28
            refine Rf_iconst X (v := 1) rfl dX7_fits_57 rfl ?_
            refine Rf_goto X (tgt := 62) dX7_fits_58 rfl ?_
            refine Rf_sub [2, 3, 5, 0] rfl ?_
            exact sj_X7_fits_62 X _ _ _ _ _ h
        · have h := h.2 c29
          refine Rf_iload X (j := 0) rfl dX7_fits_39 rfl ?_
          exact Rf_iret X rfl dX7_fits_41 ⟨_, rfl, h⟩
      · have h := h.2 c30
        refine Rf_iconst X (v := (-1)) (by decide) dX7_fits_25 rfl ?_
        exact Rf_iret X rfl dX7_fits_26 ⟨_, rfl, h⟩
def wp_X7_byTurns (κ_X6_worthOfTurns : rfS → Nat → Int32 → Int32 → Int32 → (Int32 → rfS → Prop) → Prop) (σ : rfS) (x1 : Int32) (x2 : Int32) (x3 : Int32) (Q : Int32 → rfS → Prop) : Prop :=
  wp_X7_areBrothers σ x1 (fun (r2 : Int32) (σ1 : rfS) => ((r2 = 0 → Q (-2000000000) σ1) ∧ (¬ r2 = 0 → (((x1 / 10) = (x1 - x1 / 10 * 10) → Q (-2000000000) σ1) ∧ (¬ (x1 / 10) = (x1 - x1 / 10 * 10) → wp_X7_isWithin σ1 x2 1 5 (fun (r4 : Int32) (σ3 : rfS) => ((r4 = 0 → Q (-2000000000) σ3) ∧ (¬ r4 = 0 → wp_X7_isWithin σ3 x3 0 1 (fun (r6 : Int32) (σ5 : rfS) => ((¬ r6 = 0 → κ_X6_worthOfTurns σ5 12 x2 (x1 / 10) (x1 - x1 / 10 * 10) (fun (r8 : Int32) (σ7 : rfS) => ((¬ x3 = 0 → (((gI σ7 20 3) = 0 → Q 0 σ7) ∧ (¬ (gI σ7 20 3) = 0 → Q 1 σ7))) ∧ (x3 = 0 → Q r8 σ7)))) ∧ (r6 = 0 → Q (-2000000000) σ5)))))))))))
set_option maxRecDepth 20000 in
theorem k_X7_byTurns {d : Nat} {κ_X6_worthOfTurns : rfS → Nat → Int32 → Int32 → Int32 → (Int32 → rfS → Prop) → Prop} (hκ_X6_worthOfTurns : ∀ (σ : rfS) (a1 : Nat) (x2 : Int32) (x3 : Int32) (x4 : Int32) (Q : Int32 → rfS → Prop), isSt a1 → κ_X6_worthOfTurns σ a1 x2 x3 x4 Q → RM ΛC d yX6_worthOfTurns cX6_worthOfTurns 5 (some .int) [.ref 20, .ref a1, .int x2, .int x3, .int x4] σ (qi Q)) (hB : 1 ≤ d) {σ : rfS} {x1 : Int32} {x2 : Int32} {x3 : Int32} {Q : Int32 → rfS → Prop} (h : wp_X7_byTurns κ_X6_worthOfTurns σ x1 x2 x3 Q) : RM ΛC (d + 1) yX7_byTurns cX7_byTurns 5 (some .int) [.ref 0, .int x1, .int x2, .int x3] σ (qi Q) := by
  unfold wp_X7_byTurns at h
  refine RM.intro (by decide) (Nat.le_of_ble_eq_true rfl) (fun E X => ?_)
  show Rf ΛC (d + 1) E 5 (qi Q) 0 [(0, .ref 0), (1, .int x1), (2, .int x2), (3, .int x3)] [] σ
  refine Rf_aload_n X (j := 0) rfl rfl dX7_byTurns_0 rfl ?_
  refine Rf_iload_n X (j := 1) rfl rfl dX7_byTurns_1 rfl ?_
  refine Rf_cVi (as := [.int x1]) (st := []) X mi_X7_areBrothers lm_X7_243 rfl (Nat.le_of_ble_eq_true rfl) rfl (k_X7_areBrothers h) (by omega) rfl rfl (Nat.le_of_ble_eq_true rfl) dX7_byTurns_2 rfl (fun r2 σ1 h => ?_)
  refine Rf_if_eq X (tgt := 37) dX7_byTurns_5 rfl rfl (fun c14 => ?_) (fun c14 => ?_)
  · have h := h.1 c14
    refine Rf_ldc X lc_X7_246 dX7_byTurns_37 rfl ?_
    exact Rf_iret X rfl dX7_byTurns_39 ⟨_, rfl, h⟩
  · have h := h.2 c14
    refine Rf_iload_n X (j := 1) rfl rfl dX7_byTurns_8 rfl ?_
    refine Rf_bipush X (v := 10) rfl dX7_byTurns_9 rfl ?_
    refine Rf_idiv X (by decide) dX7_byTurns_11 rfl ?_
    refine Rf_iload_n X (j := 1) rfl rfl dX7_byTurns_12 rfl ?_
    refine Rf_bipush X (v := 10) rfl dX7_byTurns_13 rfl ?_
    refine Rf_irem X (by decide) dX7_byTurns_15 rfl ?_
    refine Rf_icmp_eq X (tgt := 37) dX7_byTurns_16 rfl rfl (fun c13 => ?_) (fun c13 => ?_)
    · have h := h.1 c13
      refine Rf_ldc X lc_X7_246 dX7_byTurns_37 rfl ?_
      exact Rf_iret X rfl dX7_byTurns_39 ⟨_, rfl, h⟩
    · have h := h.2 c13
      refine Rf_iload_n X (j := 2) rfl rfl dX7_byTurns_19 rfl ?_
      refine Rf_iconst X (v := 1) rfl dX7_byTurns_20 rfl ?_
      refine Rf_iconst X (v := 5) rfl dX7_byTurns_21 rfl ?_
      refine Rf_cSi (as := [.int x2, .int 1, .int 5]) (st := []) X ms_X7_isWithin lm_X7_63 (k_X7_isWithin h) (by omega) rfl rfl (Nat.le_of_ble_eq_true rfl) dX7_byTurns_22 rfl (fun r4 σ3 h => ?_)
      refine Rf_if_eq X (tgt := 37) dX7_byTurns_25 rfl rfl (fun c12 => ?_) (fun c12 => ?_)
      · have h := h.1 c12
        refine Rf_ldc X lc_X7_246 dX7_byTurns_37 rfl ?_
        exact Rf_iret X rfl dX7_byTurns_39 ⟨_, rfl, h⟩
      · have h := h.2 c12
        refine Rf_iload_n X (j := 3) rfl rfl dX7_byTurns_28 rfl ?_
        refine Rf_iconst X (v := 0) rfl dX7_byTurns_29 rfl ?_
        refine Rf_iconst X (v := 1) rfl dX7_byTurns_30 rfl ?_
        refine Rf_cSi (as := [.int x3, .int 0, .int 1]) (st := []) X ms_X7_isWithin lm_X7_63 (k_X7_isWithin h) (by omega) rfl rfl (Nat.le_of_ble_eq_true rfl) dX7_byTurns_31 rfl (fun r6 σ5 h => ?_)
        refine Rf_if_ne X (tgt := 40) dX7_byTurns_34 rfl rfl (fun c11 => ?_) (fun c11 => ?_)
        · have h := h.1 c11
          refine Rf_aload_n X (j := 0) rfl rfl dX7_byTurns_40 rfl ?_
          refine Rf_get X kc7 (Nat.le_of_ble_eq_true rfl) rfl (j := 7) (Nat.le_of_ble_eq_true rfl) lf_X7_38 (v := .ref 20) rfl dX7_byTurns_41 rfl ?_
          refine Rf_aload_n X (j := 0) rfl rfl dX7_byTurns_44 rfl ?_
          refine Rf_get X kc7 (Nat.le_of_ble_eq_true rfl) rfl (j := 1) (Nat.le_of_ble_eq_true rfl) lf_X7_19 (v := .ref 12) rfl dX7_byTurns_45 rfl ?_
          refine Rf_iload_n X (j := 2) rfl rfl dX7_byTurns_48 rfl ?_
          refine Rf_iload_n X (j := 1) rfl rfl dX7_byTurns_49 rfl ?_
          refine Rf_bipush X (v := 10) rfl dX7_byTurns_50 rfl ?_
          refine Rf_idiv X (by decide) dX7_byTurns_52 rfl ?_
          refine Rf_iload_n X (j := 1) rfl rfl dX7_byTurns_53 rfl ?_
          refine Rf_bipush X (v := 10) rfl dX7_byTurns_54 rfl ?_
          refine Rf_irem X (by decide) dX7_byTurns_56 rfl ?_
          refine Rf_cVi (as := [.ref 12, .int x2, .int (x1 / 10), .int (x1 - x1 / 10 * 10)]) (st := []) X mi_X6_worthOfTurns lm_X7_247 rfl (Nat.le_of_ble_eq_true rfl) rfl (hκ_X6_worthOfTurns _ _ _ _ _ _ (by unfold isSt; decide) h) (Nat.le_refl _) rfl rfl (Nat.le_of_ble_eq_true rfl) dX7_byTurns_57 rfl (fun r8 σ7 h => ?_)
          refine Rf_istore X (i := 4) (Nat.le_of_ble_eq_true rfl) (ls2 := [(4, .int r8), (0, .ref 0), (1, .int x1), (2, .int x2), (3, .int x3)]) rfl dX7_byTurns_60 rfl ?_
          refine Rf_iload_n X (j := 4) rfl rfl dX7_byTurns_62 rfl ?_
          refine Rf_if_ne X (tgt := 69) dX7_byTurns_63 rfl rfl (fun c10 => ?_) (fun c10 => ?_)
          · have h := h.1 c10
            refine Rf_aload_n X (j := 1) rfl rfl dX7_byTurns_69 rfl ?_
            refine Rf_get X kc7 (Nat.le_of_ble_eq_true rfl) rfl (j := 7) (Nat.le_of_ble_eq_true rfl) lf_X7_38 (v := .ref 20) rfl dX7_byTurns_70 rfl ?_
            refine Rf_get X kc6 (Nat.le_of_ble_eq_true rfl) rfl (j := 3) (Nat.le_of_ble_eq_true rfl) lf_X7_251 (v := .int (gI σ7 20 3)) rfl dX7_byTurns_73 rfl ?_
            refine Rf_if_eq X (tgt := 83) dX7_byTurns_76 rfl rfl (fun c9 => ?_) (fun c9 => ?_)
            · have h := h.1 c9
              refine Rf_iconst X (v := 0) rfl dX7_byTurns_83 rfl ?_
              exact Rf_iret X rfl dX7_byTurns_84 ⟨_, rfl, h⟩
            · have h := h.2 c9
              refine Rf_iconst X (v := 1) rfl dX7_byTurns_79 rfl ?_
              refine Rf_goto X (tgt := 84) dX7_byTurns_80 rfl ?_
              exact Rf_iret X rfl dX7_byTurns_84 ⟨_, rfl, h⟩
          · have h := h.2 c10
            refine Rf_iload X (j := 0) rfl dX7_byTurns_66 rfl ?_
            exact Rf_iret X rfl dX7_byTurns_68 ⟨_, rfl, h⟩
        · have h := h.2 c11
          refine Rf_ldc X lc_X7_246 dX7_byTurns_37 rfl ?_
          exact Rf_iret X rfl dX7_byTurns_39 ⟨_, rfl, h⟩
def wj_X7_drawn_22 (Q : Int32 → rfS → Prop) (x1 : Int32) (x2 : Int32) (x3 : Int32) (σ : rfS) : Prop :=
  wp_X7_isWithin σ (x2 / 10000) 1 30 (fun (r2 : Int32) (σ1 : rfS) => ((r2 = 0 → Q (-1) σ1) ∧ (¬ r2 = 0 → wp_X7_isWithin σ1 ((x2 / 100) - (x2 / 100) / 100 * 100) 1 28 (fun (r4 : Int32) (σ3 : rfS) => ((r4 = 0 → Q (-1) σ3) ∧ (¬ r4 = 0 → (((x2 - x2 / 100 * 100) ≤ 12 → wp_X6_draw σ3 12 x1 (x2 / 10000) ((x2 / 100) - (x2 / 100) / 100 * 100) (x2 - x2 / 100 * 100) x3 (fun (r6 : Int32) (σ5 : rfS) => Q r6 σ5)) ∧ (¬ ((x2 - x2 / 100 * 100) ≤ 12) → Q (-1) σ3))))))))
set_option maxRecDepth 20000 in
theorem sj_X7_drawn_22 {E : rfE} {Q : Int32 → rfS → Prop} (X : rfX ΛC E yX7_drawn cX7_drawn 7 (some .int)) (x1 : Int32) (x2 : Int32) (x3 : Int32) (σ : rfS) (h : wj_X7_drawn_22 Q x1 x2 x3 σ) : Rf ΛC 5 E 7 (qi Q) 22 [(0, .ref 0), (1, .int x1), (2, .int x2), (3, .int x3)] [] σ := by
  unfold wj_X7_drawn_22 at h
  refine Rf_iload_n X (j := 2) rfl rfl dX7_drawn_22 rfl ?_
  refine Rf_sipush X (v := 10000) rfl dX7_drawn_23 rfl ?_
  refine Rf_idiv X (by decide) dX7_drawn_26 rfl ?_
  refine Rf_istore X (i := 4) (Nat.le_of_ble_eq_true rfl) (ls2 := [(4, .int (x2 / 10000)), (0, .ref 0), (1, .int x1), (2, .int x2), (3, .int x3)]) rfl dX7_drawn_27 rfl ?_
  refine Rf_iload_n X (j := 3) rfl rfl dX7_drawn_29 rfl ?_
  refine Rf_bipush X (v := 100) rfl dX7_drawn_30 rfl ?_
  refine Rf_idiv X (by decide) dX7_drawn_32 rfl ?_
  refine Rf_bipush X (v := 100) rfl dX7_drawn_33 rfl ?_
  refine Rf_irem X (by decide) dX7_drawn_35 rfl ?_
  refine Rf_istore X (i := 5) (Nat.le_of_ble_eq_true rfl) (ls2 := [(5, .int ((x2 / 100) - (x2 / 100) / 100 * 100)), (4, .int (x2 / 10000)), (0, .ref 0), (1, .int x1), (2, .int x2), (3, .int x3)]) rfl dX7_drawn_36 rfl ?_
  refine Rf_iload_n X (j := 4) rfl rfl dX7_drawn_38 rfl ?_
  refine Rf_bipush X (v := 100) rfl dX7_drawn_39 rfl ?_
  refine Rf_irem X (by decide) dX7_drawn_41 rfl ?_
  refine Rf_istore X (i := 6) (Nat.le_of_ble_eq_true rfl) (ls2 := [(6, .int (x2 - x2 / 100 * 100)), (5, .int ((x2 / 100) - (x2 / 100) / 100 * 100)), (4, .int (x2 / 10000)), (0, .ref 0), (1, .int x1), (2, .int x2), (3, .int x3)]) rfl dX7_drawn_42 rfl ?_
  refine Rf_iload X (j := 2) rfl dX7_drawn_44 rfl ?_
  refine Rf_iconst X (v := 1) rfl dX7_drawn_46 rfl ?_
  refine Rf_bipush X (v := 30) rfl dX7_drawn_47 rfl ?_
  refine Rf_cSi (as := [.int (x2 / 10000), .int 1, .int 30]) (st := []) X ms_X7_isWithin lm_X7_63 (k_X7_isWithin h) (Nat.le_of_ble_eq_true rfl) rfl rfl (Nat.le_of_ble_eq_true rfl) dX7_drawn_49 rfl (fun r2 σ1 h => ?_)
  refine Rf_if_eq X (tgt := 73) dX7_drawn_52 rfl rfl (fun c9 => ?_) (fun c9 => ?_)
  · have h := h.1 c9
    refine Rf_iconst X (v := (-1)) (by decide) dX7_drawn_73 rfl ?_
    exact Rf_iret X rfl dX7_drawn_74 ⟨_, rfl, h⟩
  · have h := h.2 c9
    refine Rf_iload X (j := 1) rfl dX7_drawn_55 rfl ?_
    refine Rf_iconst X (v := 1) rfl dX7_drawn_57 rfl ?_
    refine Rf_bipush X (v := 28) rfl dX7_drawn_58 rfl ?_
    refine Rf_cSi (as := [.int ((x2 / 100) - (x2 / 100) / 100 * 100), .int 1, .int 28]) (st := []) X ms_X7_isWithin lm_X7_63 (k_X7_isWithin h) (Nat.le_of_ble_eq_true rfl) rfl rfl (Nat.le_of_ble_eq_true rfl) dX7_drawn_60 rfl (fun r4 σ3 h => ?_)
    refine Rf_if_eq X (tgt := 73) dX7_drawn_63 rfl rfl (fun c8 => ?_) (fun c8 => ?_)
    · have h := h.1 c8
      refine Rf_iconst X (v := (-1)) (by decide) dX7_drawn_73 rfl ?_
      exact Rf_iret X rfl dX7_drawn_74 ⟨_, rfl, h⟩
    · have h := h.2 c8
      refine Rf_iload X (j := 0) rfl dX7_drawn_66 rfl ?_
      refine Rf_bipush X (v := 12) rfl dX7_drawn_68 rfl ?_
      refine Rf_icmp_le X (tgt := 75) dX7_drawn_70 rfl rfl (fun c7 => ?_) (fun c7 => ?_)
      · have h := h.1 c7
        refine Rf_aload_n X (j := 3) rfl rfl dX7_drawn_75 rfl ?_
        refine Rf_get X kc7 (Nat.le_of_ble_eq_true rfl) rfl (j := 7) (Nat.le_of_ble_eq_true rfl) lf_X7_38 (v := .ref 20) rfl dX7_drawn_76 rfl ?_
        refine Rf_aload_n X (j := 3) rfl rfl dX7_drawn_79 rfl ?_
        refine Rf_get X kc7 (Nat.le_of_ble_eq_true rfl) rfl (j := 1) (Nat.le_of_ble_eq_true rfl) lf_X7_19 (v := .ref 12) rfl dX7_drawn_80 rfl ?_
        refine Rf_iload_n X (j := 4) rfl rfl dX7_drawn_83 rfl ?_
        refine Rf_iload X (j := 2) rfl dX7_drawn_84 rfl ?_
        refine Rf_iload X (j := 1) rfl dX7_drawn_86 rfl ?_
        refine Rf_iload X (j := 0) rfl dX7_drawn_88 rfl ?_
        refine Rf_iload_n X (j := 6) rfl rfl dX7_drawn_90 rfl ?_
        refine Rf_cVi (as := [.ref 12, .int x1, .int (x2 / 10000), .int ((x2 / 100) - (x2 / 100) / 100 * 100), .int (x2 - x2 / 100 * 100), .int x3]) (st := []) X mi_X6_draw lm_X7_255 rfl (Nat.le_of_ble_eq_true rfl) rfl (k_X6_draw (by unfold isSt; decide) h) (Nat.le_of_ble_eq_true rfl) rfl rfl (Nat.le_of_ble_eq_true rfl) dX7_drawn_91 rfl (fun r6 σ5 h => ?_)
        exact Rf_iret X rfl dX7_drawn_94 ⟨_, rfl, h⟩
      · have h := h.2 c7
        refine Rf_iconst X (v := (-1)) (by decide) dX7_drawn_73 rfl ?_
        exact Rf_iret X rfl dX7_drawn_74 ⟨_, rfl, h⟩
def wp_X7_drawn (σ : rfS) (x1 : Int32) (x2 : Int32) (x3 : Int32) (Q : Int32 → rfS → Prop) : Prop :=
  ((x2 < 0 → Q (-1) σ) ∧ (¬ (x2 < 0) → ((x3 = (-1) → wj_X7_drawn_22 Q x1 x2 x3 σ) ∧ (¬ x3 = (-1) → wp_X2_isOne σ x3 (fun (r11 : Int32) (σ10 : rfS) => ((¬ r11 = 0 → wj_X7_drawn_22 Q x1 x2 x3 σ10) ∧ (r11 = 0 → Q (-1) σ10)))))))
set_option maxRecDepth 20000 in
theorem k_X7_drawn {σ : rfS} {x1 : Int32} {x2 : Int32} {x3 : Int32} {Q : Int32 → rfS → Prop} (h : wp_X7_drawn σ x1 x2 x3 Q) : RM ΛC 5 yX7_drawn cX7_drawn 7 (some .int) [.ref 0, .int x1, .int x2, .int x3] σ (qi Q) := by
  unfold wp_X7_drawn at h
  refine RM.intro (by decide) (Nat.le_of_ble_eq_true rfl) (fun E X => ?_)
  show Rf ΛC 5 E 7 (qi Q) 0 [(0, .ref 0), (1, .int x1), (2, .int x2), (3, .int x3)] [] σ
  refine Rf_iload_n X (j := 2) rfl rfl dX7_drawn_0 rfl ?_
  refine Rf_if_lt X (tgt := 20) dX7_drawn_1 rfl rfl (fun c14 => ?_) (fun c14 => ?_)
  · have h := h.1 c14
    refine Rf_iconst X (v := (-1)) (by decide) dX7_drawn_20 rfl ?_
    exact Rf_iret X rfl dX7_drawn_21 ⟨_, rfl, h⟩
  · have h := h.2 c14
    refine Rf_iload_n X (j := 3) rfl rfl dX7_drawn_4 rfl ?_
    refine Rf_iconst X (v := (-1)) (by decide) dX7_drawn_5 rfl ?_
    refine Rf_icmp_eq X (tgt := 22) dX7_drawn_6 rfl rfl (fun c13 => ?_) (fun c13 => ?_)
    · have h := h.1 c13
      exact sj_X7_drawn_22 X _ _ _ _ h
    · have h := h.2 c13
      refine Rf_aload_n X (j := 0) rfl rfl dX7_drawn_9 rfl ?_
      refine Rf_get X kc7 (Nat.le_of_ble_eq_true rfl) rfl (j := 0) (Nat.le_of_ble_eq_true rfl) lf_X7_10 (v := .ref 1) rfl dX7_drawn_10 rfl ?_
      refine Rf_iload_n X (j := 3) rfl rfl dX7_drawn_13 rfl ?_
      refine Rf_cVi (as := [.int x3]) (st := []) X mi_X2_isOne lm_X7_125 rfl (Nat.le_of_ble_eq_true rfl) rfl (k_X2_isOne h) (Nat.le_of_ble_eq_true rfl) rfl rfl (Nat.le_of_ble_eq_true rfl) dX7_drawn_14 rfl (fun r11 σ10 h => ?_)
      refine Rf_if_ne X (tgt := 22) dX7_drawn_17 rfl rfl (fun c12 => ?_) (fun c12 => ?_)
      · have h := h.1 c12
        exact sj_X7_drawn_22 X _ _ _ _ h
      · have h := h.2 c12
        refine Rf_iconst X (v := (-1)) (by decide) dX7_drawn_20 rfl ?_
        exact Rf_iret X rfl dX7_drawn_21 ⟨_, rfl, h⟩
def wp_X7_day (σ : rfS) (x1 : Int32) (Q : Int32 → rfS → Prop) : Prop :=
  wp_X2_mayHave σ (x1.toInt64) (fun (r2 : Int32) (σ1 : rfS) => ((¬ r2 = 0 → wp_X2_pass σ1 12 x1 (fun (r4 : Int32) (σ3 : rfS) => Q r4 (sF (sF σ3 15 0 ((gF σ3 15 0) + 1)) 15 1 ((gF σ3 15 1) + r4)))) ∧ (r2 = 0 → Q (-1) σ1)))
set_option maxRecDepth 20000 in
theorem k_X7_day {σ : rfS} {x1 : Int32} {Q : Int32 → rfS → Prop} (h : wp_X7_day σ x1 Q) : RM ΛC 4 yX7_day cX7_day 3 (some .int) [.ref 0, .int x1] σ (qi Q) := by
  unfold wp_X7_day at h
  refine RM.intro (by decide) (Nat.le_of_ble_eq_true rfl) (fun E X => ?_)
  show Rf ΛC 4 E 3 (qi Q) 0 [(0, .ref 0), (1, .int x1)] [] σ
  refine Rf_aload_n X (j := 0) rfl rfl dX7_day_0 rfl ?_
  refine Rf_get X kc7 (Nat.le_of_ble_eq_true rfl) rfl (j := 0) (Nat.le_of_ble_eq_true rfl) lf_X7_10 (v := .ref 1) rfl dX7_day_1 rfl ?_
  refine Rf_iload_n X (j := 1) rfl rfl dX7_day_4 rfl ?_
  refine Rf_i2l X dX7_day_5 rfl ?_
  refine Rf_cVi (as := [.long (x1.toInt64)]) (st := []) X mi_X2_mayHave lm_X7_259 rfl (Nat.le_of_ble_eq_true rfl) rfl (k_X2_mayHave h) (Nat.le_of_ble_eq_true rfl) rfl rfl (Nat.le_of_ble_eq_true rfl) dX7_day_6 rfl (fun r2 σ1 h => ?_)
  refine Rf_if_ne X (tgt := 14) dX7_day_9 rfl rfl (fun c5 => ?_) (fun c5 => ?_)
  · have h := h.1 c5
    refine Rf_aload_n X (j := 0) rfl rfl dX7_day_14 rfl ?_
    refine Rf_get X kc7 (Nat.le_of_ble_eq_true rfl) rfl (j := 0) (Nat.le_of_ble_eq_true rfl) lf_X7_10 (v := .ref 1) rfl dX7_day_15 rfl ?_
    refine Rf_aload_n X (j := 0) rfl rfl dX7_day_18 rfl ?_
    refine Rf_get X kc7 (Nat.le_of_ble_eq_true rfl) rfl (j := 1) (Nat.le_of_ble_eq_true rfl) lf_X7_19 (v := .ref 12) rfl dX7_day_19 rfl ?_
    refine Rf_iload_n X (j := 1) rfl rfl dX7_day_22 rfl ?_
    refine Rf_cVi (as := [.ref 12, .int x1]) (st := []) X mi_X2_pass lm_X7_263 rfl (Nat.le_of_ble_eq_true rfl) rfl (k_X2_pass (by unfold isSt; decide) h) (Nat.le_of_ble_eq_true rfl) rfl rfl (Nat.le_of_ble_eq_true rfl) dX7_day_23 rfl (fun r4 σ3 h => ?_)
    refine Rf_istore_n X rfl (i := 2) (Nat.le_of_ble_eq_true rfl) (ls2 := [(2, .int r4), (0, .ref 0), (1, .int x1)]) rfl dX7_day_26 rfl ?_
    refine Rf_aload_n X (j := 1) rfl rfl dX7_day_27 rfl ?_
    refine Rf_get X kc7 (Nat.le_of_ble_eq_true rfl) rfl (j := 2) (Nat.le_of_ble_eq_true rfl) lf_X7_23 (v := .ref 15) rfl dX7_day_28 rfl ?_
    refine Rf_iconst X (v := 0) rfl dX7_day_31 rfl ?_
    refine Rf_dup2 X rfl rfl dX7_day_32 rfl ?_
    refine Rf_iaload X (Nat.le_of_ble_eq_true rfl) rfl rfl (by unfold vp_in; decide) dX7_day_33 rfl (v := gF σ3 15 0) rfl ?_
    refine Rf_iconst X (v := 1) rfl dX7_day_34 rfl ?_
    refine Rf_iadd X dX7_day_35 rfl ?_
    refine Rf_iastore X (Nat.le_of_ble_eq_true rfl) rfl rfl (by unfold vp_in; decide) dX7_day_36 rfl ?_
    refine Rf_aload_n X (j := 1) rfl rfl dX7_day_37 rfl ?_
    refine Rf_get X kc7 (Nat.le_of_ble_eq_true rfl) rfl (j := 2) (Nat.le_of_ble_eq_true rfl) lf_X7_23 (v := .ref 15) rfl dX7_day_38 rfl ?_
    refine Rf_iconst X (v := 1) rfl dX7_day_41 rfl ?_
    refine Rf_dup2 X rfl rfl dX7_day_42 rfl ?_
    refine Rf_iaload X (Nat.le_of_ble_eq_true rfl) rfl rfl (by unfold vp_in; decide) dX7_day_43 rfl (v := gF σ3 15 1) (show gF (sF σ3 15 0 ((gF σ3 15 0) + 1)) 15 1 = gF σ3 15 1 from gF_sFi (by decide)) ?_
    refine Rf_iload_n X (j := 0) rfl rfl dX7_day_44 rfl ?_
    refine Rf_iadd X dX7_day_45 rfl ?_
    refine Rf_iastore X (Nat.le_of_ble_eq_true rfl) rfl rfl (by unfold vp_in; decide) dX7_day_46 rfl ?_
    refine Rf_iload_n X (j := 0) rfl rfl dX7_day_47 rfl ?_
    exact Rf_iret X rfl dX7_day_48 ⟨_, rfl, h⟩
  · have h := h.2 c5
    refine Rf_iconst X (v := (-1)) (by decide) dX7_day_12 rfl ?_
    exact Rf_iret X rfl dX7_day_13 ⟨_, rfl, h⟩
def wp_X7_areTwo (σ : rfS) (x1 : Int32) (x2 : Int32) (Q : Int32 → rfS → Prop) : Prop :=
  wp_X2_isOne σ x1 (fun (r2 : Int32) (σ1 : rfS) => ((r2 = 0 → Q 0 σ1) ∧ (¬ r2 = 0 → wp_X2_isOne σ1 x2 (fun (r4 : Int32) (σ3 : rfS) => ((r4 = 0 → Q 0 σ3) ∧ (¬ r4 = 0 → ((x1 = x2 → Q 0 σ3) ∧ (¬ x1 = x2 → Q 1 σ3))))))))
set_option maxRecDepth 20000 in
theorem k_X7_areTwo {σ : rfS} {x1 : Int32} {x2 : Int32} {Q : Int32 → rfS → Prop} (h : wp_X7_areTwo σ x1 x2 Q) : RM ΛC 1 yX7_areTwo cX7_areTwo 3 (some .boolean) [.ref 0, .int x1, .int x2] σ (qi Q) := by
  unfold wp_X7_areTwo at h
  refine RM.intro (by decide) (Nat.le_of_ble_eq_true rfl) (fun E X => ?_)
  show Rf ΛC 1 E 3 (qi Q) 0 [(0, .ref 0), (1, .int x1), (2, .int x2)] [] σ
  refine Rf_aload_n X (j := 0) rfl rfl dX7_areTwo_0 rfl ?_
  refine Rf_get X kc7 (Nat.le_of_ble_eq_true rfl) rfl (j := 0) (Nat.le_of_ble_eq_true rfl) lf_X7_10 (v := .ref 1) rfl dX7_areTwo_1 rfl ?_
  refine Rf_iload_n X (j := 1) rfl rfl dX7_areTwo_4 rfl ?_
  refine Rf_cVi (as := [.int x1]) (st := []) X mi_X2_isOne lm_X7_125 rfl (Nat.le_of_ble_eq_true rfl) rfl (k_X2_isOne h) (Nat.le_of_ble_eq_true rfl) rfl rfl (Nat.le_of_ble_eq_true rfl) dX7_areTwo_5 rfl (fun r2 σ1 h => ?_)
  refine Rf_if_eq X (tgt := 31) dX7_areTwo_8 rfl rfl (fun c7 => ?_) (fun c7 => ?_)
  · have h := h.1 c7
    refine Rf_iconst X (v := 0) rfl dX7_areTwo_31 rfl ?_
    exact Rf_iret X rfl dX7_areTwo_32 ⟨_, rfl, h⟩
  · have h := h.2 c7
    refine Rf_aload_n X (j := 0) rfl rfl dX7_areTwo_11 rfl ?_
    refine Rf_get X kc7 (Nat.le_of_ble_eq_true rfl) rfl (j := 0) (Nat.le_of_ble_eq_true rfl) lf_X7_10 (v := .ref 1) rfl dX7_areTwo_12 rfl ?_
    refine Rf_iload_n X (j := 2) rfl rfl dX7_areTwo_15 rfl ?_
    refine Rf_cVi (as := [.int x2]) (st := []) X mi_X2_isOne lm_X7_125 rfl (Nat.le_of_ble_eq_true rfl) rfl (k_X2_isOne h) (Nat.le_of_ble_eq_true rfl) rfl rfl (Nat.le_of_ble_eq_true rfl) dX7_areTwo_16 rfl (fun r4 σ3 h => ?_)
    refine Rf_if_eq X (tgt := 31) dX7_areTwo_19 rfl rfl (fun c6 => ?_) (fun c6 => ?_)
    · have h := h.1 c6
      refine Rf_iconst X (v := 0) rfl dX7_areTwo_31 rfl ?_
      exact Rf_iret X rfl dX7_areTwo_32 ⟨_, rfl, h⟩
    · have h := h.2 c6
      refine Rf_iload_n X (j := 1) rfl rfl dX7_areTwo_22 rfl ?_
      refine Rf_iload_n X (j := 2) rfl rfl dX7_areTwo_23 rfl ?_
      refine Rf_icmp_eq X (tgt := 31) dX7_areTwo_24 rfl rfl (fun c5 => ?_) (fun c5 => ?_)
      · have h := h.1 c5
        refine Rf_iconst X (v := 0) rfl dX7_areTwo_31 rfl ?_
        exact Rf_iret X rfl dX7_areTwo_32 ⟨_, rfl, h⟩
      · have h := h.2 c5
        refine Rf_iconst X (v := 1) rfl dX7_areTwo_27 rfl ?_
        refine Rf_goto X (tgt := 32) dX7_areTwo_28 rfl ?_
        exact Rf_iret X rfl dX7_areTwo_32 ⟨_, rfl, h⟩
def wp_X7_tells (σ : rfS) (x1 : Int32) (x2 : Int32) (Q : Int32 → rfS → Prop) : Prop :=
  wp_X7_areTwo σ x1 x2 (fun (r2 : Int32) (σ1 : rfS) => ((¬ r2 = 0 → vp_in x1 7 ∧ vp_in x2 7 ∧ vp_in x2 7 ∧ vp_in x2 7 ∧ wp_J6_bitCount_0f7a4 (sF (sF σ1 14 (x2.toNatClampNeg) ((gF σ1 14 (x2.toNatClampNeg)) ||| ((gF σ1 14 (x1.toNatClampNeg)) &&& ((gF σ1 14 (x2.toNatClampNeg)) ^^^ (-1))))) 15 2 ((gF σ1 15 2) + 1)) ((gF σ1 14 (x1.toNatClampNeg)) &&& ((gF σ1 14 (x2.toNatClampNeg)) ^^^ (-1))) (fun (r8 : Int32) (σ7 : rfS) => Q r8 σ7)) ∧ (r2 = 0 → Q (-1) σ1)))
set_option maxRecDepth 20000 in
theorem k_X7_tells {σ : rfS} {x1 : Int32} {x2 : Int32} {Q : Int32 → rfS → Prop} (h : wp_X7_tells σ x1 x2 Q) : RM ΛC 2 yX7_tells cX7_tells 4 (some .int) [.ref 0, .int x1, .int x2] σ (qi Q) := by
  unfold wp_X7_tells at h
  refine RM.intro (by decide) (Nat.le_of_ble_eq_true rfl) (fun E X => ?_)
  show Rf ΛC 2 E 4 (qi Q) 0 [(0, .ref 0), (1, .int x1), (2, .int x2)] [] σ
  refine Rf_aload_n X (j := 0) rfl rfl dX7_tells_0 rfl ?_
  refine Rf_iload_n X (j := 1) rfl rfl dX7_tells_1 rfl ?_
  refine Rf_iload_n X (j := 2) rfl rfl dX7_tells_2 rfl ?_
  refine Rf_cVi (as := [.int x1, .int x2]) (st := []) X mi_X7_areTwo lm_X7_266 rfl (Nat.le_of_ble_eq_true rfl) rfl (k_X7_areTwo h) (Nat.le_of_ble_eq_true rfl) rfl rfl (Nat.le_of_ble_eq_true rfl) dX7_tells_3 rfl (fun r2 σ1 h => ?_)
  refine Rf_if_ne X (tgt := 11) dX7_tells_6 rfl rfl (fun c9 => ?_) (fun c9 => ?_)
  · have h := h.1 c9
    refine Rf_aload_n X (j := 0) rfl rfl dX7_tells_11 rfl ?_
    refine Rf_get X kc7 (Nat.le_of_ble_eq_true rfl) rfl (j := 1) (Nat.le_of_ble_eq_true rfl) lf_X7_19 (v := .ref 12) rfl dX7_tells_12 rfl ?_
    refine Rf_get X kc5 (Nat.le_of_ble_eq_true rfl) rfl (j := 1) (Nat.le_of_ble_eq_true rfl) lf_X7_100 (v := .ref 14) rfl dX7_tells_15 rfl ?_
    refine Rf_iload_n X (j := 1) rfl rfl dX7_tells_18 rfl ?_
    obtain ⟨s3, h⟩ := h
    refine Rf_iaload X (Nat.le_of_ble_eq_true rfl) rfl rfl s3 dX7_tells_19 rfl (v := gF σ1 14 (x1.toNatClampNeg)) rfl ?_
    refine Rf_aload_n X (j := 0) rfl rfl dX7_tells_20 rfl ?_
    refine Rf_get X kc7 (Nat.le_of_ble_eq_true rfl) rfl (j := 1) (Nat.le_of_ble_eq_true rfl) lf_X7_19 (v := .ref 12) rfl dX7_tells_21 rfl ?_
    refine Rf_get X kc5 (Nat.le_of_ble_eq_true rfl) rfl (j := 1) (Nat.le_of_ble_eq_true rfl) lf_X7_100 (v := .ref 14) rfl dX7_tells_24 rfl ?_
    refine Rf_iload_n X (j := 2) rfl rfl dX7_tells_27 rfl ?_
    obtain ⟨s4, h⟩ := h
    refine Rf_iaload X (Nat.le_of_ble_eq_true rfl) rfl rfl s4 dX7_tells_28 rfl (v := gF σ1 14 (x2.toNatClampNeg)) rfl ?_
    refine Rf_iconst X (v := (-1)) (by decide) dX7_tells_29 rfl ?_
    refine Rf_ixor X dX7_tells_30 rfl ?_
    refine Rf_iand X dX7_tells_31 rfl ?_
    refine Rf_istore_n X rfl (i := 3) (Nat.le_of_ble_eq_true rfl) (ls2 := [(3, .int ((gF σ1 14 (x1.toNatClampNeg)) &&& ((gF σ1 14 (x2.toNatClampNeg)) ^^^ (-1)))), (0, .ref 0), (1, .int x1), (2, .int x2)]) rfl dX7_tells_32 rfl ?_
    refine Rf_aload_n X (j := 1) rfl rfl dX7_tells_33 rfl ?_
    refine Rf_get X kc7 (Nat.le_of_ble_eq_true rfl) rfl (j := 1) (Nat.le_of_ble_eq_true rfl) lf_X7_19 (v := .ref 12) rfl dX7_tells_34 rfl ?_
    refine Rf_get X kc5 (Nat.le_of_ble_eq_true rfl) rfl (j := 1) (Nat.le_of_ble_eq_true rfl) lf_X7_100 (v := .ref 14) rfl dX7_tells_37 rfl ?_
    refine Rf_iload_n X (j := 3) rfl rfl dX7_tells_40 rfl ?_
    refine Rf_dup2 X rfl rfl dX7_tells_41 rfl ?_
    obtain ⟨s5, h⟩ := h
    refine Rf_iaload X (Nat.le_of_ble_eq_true rfl) rfl rfl s5 dX7_tells_42 rfl (v := gF σ1 14 (x2.toNatClampNeg)) rfl ?_
    refine Rf_iload_n X (j := 0) rfl rfl dX7_tells_43 rfl ?_
    refine Rf_ior X dX7_tells_44 rfl ?_
    obtain ⟨s6, h⟩ := h
    refine Rf_iastore X (Nat.le_of_ble_eq_true rfl) rfl rfl s6 dX7_tells_45 rfl ?_
    refine Rf_aload_n X (j := 1) rfl rfl dX7_tells_46 rfl ?_
    refine Rf_get X kc7 (Nat.le_of_ble_eq_true rfl) rfl (j := 2) (Nat.le_of_ble_eq_true rfl) lf_X7_23 (v := .ref 15) rfl dX7_tells_47 rfl ?_
    refine Rf_iconst X (v := 2) rfl dX7_tells_50 rfl ?_
    refine Rf_dup2 X rfl rfl dX7_tells_51 rfl ?_
    refine Rf_iaload X (Nat.le_of_ble_eq_true rfl) rfl rfl (by unfold vp_in; decide) dX7_tells_52 rfl (v := gF σ1 15 2) (show gF (sF σ1 14 (x2.toNatClampNeg) ((gF σ1 14 (x2.toNatClampNeg)) ||| ((gF σ1 14 (x1.toNatClampNeg)) &&& ((gF σ1 14 (x2.toNatClampNeg)) ^^^ (-1))))) 15 2 = gF σ1 15 2 from gF_sFn (by decide)) ?_
    refine Rf_iconst X (v := 1) rfl dX7_tells_53 rfl ?_
    refine Rf_iadd X dX7_tells_54 rfl ?_
    refine Rf_iastore X (Nat.le_of_ble_eq_true rfl) rfl rfl (by unfold vp_in; decide) dX7_tells_55 rfl ?_
    refine Rf_iload_n X (j := 0) rfl rfl dX7_tells_56 rfl ?_
    refine Rf_cSi (as := [.int ((gF σ1 14 (x1.toNatClampNeg)) &&& ((gF σ1 14 (x2.toNatClampNeg)) ^^^ (-1)))]) (st := []) X ms_J6_bitCount_0f7a4 lm_X7_214 (k_J6_bitCount_0f7a4 h) (Nat.le_of_ble_eq_true rfl) rfl rfl (Nat.le_of_ble_eq_true rfl) dX7_tells_57 rfl (fun r8 σ7 h => ?_)
    exact Rf_iret X rfl dX7_tells_60 ⟨_, rfl, h⟩
  · have h := h.2 c9
    refine Rf_iconst X (v := (-1)) (by decide) dX7_tells_9 rfl ?_
    exact Rf_iret X rfl dX7_tells_10 ⟨_, rfl, h⟩
def wp_X7_pays (σ : rfS) (x1 : Int32) (x2 : Int32) (x3 : Int32) (Q : Int32 → rfS → Prop) : Prop :=
  wp_X7_areTwo σ x1 x2 (fun (r2 : Int32) (σ1 : rfS) => ((r2 = 0 → Q (-1) σ1) ∧ (¬ r2 = 0 → wp_X7_isWithin σ1 x3 1 99 (fun (r4 : Int32) (σ3 : rfS) => ((¬ r4 = 0 → vp_in x1 7 ∧ (((gF σ3 13 (x1.toNatClampNeg)) < x3 → Q (-5) σ3) ∧ (¬ ((gF σ3 13 (x1.toNatClampNeg)) < x3) → vp_in x2 7 ∧ ((x3 ≤ (gF σ3 13 (x2.toNatClampNeg)) → vp_in x1 7 ∧ vp_in x1 7 ∧ vp_in x2 7 ∧ vp_in x2 7 ∧ vp_in x1 7 ∧ Q (gF (sF (sF σ3 13 (x1.toNatClampNeg) ((gF σ3 13 (x1.toNatClampNeg)) - x3)) 13 (x2.toNatClampNeg) ((gF (sF σ3 13 (x1.toNatClampNeg) ((gF σ3 13 (x1.toNatClampNeg)) - x3)) 13 (x2.toNatClampNeg)) - x3)) 13 (x1.toNatClampNeg)) (sF (sF (sF σ3 13 (x1.toNatClampNeg) ((gF σ3 13 (x1.toNatClampNeg)) - x3)) 13 (x2.toNatClampNeg) ((gF (sF σ3 13 (x1.toNatClampNeg) ((gF σ3 13 (x1.toNatClampNeg)) - x3)) 13 (x2.toNatClampNeg)) - x3)) 15 3 ((gF σ3 15 3) + x3))) ∧ (¬ (x3 ≤ (gF σ3 13 (x2.toNatClampNeg))) → Q (-5) σ3))))) ∧ (r4 = 0 → Q (-1) σ3))))))
set_option maxRecDepth 20000 in
theorem k_X7_pays {σ : rfS} {x1 : Int32} {x2 : Int32} {x3 : Int32} {Q : Int32 → rfS → Prop} (h : wp_X7_pays σ x1 x2 x3 Q) : RM ΛC 2 yX7_pays cX7_pays 4 (some .int) [.ref 0, .int x1, .int x2, .int x3] σ (qi Q) := by
  unfold wp_X7_pays at h
  refine RM.intro (by decide) (Nat.le_of_ble_eq_true rfl) (fun E X => ?_)
  show Rf ΛC 2 E 4 (qi Q) 0 [(0, .ref 0), (1, .int x1), (2, .int x2), (3, .int x3)] [] σ
  refine Rf_aload_n X (j := 0) rfl rfl dX7_pays_0 rfl ?_
  refine Rf_iload_n X (j := 1) rfl rfl dX7_pays_1 rfl ?_
  refine Rf_iload_n X (j := 2) rfl rfl dX7_pays_2 rfl ?_
  refine Rf_cVi (as := [.int x1, .int x2]) (st := []) X mi_X7_areTwo lm_X7_266 rfl (Nat.le_of_ble_eq_true rfl) rfl (k_X7_areTwo h) (Nat.le_of_ble_eq_true rfl) rfl rfl (Nat.le_of_ble_eq_true rfl) dX7_pays_3 rfl (fun r2 σ1 h => ?_)
  refine Rf_if_eq X (tgt := 19) dX7_pays_6 rfl rfl (fun c15 => ?_) (fun c15 => ?_)
  · have h := h.1 c15
    refine Rf_iconst X (v := (-1)) (by decide) dX7_pays_19 rfl ?_
    exact Rf_iret X rfl dX7_pays_20 ⟨_, rfl, h⟩
  · have h := h.2 c15
    refine Rf_iload_n X (j := 3) rfl rfl dX7_pays_9 rfl ?_
    refine Rf_iconst X (v := 1) rfl dX7_pays_10 rfl ?_
    refine Rf_bipush X (v := 99) rfl dX7_pays_11 rfl ?_
    refine Rf_cSi (as := [.int x3, .int 1, .int 99]) (st := []) X ms_X7_isWithin lm_X7_63 (k_X7_isWithin h) (Nat.le_of_ble_eq_true rfl) rfl rfl (Nat.le_of_ble_eq_true rfl) dX7_pays_13 rfl (fun r4 σ3 h => ?_)
    refine Rf_if_ne X (tgt := 21) dX7_pays_16 rfl rfl (fun c14 => ?_) (fun c14 => ?_)
    · have h := h.1 c14
      refine Rf_aload_n X (j := 0) rfl rfl dX7_pays_21 rfl ?_
      refine Rf_get X kc7 (Nat.le_of_ble_eq_true rfl) rfl (j := 1) (Nat.le_of_ble_eq_true rfl) lf_X7_19 (v := .ref 12) rfl dX7_pays_22 rfl ?_
      refine Rf_get X kc5 (Nat.le_of_ble_eq_true rfl) rfl (j := 0) (Nat.le_of_ble_eq_true rfl) lf_X7_97 (v := .ref 13) rfl dX7_pays_25 rfl ?_
      refine Rf_iload_n X (j := 1) rfl rfl dX7_pays_28 rfl ?_
      obtain ⟨s5, h⟩ := h
      refine Rf_iaload X (Nat.le_of_ble_eq_true rfl) rfl rfl s5 dX7_pays_29 rfl (v := gF σ3 13 (x1.toNatClampNeg)) rfl ?_
      refine Rf_iload_n X (j := 3) rfl rfl dX7_pays_30 rfl ?_
      refine Rf_icmp_lt X (tgt := 47) dX7_pays_31 rfl rfl (fun c13 => ?_) (fun c13 => ?_)
      · have h := h.1 c13
        refine Rf_bipush X (v := (-5)) (by decide) dX7_pays_47 rfl ?_
        exact Rf_iret X rfl dX7_pays_49 ⟨_, rfl, h⟩
      · have h := h.2 c13
        refine Rf_aload_n X (j := 0) rfl rfl dX7_pays_34 rfl ?_
        refine Rf_get X kc7 (Nat.le_of_ble_eq_true rfl) rfl (j := 1) (Nat.le_of_ble_eq_true rfl) lf_X7_19 (v := .ref 12) rfl dX7_pays_35 rfl ?_
        refine Rf_get X kc5 (Nat.le_of_ble_eq_true rfl) rfl (j := 0) (Nat.le_of_ble_eq_true rfl) lf_X7_97 (v := .ref 13) rfl dX7_pays_38 rfl ?_
        refine Rf_iload_n X (j := 2) rfl rfl dX7_pays_41 rfl ?_
        obtain ⟨s6, h⟩ := h
        refine Rf_iaload X (Nat.le_of_ble_eq_true rfl) rfl rfl s6 dX7_pays_42 rfl (v := gF σ3 13 (x2.toNatClampNeg)) rfl ?_
        refine Rf_iload_n X (j := 3) rfl rfl dX7_pays_43 rfl ?_
        refine Rf_icmp_ge X (tgt := 50) dX7_pays_44 rfl rfl (fun c12 => ?_) (fun c12 => ?_)
        · have h := h.1 c12
          refine Rf_aload_n X (j := 0) rfl rfl dX7_pays_50 rfl ?_
          refine Rf_get X kc7 (Nat.le_of_ble_eq_true rfl) rfl (j := 1) (Nat.le_of_ble_eq_true rfl) lf_X7_19 (v := .ref 12) rfl dX7_pays_51 rfl ?_
          refine Rf_get X kc5 (Nat.le_of_ble_eq_true rfl) rfl (j := 0) (Nat.le_of_ble_eq_true rfl) lf_X7_97 (v := .ref 13) rfl dX7_pays_54 rfl ?_
          refine Rf_iload_n X (j := 1) rfl rfl dX7_pays_57 rfl ?_
          refine Rf_dup2 X rfl rfl dX7_pays_58 rfl ?_
          obtain ⟨s7, h⟩ := h
          refine Rf_iaload X (Nat.le_of_ble_eq_true rfl) rfl rfl s7 dX7_pays_59 rfl (v := gF σ3 13 (x1.toNatClampNeg)) rfl ?_
          refine Rf_iload_n X (j := 3) rfl rfl dX7_pays_60 rfl ?_
          refine Rf_isub X dX7_pays_61 rfl ?_
          obtain ⟨s8, h⟩ := h
          refine Rf_iastore X (Nat.le_of_ble_eq_true rfl) rfl rfl s8 dX7_pays_62 rfl ?_
          refine Rf_aload_n X (j := 0) rfl rfl dX7_pays_63 rfl ?_
          refine Rf_get X kc7 (Nat.le_of_ble_eq_true rfl) rfl (j := 1) (Nat.le_of_ble_eq_true rfl) lf_X7_19 (v := .ref 12) rfl dX7_pays_64 rfl ?_
          refine Rf_get X kc5 (Nat.le_of_ble_eq_true rfl) rfl (j := 0) (Nat.le_of_ble_eq_true rfl) lf_X7_97 (v := .ref 13) rfl dX7_pays_67 rfl ?_
          refine Rf_iload_n X (j := 2) rfl rfl dX7_pays_70 rfl ?_
          refine Rf_dup2 X rfl rfl dX7_pays_71 rfl ?_
          obtain ⟨s9, h⟩ := h
          refine Rf_iaload X (Nat.le_of_ble_eq_true rfl) rfl rfl s9 dX7_pays_72 rfl (v := gF (sF σ3 13 (x1.toNatClampNeg) ((gF σ3 13 (x1.toNatClampNeg)) - x3)) 13 (x2.toNatClampNeg)) rfl ?_
          refine Rf_iload_n X (j := 3) rfl rfl dX7_pays_73 rfl ?_
          refine Rf_isub X dX7_pays_74 rfl ?_
          obtain ⟨s10, h⟩ := h
          refine Rf_iastore X (Nat.le_of_ble_eq_true rfl) rfl rfl s10 dX7_pays_75 rfl ?_
          refine Rf_aload_n X (j := 0) rfl rfl dX7_pays_76 rfl ?_
          refine Rf_get X kc7 (Nat.le_of_ble_eq_true rfl) rfl (j := 2) (Nat.le_of_ble_eq_true rfl) lf_X7_23 (v := .ref 15) rfl dX7_pays_77 rfl ?_
          refine Rf_iconst X (v := 3) rfl dX7_pays_80 rfl ?_
          refine Rf_dup2 X rfl rfl dX7_pays_81 rfl ?_
          refine Rf_iaload X (Nat.le_of_ble_eq_true rfl) rfl rfl (by unfold vp_in; decide) dX7_pays_82 rfl (v := gF σ3 15 3) (show gF (sF (sF σ3 13 (x1.toNatClampNeg) ((gF σ3 13 (x1.toNatClampNeg)) - x3)) 13 (x2.toNatClampNeg) ((gF (sF σ3 13 (x1.toNatClampNeg) ((gF σ3 13 (x1.toNatClampNeg)) - x3)) 13 (x2.toNatClampNeg)) - x3)) 15 3 = gF σ3 15 3 from (gF_sFn (by decide)).trans (gF_sFn (by decide))) ?_
          refine Rf_iload_n X (j := 3) rfl rfl dX7_pays_83 rfl ?_
          refine Rf_iadd X dX7_pays_84 rfl ?_
          refine Rf_iastore X (Nat.le_of_ble_eq_true rfl) rfl rfl (by unfold vp_in; decide) dX7_pays_85 rfl ?_
          refine Rf_aload_n X (j := 0) rfl rfl dX7_pays_86 rfl ?_
          refine Rf_get X kc7 (Nat.le_of_ble_eq_true rfl) rfl (j := 1) (Nat.le_of_ble_eq_true rfl) lf_X7_19 (v := .ref 12) rfl dX7_pays_87 rfl ?_
          refine Rf_get X kc5 (Nat.le_of_ble_eq_true rfl) rfl (j := 0) (Nat.le_of_ble_eq_true rfl) lf_X7_97 (v := .ref 13) rfl dX7_pays_90 rfl ?_
          refine Rf_iload_n X (j := 1) rfl rfl dX7_pays_93 rfl ?_
          obtain ⟨s11, h⟩ := h
          refine Rf_iaload X (Nat.le_of_ble_eq_true rfl) rfl rfl s11 dX7_pays_94 rfl (v := gF (sF (sF σ3 13 (x1.toNatClampNeg) ((gF σ3 13 (x1.toNatClampNeg)) - x3)) 13 (x2.toNatClampNeg) ((gF (sF σ3 13 (x1.toNatClampNeg) ((gF σ3 13 (x1.toNatClampNeg)) - x3)) 13 (x2.toNatClampNeg)) - x3)) 13 (x1.toNatClampNeg)) (show gF (sF (sF (sF σ3 13 (x1.toNatClampNeg) ((gF σ3 13 (x1.toNatClampNeg)) - x3)) 13 (x2.toNatClampNeg) ((gF (sF σ3 13 (x1.toNatClampNeg) ((gF σ3 13 (x1.toNatClampNeg)) - x3)) 13 (x2.toNatClampNeg)) - x3)) 15 3 ((gF σ3 15 3) + x3)) 13 (x1.toNatClampNeg) = gF (sF (sF σ3 13 (x1.toNatClampNeg) ((gF σ3 13 (x1.toNatClampNeg)) - x3)) 13 (x2.toNatClampNeg) ((gF (sF σ3 13 (x1.toNatClampNeg) ((gF σ3 13 (x1.toNatClampNeg)) - x3)) 13 (x2.toNatClampNeg)) - x3)) 13 (x1.toNatClampNeg) from gF_sFn (by decide)) ?_
          exact Rf_iret X rfl dX7_pays_95 ⟨_, rfl, h⟩
        · have h := h.2 c12
          refine Rf_bipush X (v := (-5)) (by decide) dX7_pays_47 rfl ?_
          exact Rf_iret X rfl dX7_pays_49 ⟨_, rfl, h⟩
    · have h := h.2 c14
      refine Rf_iconst X (v := (-1)) (by decide) dX7_pays_19 rfl ?_
      exact Rf_iret X rfl dX7_pays_20 ⟨_, rfl, h⟩
def wp_X7_cobble (σ : rfS) (Q : Int32 → rfS → Prop) : Prop :=
  Q (gI σ 12 2) (sF (sI σ 12 2 0) 15 4 ((gF σ 15 4) + 1))
set_option maxRecDepth 20000 in
theorem k_X7_cobble {σ : rfS} {Q : Int32 → rfS → Prop} (h : wp_X7_cobble σ Q) : RM ΛC 0 yX7_cobble cX7_cobble 2 (some .int) [.ref 0] σ (qi Q) := by
  unfold wp_X7_cobble at h
  refine RM.intro (by decide) (Nat.le_of_ble_eq_true rfl) (fun E X => ?_)
  show Rf ΛC 0 E 2 (qi Q) 0 [(0, .ref 0)] [] σ
  refine Rf_aload_n X (j := 0) rfl rfl dX7_cobble_0 rfl ?_
  refine Rf_get X kc7 (Nat.le_of_ble_eq_true rfl) rfl (j := 1) (Nat.le_of_ble_eq_true rfl) lf_X7_19 (v := .ref 12) rfl dX7_cobble_1 rfl ?_
  refine Rf_get X kc5 (Nat.le_of_ble_eq_true rfl) rfl (j := 2) (Nat.le_of_ble_eq_true rfl) lf_X7_134 (v := .int (gI σ 12 2)) rfl dX7_cobble_4 rfl ?_
  refine Rf_istore_n X rfl (i := 1) (Nat.le_of_ble_eq_true rfl) (ls2 := [(1, .int (gI σ 12 2)), (0, .ref 0)]) rfl dX7_cobble_7 rfl ?_
  refine Rf_aload_n X (j := 1) rfl rfl dX7_cobble_8 rfl ?_
  refine Rf_get X kc7 (Nat.le_of_ble_eq_true rfl) rfl (j := 1) (Nat.le_of_ble_eq_true rfl) lf_X7_19 (v := .ref 12) rfl dX7_cobble_9 rfl ?_
  refine Rf_iconst X (v := 0) rfl dX7_cobble_12 rfl ?_
  refine Rf_put X kc5 (Nat.le_of_ble_eq_true rfl) rfl (j := 2) (Nat.le_of_ble_eq_true rfl) rfl lf_X7_134 rfl rfl rfl dX7_cobble_13 rfl ?_
  refine Rf_aload_n X (j := 1) rfl rfl dX7_cobble_16 rfl ?_
  refine Rf_get X kc7 (Nat.le_of_ble_eq_true rfl) rfl (j := 2) (Nat.le_of_ble_eq_true rfl) lf_X7_23 (v := .ref 15) rfl dX7_cobble_17 rfl ?_
  refine Rf_iconst X (v := 4) rfl dX7_cobble_20 rfl ?_
  refine Rf_dup2 X rfl rfl dX7_cobble_21 rfl ?_
  refine Rf_iaload X (Nat.le_of_ble_eq_true rfl) rfl rfl (by unfold vp_in; decide) dX7_cobble_22 rfl (v := gF σ 15 4) (show gF (sI σ 12 2 0) 15 4 = gF σ 15 4 from gF_sI _ _ _ _ _ _) ?_
  refine Rf_iconst X (v := 1) rfl dX7_cobble_23 rfl ?_
  refine Rf_iadd X dX7_cobble_24 rfl ?_
  refine Rf_iastore X (Nat.le_of_ble_eq_true rfl) rfl rfl (by unfold vp_in; decide) dX7_cobble_25 rfl ?_
  refine Rf_iload_n X (j := 0) rfl rfl dX7_cobble_26 rfl ?_
  exact Rf_iret X rfl dX7_cobble_27 ⟨_, rfl, h⟩
def wp_X7_led (σ : rfS) (x1 : Int32) (Q : Int32 → rfS → Prop) : Prop :=
  wp_X7_isWithin σ x1 0 4 (fun (r2 : Int32) (σ1 : rfS) => ((r2 = 0 → Q (-1) σ1) ∧ (¬ r2 = 0 → vp_in x1 5 ∧ (Q (gF σ1 15 (x1.toNatClampNeg)) σ1))))
set_option maxRecDepth 20000 in
theorem k_X7_led {σ : rfS} {x1 : Int32} {Q : Int32 → rfS → Prop} (h : wp_X7_led σ x1 Q) : RM ΛC 1 yX7_led cX7_led 2 (some .int) [.ref 0, .int x1] σ (qi Q) := by
  unfold wp_X7_led at h
  refine RM.intro (by decide) (Nat.le_of_ble_eq_true rfl) (fun E X => ?_)
  show Rf ΛC 1 E 2 (qi Q) 0 [(0, .ref 0), (1, .int x1)] [] σ
  refine Rf_iload_n X (j := 1) rfl rfl dX7_led_0 rfl ?_
  refine Rf_iconst X (v := 0) rfl dX7_led_1 rfl ?_
  refine Rf_iconst X (v := 4) rfl dX7_led_2 rfl ?_
  refine Rf_cSi (as := [.int x1, .int 0, .int 4]) (st := []) X ms_X7_isWithin lm_X7_63 (k_X7_isWithin h) (Nat.le_of_ble_eq_true rfl) rfl rfl (Nat.le_of_ble_eq_true rfl) dX7_led_3 rfl (fun r2 σ1 h => ?_)
  refine Rf_if_eq X (tgt := 18) dX7_led_6 rfl rfl (fun c4 => ?_) (fun c4 => ?_)
  · have h := h.1 c4
    refine Rf_iconst X (v := (-1)) (by decide) dX7_led_18 rfl ?_
    exact Rf_iret X rfl dX7_led_19 ⟨_, rfl, h⟩
  · have h := h.2 c4
    refine Rf_aload_n X (j := 0) rfl rfl dX7_led_9 rfl ?_
    refine Rf_get X kc7 (Nat.le_of_ble_eq_true rfl) rfl (j := 2) (Nat.le_of_ble_eq_true rfl) lf_X7_23 (v := .ref 15) rfl dX7_led_10 rfl ?_
    refine Rf_iload_n X (j := 1) rfl rfl dX7_led_13 rfl ?_
    obtain ⟨s3, h⟩ := h
    refine Rf_iaload X (Nat.le_of_ble_eq_true rfl) rfl rfl s3 dX7_led_14 rfl (v := gF σ1 15 (x1.toNatClampNeg)) rfl ?_
    refine Rf_goto X (tgt := 19) dX7_led_15 rfl ?_
    exact Rf_iret X rfl dX7_led_19 ⟨_, rfl, h⟩
def wp_X7_image (σ : rfS) (Q : Int32 → rfS → Prop) : Prop :=
  wp_X5_copyFrom (sI σ 0 5 (gI σ 1 0)) 16 12 (gI σ 1 0) (fun (σ1 : rfS) => Q (gF σ1 15 0) (sI (cF σ1 15 19 0 0 5) 0 6 1))
set_option maxRecDepth 20000 in
theorem k_X7_image {σ : rfS} {Q : Int32 → rfS → Prop} (h : wp_X7_image σ Q) : RM ΛC 2 yX7_image cX7_image 1 (some .int) [.ref 0] σ (qi Q) := by
  unfold wp_X7_image at h
  refine RM.intro (by decide) (Nat.le_of_ble_eq_true rfl) (fun E X => ?_)
  show Rf ΛC 2 E 1 (qi Q) 0 [(0, .ref 0)] [] σ
  refine Rf_aload_n X (j := 0) rfl rfl dX7_image_0 rfl ?_
  refine Rf_aload_n X (j := 0) rfl rfl dX7_image_1 rfl ?_
  refine Rf_get X kc7 (Nat.le_of_ble_eq_true rfl) rfl (j := 0) (Nat.le_of_ble_eq_true rfl) lf_X7_10 (v := .ref 1) rfl dX7_image_2 rfl ?_
  refine Rf_get X kc2 (Nat.le_of_ble_eq_true rfl) rfl (j := 0) (Nat.le_of_ble_eq_true rfl) lf_X7_67 (v := .int (gI σ 1 0)) rfl dX7_image_5 rfl ?_
  refine Rf_put X kc7 (Nat.le_of_ble_eq_true rfl) rfl (j := 5) (Nat.le_of_ble_eq_true rfl) rfl lf_X7_269 rfl rfl rfl dX7_image_8 rfl ?_
  refine Rf_aload_n X (j := 0) rfl rfl dX7_image_11 rfl ?_
  refine Rf_get X kc7 (Nat.le_of_ble_eq_true rfl) rfl (j := 3) (Nat.le_of_ble_eq_true rfl) lf_X7_27 (v := .ref 16) rfl dX7_image_12 rfl ?_
  refine Rf_aload_n X (j := 0) rfl rfl dX7_image_15 rfl ?_
  refine Rf_get X kc7 (Nat.le_of_ble_eq_true rfl) rfl (j := 1) (Nat.le_of_ble_eq_true rfl) lf_X7_19 (v := .ref 12) rfl dX7_image_16 rfl ?_
  refine Rf_aload_n X (j := 0) rfl rfl dX7_image_19 rfl ?_
  refine Rf_get X kc7 (Nat.le_of_ble_eq_true rfl) rfl (j := 5) (Nat.le_of_ble_eq_true rfl) lf_X7_269 (v := .int (gI σ 1 0)) (congrArg Value.int (show gI (sI σ 0 5 (gI σ 1 0)) 0 5 = gI σ 1 0 from gI_sIs)) dX7_image_20 rfl ?_
  refine Rf_cVv (as := [.ref 12, .int (gI σ 1 0)]) (st := []) X mi_X5_copyFrom lm_X7_272 rfl (Nat.le_of_ble_eq_true rfl) rfl (k_X5_copyFrom (by unfold isSt; decide) (by unfold isSt; decide) h) (Nat.le_of_ble_eq_true rfl) rfl rfl (Nat.le_of_ble_eq_true rfl) dX7_image_23 rfl (fun σ1 h => ?_)
  refine Rf_aload_n X (j := 0) rfl rfl dX7_image_26 rfl ?_
  refine Rf_get X kc7 (Nat.le_of_ble_eq_true rfl) rfl (j := 2) (Nat.le_of_ble_eq_true rfl) lf_X7_23 (v := .ref 15) rfl dX7_image_27 rfl ?_
  refine Rf_iconst X (v := 0) rfl dX7_image_30 rfl ?_
  refine Rf_aload_n X (j := 0) rfl rfl dX7_image_31 rfl ?_
  refine Rf_get X kc7 (Nat.le_of_ble_eq_true rfl) rfl (j := 4) (Nat.le_of_ble_eq_true rfl) lf_X7_30 (v := .ref 19) rfl dX7_image_32 rfl ?_
  refine Rf_iconst X (v := 0) rfl dX7_image_35 rfl ?_
  refine Rf_iconst X (v := 5) rfl dX7_image_36 rfl ?_
  refine Rf_copyi X (sp := 0) (dp := 0) (n := 5) lm_X7_275 mm_copy.1 mm_copy.2.1 mm_copy.2.2 (Nat.le_of_ble_eq_true rfl) rfl rfl (Nat.le_of_ble_eq_true rfl) rfl rfl (by decide) (by decide) (by decide) (by decide) (by decide) (Nat.le_of_ble_eq_true rfl) (Nat.le_of_ble_eq_true rfl) dX7_image_37 rfl ?_
  refine Rf_aload_n X (j := 0) rfl rfl dX7_image_40 rfl ?_
  refine Rf_iconst X (v := 1) rfl dX7_image_41 rfl ?_
  refine Rf_put X kc7 (Nat.le_of_ble_eq_true rfl) rfl (j := 6) (Nat.le_of_ble_eq_true rfl) rfl lf_X7_281 rfl rfl rfl dX7_image_42 rfl ?_
  refine Rf_aload_n X (j := 0) rfl rfl dX7_image_45 rfl ?_
  refine Rf_get X kc7 (Nat.le_of_ble_eq_true rfl) rfl (j := 2) (Nat.le_of_ble_eq_true rfl) lf_X7_23 (v := .ref 15) rfl dX7_image_46 rfl ?_
  refine Rf_iconst X (v := 0) rfl dX7_image_49 rfl ?_
  refine Rf_iaload X (Nat.le_of_ble_eq_true rfl) rfl rfl (by unfold vp_in; decide) dX7_image_50 rfl (v := gF σ1 15 0) (show gF (sI (cF σ1 15 19 0 0 5) 0 6 1) 15 0 = gF σ1 15 0 from (gF_sI _ _ _ _ _ _).trans (gF_cFn (by decide))) ?_
  exact Rf_iret X rfl dX7_image_51 ⟨_, rfl, h⟩
def wp_X7_back (σ : rfS) (Q : Int32 → rfS → Prop) : Prop :=
  ((¬ (gI σ 0 6) = 0 → wp_X5_copyFrom σ 12 16 (gI σ 0 5) (fun (σ1 : rfS) => Q (gF (cF σ1 19 15 0 0 5) 15 0) (cF σ1 19 15 0 0 5))) ∧ ((gI σ 0 6) = 0 → Q (-5) σ))
set_option maxRecDepth 20000 in
theorem k_X7_back {σ : rfS} {Q : Int32 → rfS → Prop} (h : wp_X7_back σ Q) : RM ΛC 2 yX7_back cX7_back 1 (some .int) [.ref 0] σ (qi Q) := by
  unfold wp_X7_back at h
  refine RM.intro (by decide) (Nat.le_of_ble_eq_true rfl) (fun E X => ?_)
  show Rf ΛC 2 E 1 (qi Q) 0 [(0, .ref 0)] [] σ
  refine Rf_aload_n X (j := 0) rfl rfl dX7_back_0 rfl ?_
  refine Rf_get X kc7 (Nat.le_of_ble_eq_true rfl) rfl (j := 6) (Nat.le_of_ble_eq_true rfl) lf_X7_281 (v := .int (gI σ 0 6)) rfl dX7_back_1 rfl ?_
  refine Rf_if_ne X (tgt := 10) dX7_back_4 rfl rfl (fun c2 => ?_) (fun c2 => ?_)
  · have h := h.1 c2
    refine Rf_aload_n X (j := 0) rfl rfl dX7_back_10 rfl ?_
    refine Rf_get X kc7 (Nat.le_of_ble_eq_true rfl) rfl (j := 1) (Nat.le_of_ble_eq_true rfl) lf_X7_19 (v := .ref 12) rfl dX7_back_11 rfl ?_
    refine Rf_aload_n X (j := 0) rfl rfl dX7_back_14 rfl ?_
    refine Rf_get X kc7 (Nat.le_of_ble_eq_true rfl) rfl (j := 3) (Nat.le_of_ble_eq_true rfl) lf_X7_27 (v := .ref 16) rfl dX7_back_15 rfl ?_
    refine Rf_aload_n X (j := 0) rfl rfl dX7_back_18 rfl ?_
    refine Rf_get X kc7 (Nat.le_of_ble_eq_true rfl) rfl (j := 5) (Nat.le_of_ble_eq_true rfl) lf_X7_269 (v := .int (gI σ 0 5)) rfl dX7_back_19 rfl ?_
    refine Rf_cVv (as := [.ref 16, .int (gI σ 0 5)]) (st := []) X mi_X5_copyFrom lm_X7_272 rfl (Nat.le_of_ble_eq_true rfl) rfl (k_X5_copyFrom (by unfold isSt; decide) (by unfold isSt; decide) h) (Nat.le_of_ble_eq_true rfl) rfl rfl (Nat.le_of_ble_eq_true rfl) dX7_back_22 rfl (fun σ1 h => ?_)
    refine Rf_aload_n X (j := 0) rfl rfl dX7_back_25 rfl ?_
    refine Rf_get X kc7 (Nat.le_of_ble_eq_true rfl) rfl (j := 4) (Nat.le_of_ble_eq_true rfl) lf_X7_30 (v := .ref 19) rfl dX7_back_26 rfl ?_
    refine Rf_iconst X (v := 0) rfl dX7_back_29 rfl ?_
    refine Rf_aload_n X (j := 0) rfl rfl dX7_back_30 rfl ?_
    refine Rf_get X kc7 (Nat.le_of_ble_eq_true rfl) rfl (j := 2) (Nat.le_of_ble_eq_true rfl) lf_X7_23 (v := .ref 15) rfl dX7_back_31 rfl ?_
    refine Rf_iconst X (v := 0) rfl dX7_back_34 rfl ?_
    refine Rf_iconst X (v := 5) rfl dX7_back_35 rfl ?_
    refine Rf_copyi X (sp := 0) (dp := 0) (n := 5) lm_X7_275 mm_copy.1 mm_copy.2.1 mm_copy.2.2 (Nat.le_of_ble_eq_true rfl) rfl rfl (Nat.le_of_ble_eq_true rfl) rfl rfl (by decide) (by decide) (by decide) (by decide) (by decide) (Nat.le_of_ble_eq_true rfl) (Nat.le_of_ble_eq_true rfl) dX7_back_36 rfl ?_
    refine Rf_aload_n X (j := 0) rfl rfl dX7_back_39 rfl ?_
    refine Rf_get X kc7 (Nat.le_of_ble_eq_true rfl) rfl (j := 2) (Nat.le_of_ble_eq_true rfl) lf_X7_23 (v := .ref 15) rfl dX7_back_40 rfl ?_
    refine Rf_iconst X (v := 0) rfl dX7_back_43 rfl ?_
    refine Rf_iaload X (Nat.le_of_ble_eq_true rfl) rfl rfl (by unfold vp_in; decide) dX7_back_44 rfl (v := gF (cF σ1 19 15 0 0 5) 15 0) rfl ?_
    exact Rf_iret X rfl dX7_back_45 ⟨_, rfl, h⟩
  · have h := h.2 c2
    refine Rf_bipush X (v := (-5)) (by decide) dX7_back_7 rfl ?_
    exact Rf_iret X rfl dX7_back_9 ⟨_, rfl, h⟩
def wp_X7_undo (σ : rfS) (Q : Int32 → rfS → Prop) : Prop :=
  ((¬ (gI σ 44 4) = 0 → vp_in ((gI σ 44 4) - 1) 40 ∧ vp_in ((gI σ 44 4) - 1) 40 ∧ vp_in ((gI σ 44 4) - 1) 40 ∧ wp_X7_become (sI σ 44 4 ((gI σ 44 4) - 1)) (gF σ 45 (((gI σ 44 4) - 1).toNatClampNeg)) (gF σ 46 (((gI σ 44 4) - 1).toNatClampNeg)) (gF σ 47 (((gI σ 44 4) - 1).toNatClampNeg)) (fun (σ4 : rfS) => Q (gI σ4 44 4) σ4)) ∧ ((gI σ 44 4) = 0 → Q (-5) σ))
set_option maxRecDepth 20000 in
theorem k_X7_undo {σ : rfS} {Q : Int32 → rfS → Prop} (h : wp_X7_undo σ Q) : RM ΛC 1 yX7_undo cX7_undo 2 (some .int) [.ref 0] σ (qi Q) := by
  unfold wp_X7_undo at h
  refine RM.intro (by decide) (Nat.le_of_ble_eq_true rfl) (fun E X => ?_)
  show Rf ΛC 1 E 2 (qi Q) 0 [(0, .ref 0)] [] σ
  refine Rf_aload_n X (j := 0) rfl rfl dX7_undo_0 rfl ?_
  refine Rf_get X kc7 (Nat.le_of_ble_eq_true rfl) rfl (j := 8) (Nat.le_of_ble_eq_true rfl) lf_X7_45 (v := .ref 44) rfl dX7_undo_1 rfl ?_
  refine Rf_get X kc1 (Nat.le_of_ble_eq_true rfl) rfl (j := 4) (Nat.le_of_ble_eq_true rfl) lf_X7_284 (v := .int (gI σ 44 4)) rfl dX7_undo_4 rfl ?_
  refine Rf_if_ne X (tgt := 13) dX7_undo_7 rfl rfl (fun c5 => ?_) (fun c5 => ?_)
  · have h := h.1 c5
    refine Rf_aload_n X (j := 0) rfl rfl dX7_undo_13 rfl ?_
    refine Rf_get X kc7 (Nat.le_of_ble_eq_true rfl) rfl (j := 8) (Nat.le_of_ble_eq_true rfl) lf_X7_45 (v := .ref 44) rfl dX7_undo_14 rfl ?_
    refine Rf_dup X rfl dX7_undo_17 rfl ?_
    refine Rf_get X kc1 (Nat.le_of_ble_eq_true rfl) rfl (j := 4) (Nat.le_of_ble_eq_true rfl) lf_X7_284 (v := .int (gI σ 44 4)) rfl dX7_undo_18 rfl ?_
    refine Rf_iconst X (v := 1) rfl dX7_undo_21 rfl ?_
    refine Rf_isub X dX7_undo_22 rfl ?_
    refine Rf_put X kc1 (Nat.le_of_ble_eq_true rfl) rfl (j := 4) (Nat.le_of_ble_eq_true rfl) rfl lf_X7_284 rfl rfl rfl dX7_undo_23 rfl ?_
    refine Rf_aload_n X (j := 0) rfl rfl dX7_undo_26 rfl ?_
    refine Rf_get X kc7 (Nat.le_of_ble_eq_true rfl) rfl (j := 8) (Nat.le_of_ble_eq_true rfl) lf_X7_45 (v := .ref 44) rfl dX7_undo_27 rfl ?_
    refine Rf_get X kc1 (Nat.le_of_ble_eq_true rfl) rfl (j := 4) (Nat.le_of_ble_eq_true rfl) lf_X7_284 (v := .int ((gI σ 44 4) - 1)) (congrArg Value.int (show gI (sI σ 44 4 ((gI σ 44 4) - 1)) 44 4 = (gI σ 44 4) - 1 from gI_sIs)) dX7_undo_30 rfl ?_
    refine Rf_istore_n X rfl (i := 1) (Nat.le_of_ble_eq_true rfl) (ls2 := [(1, .int ((gI σ 44 4) - 1)), (0, .ref 0)]) rfl dX7_undo_33 rfl ?_
    refine Rf_aload_n X (j := 1) rfl rfl dX7_undo_34 rfl ?_
    refine Rf_aload_n X (j := 1) rfl rfl dX7_undo_35 rfl ?_
    refine Rf_get X kc7 (Nat.le_of_ble_eq_true rfl) rfl (j := 8) (Nat.le_of_ble_eq_true rfl) lf_X7_45 (v := .ref 44) rfl dX7_undo_36 rfl ?_
    refine Rf_get X kc1 (Nat.le_of_ble_eq_true rfl) rfl (j := 0) (Nat.le_of_ble_eq_true rfl) lf_X7_287 (v := .ref 45) rfl dX7_undo_39 rfl ?_
    refine Rf_iload_n X (j := 0) rfl rfl dX7_undo_42 rfl ?_
    obtain ⟨s1, h⟩ := h
    refine Rf_iaload X (Nat.le_of_ble_eq_true rfl) rfl rfl s1 dX7_undo_43 rfl (v := gF σ 45 (((gI σ 44 4) - 1).toNatClampNeg)) (show gF (sI σ 44 4 ((gI σ 44 4) - 1)) 45 (((gI σ 44 4) - 1).toNatClampNeg) = gF σ 45 (((gI σ 44 4) - 1).toNatClampNeg) from gF_sI _ _ _ _ _ _) ?_
    refine Rf_aload_n X (j := 1) rfl rfl dX7_undo_44 rfl ?_
    refine Rf_get X kc7 (Nat.le_of_ble_eq_true rfl) rfl (j := 8) (Nat.le_of_ble_eq_true rfl) lf_X7_45 (v := .ref 44) rfl dX7_undo_45 rfl ?_
    refine Rf_get X kc1 (Nat.le_of_ble_eq_true rfl) rfl (j := 1) (Nat.le_of_ble_eq_true rfl) lf_X7_290 (v := .ref 46) rfl dX7_undo_48 rfl ?_
    refine Rf_iload_n X (j := 0) rfl rfl dX7_undo_51 rfl ?_
    obtain ⟨s2, h⟩ := h
    refine Rf_iaload X (Nat.le_of_ble_eq_true rfl) rfl rfl s2 dX7_undo_52 rfl (v := gF σ 46 (((gI σ 44 4) - 1).toNatClampNeg)) (show gF (sI σ 44 4 ((gI σ 44 4) - 1)) 46 (((gI σ 44 4) - 1).toNatClampNeg) = gF σ 46 (((gI σ 44 4) - 1).toNatClampNeg) from gF_sI _ _ _ _ _ _) ?_
    refine Rf_aload_n X (j := 1) rfl rfl dX7_undo_53 rfl ?_
    refine Rf_get X kc7 (Nat.le_of_ble_eq_true rfl) rfl (j := 8) (Nat.le_of_ble_eq_true rfl) lf_X7_45 (v := .ref 44) rfl dX7_undo_54 rfl ?_
    refine Rf_get X kc1 (Nat.le_of_ble_eq_true rfl) rfl (j := 2) (Nat.le_of_ble_eq_true rfl) lf_X7_293 (v := .ref 47) rfl dX7_undo_57 rfl ?_
    refine Rf_iload_n X (j := 0) rfl rfl dX7_undo_60 rfl ?_
    obtain ⟨s3, h⟩ := h
    refine Rf_iaload X (Nat.le_of_ble_eq_true rfl) rfl rfl s3 dX7_undo_61 rfl (v := gF σ 47 (((gI σ 44 4) - 1).toNatClampNeg)) (show gF (sI σ 44 4 ((gI σ 44 4) - 1)) 47 (((gI σ 44 4) - 1).toNatClampNeg) = gF σ 47 (((gI σ 44 4) - 1).toNatClampNeg) from gF_sI _ _ _ _ _ _) ?_
    refine Rf_cVv (as := [.int (gF σ 45 (((gI σ 44 4) - 1).toNatClampNeg)), .int (gF σ 46 (((gI σ 44 4) - 1).toNatClampNeg)), .int (gF σ 47 (((gI σ 44 4) - 1).toNatClampNeg))]) (st := []) X mi_X7_become lm_X7_121 rfl (Nat.le_of_ble_eq_true rfl) rfl (k_X7_become h) (Nat.le_of_ble_eq_true rfl) rfl rfl (Nat.le_of_ble_eq_true rfl) dX7_undo_62 rfl (fun σ4 h => ?_)
    refine Rf_aload_n X (j := 1) rfl rfl dX7_undo_65 rfl ?_
    refine Rf_get X kc7 (Nat.le_of_ble_eq_true rfl) rfl (j := 8) (Nat.le_of_ble_eq_true rfl) lf_X7_45 (v := .ref 44) rfl dX7_undo_66 rfl ?_
    refine Rf_get X kc1 (Nat.le_of_ble_eq_true rfl) rfl (j := 4) (Nat.le_of_ble_eq_true rfl) lf_X7_284 (v := .int (gI σ4 44 4)) rfl dX7_undo_69 rfl ?_
    exact Rf_iret X rfl dX7_undo_72 ⟨_, rfl, h⟩
  · have h := h.2 c5
    refine Rf_bipush X (v := (-5)) (by decide) dX7_undo_10 rfl ?_
    exact Rf_iret X rfl dX7_undo_12 ⟨_, rfl, h⟩
def wp_X7_redo (σ : rfS) (Q : Int32 → rfS → Prop) : Prop :=
  ((¬ (gI σ 44 4) = (gI σ 44 5) → vp_in (gI σ 44 4) 40 ∧ vp_in (gI σ 44 4) 40 ∧ vp_in (gI σ 44 4) 40 ∧ wp_X7_become σ (gF σ 45 ((gI σ 44 4).toNatClampNeg)) (gF σ 46 ((gI σ 44 4).toNatClampNeg)) (gF σ 48 ((gI σ 44 4).toNatClampNeg)) (fun (σ4 : rfS) => Q ((gI σ4 44 5) - ((gI σ4 44 4) + 1)) (sI σ4 44 4 ((gI σ4 44 4) + 1)))) ∧ ((gI σ 44 4) = (gI σ 44 5) → Q (-5) σ))
set_option maxRecDepth 20000 in
theorem k_X7_redo {σ : rfS} {Q : Int32 → rfS → Prop} (h : wp_X7_redo σ Q) : RM ΛC 1 yX7_redo cX7_redo 2 (some .int) [.ref 0] σ (qi Q) := by
  unfold wp_X7_redo at h
  refine RM.intro (by decide) (Nat.le_of_ble_eq_true rfl) (fun E X => ?_)
  show Rf ΛC 1 E 2 (qi Q) 0 [(0, .ref 0)] [] σ
  refine Rf_aload_n X (j := 0) rfl rfl dX7_redo_0 rfl ?_
  refine Rf_get X kc7 (Nat.le_of_ble_eq_true rfl) rfl (j := 8) (Nat.le_of_ble_eq_true rfl) lf_X7_45 (v := .ref 44) rfl dX7_redo_1 rfl ?_
  refine Rf_get X kc1 (Nat.le_of_ble_eq_true rfl) rfl (j := 4) (Nat.le_of_ble_eq_true rfl) lf_X7_284 (v := .int (gI σ 44 4)) rfl dX7_redo_4 rfl ?_
  refine Rf_aload_n X (j := 0) rfl rfl dX7_redo_7 rfl ?_
  refine Rf_get X kc7 (Nat.le_of_ble_eq_true rfl) rfl (j := 8) (Nat.le_of_ble_eq_true rfl) lf_X7_45 (v := .ref 44) rfl dX7_redo_8 rfl ?_
  refine Rf_get X kc1 (Nat.le_of_ble_eq_true rfl) rfl (j := 5) (Nat.le_of_ble_eq_true rfl) lf_X7_296 (v := .int (gI σ 44 5)) rfl dX7_redo_11 rfl ?_
  refine Rf_icmp_ne X (tgt := 20) dX7_redo_14 rfl rfl (fun c5 => ?_) (fun c5 => ?_)
  · have h := h.1 c5
    refine Rf_aload_n X (j := 0) rfl rfl dX7_redo_20 rfl ?_
    refine Rf_get X kc7 (Nat.le_of_ble_eq_true rfl) rfl (j := 8) (Nat.le_of_ble_eq_true rfl) lf_X7_45 (v := .ref 44) rfl dX7_redo_21 rfl ?_
    refine Rf_get X kc1 (Nat.le_of_ble_eq_true rfl) rfl (j := 4) (Nat.le_of_ble_eq_true rfl) lf_X7_284 (v := .int (gI σ 44 4)) rfl dX7_redo_24 rfl ?_
    refine Rf_istore_n X rfl (i := 1) (Nat.le_of_ble_eq_true rfl) (ls2 := [(1, .int (gI σ 44 4)), (0, .ref 0)]) rfl dX7_redo_27 rfl ?_
    refine Rf_aload_n X (j := 1) rfl rfl dX7_redo_28 rfl ?_
    refine Rf_aload_n X (j := 1) rfl rfl dX7_redo_29 rfl ?_
    refine Rf_get X kc7 (Nat.le_of_ble_eq_true rfl) rfl (j := 8) (Nat.le_of_ble_eq_true rfl) lf_X7_45 (v := .ref 44) rfl dX7_redo_30 rfl ?_
    refine Rf_get X kc1 (Nat.le_of_ble_eq_true rfl) rfl (j := 0) (Nat.le_of_ble_eq_true rfl) lf_X7_287 (v := .ref 45) rfl dX7_redo_33 rfl ?_
    refine Rf_iload_n X (j := 0) rfl rfl dX7_redo_36 rfl ?_
    obtain ⟨s1, h⟩ := h
    refine Rf_iaload X (Nat.le_of_ble_eq_true rfl) rfl rfl s1 dX7_redo_37 rfl (v := gF σ 45 ((gI σ 44 4).toNatClampNeg)) rfl ?_
    refine Rf_aload_n X (j := 1) rfl rfl dX7_redo_38 rfl ?_
    refine Rf_get X kc7 (Nat.le_of_ble_eq_true rfl) rfl (j := 8) (Nat.le_of_ble_eq_true rfl) lf_X7_45 (v := .ref 44) rfl dX7_redo_39 rfl ?_
    refine Rf_get X kc1 (Nat.le_of_ble_eq_true rfl) rfl (j := 1) (Nat.le_of_ble_eq_true rfl) lf_X7_290 (v := .ref 46) rfl dX7_redo_42 rfl ?_
    refine Rf_iload_n X (j := 0) rfl rfl dX7_redo_45 rfl ?_
    obtain ⟨s2, h⟩ := h
    refine Rf_iaload X (Nat.le_of_ble_eq_true rfl) rfl rfl s2 dX7_redo_46 rfl (v := gF σ 46 ((gI σ 44 4).toNatClampNeg)) rfl ?_
    refine Rf_aload_n X (j := 1) rfl rfl dX7_redo_47 rfl ?_
    refine Rf_get X kc7 (Nat.le_of_ble_eq_true rfl) rfl (j := 8) (Nat.le_of_ble_eq_true rfl) lf_X7_45 (v := .ref 44) rfl dX7_redo_48 rfl ?_
    refine Rf_get X kc1 (Nat.le_of_ble_eq_true rfl) rfl (j := 3) (Nat.le_of_ble_eq_true rfl) lf_X7_299 (v := .ref 48) rfl dX7_redo_51 rfl ?_
    refine Rf_iload_n X (j := 0) rfl rfl dX7_redo_54 rfl ?_
    obtain ⟨s3, h⟩ := h
    refine Rf_iaload X (Nat.le_of_ble_eq_true rfl) rfl rfl s3 dX7_redo_55 rfl (v := gF σ 48 ((gI σ 44 4).toNatClampNeg)) rfl ?_
    refine Rf_cVv (as := [.int (gF σ 45 ((gI σ 44 4).toNatClampNeg)), .int (gF σ 46 ((gI σ 44 4).toNatClampNeg)), .int (gF σ 48 ((gI σ 44 4).toNatClampNeg))]) (st := []) X mi_X7_become lm_X7_121 rfl (Nat.le_of_ble_eq_true rfl) rfl (k_X7_become h) (Nat.le_of_ble_eq_true rfl) rfl rfl (Nat.le_of_ble_eq_true rfl) dX7_redo_56 rfl (fun σ4 h => ?_)
    refine Rf_aload_n X (j := 1) rfl rfl dX7_redo_59 rfl ?_
    refine Rf_get X kc7 (Nat.le_of_ble_eq_true rfl) rfl (j := 8) (Nat.le_of_ble_eq_true rfl) lf_X7_45 (v := .ref 44) rfl dX7_redo_60 rfl ?_
    refine Rf_dup X rfl dX7_redo_63 rfl ?_
    refine Rf_get X kc1 (Nat.le_of_ble_eq_true rfl) rfl (j := 4) (Nat.le_of_ble_eq_true rfl) lf_X7_284 (v := .int (gI σ4 44 4)) rfl dX7_redo_64 rfl ?_
    refine Rf_iconst X (v := 1) rfl dX7_redo_67 rfl ?_
    refine Rf_iadd X dX7_redo_68 rfl ?_
    refine Rf_put X kc1 (Nat.le_of_ble_eq_true rfl) rfl (j := 4) (Nat.le_of_ble_eq_true rfl) rfl lf_X7_284 rfl rfl rfl dX7_redo_69 rfl ?_
    refine Rf_aload_n X (j := 1) rfl rfl dX7_redo_72 rfl ?_
    refine Rf_get X kc7 (Nat.le_of_ble_eq_true rfl) rfl (j := 8) (Nat.le_of_ble_eq_true rfl) lf_X7_45 (v := .ref 44) rfl dX7_redo_73 rfl ?_
    refine Rf_get X kc1 (Nat.le_of_ble_eq_true rfl) rfl (j := 5) (Nat.le_of_ble_eq_true rfl) lf_X7_296 (v := .int (gI σ4 44 5)) (congrArg Value.int (show gI (sI σ4 44 4 ((gI σ4 44 4) + 1)) 44 5 = gI σ4 44 5 from gI_sIj (by decide))) dX7_redo_76 rfl ?_
    refine Rf_aload_n X (j := 1) rfl rfl dX7_redo_79 rfl ?_
    refine Rf_get X kc7 (Nat.le_of_ble_eq_true rfl) rfl (j := 8) (Nat.le_of_ble_eq_true rfl) lf_X7_45 (v := .ref 44) rfl dX7_redo_80 rfl ?_
    refine Rf_get X kc1 (Nat.le_of_ble_eq_true rfl) rfl (j := 4) (Nat.le_of_ble_eq_true rfl) lf_X7_284 (v := .int ((gI σ4 44 4) + 1)) (congrArg Value.int (show gI (sI σ4 44 4 ((gI σ4 44 4) + 1)) 44 4 = (gI σ4 44 4) + 1 from gI_sIs)) dX7_redo_83 rfl ?_
    refine Rf_isub X dX7_redo_86 rfl ?_
    exact Rf_iret X rfl dX7_redo_87 ⟨_, rfl, h⟩
  · have h := h.2 c5
    refine Rf_bipush X (v := (-5)) (by decide) dX7_redo_17 rfl ?_
    exact Rf_iret X rfl dX7_redo_19 ⟨_, rfl, h⟩
def wp_X7_body (σ : rfS) (x1 : Int32) (Q : Int32 → rfS → Prop) : Prop :=
  wp_X7_isWithin σ x1 0 7 (fun (r2 : Int32) (σ1 : rfS) => ((¬ r2 = 0 → ((¬ (gI σ1 49 1) = 50 → wp_X0_add σ1 x1 (fun (r4 : Int32) (σ3 : rfS) => Q r4 σ3)) ∧ ((gI σ1 49 1) = 50 → Q (-3) σ1))) ∧ (r2 = 0 → Q (-1) σ1)))
set_option maxRecDepth 20000 in
theorem k_X7_body {σ : rfS} {x1 : Int32} {Q : Int32 → rfS → Prop} (h : wp_X7_body σ x1 Q) : RM ΛC 1 yX7_body cX7_body 2 (some .int) [.ref 0, .int x1] σ (qi Q) := by
  unfold wp_X7_body at h
  refine RM.intro (by decide) (Nat.le_of_ble_eq_true rfl) (fun E X => ?_)
  show Rf ΛC 1 E 2 (qi Q) 0 [(0, .ref 0), (1, .int x1)] [] σ
  refine Rf_iload_n X (j := 1) rfl rfl dX7_body_0 rfl ?_
  refine Rf_iconst X (v := 0) rfl dX7_body_1 rfl ?_
  refine Rf_bipush X (v := 7) rfl dX7_body_2 rfl ?_
  refine Rf_cSi (as := [.int x1, .int 0, .int 7]) (st := []) X ms_X7_isWithin lm_X7_63 (k_X7_isWithin h) (Nat.le_of_ble_eq_true rfl) rfl rfl (Nat.le_of_ble_eq_true rfl) dX7_body_4 rfl (fun r2 σ1 h => ?_)
  refine Rf_if_ne X (tgt := 12) dX7_body_7 rfl rfl (fun c6 => ?_) (fun c6 => ?_)
  · have h := h.1 c6
    refine Rf_aload_n X (j := 0) rfl rfl dX7_body_12 rfl ?_
    refine Rf_get X kc7 (Nat.le_of_ble_eq_true rfl) rfl (j := 9) (Nat.le_of_ble_eq_true rfl) lf_X7_52 (v := .ref 49) rfl dX7_body_13 rfl ?_
    refine Rf_get X kc0 (Nat.le_of_ble_eq_true rfl) rfl (j := 1) (Nat.le_of_ble_eq_true rfl) lf_X7_302 (v := .int (gI σ1 49 1)) rfl dX7_body_16 rfl ?_
    refine Rf_bipush X (v := 50) rfl dX7_body_19 rfl ?_
    refine Rf_icmp_ne X (tgt := 29) dX7_body_21 rfl rfl (fun c5 => ?_) (fun c5 => ?_)
    · have h := h.1 c5
      refine Rf_aload_n X (j := 0) rfl rfl dX7_body_29 rfl ?_
      refine Rf_get X kc7 (Nat.le_of_ble_eq_true rfl) rfl (j := 9) (Nat.le_of_ble_eq_true rfl) lf_X7_52 (v := .ref 49) rfl dX7_body_30 rfl ?_
      refine Rf_iload_n X (j := 1) rfl rfl dX7_body_33 rfl ?_
      refine Rf_cVi (as := [.int x1]) (st := []) X mi_X0_add lm_X7_303 rfl (Nat.le_of_ble_eq_true rfl) rfl (k_X0_add h) (Nat.le_of_ble_eq_true rfl) rfl rfl (Nat.le_of_ble_eq_true rfl) dX7_body_34 rfl (fun r4 σ3 h => ?_)
      exact Rf_iret X rfl dX7_body_37 ⟨_, rfl, h⟩
    · have h := h.2 c5
      refine Rf_bipush X (v := (-3)) (by decide) dX7_body_24 rfl ?_
      refine Rf_goto X (tgt := 37) dX7_body_26 rfl ?_
      exact Rf_iret X rfl dX7_body_37 ⟨_, rfl, h⟩
  · have h := h.2 c6
    refine Rf_iconst X (v := (-1)) (by decide) dX7_body_10 rfl ?_
    exact Rf_iret X rfl dX7_body_11 ⟨_, rfl, h⟩
def wp_X7_isBody (σ : rfS) (x1 : Int32) (Q : Int32 → rfS → Prop) : Prop :=
  wp_X7_isWithin σ x1 0 ((gI σ 49 1) - 1) (fun (r2 : Int32) (σ1 : rfS) => (rfZ r2) ∧ Q r2 σ1)
set_option maxRecDepth 20000 in
theorem k_X7_isBody {σ : rfS} {x1 : Int32} {Q : Int32 → rfS → Prop} (h : wp_X7_isBody σ x1 Q) : RM ΛC 1 yX7_isBody cX7_isBody 2 (some .boolean) [.ref 0, .int x1] σ (qi Q) := by
  unfold wp_X7_isBody at h
  refine RM.intro (by decide) (Nat.le_of_ble_eq_true rfl) (fun E X => ?_)
  show Rf ΛC 1 E 2 (qi Q) 0 [(0, .ref 0), (1, .int x1)] [] σ
  refine Rf_iload_n X (j := 1) rfl rfl dX7_isBody_0 rfl ?_
  refine Rf_iconst X (v := 0) rfl dX7_isBody_1 rfl ?_
  refine Rf_aload_n X (j := 0) rfl rfl dX7_isBody_2 rfl ?_
  refine Rf_get X kc7 (Nat.le_of_ble_eq_true rfl) rfl (j := 9) (Nat.le_of_ble_eq_true rfl) lf_X7_52 (v := .ref 49) rfl dX7_isBody_3 rfl ?_
  refine Rf_get X kc0 (Nat.le_of_ble_eq_true rfl) rfl (j := 1) (Nat.le_of_ble_eq_true rfl) lf_X7_302 (v := .int (gI σ 49 1)) rfl dX7_isBody_6 rfl ?_
  refine Rf_iconst X (v := 1) rfl dX7_isBody_9 rfl ?_
  refine Rf_isub X dX7_isBody_10 rfl ?_
  refine Rf_cSi (as := [.int x1, .int 0, .int ((gI σ 49 1) - 1)]) (st := []) X ms_X7_isWithin lm_X7_63 (k_X7_isWithin h) (Nat.le_of_ble_eq_true rfl) rfl rfl (Nat.le_of_ble_eq_true rfl) dX7_isBody_11 rfl (fun r2 σ1 h => ?_)
  obtain ⟨s3, h⟩ := h
  exact Rf_iret X (rfZ_n s3) dX7_isBody_14 ⟨_, rfl, h⟩
def wp_X7_act (κ_X0_run : rfS → Int32 → Int32 → Int32 → (Int32 → rfS → Prop) → Prop) (σ : rfS) (x1 : Int32) (x2 : Int32) (x3 : Int32) (Q : Int32 → rfS → Prop) : Prop :=
  wp_X7_isBody (sI σ 49 3 0) x1 (fun (r2 : Int32) (σ1 : rfS) => ((r2 = 0 → Q 0 σ1) ∧ (¬ r2 = 0 → wp_X7_isWithin σ1 x2 0 3 (fun (r4 : Int32) (σ3 : rfS) => ((¬ r4 = 0 → κ_X0_run σ3 x1 x2 x3 (fun (r6 : Int32) (σ5 : rfS) => Q r6 σ5)) ∧ (r4 = 0 → Q 0 σ3))))))
set_option maxRecDepth 20000 in
theorem k_X7_act {d : Nat} {κ_X0_run : rfS → Int32 → Int32 → Int32 → (Int32 → rfS → Prop) → Prop} (hκ_X0_run : ∀ (σ : rfS) (x1 : Int32) (x2 : Int32) (x3 : Int32) (Q : Int32 → rfS → Prop), κ_X0_run σ x1 x2 x3 Q → RM ΛC d yX0_run cX0_run 4 (some .int) [.ref 49, .int x1, .int x2, .int x3] σ (qi Q)) (hB : 1 ≤ d) {σ : rfS} {x1 : Int32} {x2 : Int32} {x3 : Int32} {Q : Int32 → rfS → Prop} (h : wp_X7_act κ_X0_run σ x1 x2 x3 Q) : RM ΛC (d + 1) yX7_act cX7_act 4 (some .int) [.ref 0, .int x1, .int x2, .int x3] σ (qi Q) := by
  unfold wp_X7_act at h
  refine RM.intro (by decide) (Nat.le_of_ble_eq_true rfl) (fun E X => ?_)
  show Rf ΛC (d + 1) E 4 (qi Q) 0 [(0, .ref 0), (1, .int x1), (2, .int x2), (3, .int x3)] [] σ
  refine Rf_aload_n X (j := 0) rfl rfl dX7_act_0 rfl ?_
  refine Rf_get X kc7 (Nat.le_of_ble_eq_true rfl) rfl (j := 9) (Nat.le_of_ble_eq_true rfl) lf_X7_52 (v := .ref 49) rfl dX7_act_1 rfl ?_
  refine Rf_iconst X (v := 0) rfl dX7_act_4 rfl ?_
  refine Rf_put X kc0 (Nat.le_of_ble_eq_true rfl) rfl (j := 3) (Nat.le_of_ble_eq_true rfl) rfl lf_X7_305 rfl rfl rfl dX7_act_5 rfl ?_
  refine Rf_aload_n X (j := 0) rfl rfl dX7_act_8 rfl ?_
  refine Rf_iload_n X (j := 1) rfl rfl dX7_act_9 rfl ?_
  refine Rf_cVi (as := [.int x1]) (st := []) X mi_X7_isBody lm_X7_308 rfl (Nat.le_of_ble_eq_true rfl) rfl (k_X7_isBody h) (by omega) rfl rfl (Nat.le_of_ble_eq_true rfl) dX7_act_10 rfl (fun r2 σ1 h => ?_)
  refine Rf_if_eq X (tgt := 25) dX7_act_13 rfl rfl (fun c8 => ?_) (fun c8 => ?_)
  · have h := h.1 c8
    refine Rf_iconst X (v := 0) rfl dX7_act_25 rfl ?_
    exact Rf_iret X rfl dX7_act_26 ⟨_, rfl, h⟩
  · have h := h.2 c8
    refine Rf_iload_n X (j := 2) rfl rfl dX7_act_16 rfl ?_
    refine Rf_iconst X (v := 0) rfl dX7_act_17 rfl ?_
    refine Rf_iconst X (v := 3) rfl dX7_act_18 rfl ?_
    refine Rf_cSi (as := [.int x2, .int 0, .int 3]) (st := []) X ms_X7_isWithin lm_X7_63 (k_X7_isWithin h) (by omega) rfl rfl (Nat.le_of_ble_eq_true rfl) dX7_act_19 rfl (fun r4 σ3 h => ?_)
    refine Rf_if_ne X (tgt := 27) dX7_act_22 rfl rfl (fun c7 => ?_) (fun c7 => ?_)
    · have h := h.1 c7
      refine Rf_aload_n X (j := 0) rfl rfl dX7_act_27 rfl ?_
      refine Rf_get X kc7 (Nat.le_of_ble_eq_true rfl) rfl (j := 9) (Nat.le_of_ble_eq_true rfl) lf_X7_52 (v := .ref 49) rfl dX7_act_28 rfl ?_
      refine Rf_iload_n X (j := 1) rfl rfl dX7_act_31 rfl ?_
      refine Rf_iload_n X (j := 2) rfl rfl dX7_act_32 rfl ?_
      refine Rf_iload_n X (j := 3) rfl rfl dX7_act_33 rfl ?_
      refine Rf_cVi (as := [.int x1, .int x2, .int x3]) (st := []) X mi_X0_run lm_X7_311 rfl (Nat.le_of_ble_eq_true rfl) rfl (hκ_X0_run _ _ _ _ _ h) (Nat.le_refl _) rfl rfl (Nat.le_of_ble_eq_true rfl) dX7_act_34 rfl (fun r6 σ5 h => ?_)
      exact Rf_iret X rfl dX7_act_37 ⟨_, rfl, h⟩
    · have h := h.2 c7
      refine Rf_iconst X (v := 0) rfl dX7_act_25 rfl ?_
      exact Rf_iret X rfl dX7_act_26 ⟨_, rfl, h⟩
def wp_X7_trace (σ : rfS) (x1 : Int32) (Q : Int32 → rfS → Prop) : Prop :=
  wp_X7_isWithin σ x1 0 ((if 24 < (gI σ 49 3) then 24 else (gI σ 49 3)) - 1) (fun (r2 : Int32) (σ1 : rfS) => ((r2 = 0 → Q (-1) σ1) ∧ (¬ r2 = 0 → vp_in x1 24 ∧ (Q (gF σ1 51 (x1.toNatClampNeg)) σ1))))
set_option maxRecDepth 20000 in
theorem k_X7_trace {σ : rfS} {x1 : Int32} {Q : Int32 → rfS → Prop} (h : wp_X7_trace σ x1 Q) : RM ΛC 1 yX7_trace cX7_trace 2 (some .int) [.ref 0, .int x1] σ (qi Q) := by
  unfold wp_X7_trace at h
  refine RM.intro (by decide) (Nat.le_of_ble_eq_true rfl) (fun E X => ?_)
  show Rf ΛC 1 E 2 (qi Q) 0 [(0, .ref 0), (1, .int x1)] [] σ
  refine Rf_iload_n X (j := 1) rfl rfl dX7_trace_0 rfl ?_
  refine Rf_iconst X (v := 0) rfl dX7_trace_1 rfl ?_
  refine Rf_aload_n X (j := 0) rfl rfl dX7_trace_2 rfl ?_
  refine Rf_get X kc7 (Nat.le_of_ble_eq_true rfl) rfl (j := 9) (Nat.le_of_ble_eq_true rfl) lf_X7_52 (v := .ref 49) rfl dX7_trace_3 rfl ?_
  refine Rf_get X kc0 (Nat.le_of_ble_eq_true rfl) rfl (j := 3) (Nat.le_of_ble_eq_true rfl) lf_X7_305 (v := .int (gI σ 49 3)) rfl dX7_trace_6 rfl ?_
  refine Rf_bipush X (v := 24) rfl dX7_trace_9 rfl ?_
  refine Rf_min X lm_X7_228 mm_min.1 mm_min.2.1 mm_min.2.2 (Nat.le_of_ble_eq_true rfl) (Nat.le_of_ble_eq_true rfl) dX7_trace_11 rfl ?_
  refine Rf_iconst X (v := 1) rfl dX7_trace_14 rfl ?_
  refine Rf_isub X dX7_trace_15 rfl ?_
  refine Rf_cSi (as := [.int x1, .int 0, .int ((if 24 < (gI σ 49 3) then 24 else (gI σ 49 3)) - 1)]) (st := []) X ms_X7_isWithin lm_X7_63 (k_X7_isWithin h) (Nat.le_of_ble_eq_true rfl) rfl rfl (Nat.le_of_ble_eq_true rfl) dX7_trace_16 rfl (fun r2 σ1 h => ?_)
  refine Rf_if_eq X (tgt := 34) dX7_trace_19 rfl rfl (fun c4 => ?_) (fun c4 => ?_)
  · have h := h.1 c4
    refine Rf_iconst X (v := (-1)) (by decide) dX7_trace_34 rfl ?_
    exact Rf_iret X rfl dX7_trace_35 ⟨_, rfl, h⟩
  · have h := h.2 c4
    refine Rf_aload_n X (j := 0) rfl rfl dX7_trace_22 rfl ?_
    refine Rf_get X kc7 (Nat.le_of_ble_eq_true rfl) rfl (j := 9) (Nat.le_of_ble_eq_true rfl) lf_X7_52 (v := .ref 49) rfl dX7_trace_23 rfl ?_
    refine Rf_get X kc0 (Nat.le_of_ble_eq_true rfl) rfl (j := 2) (Nat.le_of_ble_eq_true rfl) lf_X7_314 (v := .ref 51) rfl dX7_trace_26 rfl ?_
    refine Rf_iload_n X (j := 1) rfl rfl dX7_trace_29 rfl ?_
    obtain ⟨s3, h⟩ := h
    refine Rf_iaload X (Nat.le_of_ble_eq_true rfl) rfl rfl s3 dX7_trace_30 rfl (v := gF σ1 51 (x1.toNatClampNeg)) rfl ?_
    refine Rf_goto X (tgt := 35) dX7_trace_31 rfl ?_
    exact Rf_iret X rfl dX7_trace_35 ⟨_, rfl, h⟩
def wj_X7_keep_39 (Q : Int32 → rfS → Prop) (x1 : Int32) (x2 : Int32) (xs0 : Int32) (as1 : Nat) (σ : rfS) : Prop :=
  vp_in x1 6 ∧ Q 1 (sI (sI σ as1 0 xs0) (53 + 2 * x1.toNatClampNeg) 1 x2)
set_option maxRecDepth 20000 in
theorem sj_X7_keep_39 {E : rfE} {Q : Int32 → rfS → Prop} (X : rfX ΛC E yX7_keep cX7_keep 3 (some .int)) (x1 : Int32) (x2 : Int32) (xs0 : Int32) (as1 : Nat) (σ : rfS) (has1 : isSh as1) (h : wj_X7_keep_39 Q x1 x2 xs0 as1 σ) : Rf ΛC 2 E 3 (qi Q) 39 [(0, .ref 0), (1, .int x1), (2, .int x2)] [.int xs0, .ref as1] σ := by
  unfold wj_X7_keep_39 at h
  refine Rf_put X kc4 (isSh_f _ has1).1.1 (isSh_f _ has1).1.2 (j := 0) (Nat.le_of_ble_eq_true rfl) rfl lf_X7_79 rfl rfl rfl dX7_keep_39 rfl ?_
  refine Rf_aload_n X (j := 0) rfl rfl dX7_keep_42 rfl ?_
  refine Rf_get X kc7 (Nat.le_of_ble_eq_true rfl) rfl (j := 10) (Nat.le_of_ble_eq_true rfl) lf_X7_58 (v := .ref 52) rfl dX7_keep_43 rfl ?_
  refine Rf_iload_n X (j := 1) rfl rfl dX7_keep_46 rfl ?_
  obtain ⟨s4, h⟩ := h
  refine Rf_aaload3 X (Nat.le_of_ble_eq_true rfl) rfl rfl s4 dX7_keep_47 rfl ?_
  refine Rf_iload_n X (j := 2) rfl rfl dX7_keep_48 rfl ?_
  refine Rf_put X kc4 (isSh_f _ (isSh_of s4)).1.1 (isSh_f _ (isSh_of s4)).1.2 (j := 1) (Nat.le_of_ble_eq_true rfl) rfl lf_X7_317 rfl rfl rfl dX7_keep_49 rfl ?_
  refine Rf_iconst X (v := 1) rfl dX7_keep_52 rfl ?_
  exact Rf_iret X rfl dX7_keep_53 ⟨_, rfl, h⟩
def wj_X7_keep_22 (Q : Int32 → rfS → Prop) (x1 : Int32) (x2 : Int32) (σ : rfS) : Prop :=
  vp_in x1 6 ∧ ((¬ x2 = (-1) → wj_X7_keep_39 Q x1 x2 (-1) (53 + 2 * x1.toNatClampNeg) σ) ∧ (x2 = (-1) → wj_X7_keep_39 Q x1 x2 (-2) (53 + 2 * x1.toNatClampNeg) σ))
set_option maxRecDepth 20000 in
theorem sj_X7_keep_22 {E : rfE} {Q : Int32 → rfS → Prop} (X : rfX ΛC E yX7_keep cX7_keep 3 (some .int)) (x1 : Int32) (x2 : Int32) (σ : rfS) (h : wj_X7_keep_22 Q x1 x2 σ) : Rf ΛC 2 E 3 (qi Q) 22 [(0, .ref 0), (1, .int x1), (2, .int x2)] [] σ := by
  unfold wj_X7_keep_22 at h
  refine Rf_aload_n X (j := 0) rfl rfl dX7_keep_22 rfl ?_
  refine Rf_get X kc7 (Nat.le_of_ble_eq_true rfl) rfl (j := 10) (Nat.le_of_ble_eq_true rfl) lf_X7_58 (v := .ref 52) rfl dX7_keep_23 rfl ?_
  refine Rf_iload_n X (j := 1) rfl rfl dX7_keep_26 rfl ?_
  obtain ⟨s3, h⟩ := h
  refine Rf_aaload3 X (Nat.le_of_ble_eq_true rfl) rfl rfl s3 dX7_keep_27 rfl ?_
  refine Rf_iload_n X (j := 2) rfl rfl dX7_keep_28 rfl ?_
  refine Rf_iconst X (v := (-1)) (by decide) dX7_keep_29 rfl ?_
  refine Rf_icmp_ne X (tgt := 38) dX7_keep_30 rfl rfl (fun c5 => ?_) (fun c5 => ?_)
  · have h := h.1 c5
    refine Rf_iconst X (v := (-1)) (by decide) dX7_keep_38 rfl ?_
    exact sj_X7_keep_39 X _ _ _ _ _ (isSh_of s3) h
  · have h := h.2 c5
    refine Rf_bipush X (v := (-2)) (by decide) dX7_keep_33 rfl ?_
    refine Rf_goto X (tgt := 39) dX7_keep_35 rfl ?_
    exact sj_X7_keep_39 X _ _ _ _ _ (isSh_of s3) h
def wp_X7_keep (σ : rfS) (x1 : Int32) (x2 : Int32) (Q : Int32 → rfS → Prop) : Prop :=
  wp_X7_isShelf σ x1 (fun (r2 : Int32) (σ1 : rfS) => ((r2 = 0 → Q (-1) σ1) ∧ (¬ r2 = 0 → ((x2 = (-1) → wj_X7_keep_22 Q x1 x2 σ1) ∧ (¬ x2 = (-1) → wp_X7_isBody σ1 x2 (fun (r7 : Int32) (σ6 : rfS) => ((¬ r7 = 0 → wj_X7_keep_22 Q x1 x2 σ6) ∧ (r7 = 0 → Q (-1) σ6))))))))
set_option maxRecDepth 20000 in
theorem k_X7_keep {σ : rfS} {x1 : Int32} {x2 : Int32} {Q : Int32 → rfS → Prop} (h : wp_X7_keep σ x1 x2 Q) : RM ΛC 2 yX7_keep cX7_keep 3 (some .int) [.ref 0, .int x1, .int x2] σ (qi Q) := by
  unfold wp_X7_keep at h
  refine RM.intro (by decide) (Nat.le_of_ble_eq_true rfl) (fun E X => ?_)
  show Rf ΛC 2 E 3 (qi Q) 0 [(0, .ref 0), (1, .int x1), (2, .int x2)] [] σ
  refine Rf_iload_n X (j := 1) rfl rfl dX7_keep_0 rfl ?_
  refine Rf_cSi (as := [.int x1]) (st := []) X ms_X7_isShelf lm_X7_75 (k_X7_isShelf h) (Nat.le_of_ble_eq_true rfl) rfl rfl (Nat.le_of_ble_eq_true rfl) dX7_keep_1 rfl (fun r2 σ1 h => ?_)
  refine Rf_if_eq X (tgt := 20) dX7_keep_4 rfl rfl (fun c10 => ?_) (fun c10 => ?_)
  · have h := h.1 c10
    refine Rf_iconst X (v := (-1)) (by decide) dX7_keep_20 rfl ?_
    exact Rf_iret X rfl dX7_keep_21 ⟨_, rfl, h⟩
  · have h := h.2 c10
    refine Rf_iload_n X (j := 2) rfl rfl dX7_keep_7 rfl ?_
    refine Rf_iconst X (v := (-1)) (by decide) dX7_keep_8 rfl ?_
    refine Rf_icmp_eq X (tgt := 22) dX7_keep_9 rfl rfl (fun c9 => ?_) (fun c9 => ?_)
    · have h := h.1 c9
      exact sj_X7_keep_22 X _ _ _ h
    · have h := h.2 c9
      refine Rf_aload_n X (j := 0) rfl rfl dX7_keep_12 rfl ?_
      refine Rf_iload_n X (j := 2) rfl rfl dX7_keep_13 rfl ?_
      refine Rf_cVi (as := [.int x2]) (st := []) X mi_X7_isBody lm_X7_308 rfl (Nat.le_of_ble_eq_true rfl) rfl (k_X7_isBody h) (Nat.le_of_ble_eq_true rfl) rfl rfl (Nat.le_of_ble_eq_true rfl) dX7_keep_14 rfl (fun r7 σ6 h => ?_)
      refine Rf_if_ne X (tgt := 22) dX7_keep_17 rfl rfl (fun c8 => ?_) (fun c8 => ?_)
      · have h := h.1 c8
        exact sj_X7_keep_22 X _ _ _ h
      · have h := h.2 c8
        refine Rf_iconst X (v := (-1)) (by decide) dX7_keep_20 rfl ?_
        exact Rf_iret X rfl dX7_keep_21 ⟨_, rfl, h⟩
def wp_X7_row (σ : rfS) (x1 : Int32) (x2 : Int32) (x3 : Int32) (Q : Int32 → rfS → Prop) : Prop :=
  wp_X7_isShelf σ x1 (fun (r2 : Int32) (σ1 : rfS) => ((r2 = 0 → Q (-1) σ1) ∧ (¬ r2 = 0 → wp_X7_isWithin σ1 x2 0 4 (fun (r4 : Int32) (σ3 : rfS) => ((r4 = 0 → Q (-1) σ3) ∧ (¬ r4 = 0 → ((x3 ≤ 60 → ((0 ≤ x3 → vp_in x1 6 ∧ wp_X4_becomeRow σ3 (53 + 2 * x1.toNatClampNeg) x2 x3 (fun (σ6 : rfS) => Q 1 σ6)) ∧ (¬ (0 ≤ x3) → Q (-14) σ3))) ∧ (¬ (x3 ≤ 60) → Q (-1) σ3))))))))
set_option maxRecDepth 20000 in
theorem k_X7_row {σ : rfS} {x1 : Int32} {x2 : Int32} {x3 : Int32} {Q : Int32 → rfS → Prop} (h : wp_X7_row σ x1 x2 x3 Q) : RM ΛC 2 yX7_row cX7_row 4 (some .int) [.ref 0, .int x1, .int x2, .int x3] σ (qi Q) := by
  unfold wp_X7_row at h
  refine RM.intro (by decide) (Nat.le_of_ble_eq_true rfl) (fun E X => ?_)
  show Rf ΛC 2 E 4 (qi Q) 0 [(0, .ref 0), (1, .int x1), (2, .int x2), (3, .int x3)] [] σ
  refine Rf_iload_n X (j := 1) rfl rfl dX7_row_0 rfl ?_
  refine Rf_cSi (as := [.int x1]) (st := []) X ms_X7_isShelf lm_X7_75 (k_X7_isShelf h) (Nat.le_of_ble_eq_true rfl) rfl rfl (Nat.le_of_ble_eq_true rfl) dX7_row_1 rfl (fun r2 σ1 h => ?_)
  refine Rf_if_eq X (tgt := 22) dX7_row_4 rfl rfl (fun c10 => ?_) (fun c10 => ?_)
  · have h := h.1 c10
    refine Rf_iconst X (v := (-1)) (by decide) dX7_row_22 rfl ?_
    exact Rf_iret X rfl dX7_row_23 ⟨_, rfl, h⟩
  · have h := h.2 c10
    refine Rf_iload_n X (j := 2) rfl rfl dX7_row_7 rfl ?_
    refine Rf_iconst X (v := 0) rfl dX7_row_8 rfl ?_
    refine Rf_iconst X (v := 4) rfl dX7_row_9 rfl ?_
    refine Rf_cSi (as := [.int x2, .int 0, .int 4]) (st := []) X ms_X7_isWithin lm_X7_63 (k_X7_isWithin h) (Nat.le_of_ble_eq_true rfl) rfl rfl (Nat.le_of_ble_eq_true rfl) dX7_row_10 rfl (fun r4 σ3 h => ?_)
    refine Rf_if_eq X (tgt := 22) dX7_row_13 rfl rfl (fun c9 => ?_) (fun c9 => ?_)
    · have h := h.1 c9
      refine Rf_iconst X (v := (-1)) (by decide) dX7_row_22 rfl ?_
      exact Rf_iret X rfl dX7_row_23 ⟨_, rfl, h⟩
    · have h := h.2 c9
      refine Rf_iload_n X (j := 3) rfl rfl dX7_row_16 rfl ?_
      refine Rf_bipush X (v := 60) rfl dX7_row_17 rfl ?_
      refine Rf_icmp_le X (tgt := 24) dX7_row_19 rfl rfl (fun c8 => ?_) (fun c8 => ?_)
      · have h := h.1 c8
        refine Rf_iload_n X (j := 3) rfl rfl dX7_row_24 rfl ?_
        refine Rf_if_ge X (tgt := 31) dX7_row_25 rfl rfl (fun c7 => ?_) (fun c7 => ?_)
        · have h := h.1 c7
          refine Rf_aload_n X (j := 0) rfl rfl dX7_row_31 rfl ?_
          refine Rf_get X kc7 (Nat.le_of_ble_eq_true rfl) rfl (j := 10) (Nat.le_of_ble_eq_true rfl) lf_X7_58 (v := .ref 52) rfl dX7_row_32 rfl ?_
          refine Rf_iload_n X (j := 1) rfl rfl dX7_row_35 rfl ?_
          obtain ⟨s5, h⟩ := h
          refine Rf_aaload3 X (Nat.le_of_ble_eq_true rfl) rfl rfl s5 dX7_row_36 rfl ?_
          refine Rf_iload_n X (j := 2) rfl rfl dX7_row_37 rfl ?_
          refine Rf_iload_n X (j := 3) rfl rfl dX7_row_38 rfl ?_
          refine Rf_cVv (as := [.int x2, .int x3]) (st := []) X mi_X4_becomeRow lm_X7_320 rfl (isSh_f _ (isSh_of s5)).1.1 (isSh_f _ (isSh_of s5)).1.2 (k_X4_becomeRow (isSh_of s5) h) (Nat.le_of_ble_eq_true rfl) rfl rfl (Nat.le_of_ble_eq_true rfl) dX7_row_39 rfl (fun σ6 h => ?_)
          refine Rf_iconst X (v := 1) rfl dX7_row_42 rfl ?_
          exact Rf_iret X rfl dX7_row_43 ⟨_, rfl, h⟩
        · have h := h.2 c7
          refine Rf_bipush X (v := (-14)) (by decide) dX7_row_28 rfl ?_
          exact Rf_iret X rfl dX7_row_30 ⟨_, rfl, h⟩
      · have h := h.2 c8
        refine Rf_iconst X (v := (-1)) (by decide) dX7_row_22 rfl ?_
        exact Rf_iret X rfl dX7_row_23 ⟨_, rfl, h⟩
def wp_X7_refusalOfPlace (σ : rfS) (x1 : Int32) (x2 : Int32) (Q : Int32 → rfS → Prop) : Prop :=
  wp_X7_isShelf σ x1 (fun (r2 : Int32) (σ1 : rfS) => ((¬ r2 = 0 → vp_in x1 6 ∧ ((¬ (gI σ1 (53 + 2 * x1.toNatClampNeg) 0) = (-2) → ((¬ (gI σ1 (53 + 2 * x1.toNatClampNeg) 0) = (-1) → wp_X7_isWithin σ1 x2 0 ((gI σ1 (53 + 2 * x1.toNatClampNeg) 2) - 1) (fun (r5 : Int32) (σ4 : rfS) => ((r5 = 0 → Q (-13) σ4) ∧ (¬ r5 = 0 → Q 0 σ4)))) ∧ ((gI σ1 (53 + 2 * x1.toNatClampNeg) 0) = (-1) → Q (-12) σ1))) ∧ ((gI σ1 (53 + 2 * x1.toNatClampNeg) 0) = (-2) → Q (-11) σ1))) ∧ (r2 = 0 → Q (-1) σ1)))
set_option maxRecDepth 20000 in
theorem k_X7_refusalOfPlace {σ : rfS} {x1 : Int32} {x2 : Int32} {Q : Int32 → rfS → Prop} (h : wp_X7_refusalOfPlace σ x1 x2 Q) : RM ΛC 2 yX7_refusalOfPlace cX7_refusalOfPlace 4 (some .int) [.ref 0, .int x1, .int x2] σ (qi Q) := by
  unfold wp_X7_refusalOfPlace at h
  refine RM.intro (by decide) (Nat.le_of_ble_eq_true rfl) (fun E X => ?_)
  show Rf ΛC 2 E 4 (qi Q) 0 [(0, .ref 0), (1, .int x1), (2, .int x2)] [] σ
  refine Rf_iload_n X (j := 1) rfl rfl dX7_refusalOfPlace_0 rfl ?_
  refine Rf_cSi (as := [.int x1]) (st := []) X ms_X7_isShelf lm_X7_75 (k_X7_isShelf h) (Nat.le_of_ble_eq_true rfl) rfl rfl (Nat.le_of_ble_eq_true rfl) dX7_refusalOfPlace_1 rfl (fun r2 σ1 h => ?_)
  refine Rf_if_ne X (tgt := 9) dX7_refusalOfPlace_4 rfl rfl (fun c9 => ?_) (fun c9 => ?_)
  · have h := h.1 c9
    refine Rf_aload_n X (j := 0) rfl rfl dX7_refusalOfPlace_9 rfl ?_
    refine Rf_get X kc7 (Nat.le_of_ble_eq_true rfl) rfl (j := 10) (Nat.le_of_ble_eq_true rfl) lf_X7_58 (v := .ref 52) rfl dX7_refusalOfPlace_10 rfl ?_
    refine Rf_iload_n X (j := 1) rfl rfl dX7_refusalOfPlace_13 rfl ?_
    obtain ⟨s3, h⟩ := h
    refine Rf_aaload3 X (Nat.le_of_ble_eq_true rfl) rfl rfl s3 dX7_refusalOfPlace_14 rfl ?_
    refine Rf_astore_n X rfl (i := 3) (Nat.le_of_ble_eq_true rfl) (ls2 := [(3, .ref (53 + 2 * x1.toNatClampNeg)), (0, .ref 0), (1, .int x1), (2, .int x2)]) rfl dX7_refusalOfPlace_15 rfl ?_
    refine Rf_aload_n X (j := 0) rfl rfl dX7_refusalOfPlace_16 rfl ?_
    refine Rf_get X kc4 (isSh_f _ (isSh_of s3)).1.1 (isSh_f _ (isSh_of s3)).1.2 (j := 0) (Nat.le_of_ble_eq_true rfl) lf_X7_79 (v := .int (gI σ1 (53 + 2 * x1.toNatClampNeg) 0)) rfl dX7_refusalOfPlace_17 rfl ?_
    refine Rf_bipush X (v := (-2)) (by decide) dX7_refusalOfPlace_20 rfl ?_
    refine Rf_icmp_ne X (tgt := 28) dX7_refusalOfPlace_22 rfl rfl (fun c8 => ?_) (fun c8 => ?_)
    · have h := h.1 c8
      refine Rf_aload_n X (j := 0) rfl rfl dX7_refusalOfPlace_28 rfl ?_
      refine Rf_get X kc4 (isSh_f _ (isSh_of s3)).1.1 (isSh_f _ (isSh_of s3)).1.2 (j := 0) (Nat.le_of_ble_eq_true rfl) lf_X7_79 (v := .int (gI σ1 (53 + 2 * x1.toNatClampNeg) 0)) rfl dX7_refusalOfPlace_29 rfl ?_
      refine Rf_iconst X (v := (-1)) (by decide) dX7_refusalOfPlace_32 rfl ?_
      refine Rf_icmp_ne X (tgt := 39) dX7_refusalOfPlace_33 rfl rfl (fun c7 => ?_) (fun c7 => ?_)
      · have h := h.1 c7
        refine Rf_iload_n X (j := 3) rfl rfl dX7_refusalOfPlace_39 rfl ?_
        refine Rf_iconst X (v := 0) rfl dX7_refusalOfPlace_40 rfl ?_
        refine Rf_aload_n X (j := 0) rfl rfl dX7_refusalOfPlace_41 rfl ?_
        refine Rf_get X kc4 (isSh_f _ (isSh_of s3)).1.1 (isSh_f _ (isSh_of s3)).1.2 (j := 2) (Nat.le_of_ble_eq_true rfl) lf_X7_86 (v := .int (gI σ1 (53 + 2 * x1.toNatClampNeg) 2)) rfl dX7_refusalOfPlace_42 rfl ?_
        refine Rf_iconst X (v := 1) rfl dX7_refusalOfPlace_45 rfl ?_
        refine Rf_isub X dX7_refusalOfPlace_46 rfl ?_
        refine Rf_cSi (as := [.int x2, .int 0, .int ((gI σ1 (53 + 2 * x1.toNatClampNeg) 2) - 1)]) (st := []) X ms_X7_isWithin lm_X7_63 (k_X7_isWithin h) (Nat.le_of_ble_eq_true rfl) rfl rfl (Nat.le_of_ble_eq_true rfl) dX7_refusalOfPlace_47 rfl (fun r5 σ4 h => ?_)
        refine Rf_if_eq X (tgt := 57) dX7_refusalOfPlace_50 rfl rfl (fun c6 => ?_) (fun c6 => ?_)
        · have h := h.1 c6
          refine Rf_bipush X (v := (-13)) (by decide) dX7_refusalOfPlace_57 rfl ?_
          exact Rf_iret X rfl dX7_refusalOfPlace_59 ⟨_, rfl, h⟩
        · have h := h.2 c6
          refine Rf_iconst X (v := 0) rfl dX7_refusalOfPlace_53 rfl ?_
          refine Rf_goto X (tgt := 59) dX7_refusalOfPlace_54 rfl ?_
          exact Rf_iret X rfl dX7_refusalOfPlace_59 ⟨_, rfl, h⟩
      · have h := h.2 c7
        refine Rf_bipush X (v := (-12)) (by decide) dX7_refusalOfPlace_36 rfl ?_
        exact Rf_iret X rfl dX7_refusalOfPlace_38 ⟨_, rfl, h⟩
    · have h := h.2 c8
      refine Rf_bipush X (v := (-11)) (by decide) dX7_refusalOfPlace_25 rfl ?_
      exact Rf_iret X rfl dX7_refusalOfPlace_27 ⟨_, rfl, h⟩
  · have h := h.2 c9
    refine Rf_iconst X (v := (-1)) (by decide) dX7_refusalOfPlace_7 rfl ?_
    exact Rf_iret X rfl dX7_refusalOfPlace_8 ⟨_, rfl, h⟩
def wp_X7_put (σ : rfS) (x1 : Int32) (x2 : Int32) (y3 : Int64) (Q : Int32 → rfS → Prop) : Prop :=
  wp_X7_refusalOfPlace σ x1 x2 (fun (r2 : Int32) (σ1 : rfS) => ((r2 = 0 → vp_in x1 6 ∧ vp_in x1 6 ∧ wp_X4_cut σ1 (53 + 2 * x1.toNatClampNeg) y3 (fun (r6 : Int64) (σ5 : rfS) => vp_in x2 60 ∧ Q 1 (sL σ5 (53 + 2 * x1.toNatClampNeg + 1) (x2.toNatClampNeg) r6))) ∧ (¬ r2 = 0 → Q r2 σ1)))
set_option maxRecDepth 20000 in
theorem k_X7_put {σ : rfS} {x1 : Int32} {x2 : Int32} {y3 : Int64} {Q : Int32 → rfS → Prop} (h : wp_X7_put σ x1 x2 y3 Q) : RM ΛC 3 yX7_put cX7_put 6 (some .int) [.ref 0, .int x1, .int x2, .long y3] σ (qi Q) := by
  unfold wp_X7_put at h
  refine RM.intro (by decide) (Nat.le_of_ble_eq_true rfl) (fun E X => ?_)
  show Rf ΛC 3 E 6 (qi Q) 0 [(0, .ref 0), (1, .int x1), (2, .int x2), (3, .long y3)] [] σ
  refine Rf_aload_n X (j := 0) rfl rfl dX7_put_0 rfl ?_
  refine Rf_iload_n X (j := 1) rfl rfl dX7_put_1 rfl ?_
  refine Rf_iload_n X (j := 2) rfl rfl dX7_put_2 rfl ?_
  refine Rf_cVi (as := [.int x1, .int x2]) (st := []) X mi_X7_refusalOfPlace lm_X7_324 rfl (Nat.le_of_ble_eq_true rfl) rfl (k_X7_refusalOfPlace h) (Nat.le_of_ble_eq_true rfl) rfl rfl (Nat.le_of_ble_eq_true rfl) dX7_put_3 rfl (fun r2 σ1 h => ?_)
  refine Rf_istore X (i := 5) (Nat.le_of_ble_eq_true rfl) (ls2 := [(5, .int r2), (0, .ref 0), (1, .int x1), (2, .int x2), (3, .long y3)]) rfl dX7_put_6 rfl ?_
  refine Rf_iload X (j := 0) rfl dX7_put_8 rfl ?_
  refine Rf_if_eq X (tgt := 16) dX7_put_10 rfl rfl (fun c8 => ?_) (fun c8 => ?_)
  · have h := h.1 c8
    refine Rf_aload_n X (j := 1) rfl rfl dX7_put_16 rfl ?_
    refine Rf_get X kc7 (Nat.le_of_ble_eq_true rfl) rfl (j := 10) (Nat.le_of_ble_eq_true rfl) lf_X7_58 (v := .ref 52) rfl dX7_put_17 rfl ?_
    refine Rf_iload_n X (j := 2) rfl rfl dX7_put_20 rfl ?_
    obtain ⟨s3, h⟩ := h
    refine Rf_aaload3 X (Nat.le_of_ble_eq_true rfl) rfl rfl s3 dX7_put_21 rfl ?_
    refine Rf_get X kc4 (isSh_f _ (isSh_of s3)).1.1 (isSh_f _ (isSh_of s3)).1.2 (j := 3) (Nat.le_of_ble_eq_true rfl) lf_X7_87 (v := .ref (53 + 2 * x1.toNatClampNeg + 1)) rfl dX7_put_22 rfl ?_
    refine Rf_iload_n X (j := 3) rfl rfl dX7_put_25 rfl ?_
    refine Rf_aload_n X (j := 1) rfl rfl dX7_put_26 rfl ?_
    refine Rf_get X kc7 (Nat.le_of_ble_eq_true rfl) rfl (j := 10) (Nat.le_of_ble_eq_true rfl) lf_X7_58 (v := .ref 52) rfl dX7_put_27 rfl ?_
    refine Rf_iload_n X (j := 2) rfl rfl dX7_put_30 rfl ?_
    obtain ⟨s4, h⟩ := h
    refine Rf_aaload3 X (Nat.le_of_ble_eq_true rfl) rfl rfl s4 dX7_put_31 rfl ?_
    refine Rf_lload_n X (j := 4) rfl rfl dX7_put_32 rfl ?_
    refine Rf_cVl (as := [.long y3]) (st := [.int x2, .ref (53 + 2 * x1.toNatClampNeg + 1)]) X mi_X4_cut lm_X7_327 rfl (isSh_f _ (isSh_of s4)).1.1 (isSh_f _ (isSh_of s4)).1.2 (k_X4_cut (isSh_of s4) h) (Nat.le_of_ble_eq_true rfl) rfl rfl (Nat.le_of_ble_eq_true rfl) dX7_put_33 rfl (fun r6 σ5 h => ?_)
    obtain ⟨s7, h⟩ := h
    refine Rf_lastore X (isSh_f _ (isSh_of s3)).2.1 (isSh_f _ (isSh_of s3)).2.2.1 (isSh_f _ (isSh_of s3)).2.2.2 s7 dX7_put_36 rfl ?_
    refine Rf_iconst X (v := 1) rfl dX7_put_37 rfl ?_
    exact Rf_iret X rfl dX7_put_38 ⟨_, rfl, h⟩
  · have h := h.2 c8
    refine Rf_iload X (j := 0) rfl dX7_put_13 rfl ?_
    exact Rf_iret X rfl dX7_put_15 ⟨_, rfl, h⟩
def wp_X7_element (σ : rfS) (x1 : Int32) (x2 : Int32) (Q : Int64 → rfS → Prop) : Prop :=
  wp_X7_refusalOfPlace σ x1 x2 (fun (r2 : Int32) (σ1 : rfS) => ((r2 = 0 → vp_in x1 6 ∧ vp_in x2 60 ∧ (Q (gL σ1 (53 + 2 * x1.toNatClampNeg + 1) (x2.toNatClampNeg)) σ1)) ∧ (¬ r2 = 0 → Q (-9223372036854775808) σ1)))
set_option maxRecDepth 20000 in
theorem k_X7_element {σ : rfS} {x1 : Int32} {x2 : Int32} {Q : Int64 → rfS → Prop} (h : wp_X7_element σ x1 x2 Q) : RM ΛC 3 yX7_element cX7_element 3 (some .long) [.ref 0, .int x1, .int x2] σ (ql Q) := by
  unfold wp_X7_element at h
  refine RM.intro (by decide) (Nat.le_of_ble_eq_true rfl) (fun E X => ?_)
  show Rf ΛC 3 E 3 (ql Q) 0 [(0, .ref 0), (1, .int x1), (2, .int x2)] [] σ
  refine Rf_aload_n X (j := 0) rfl rfl dX7_element_0 rfl ?_
  refine Rf_iload_n X (j := 1) rfl rfl dX7_element_1 rfl ?_
  refine Rf_iload_n X (j := 2) rfl rfl dX7_element_2 rfl ?_
  refine Rf_cVi (as := [.int x1, .int x2]) (st := []) X mi_X7_refusalOfPlace lm_X7_324 rfl (Nat.le_of_ble_eq_true rfl) rfl (k_X7_refusalOfPlace h) (Nat.le_of_ble_eq_true rfl) rfl rfl (Nat.le_of_ble_eq_true rfl) dX7_element_3 rfl (fun r2 σ1 h => ?_)
  refine Rf_if_eq X (tgt := 15) dX7_element_6 rfl rfl (fun c5 => ?_) (fun c5 => ?_)
  · have h := h.1 c5
    refine Rf_aload_n X (j := 0) rfl rfl dX7_element_15 rfl ?_
    refine Rf_get X kc7 (Nat.le_of_ble_eq_true rfl) rfl (j := 10) (Nat.le_of_ble_eq_true rfl) lf_X7_58 (v := .ref 52) rfl dX7_element_16 rfl ?_
    refine Rf_iload_n X (j := 1) rfl rfl dX7_element_19 rfl ?_
    obtain ⟨s3, h⟩ := h
    refine Rf_aaload3 X (Nat.le_of_ble_eq_true rfl) rfl rfl s3 dX7_element_20 rfl ?_
    refine Rf_get X kc4 (isSh_f _ (isSh_of s3)).1.1 (isSh_f _ (isSh_of s3)).1.2 (j := 3) (Nat.le_of_ble_eq_true rfl) lf_X7_87 (v := .ref (53 + 2 * x1.toNatClampNeg + 1)) rfl dX7_element_21 rfl ?_
    refine Rf_iload_n X (j := 2) rfl rfl dX7_element_24 rfl ?_
    obtain ⟨s4, h⟩ := h
    refine Rf_laload X (isSh_f _ (isSh_of s3)).2.1 (isSh_f _ (isSh_of s3)).2.2.1 (isSh_f _ (isSh_of s3)).2.2.2 s4 dX7_element_25 rfl (v := gL σ1 (53 + 2 * x1.toNatClampNeg + 1) (x2.toNatClampNeg)) rfl ?_
    exact Rf_lret X dX7_element_26 ⟨_, rfl, h⟩
  · have h := h.2 c5
    refine Rf_ldc2 X lc_X7_331 dX7_element_9 rfl ?_
    refine Rf_goto X (tgt := 26) dX7_element_12 rfl ?_
    exact Rf_lret X dX7_element_26 ⟨_, rfl, h⟩
def wp_X7_shift (σ : rfS) (x1 : Int32) (x2 : Int32) (x3 : Int32) (x4 : Int32) (x5 : Int32) (Q : Int32 → rfS → Prop) : Prop :=
  wp_X7_isShelf σ x1 (fun (r2 : Int32) (σ1 : rfS) => ((r2 = 0 → Q (-1) σ1) ∧ (¬ r2 = 0 → wp_X7_isShelf σ1 x3 (fun (r4 : Int32) (σ3 : rfS) => ((¬ r4 = 0 → vp_in x1 6 ∧ vp_in x3 6 ∧ (((gI σ3 (53 + 2 * x1.toNatClampNeg) 0) = (-2) → Q (-11) σ3) ∧ (¬ (gI σ3 (53 + 2 * x1.toNatClampNeg) 0) = (-2) → ((¬ (gI σ3 (53 + 2 * x3.toNatClampNeg) 0) = (-2) → (((gI σ3 (53 + 2 * x1.toNatClampNeg) 0) = (-1) → Q (-12) σ3) ∧ (¬ (gI σ3 (53 + 2 * x1.toNatClampNeg) 0) = (-1) → (((gI σ3 (53 + 2 * x1.toNatClampNeg) 0) = (gI σ3 (53 + 2 * x3.toNatClampNeg) 0) → wp_X4_hasPlaces σ3 (53 + 2 * x1.toNatClampNeg) x2 x5 (fun (r8 : Int32) (σ7 : rfS) => ((r8 = 0 → Q (-13) σ7) ∧ (¬ r8 = 0 → wp_X4_hasPlaces σ7 (53 + 2 * x3.toNatClampNeg) x4 x5 (fun (r10 : Int32) (σ9 : rfS) => ((¬ r10 = 0 → (¬ x2 < 0) ∧ (¬ x4 < 0) ∧ (¬ x5 < 0) ∧ (x2.toNatClampNeg + x5.toNatClampNeg ≤ 60) ∧ (x4.toNatClampNeg + x5.toNatClampNeg ≤ 60) ∧ Q x5 (cL σ9 (53 + 2 * x1.toNatClampNeg + 1) (53 + 2 * x3.toNatClampNeg + 1) (x2.toNatClampNeg) (x4.toNatClampNeg) (x5.toNatClampNeg))) ∧ (r10 = 0 → Q (-13) σ9))))))) ∧ (¬ (gI σ3 (53 + 2 * x1.toNatClampNeg) 0) = (gI σ3 (53 + 2 * x3.toNatClampNeg) 0) → Q (-12) σ3))))) ∧ ((gI σ3 (53 + 2 * x3.toNatClampNeg) 0) = (-2) → Q (-11) σ3))))) ∧ (r4 = 0 → Q (-1) σ3))))))
set_option maxRecDepth 20000 in
theorem k_X7_shift {σ : rfS} {x1 : Int32} {x2 : Int32} {x3 : Int32} {x4 : Int32} {x5 : Int32} {Q : Int32 → rfS → Prop} (h : wp_X7_shift σ x1 x2 x3 x4 x5 Q) : RM ΛC 2 yX7_shift cX7_shift 8 (some .int) [.ref 0, .int x1, .int x2, .int x3, .int x4, .int x5] σ (qi Q) := by
  unfold wp_X7_shift at h
  refine RM.intro (by decide) (Nat.le_of_ble_eq_true rfl) (fun E X => ?_)
  show Rf ΛC 2 E 8 (qi Q) 0 [(0, .ref 0), (1, .int x1), (2, .int x2), (3, .int x3), (4, .int x4), (5, .int x5)] [] σ
  refine Rf_iload_n X (j := 1) rfl rfl dX7_shift_0 rfl ?_
  refine Rf_cSi (as := [.int x1]) (st := []) X ms_X7_isShelf lm_X7_75 (k_X7_isShelf h) (Nat.le_of_ble_eq_true rfl) rfl rfl (Nat.le_of_ble_eq_true rfl) dX7_shift_1 rfl (fun r2 σ1 h => ?_)
  refine Rf_if_eq X (tgt := 14) dX7_shift_4 rfl rfl (fun c23 => ?_) (fun c23 => ?_)
  · have h := h.1 c23
    refine Rf_iconst X (v := (-1)) (by decide) dX7_shift_14 rfl ?_
    exact Rf_iret X rfl dX7_shift_15 ⟨_, rfl, h⟩
  · have h := h.2 c23
    refine Rf_iload_n X (j := 3) rfl rfl dX7_shift_7 rfl ?_
    refine Rf_cSi (as := [.int x3]) (st := []) X ms_X7_isShelf lm_X7_75 (k_X7_isShelf h) (Nat.le_of_ble_eq_true rfl) rfl rfl (Nat.le_of_ble_eq_true rfl) dX7_shift_8 rfl (fun r4 σ3 h => ?_)
    refine Rf_if_ne X (tgt := 16) dX7_shift_11 rfl rfl (fun c22 => ?_) (fun c22 => ?_)
    · have h := h.1 c22
      refine Rf_aload_n X (j := 0) rfl rfl dX7_shift_16 rfl ?_
      refine Rf_get X kc7 (Nat.le_of_ble_eq_true rfl) rfl (j := 10) (Nat.le_of_ble_eq_true rfl) lf_X7_58 (v := .ref 52) rfl dX7_shift_17 rfl ?_
      refine Rf_iload_n X (j := 1) rfl rfl dX7_shift_20 rfl ?_
      obtain ⟨s5, h⟩ := h
      refine Rf_aaload3 X (Nat.le_of_ble_eq_true rfl) rfl rfl s5 dX7_shift_21 rfl ?_
      refine Rf_astore X (i := 6) (Nat.le_of_ble_eq_true rfl) (ls2 := [(6, .ref (53 + 2 * x1.toNatClampNeg)), (0, .ref 0), (1, .int x1), (2, .int x2), (3, .int x3), (4, .int x4), (5, .int x5)]) rfl dX7_shift_22 rfl ?_
      refine Rf_aload_n X (j := 1) rfl rfl dX7_shift_24 rfl ?_
      refine Rf_get X kc7 (Nat.le_of_ble_eq_true rfl) rfl (j := 10) (Nat.le_of_ble_eq_true rfl) lf_X7_58 (v := .ref 52) rfl dX7_shift_25 rfl ?_
      refine Rf_iload_n X (j := 4) rfl rfl dX7_shift_28 rfl ?_
      obtain ⟨s6, h⟩ := h
      refine Rf_aaload3 X (Nat.le_of_ble_eq_true rfl) rfl rfl s6 dX7_shift_29 rfl ?_
      refine Rf_astore X (i := 7) (Nat.le_of_ble_eq_true rfl) (ls2 := [(7, .ref (53 + 2 * x3.toNatClampNeg)), (6, .ref (53 + 2 * x1.toNatClampNeg)), (0, .ref 0), (1, .int x1), (2, .int x2), (3, .int x3), (4, .int x4), (5, .int x5)]) rfl dX7_shift_30 rfl ?_
      refine Rf_aload X (j := 1) rfl dX7_shift_32 rfl ?_
      refine Rf_get X kc4 (isSh_f _ (isSh_of s5)).1.1 (isSh_f _ (isSh_of s5)).1.2 (j := 0) (Nat.le_of_ble_eq_true rfl) lf_X7_79 (v := .int (gI σ3 (53 + 2 * x1.toNatClampNeg) 0)) rfl dX7_shift_34 rfl ?_
      refine Rf_bipush X (v := (-2)) (by decide) dX7_shift_37 rfl ?_
      refine Rf_icmp_eq X (tgt := 52) dX7_shift_39 rfl rfl (fun c21 => ?_) (fun c21 => ?_)
      · have h := h.1 c21
        refine Rf_bipush X (v := (-11)) (by decide) dX7_shift_52 rfl ?_
        exact Rf_iret X rfl dX7_shift_54 ⟨_, rfl, h⟩
      · have h := h.2 c21
        refine Rf_aload X (j := 0) rfl dX7_shift_42 rfl ?_
        refine Rf_get X kc4 (isSh_f _ (isSh_of s6)).1.1 (isSh_f _ (isSh_of s6)).1.2 (j := 0) (Nat.le_of_ble_eq_true rfl) lf_X7_79 (v := .int (gI σ3 (53 + 2 * x3.toNatClampNeg) 0)) rfl dX7_shift_44 rfl ?_
        refine Rf_bipush X (v := (-2)) (by decide) dX7_shift_47 rfl ?_
        refine Rf_icmp_ne X (tgt := 55) dX7_shift_49 rfl rfl (fun c20 => ?_) (fun c20 => ?_)
        · have h := h.1 c20
          refine Rf_aload X (j := 1) rfl dX7_shift_55 rfl ?_
          refine Rf_get X kc4 (isSh_f _ (isSh_of s5)).1.1 (isSh_f _ (isSh_of s5)).1.2 (j := 0) (Nat.le_of_ble_eq_true rfl) lf_X7_79 (v := .int (gI σ3 (53 + 2 * x1.toNatClampNeg) 0)) rfl dX7_shift_57 rfl ?_
          refine Rf_iconst X (v := (-1)) (by decide) dX7_shift_60 rfl ?_
          refine Rf_icmp_eq X (tgt := 77) dX7_shift_61 rfl rfl (fun c19 => ?_) (fun c19 => ?_)
          · have h := h.1 c19
            refine Rf_bipush X (v := (-12)) (by decide) dX7_shift_77 rfl ?_
            exact Rf_iret X rfl dX7_shift_79 ⟨_, rfl, h⟩
          · have h := h.2 c19
            refine Rf_aload X (j := 1) rfl dX7_shift_64 rfl ?_
            refine Rf_get X kc4 (isSh_f _ (isSh_of s5)).1.1 (isSh_f _ (isSh_of s5)).1.2 (j := 0) (Nat.le_of_ble_eq_true rfl) lf_X7_79 (v := .int (gI σ3 (53 + 2 * x1.toNatClampNeg) 0)) rfl dX7_shift_66 rfl ?_
            refine Rf_aload X (j := 0) rfl dX7_shift_69 rfl ?_
            refine Rf_get X kc4 (isSh_f _ (isSh_of s6)).1.1 (isSh_f _ (isSh_of s6)).1.2 (j := 0) (Nat.le_of_ble_eq_true rfl) lf_X7_79 (v := .int (gI σ3 (53 + 2 * x3.toNatClampNeg) 0)) rfl dX7_shift_71 rfl ?_
            refine Rf_icmp_eq X (tgt := 80) dX7_shift_74 rfl rfl (fun c18 => ?_) (fun c18 => ?_)
            · have h := h.1 c18
              refine Rf_aload X (j := 1) rfl dX7_shift_80 rfl ?_
              refine Rf_iload_n X (j := 4) rfl rfl dX7_shift_82 rfl ?_
              refine Rf_iload X (j := 7) rfl dX7_shift_83 rfl ?_
              refine Rf_cVi (as := [.int x2, .int x5]) (st := []) X mi_X4_hasPlaces lm_X7_333 rfl (isSh_f _ (isSh_of s5)).1.1 (isSh_f _ (isSh_of s5)).1.2 (k_X4_hasPlaces (isSh_of s5) h) (Nat.le_of_ble_eq_true rfl) rfl rfl (Nat.le_of_ble_eq_true rfl) dX7_shift_85 rfl (fun r8 σ7 h => ?_)
              refine Rf_if_eq X (tgt := 103) dX7_shift_88 rfl rfl (fun c17 => ?_) (fun c17 => ?_)
              · have h := h.1 c17
                refine Rf_bipush X (v := (-13)) (by decide) dX7_shift_103 rfl ?_
                exact Rf_iret X rfl dX7_shift_105 ⟨_, rfl, h⟩
              · have h := h.2 c17
                refine Rf_aload X (j := 0) rfl dX7_shift_91 rfl ?_
                refine Rf_iload X (j := 6) rfl dX7_shift_93 rfl ?_
                refine Rf_iload X (j := 7) rfl dX7_shift_95 rfl ?_
                refine Rf_cVi (as := [.int x4, .int x5]) (st := []) X mi_X4_hasPlaces lm_X7_333 rfl (isSh_f _ (isSh_of s6)).1.1 (isSh_f _ (isSh_of s6)).1.2 (k_X4_hasPlaces (isSh_of s6) h) (Nat.le_of_ble_eq_true rfl) rfl rfl (Nat.le_of_ble_eq_true rfl) dX7_shift_97 rfl (fun r10 σ9 h => ?_)
                refine Rf_if_ne X (tgt := 106) dX7_shift_100 rfl rfl (fun c16 => ?_) (fun c16 => ?_)
                · have h := h.1 c16
                  refine Rf_aload X (j := 1) rfl dX7_shift_106 rfl ?_
                  refine Rf_get X kc4 (isSh_f _ (isSh_of s5)).1.1 (isSh_f _ (isSh_of s5)).1.2 (j := 3) (Nat.le_of_ble_eq_true rfl) lf_X7_87 (v := .ref (53 + 2 * x1.toNatClampNeg + 1)) rfl dX7_shift_108 rfl ?_
                  refine Rf_iload_n X (j := 4) rfl rfl dX7_shift_111 rfl ?_
                  refine Rf_aload X (j := 0) rfl dX7_shift_112 rfl ?_
                  refine Rf_get X kc4 (isSh_f _ (isSh_of s6)).1.1 (isSh_f _ (isSh_of s6)).1.2 (j := 3) (Nat.le_of_ble_eq_true rfl) lf_X7_87 (v := .ref (53 + 2 * x3.toNatClampNeg + 1)) rfl dX7_shift_114 rfl ?_
                  refine Rf_iload X (j := 6) rfl dX7_shift_117 rfl ?_
                  refine Rf_iload X (j := 7) rfl dX7_shift_119 rfl ?_
                  obtain ⟨s11, h⟩ := h
                  obtain ⟨s12, h⟩ := h
                  obtain ⟨s13, h⟩ := h
                  obtain ⟨s14, h⟩ := h
                  obtain ⟨s15, h⟩ := h
                  refine Rf_copyl X (sp := x2) (dp := x4) (n := x5) lm_X7_275 mm_copy.1 mm_copy.2.1 mm_copy.2.2 (isSh_f _ (isSh_of s5)).2.1 (isSh_f _ (isSh_of s5)).2.2.1 (isSh_f _ (isSh_of s5)).2.2.2 (isSh_f _ (isSh_of s6)).2.1 (isSh_f _ (isSh_of s6)).2.2.1 (isSh_f _ (isSh_of s6)).2.2.2 s11 s12 s13 s14 s15 (Nat.le_of_ble_eq_true rfl) (Nat.le_of_ble_eq_true rfl) dX7_shift_121 rfl ?_
                  refine Rf_iload X (j := 7) rfl dX7_shift_124 rfl ?_
                  exact Rf_iret X rfl dX7_shift_126 ⟨_, rfl, h⟩
                · have h := h.2 c16
                  refine Rf_bipush X (v := (-13)) (by decide) dX7_shift_103 rfl ?_
                  exact Rf_iret X rfl dX7_shift_105 ⟨_, rfl, h⟩
            · have h := h.2 c18
              refine Rf_bipush X (v := (-12)) (by decide) dX7_shift_77 rfl ?_
              exact Rf_iret X rfl dX7_shift_79 ⟨_, rfl, h⟩
        · have h := h.2 c20
          refine Rf_bipush X (v := (-11)) (by decide) dX7_shift_52 rfl ?_
          exact Rf_iret X rfl dX7_shift_54 ⟨_, rfl, h⟩
    · have h := h.2 c22
      refine Rf_iconst X (v := (-1)) (by decide) dX7_shift_14 rfl ?_
      exact Rf_iret X rfl dX7_shift_15 ⟨_, rfl, h⟩
def wp_X7_taken (σ : rfS) (x1 : Int32) (x2 : Int32) (Q : Int32 → rfS → Prop) : Prop :=
  wp_X7_isShelf σ x1 (fun (r2 : Int32) (σ1 : rfS) => ((r2 = 0 → Q (-1) σ1) ∧ (¬ r2 = 0 → wp_X7_isWithin σ1 x2 0 7 (fun (r4 : Int32) (σ3 : rfS) => ((¬ r4 = 0 → vp_in x1 6 ∧ ((¬ (gI σ3 (53 + 2 * x1.toNatClampNeg) 0) = (-2) → ((¬ (gI σ3 (53 + 2 * x1.toNatClampNeg) 0) = (-1) → Q (-12) σ3) ∧ ((gI σ3 (53 + 2 * x1.toNatClampNeg) 0) = (-1) → vp_in (gI σ3 (53 + 2 * x1.toNatClampNeg) 1) 50 ∧ wp_X0_isUnder σ3 (gF σ3 50 ((gI σ3 (53 + 2 * x1.toNatClampNeg) 1).toNatClampNeg)) x2 (fun (r8 : Int32) (σ7 : rfS) => ((¬ r8 = 0 → vp_in (gI σ7 (53 + 2 * x1.toNatClampNeg) 1) 50 ∧ Q (gF σ7 50 ((gI σ7 (53 + 2 * x1.toNatClampNeg) 1).toNatClampNeg)) σ7) ∧ (r8 = 0 → Q (-12) σ7)))))) ∧ ((gI σ3 (53 + 2 * x1.toNatClampNeg) 0) = (-2) → Q (-11) σ3))) ∧ (r4 = 0 → Q (-1) σ3))))))
set_option maxRecDepth 20000 in
theorem k_X7_taken {σ : rfS} {x1 : Int32} {x2 : Int32} {Q : Int32 → rfS → Prop} (h : wp_X7_taken σ x1 x2 Q) : RM ΛC 2 yX7_taken cX7_taken 4 (some .int) [.ref 0, .int x1, .int x2] σ (qi Q) := by
  unfold wp_X7_taken at h
  refine RM.intro (by decide) (Nat.le_of_ble_eq_true rfl) (fun E X => ?_)
  show Rf ΛC 2 E 4 (qi Q) 0 [(0, .ref 0), (1, .int x1), (2, .int x2)] [] σ
  refine Rf_iload_n X (j := 1) rfl rfl dX7_taken_0 rfl ?_
  refine Rf_cSi (as := [.int x1]) (st := []) X ms_X7_isShelf lm_X7_75 (k_X7_isShelf h) (Nat.le_of_ble_eq_true rfl) rfl rfl (Nat.le_of_ble_eq_true rfl) dX7_taken_1 rfl (fun r2 σ1 h => ?_)
  refine Rf_if_eq X (tgt := 17) dX7_taken_4 rfl rfl (fun c14 => ?_) (fun c14 => ?_)
  · have h := h.1 c14
    refine Rf_iconst X (v := (-1)) (by decide) dX7_taken_17 rfl ?_
    exact Rf_iret X rfl dX7_taken_18 ⟨_, rfl, h⟩
  · have h := h.2 c14
    refine Rf_iload_n X (j := 2) rfl rfl dX7_taken_7 rfl ?_
    refine Rf_iconst X (v := 0) rfl dX7_taken_8 rfl ?_
    refine Rf_bipush X (v := 7) rfl dX7_taken_9 rfl ?_
    refine Rf_cSi (as := [.int x2, .int 0, .int 7]) (st := []) X ms_X7_isWithin lm_X7_63 (k_X7_isWithin h) (Nat.le_of_ble_eq_true rfl) rfl rfl (Nat.le_of_ble_eq_true rfl) dX7_taken_11 rfl (fun r4 σ3 h => ?_)
    refine Rf_if_ne X (tgt := 19) dX7_taken_14 rfl rfl (fun c13 => ?_) (fun c13 => ?_)
    · have h := h.1 c13
      refine Rf_aload_n X (j := 0) rfl rfl dX7_taken_19 rfl ?_
      refine Rf_get X kc7 (Nat.le_of_ble_eq_true rfl) rfl (j := 10) (Nat.le_of_ble_eq_true rfl) lf_X7_58 (v := .ref 52) rfl dX7_taken_20 rfl ?_
      refine Rf_iload_n X (j := 1) rfl rfl dX7_taken_23 rfl ?_
      obtain ⟨s5, h⟩ := h
      refine Rf_aaload3 X (Nat.le_of_ble_eq_true rfl) rfl rfl s5 dX7_taken_24 rfl ?_
      refine Rf_astore_n X rfl (i := 3) (Nat.le_of_ble_eq_true rfl) (ls2 := [(3, .ref (53 + 2 * x1.toNatClampNeg)), (0, .ref 0), (1, .int x1), (2, .int x2)]) rfl dX7_taken_25 rfl ?_
      refine Rf_aload_n X (j := 0) rfl rfl dX7_taken_26 rfl ?_
      refine Rf_get X kc4 (isSh_f _ (isSh_of s5)).1.1 (isSh_f _ (isSh_of s5)).1.2 (j := 0) (Nat.le_of_ble_eq_true rfl) lf_X7_79 (v := .int (gI σ3 (53 + 2 * x1.toNatClampNeg) 0)) rfl dX7_taken_27 rfl ?_
      refine Rf_bipush X (v := (-2)) (by decide) dX7_taken_30 rfl ?_
      refine Rf_icmp_ne X (tgt := 38) dX7_taken_32 rfl rfl (fun c12 => ?_) (fun c12 => ?_)
      · have h := h.1 c12
        refine Rf_aload_n X (j := 0) rfl rfl dX7_taken_38 rfl ?_
        refine Rf_get X kc4 (isSh_f _ (isSh_of s5)).1.1 (isSh_f _ (isSh_of s5)).1.2 (j := 0) (Nat.le_of_ble_eq_true rfl) lf_X7_79 (v := .int (gI σ3 (53 + 2 * x1.toNatClampNeg) 0)) rfl dX7_taken_39 rfl ?_
        refine Rf_iconst X (v := (-1)) (by decide) dX7_taken_42 rfl ?_
        refine Rf_icmp_ne X (tgt := 65) dX7_taken_43 rfl rfl (fun c11 => ?_) (fun c11 => ?_)
        · have h := h.1 c11
          refine Rf_bipush X (v := (-12)) (by decide) dX7_taken_65 rfl ?_
          exact Rf_iret X rfl dX7_taken_67 ⟨_, rfl, h⟩
        · have h := h.2 c11
          refine Rf_aload_n X (j := 1) rfl rfl dX7_taken_46 rfl ?_
          refine Rf_get X kc7 (Nat.le_of_ble_eq_true rfl) rfl (j := 9) (Nat.le_of_ble_eq_true rfl) lf_X7_52 (v := .ref 49) rfl dX7_taken_47 rfl ?_
          refine Rf_get X kc0 (Nat.le_of_ble_eq_true rfl) rfl (j := 0) (Nat.le_of_ble_eq_true rfl) lf_X7_336 (v := .ref 50) rfl dX7_taken_50 rfl ?_
          refine Rf_aload_n X (j := 0) rfl rfl dX7_taken_53 rfl ?_
          refine Rf_get X kc4 (isSh_f _ (isSh_of s5)).1.1 (isSh_f _ (isSh_of s5)).1.2 (j := 1) (Nat.le_of_ble_eq_true rfl) lf_X7_317 (v := .int (gI σ3 (53 + 2 * x1.toNatClampNeg) 1)) rfl dX7_taken_54 rfl ?_
          obtain ⟨s6, h⟩ := h
          refine Rf_iaload X (Nat.le_of_ble_eq_true rfl) rfl rfl s6 dX7_taken_57 rfl (v := gF σ3 50 ((gI σ3 (53 + 2 * x1.toNatClampNeg) 1).toNatClampNeg)) rfl ?_
          refine Rf_iload_n X (j := 3) rfl rfl dX7_taken_58 rfl ?_
          refine Rf_cSi (as := [.int (gF σ3 50 ((gI σ3 (53 + 2 * x1.toNatClampNeg) 1).toNatClampNeg)), .int x2]) (st := []) X ms_X0_isUnder lm_X7_337 (k_X0_isUnder h) (Nat.le_of_ble_eq_true rfl) rfl rfl (Nat.le_of_ble_eq_true rfl) dX7_taken_59 rfl (fun r8 σ7 h => ?_)
          refine Rf_if_ne X (tgt := 68) dX7_taken_62 rfl rfl (fun c10 => ?_) (fun c10 => ?_)
          · have h := h.1 c10
            refine Rf_aload_n X (j := 1) rfl rfl dX7_taken_68 rfl ?_
            refine Rf_get X kc7 (Nat.le_of_ble_eq_true rfl) rfl (j := 9) (Nat.le_of_ble_eq_true rfl) lf_X7_52 (v := .ref 49) rfl dX7_taken_69 rfl ?_
            refine Rf_get X kc0 (Nat.le_of_ble_eq_true rfl) rfl (j := 0) (Nat.le_of_ble_eq_true rfl) lf_X7_336 (v := .ref 50) rfl dX7_taken_72 rfl ?_
            refine Rf_aload_n X (j := 0) rfl rfl dX7_taken_75 rfl ?_
            refine Rf_get X kc4 (isSh_f _ (isSh_of s5)).1.1 (isSh_f _ (isSh_of s5)).1.2 (j := 1) (Nat.le_of_ble_eq_true rfl) lf_X7_317 (v := .int (gI σ7 (53 + 2 * x1.toNatClampNeg) 1)) rfl dX7_taken_76 rfl ?_
            obtain ⟨s9, h⟩ := h
            refine Rf_iaload X (Nat.le_of_ble_eq_true rfl) rfl rfl s9 dX7_taken_79 rfl (v := gF σ7 50 ((gI σ7 (53 + 2 * x1.toNatClampNeg) 1).toNatClampNeg)) rfl ?_
            exact Rf_iret X rfl dX7_taken_80 ⟨_, rfl, h⟩
          · have h := h.2 c10
            refine Rf_bipush X (v := (-12)) (by decide) dX7_taken_65 rfl ?_
            exact Rf_iret X rfl dX7_taken_67 ⟨_, rfl, h⟩
      · have h := h.2 c12
        refine Rf_bipush X (v := (-11)) (by decide) dX7_taken_35 rfl ?_
        exact Rf_iret X rfl dX7_taken_37 ⟨_, rfl, h⟩
    · have h := h.2 c13
      refine Rf_iconst X (v := (-1)) (by decide) dX7_taken_17 rfl ?_
      exact Rf_iret X rfl dX7_taken_18 ⟨_, rfl, h⟩
def wp_X7_count (σ : rfS) (x1 : Int32) (Q : Int32 → rfS → Prop) : Prop :=
  ((x1 = 0 → Q (gI σ 1 0) σ) ∧ (¬ x1 = 0 → ((x1 = 1 → wp_X7_knownByGroup σ ((1 <<< ((gI σ 1 0) &&& 31)) - 1) (fun (r4 : Int32) (σ3 : rfS) => wp_J6_bitCount_0f7a4 σ3 r4 (fun (r6 : Int32) (σ5 : rfS) => Q r6 σ5))) ∧ (¬ x1 = 1 → ((x1 = 2 → Q (gI σ 6 4) σ) ∧ (¬ x1 = 2 → ((x1 = 3 → Q (gI σ 44 4) σ) ∧ (¬ x1 = 3 → ((x1 = 4 → Q (gI σ 49 1) σ) ∧ (¬ x1 = 4 → ((x1 = 5 → Q (gI σ 49 3) σ) ∧ (¬ x1 = 5 → Q (-1) σ))))))))))))
set_option maxRecDepth 20000 in
theorem k_X7_count {σ : rfS} {x1 : Int32} {Q : Int32 → rfS → Prop} (h : wp_X7_count σ x1 Q) : RM ΛC 1 yX7_count cX7_count 2 (some .int) [.ref 0, .int x1] σ (qi Q) := by
  unfold wp_X7_count at h
  refine RM.intro (by decide) (Nat.le_of_ble_eq_true rfl) (fun E X => ?_)
  show Rf ΛC 1 E 2 (qi Q) 0 [(0, .ref 0), (1, .int x1)] [] σ
  refine Rf_iload_n X (j := 1) rfl rfl dX7_count_0 rfl ?_
  refine Rf_tsw X (dt := 102) [(0, 40), (1, 48), (2, 67), (3, 78), (4, 86), (5, 94)] dX7_count_1 rfl (by decide +kernel) (by decide +kernel) (by decide +kernel) ?_
  refine And.intro (fun c1 => ?_) (fun c1 => ?_)
  · have h := h.1 c1
    refine Rf_aload_n X (j := 0) rfl rfl dX7_count_40 rfl ?_
    refine Rf_get X kc7 (Nat.le_of_ble_eq_true rfl) rfl (j := 0) (Nat.le_of_ble_eq_true rfl) lf_X7_10 (v := .ref 1) rfl dX7_count_41 rfl ?_
    refine Rf_get X kc2 (Nat.le_of_ble_eq_true rfl) rfl (j := 0) (Nat.le_of_ble_eq_true rfl) lf_X7_67 (v := .int (gI σ 1 0)) rfl dX7_count_44 rfl ?_
    exact Rf_iret X rfl dX7_count_47 ⟨_, rfl, h⟩
  · have h := h.2 c1
    refine And.intro (fun c2 => ?_) (fun c2 => ?_)
    · have h := h.1 c2
      refine Rf_aload_n X (j := 0) rfl rfl dX7_count_48 rfl ?_
      refine Rf_iconst X (v := 1) rfl dX7_count_49 rfl ?_
      refine Rf_aload_n X (j := 0) rfl rfl dX7_count_50 rfl ?_
      refine Rf_get X kc7 (Nat.le_of_ble_eq_true rfl) rfl (j := 0) (Nat.le_of_ble_eq_true rfl) lf_X7_10 (v := .ref 1) rfl dX7_count_51 rfl ?_
      refine Rf_get X kc2 (Nat.le_of_ble_eq_true rfl) rfl (j := 0) (Nat.le_of_ble_eq_true rfl) lf_X7_67 (v := .int (gI σ 1 0)) rfl dX7_count_54 rfl ?_
      refine Rf_ishl X dX7_count_57 rfl ?_
      refine Rf_iconst X (v := 1) rfl dX7_count_58 rfl ?_
      refine Rf_isub X dX7_count_59 rfl ?_
      refine Rf_cVi (as := [.int ((1 <<< ((gI σ 1 0) &&& 31)) - 1)]) (st := []) X mi_X7_knownByGroup lm_X7_196 rfl (Nat.le_of_ble_eq_true rfl) rfl (k_X7_knownByGroup h) (Nat.le_of_ble_eq_true rfl) rfl rfl (Nat.le_of_ble_eq_true rfl) dX7_count_60 rfl (fun r4 σ3 h => ?_)
      refine Rf_cSi (as := [.int r4]) (st := []) X ms_J6_bitCount_0f7a4 lm_X7_214 (k_J6_bitCount_0f7a4 h) (Nat.le_of_ble_eq_true rfl) rfl rfl (Nat.le_of_ble_eq_true rfl) dX7_count_63 rfl (fun r6 σ5 h => ?_)
      exact Rf_iret X rfl dX7_count_66 ⟨_, rfl, h⟩
    · have h := h.2 c2
      refine And.intro (fun c7 => ?_) (fun c7 => ?_)
      · have h := h.1 c7
        refine Rf_aload_n X (j := 0) rfl rfl dX7_count_67 rfl ?_
        refine Rf_get X kc7 (Nat.le_of_ble_eq_true rfl) rfl (j := 0) (Nat.le_of_ble_eq_true rfl) lf_X7_10 (v := .ref 1) rfl dX7_count_68 rfl ?_
        refine Rf_get X kc2 (Nat.le_of_ble_eq_true rfl) rfl (j := 5) (Nat.le_of_ble_eq_true rfl) lf_X7_140 (v := .ref 6) rfl dX7_count_71 rfl ?_
        refine Rf_get X kc3 (Nat.le_of_ble_eq_true rfl) rfl (j := 4) (Nat.le_of_ble_eq_true rfl) lf_X7_144 (v := .int (gI σ 6 4)) rfl dX7_count_74 rfl ?_
        exact Rf_iret X rfl dX7_count_77 ⟨_, rfl, h⟩
      · have h := h.2 c7
        refine And.intro (fun c8 => ?_) (fun c8 => ?_)
        · have h := h.1 c8
          refine Rf_aload_n X (j := 0) rfl rfl dX7_count_78 rfl ?_
          refine Rf_get X kc7 (Nat.le_of_ble_eq_true rfl) rfl (j := 8) (Nat.le_of_ble_eq_true rfl) lf_X7_45 (v := .ref 44) rfl dX7_count_79 rfl ?_
          refine Rf_get X kc1 (Nat.le_of_ble_eq_true rfl) rfl (j := 4) (Nat.le_of_ble_eq_true rfl) lf_X7_284 (v := .int (gI σ 44 4)) rfl dX7_count_82 rfl ?_
          exact Rf_iret X rfl dX7_count_85 ⟨_, rfl, h⟩
        · have h := h.2 c8
          refine And.intro (fun c9 => ?_) (fun c9 => ?_)
          · have h := h.1 c9
            refine Rf_aload_n X (j := 0) rfl rfl dX7_count_86 rfl ?_
            refine Rf_get X kc7 (Nat.le_of_ble_eq_true rfl) rfl (j := 9) (Nat.le_of_ble_eq_true rfl) lf_X7_52 (v := .ref 49) rfl dX7_count_87 rfl ?_
            refine Rf_get X kc0 (Nat.le_of_ble_eq_true rfl) rfl (j := 1) (Nat.le_of_ble_eq_true rfl) lf_X7_302 (v := .int (gI σ 49 1)) rfl dX7_count_90 rfl ?_
            exact Rf_iret X rfl dX7_count_93 ⟨_, rfl, h⟩
          · have h := h.2 c9
            refine And.intro (fun c10 => ?_) (fun c10 => ?_)
            · have h := h.1 c10
              refine Rf_aload_n X (j := 0) rfl rfl dX7_count_94 rfl ?_
              refine Rf_get X kc7 (Nat.le_of_ble_eq_true rfl) rfl (j := 9) (Nat.le_of_ble_eq_true rfl) lf_X7_52 (v := .ref 49) rfl dX7_count_95 rfl ?_
              refine Rf_get X kc0 (Nat.le_of_ble_eq_true rfl) rfl (j := 3) (Nat.le_of_ble_eq_true rfl) lf_X7_305 (v := .int (gI σ 49 3)) rfl dX7_count_98 rfl ?_
              exact Rf_iret X rfl dX7_count_101 ⟨_, rfl, h⟩
            · have h := h.2 c10
              show Rf ΛC 1 E 2 (qi Q) 102 [(0, .ref 0), (1, .int x1)] [] σ
              refine Rf_iconst X (v := (-1)) (by decide) dX7_count_102 rfl ?_
              exact Rf_iret X rfl dX7_count_103 ⟨_, rfl, h⟩
