/-! constructors: OneLeg -/
theorem dX7_init_0 : decode cX7_init 0 = .ok (.aload_n 0, 1) := by decide +kernel
theorem dX7_init_1 : decode cX7_init 1 = .ok (.invokespecial 1, 3) := by decide +kernel
theorem dX7_init_4 : decode cX7_init 4 = .ok (.aload_n 0, 1) := by decide +kernel
theorem dX7_init_5 : decode cX7_init 5 = .ok (.new 7, 3) := by decide +kernel
theorem dX7_init_8 : decode cX7_init 8 = .ok (.dup, 1) := by decide +kernel
theorem dX7_init_9 : decode cX7_init 9 = .ok (.invokespecial 9, 3) := by decide +kernel
theorem dX7_init_12 : decode cX7_init 12 = .ok (.putfield 10, 3) := by decide +kernel
theorem dX7_init_15 : decode cX7_init 15 = .ok (.aload_n 0, 1) := by decide +kernel
theorem dX7_init_16 : decode cX7_init 16 = .ok (.new 16, 3) := by decide +kernel
theorem dX7_init_19 : decode cX7_init 19 = .ok (.dup, 1) := by decide +kernel
theorem dX7_init_20 : decode cX7_init 20 = .ok (.invokespecial 18, 3) := by decide +kernel
theorem dX7_init_23 : decode cX7_init 23 = .ok (.putfield 19, 3) := by decide +kernel
theorem dX7_init_26 : decode cX7_init 26 = .ok (.aload_n 0, 1) := by decide +kernel
theorem dX7_init_27 : decode cX7_init 27 = .ok (.iconst 5, 1) := by decide +kernel
theorem dX7_init_28 : decode cX7_init 28 = .ok (.newarray .int, 2) := by decide +kernel
theorem dX7_init_30 : decode cX7_init 30 = .ok (.putfield 23, 3) := by decide +kernel
theorem dX7_init_33 : decode cX7_init 33 = .ok (.aload_n 0, 1) := by decide +kernel
theorem dX7_init_34 : decode cX7_init 34 = .ok (.new 16, 3) := by decide +kernel
theorem dX7_init_37 : decode cX7_init 37 = .ok (.dup, 1) := by decide +kernel
theorem dX7_init_38 : decode cX7_init 38 = .ok (.invokespecial 18, 3) := by decide +kernel
theorem dX7_init_41 : decode cX7_init 41 = .ok (.putfield 27, 3) := by decide +kernel
theorem dX7_init_44 : decode cX7_init 44 = .ok (.aload_n 0, 1) := by decide +kernel
theorem dX7_init_45 : decode cX7_init 45 = .ok (.iconst 5, 1) := by decide +kernel
theorem dX7_init_46 : decode cX7_init 46 = .ok (.newarray .int, 2) := by decide +kernel
theorem dX7_init_48 : decode cX7_init 48 = .ok (.putfield 30, 3) := by decide +kernel
theorem dX7_init_51 : decode cX7_init 51 = .ok (.aload_n 0, 1) := by decide +kernel
theorem dX7_init_52 : decode cX7_init 52 = .ok (.new 33, 3) := by decide +kernel
theorem dX7_init_55 : decode cX7_init 55 = .ok (.dup, 1) := by decide +kernel
theorem dX7_init_56 : decode cX7_init 56 = .ok (.aload_n 0, 1) := by decide +kernel
theorem dX7_init_57 : decode cX7_init 57 = .ok (.getfield 10, 3) := by decide +kernel
theorem dX7_init_60 : decode cX7_init 60 = .ok (.invokespecial 35, 3) := by decide +kernel
theorem dX7_init_63 : decode cX7_init 63 = .ok (.putfield 38, 3) := by decide +kernel
theorem dX7_init_66 : decode cX7_init 66 = .ok (.aload_n 0, 1) := by decide +kernel
theorem dX7_init_67 : decode cX7_init 67 = .ok (.new 42, 3) := by decide +kernel
theorem dX7_init_70 : decode cX7_init 70 = .ok (.dup, 1) := by decide +kernel
theorem dX7_init_71 : decode cX7_init 71 = .ok (.invokespecial 44, 3) := by decide +kernel
theorem dX7_init_74 : decode cX7_init 74 = .ok (.putfield 45, 3) := by decide +kernel
theorem dX7_init_77 : decode cX7_init 77 = .ok (.aload_n 0, 1) := by decide +kernel
theorem dX7_init_78 : decode cX7_init 78 = .ok (.new 49, 3) := by decide +kernel
theorem dX7_init_81 : decode cX7_init 81 = .ok (.dup, 1) := by decide +kernel
theorem dX7_init_82 : decode cX7_init 82 = .ok (.invokespecial 51, 3) := by decide +kernel
theorem dX7_init_85 : decode cX7_init 85 = .ok (.putfield 52, 3) := by decide +kernel
theorem dX7_init_88 : decode cX7_init 88 = .ok (.aload_n 0, 1) := by decide +kernel
theorem dX7_init_89 : decode cX7_init 89 = .ok (.bipush 6, 2) := by decide +kernel
theorem dX7_init_91 : decode cX7_init 91 = .ok (.anewarray 56, 3) := by decide +kernel
theorem dX7_init_94 : decode cX7_init 94 = .ok (.putfield 58, 3) := by decide +kernel
theorem dX7_init_97 : decode cX7_init 97 = .ok (.iconst 0, 1) := by decide +kernel
theorem dX7_init_98 : decode cX7_init 98 = .ok (.istore_n 1, 1) := by decide +kernel
theorem dX7_init_99 : decode cX7_init 99 = .ok (.iload_n 1, 1) := by decide +kernel
theorem dX7_init_100 : decode cX7_init 100 = .ok (.bipush 6, 2) := by decide +kernel
theorem dX7_init_102 : decode cX7_init 102 = .ok (.if_icmp .ge 22, 3) := by decide +kernel
theorem dX7_init_105 : decode cX7_init 105 = .ok (.aload_n 0, 1) := by decide +kernel
theorem dX7_init_106 : decode cX7_init 106 = .ok (.getfield 58, 3) := by decide +kernel
theorem dX7_init_109 : decode cX7_init 109 = .ok (.iload_n 1, 1) := by decide +kernel
theorem dX7_init_110 : decode cX7_init 110 = .ok (.new 56, 3) := by decide +kernel
theorem dX7_init_113 : decode cX7_init 113 = .ok (.dup, 1) := by decide +kernel
theorem dX7_init_114 : decode cX7_init 114 = .ok (.invokespecial 62, 3) := by decide +kernel
theorem dX7_init_117 : decode cX7_init 117 = .ok (.aastore, 1) := by decide +kernel
theorem dX7_init_118 : decode cX7_init 118 = .ok (.iinc 1 1, 3) := by decide +kernel
theorem dX7_init_121 : decode cX7_init 121 = .ok (.goto (-22), 3) := by decide +kernel
theorem dX7_init_124 : decode cX7_init 124 = .ok (.return_, 1) := by decide +kernel
abbrev RR7 : Room := { frames := 3, cells := 64, slots := 2375, locals := 120 }
set_option maxHeartbeats 4000000 in
set_option maxRecDepth 100000 in
theorem cm_X7 (w : Nat → Nat) : CM RR7 yX7_init cX7_init 2 [] 7 [.null, .null, .null, .null, .null, .int 0, .int 0, .null, .null, .null, .null] (WX7 w) := by
  refine CM.intro (by decide) rfl (fun _ => Nat.le_of_ble_eq_true rfl) (fun E h0 X hI hQ => ?_)
  show Cz RR7 E 2 0 [(0, .ref h0)] [] [(h0, .inr (7, [.null, .null, .null, .null, .null, .int 0, .int 0, .null, .null, .null, .null]))] 0 0
  refine Cz_aload_n X (j := 0) rfl rfl dX7_init_0 rfl ?_
  refine Cz_obj X li_X7_1 oi_i oi_c (Nat.le_of_ble_eq_true rfl) (Nat.le_of_ble_eq_true rfl) (Nat.le_of_ble_eq_true rfl) dX7_init_1 rfl ?_
  refine Cz_aload_n X (j := 0) rfl rfl dX7_init_4 rfl ?_
  refine Cz_new X (ci := 2) (fs := [.int 0, .null, .null, .null, .null, .null, .null]) kc2 lk_X7_7 ci_s2 ci_n2 (fun j hj => by rcases (show j = 0 ∨ j = 1 ∨ j = 2 ∨ j = 3 ∨ j = 4 ∨ j = 5 ∨ j = 6 by omega) with rfl | rfl | rfl | rfl | rfl | rfl | rfl <;> rfl) (Nat.le_of_ble_eq_true rfl) (Nat.le_of_ble_eq_true rfl) dX7_init_5 rfl (fun q1 => ?_)
  refine Cz_dup X rfl dX7_init_8 rfl ?_
  refine Cz_callN X (as := []) (st := [.ref q1, .ref h0]) (ws1 := ((h0, .inr (7, [.null, .null, .null, .null, .null, .int 0, .int 0, .null, .null, .null, .null])) :: [])) cm_X2 (by unfold nestL; decide) ci_i2 ci_n2 ci_c2 rfl (by decide) ⟨Nat.le_of_ble_eq_true rfl, Nat.le_of_ble_eq_true rfl⟩ ⟨Nat.le_of_ble_eq_true rfl, Nat.le_of_ble_eq_true rfl⟩ rfl (Nat.le_of_ble_eq_true rfl) dX7_init_9 rfl rfl (fun u1 => ?_)
  refine Cz_put0 X hI (j := 0) kc7 (Nat.le_of_ble_eq_true rfl) (Nat.le_of_ble_eq_true rfl) rfl lf_X7_10 rfl rfl dX7_init_12 rfl (fs2 := [.ref q1, .null, .null, .null, .null, .int 0, .int 0, .null, .null, .null, .null]) rfl ?_
  refine Cz_aload_n X (j := 0) rfl rfl dX7_init_15 rfl ?_
  refine Cz_new X (ci := 5) (fs := [.null, .null, .int 0, .int 0]) kc5 lk_X7_16 ci_s5 ci_n5 (fun j hj => by rcases (show j = 0 ∨ j = 1 ∨ j = 2 ∨ j = 3 by omega) with rfl | rfl | rfl | rfl <;> rfl) (Nat.le_of_ble_eq_true rfl) (Nat.le_of_ble_eq_true rfl) dX7_init_16 rfl (fun q2 => ?_)
  refine Cz_dup X rfl dX7_init_19 rfl ?_
  refine Cz_callN X (as := []) (st := [.ref q2, .ref h0]) (ws1 := ((h0, .inr (7, [.ref q1, .null, .null, .null, .null, .int 0, .int 0, .null, .null, .null, .null])) :: ([] ++ WX2 (czT E) q1 u1))) cm_X5 (by unfold nestL; decide) ci_i5 ci_n5 ci_c5 rfl (by decide) ⟨Nat.le_of_ble_eq_true rfl, Nat.le_of_ble_eq_true rfl⟩ ⟨Nat.le_of_ble_eq_true rfl, Nat.le_of_ble_eq_true rfl⟩ rfl (Nat.le_of_ble_eq_true rfl) dX7_init_20 rfl rfl (fun u2 => ?_)
  refine Cz_put0 X hI (j := 1) kc7 (Nat.le_of_ble_eq_true rfl) (Nat.le_of_ble_eq_true rfl) rfl lf_X7_19 rfl rfl dX7_init_23 rfl (fs2 := [.ref q1, .ref q2, .null, .null, .null, .int 0, .int 0, .null, .null, .null, .null]) rfl ?_
  refine Cz_aload_n X (j := 0) rfl rfl dX7_init_26 rfl ?_
  refine Cz_iconst X (v := 5) (by decide) dX7_init_27 rfl ?_
  refine Cz_newi X (N := 5) rfl (by decide) ac_i (Nat.le_of_ble_eq_true rfl) (Nat.le_of_ble_eq_true rfl) dX7_init_28 rfl (fun q3 => ?_)
  refine Cz_put0 X hI (j := 2) kc7 (Nat.le_of_ble_eq_true rfl) (Nat.le_of_ble_eq_true rfl) rfl lf_X7_23 rfl rfl dX7_init_30 rfl (fs2 := [.ref q1, .ref q2, .ref q3, .null, .null, .int 0, .int 0, .null, .null, .null, .null]) rfl ?_
  refine Cz_aload_n X (j := 0) rfl rfl dX7_init_33 rfl ?_
  refine Cz_new X (ci := 5) (fs := [.null, .null, .int 0, .int 0]) kc5 lk_X7_16 ci_s5 ci_n5 (fun j hj => by rcases (show j = 0 ∨ j = 1 ∨ j = 2 ∨ j = 3 by omega) with rfl | rfl | rfl | rfl <;> rfl) (Nat.le_of_ble_eq_true rfl) (Nat.le_of_ble_eq_true rfl) dX7_init_34 rfl (fun q4 => ?_)
  refine Cz_dup X rfl dX7_init_37 rfl ?_
  refine Cz_callN X (as := []) (st := [.ref q4, .ref h0]) (ws1 := ((h0, .inr (7, [.ref q1, .ref q2, .ref q3, .null, .null, .int 0, .int 0, .null, .null, .null, .null])) :: ((([] ++ WX2 (czT E) q1 u1) ++ WX5 (czT E) q2 u2) ++ [(q3, .inl (czT E 0, 5, .inl (fun _ => 0)))]))) cm_X5 (by unfold nestL; decide) ci_i5 ci_n5 ci_c5 rfl (by decide) ⟨Nat.le_of_ble_eq_true rfl, Nat.le_of_ble_eq_true rfl⟩ ⟨Nat.le_of_ble_eq_true rfl, Nat.le_of_ble_eq_true rfl⟩ rfl (Nat.le_of_ble_eq_true rfl) dX7_init_38 rfl rfl (fun u4 => ?_)
  refine Cz_put0 X hI (j := 3) kc7 (Nat.le_of_ble_eq_true rfl) (Nat.le_of_ble_eq_true rfl) rfl lf_X7_27 rfl rfl dX7_init_41 rfl (fs2 := [.ref q1, .ref q2, .ref q3, .ref q4, .null, .int 0, .int 0, .null, .null, .null, .null]) rfl ?_
  refine Cz_aload_n X (j := 0) rfl rfl dX7_init_44 rfl ?_
  refine Cz_iconst X (v := 5) (by decide) dX7_init_45 rfl ?_
  refine Cz_newi X (N := 5) rfl (by decide) ac_i (Nat.le_of_ble_eq_true rfl) (Nat.le_of_ble_eq_true rfl) dX7_init_46 rfl (fun q5 => ?_)
  refine Cz_put0 X hI (j := 4) kc7 (Nat.le_of_ble_eq_true rfl) (Nat.le_of_ble_eq_true rfl) rfl lf_X7_30 rfl rfl dX7_init_48 rfl (fs2 := [.ref q1, .ref q2, .ref q3, .ref q4, .ref q5, .int 0, .int 0, .null, .null, .null, .null]) rfl ?_
  refine Cz_aload_n X (j := 0) rfl rfl dX7_init_51 rfl ?_
  refine Cz_new X (ci := 6) (fs := [.int 0, .int 0, .null, .int 0, .null, .null, .null, .int 0, .null, .null]) kc6 lk_X7_33 ci_s6 ci_n6 (fun j hj => by rcases (show j = 0 ∨ j = 1 ∨ j = 2 ∨ j = 3 ∨ j = 4 ∨ j = 5 ∨ j = 6 ∨ j = 7 ∨ j = 8 ∨ j = 9 by omega) with rfl | rfl | rfl | rfl | rfl | rfl | rfl | rfl | rfl | rfl <;> rfl) (Nat.le_of_ble_eq_true rfl) (Nat.le_of_ble_eq_true rfl) dX7_init_52 rfl (fun q6 => ?_)
  refine Cz_dup X rfl dX7_init_55 rfl ?_
  refine Cz_aload_n X (j := 0) rfl rfl dX7_init_56 rfl ?_
  refine Cz_get0 X (j := 0) kc7 (Nat.le_of_ble_eq_true rfl) lf_X7_10 rfl dX7_init_57 rfl ?_
  refine Cz_callI X (as := [.ref q1]) (st := [.ref q6, .ref h0]) (ws1 := ((h0, .inr (7, [.ref q1, .ref q2, .ref q3, .ref q4, .ref q5, .int 0, .int 0, .null, .null, .null, .null])) :: ((((([] ++ WX2 (czT E) q1 u1) ++ WX5 (czT E) q2 u2) ++ [(q3, .inl (czT E 0, 5, .inl (fun _ => 0)))]) ++ WX5 (czT E) q4 u4) ++ [(q5, .inl (czT E 0, 5, .inl (fun _ => 0)))]))) (cm_X6 q1) li_X7_35 ci_i6 ci_n6 ci_c6 rfl ⟨by decide, by decide, (by decide : (parseMethodDescriptor yX6_init.desc).map (fun d => d.parameters.length) = some 1)⟩ ⟨Nat.le_of_ble_eq_true rfl, Nat.le_of_ble_eq_true rfl⟩ ⟨Nat.le_of_ble_eq_true rfl, Nat.le_of_ble_eq_true rfl⟩ rfl (Nat.le_of_ble_eq_true rfl) dX7_init_60 rfl rfl (fun u6 => ?_)
  refine Cz_put0 X hI (j := 7) kc7 (Nat.le_of_ble_eq_true rfl) (Nat.le_of_ble_eq_true rfl) rfl lf_X7_38 rfl rfl dX7_init_63 rfl (fs2 := [.ref q1, .ref q2, .ref q3, .ref q4, .ref q5, .int 0, .int 0, .ref q6, .null, .null, .null]) rfl ?_
  refine Cz_aload_n X (j := 0) rfl rfl dX7_init_66 rfl ?_
  refine Cz_new X (ci := 1) (fs := [.null, .null, .null, .null, .int 0, .int 0]) kc1 lk_X7_42 ci_s1 ci_n1 (fun j hj => by rcases (show j = 0 ∨ j = 1 ∨ j = 2 ∨ j = 3 ∨ j = 4 ∨ j = 5 by omega) with rfl | rfl | rfl | rfl | rfl | rfl <;> rfl) (Nat.le_of_ble_eq_true rfl) (Nat.le_of_ble_eq_true rfl) dX7_init_67 rfl (fun q7 => ?_)
  refine Cz_dup X rfl dX7_init_70 rfl ?_
  refine Cz_callN X (as := []) (st := [.ref q7, .ref h0]) (ws1 := ((h0, .inr (7, [.ref q1, .ref q2, .ref q3, .ref q4, .ref q5, .int 0, .int 0, .ref q6, .null, .null, .null])) :: (((((([] ++ WX2 (czT E) q1 u1) ++ WX5 (czT E) q2 u2) ++ [(q3, .inl (czT E 0, 5, .inl (fun _ => 0)))]) ++ WX5 (czT E) q4 u4) ++ [(q5, .inl (czT E 0, 5, .inl (fun _ => 0)))]) ++ WX6 q1 (czT E) q6 u6))) cm_X1 (by unfold nestL; decide) ci_i1 ci_n1 ci_c1 rfl (by decide) ⟨Nat.le_of_ble_eq_true rfl, Nat.le_of_ble_eq_true rfl⟩ ⟨Nat.le_of_ble_eq_true rfl, Nat.le_of_ble_eq_true rfl⟩ rfl (Nat.le_of_ble_eq_true rfl) dX7_init_71 rfl rfl (fun u7 => ?_)
  refine Cz_put0 X hI (j := 8) kc7 (Nat.le_of_ble_eq_true rfl) (Nat.le_of_ble_eq_true rfl) rfl lf_X7_45 rfl rfl dX7_init_74 rfl (fs2 := [.ref q1, .ref q2, .ref q3, .ref q4, .ref q5, .int 0, .int 0, .ref q6, .ref q7, .null, .null]) rfl ?_
  refine Cz_aload_n X (j := 0) rfl rfl dX7_init_77 rfl ?_
  refine Cz_new X (ci := 0) (fs := [.null, .int 0, .null, .int 0]) kc0 lk_X7_49 ci_s0 ci_n0 (fun j hj => by rcases (show j = 0 ∨ j = 1 ∨ j = 2 ∨ j = 3 by omega) with rfl | rfl | rfl | rfl <;> rfl) (Nat.le_of_ble_eq_true rfl) (Nat.le_of_ble_eq_true rfl) dX7_init_78 rfl (fun q8 => ?_)
  refine Cz_dup X rfl dX7_init_81 rfl ?_
  refine Cz_callN X (as := []) (st := [.ref q8, .ref h0]) (ws1 := ((h0, .inr (7, [.ref q1, .ref q2, .ref q3, .ref q4, .ref q5, .int 0, .int 0, .ref q6, .ref q7, .null, .null])) :: ((((((([] ++ WX2 (czT E) q1 u1) ++ WX5 (czT E) q2 u2) ++ [(q3, .inl (czT E 0, 5, .inl (fun _ => 0)))]) ++ WX5 (czT E) q4 u4) ++ [(q5, .inl (czT E 0, 5, .inl (fun _ => 0)))]) ++ WX6 q1 (czT E) q6 u6) ++ WX1 (czT E) q7 u7))) cm_X0 (by unfold nestL; decide) ci_i0 ci_n0 ci_c0 rfl (by decide) ⟨Nat.le_of_ble_eq_true rfl, Nat.le_of_ble_eq_true rfl⟩ ⟨Nat.le_of_ble_eq_true rfl, Nat.le_of_ble_eq_true rfl⟩ rfl (Nat.le_of_ble_eq_true rfl) dX7_init_82 rfl rfl (fun u8 => ?_)
  refine Cz_put0 X hI (j := 9) kc7 (Nat.le_of_ble_eq_true rfl) (Nat.le_of_ble_eq_true rfl) rfl lf_X7_52 rfl rfl dX7_init_85 rfl (fs2 := [.ref q1, .ref q2, .ref q3, .ref q4, .ref q5, .int 0, .int 0, .ref q6, .ref q7, .ref q8, .null]) rfl ?_
  refine Cz_aload_n X (j := 0) rfl rfl dX7_init_88 rfl ?_
  refine Cz_bipush X (v := 6) (by decide) dX7_init_89 rfl ?_
  refine Cz_newq X (C := RX4) (t := 3) (N := 6) rfl (by decide) (fun _ => rfl) (fun _ h => h.2.2) lk_X7_56 (Nat.le_of_ble_eq_true rfl) (Nat.le_of_ble_eq_true rfl) dX7_init_91 rfl (fun q9 => ?_)
  refine Cz_put0 X hI (j := 10) kc7 (Nat.le_of_ble_eq_true rfl) (Nat.le_of_ble_eq_true rfl) rfl lf_X7_58 rfl rfl dX7_init_94 rfl (fs2 := [.ref q1, .ref q2, .ref q3, .ref q4, .ref q5, .int 0, .int 0, .ref q6, .ref q7, .ref q8, .ref q9]) rfl ?_
  refine Cz_iconst X (v := 0) (by decide) dX7_init_97 rfl ?_
  refine Cz_istore_n X (i := 1) rfl (Nat.le_of_ble_eq_true rfl) (ls2 := [(1, .int 0), (0, .ref h0)]) rfl dX7_init_98 rfl ?_
  refine Cz_iload_n X (j := 0) rfl rfl dX7_init_99 rfl ?_
  refine Cz_bipush X (v := 6) (by decide) dX7_init_100 rfl ?_
  refine Cz_geF X (tgt := 124) (by decide) dX7_init_102 rfl rfl ?_
  refine Cz_aload_n X (j := 1) rfl rfl dX7_init_105 rfl ?_
  refine Cz_get0 X (j := 10) kc7 (Nat.le_of_ble_eq_true rfl) lf_X7_58 rfl dX7_init_106 rfl ?_
  refine Cz_iload_n X (j := 0) rfl rfl dX7_init_109 rfl ?_
  refine Cz_new X (ci := 4) (fs := [.int 0, .int 0, .int 0, .null]) kc4 lk_X7_56 ci_s4 ci_n4 (fun j hj => by rcases (show j = 0 ∨ j = 1 ∨ j = 2 ∨ j = 3 by omega) with rfl | rfl | rfl | rfl <;> rfl) (Nat.le_of_ble_eq_true rfl) (Nat.le_of_ble_eq_true rfl) dX7_init_110 rfl (fun q10 => ?_)
  refine Cz_dup X rfl dX7_init_113 rfl ?_
  refine Cz_callN X (as := []) (st := [.ref q10, .int 0, .ref q9]) (ws1 := ((h0, .inr (7, [.ref q1, .ref q2, .ref q3, .ref q4, .ref q5, .int 0, .int 0, .ref q6, .ref q7, .ref q8, .ref q9])) :: ((((((((([] ++ WX2 (czT E) q1 u1) ++ WX5 (czT E) q2 u2) ++ [(q3, .inl (czT E 0, 5, .inl (fun _ => 0)))]) ++ WX5 (czT E) q4 u4) ++ [(q5, .inl (czT E 0, 5, .inl (fun _ => 0)))]) ++ WX6 q1 (czT E) q6 u6) ++ WX1 (czT E) q7 u7) ++ WX0 (czT E) q8 u8) ++ [(q9, .inl (czT E 3, 6, .inr (.inr (.inr (.inr (fun _ => none))))))]))) cm_X4 (by unfold nestL; decide) ci_i4 ci_n4 ci_c4 rfl (by decide) ⟨Nat.le_of_ble_eq_true rfl, Nat.le_of_ble_eq_true rfl⟩ ⟨Nat.le_of_ble_eq_true rfl, Nat.le_of_ble_eq_true rfl⟩ rfl (Nat.le_of_ble_eq_true rfl) dX7_init_114 rfl rfl (fun u10 => ?_)
  generalize hT1 : (((((((([] ++ WX2 (czT E) q1 u1) ++ WX5 (czT E) q2 u2) ++ [(q3, .inl (czT E 0, 5, .inl (fun _ => 0)))]) ++ WX5 (czT E) q4 u4) ++ [(q5, .inl (czT E 0, 5, .inl (fun _ => 0)))]) ++ WX6 q1 (czT E) q6 u6) ++ WX1 (czT E) q7 u7) ++ WX0 (czT E) q8 u8) = T1
  show Cz RR7 E 2 117 [(1, .int 0), (0, .ref h0)] [.ref q10, .int 0, .ref q9] ((((h0, .inr (7, [.ref q1, .ref q2, .ref q3, .ref q4, .ref q5, .int 0, .int 0, .ref q6, .ref q7, .ref q8, .ref q9])) :: T1) ++ ((q9, .inl (czT E 3, 6, .inr (.inr (.inr (.inr (fun _ => none)))))) :: [])) ++ WX4 (czT E) q10 u10) 54 2055
  refine Cz_aast0 X (C := RX4) (t := 3) (N := 6) (W1 := (h0, .inr (7, [.ref q1, .ref q2, .ref q3, .ref q4, .ref q5, .int 0, .int 0, .ref q6, .ref q7, .ref q8, .ref q9])) :: T1) (W2 := []) (W3 := [(u10 1, .inl (czT E 1, 60, .inr (.inl (fun _ => 0))))]) (f := fun _ => none) (vs := [.int (-2), .int 0, .int 0, .ref (u10 1)]) (ci := 4) (cz_mid rfl) (fun _ => rfl) rfl (vin (a := 0) (by decide)) dX7_init_117 rfl ?_
  show Cz RR7 E 2 118 [(1, .int 0), (0, .ref h0)] [] (((h0, .inr (7, [.ref q1, .ref q2, .ref q3, .ref q4, .ref q5, .int 0, .int 0, .ref q6, .ref q7, .ref q8, .ref q9])) :: T1) ++ ((q9, .inl (czT E 3, 6, .inr (.inr (.inr (.inr (va_up (fun _ => none) (0 : Int32).toNatClampNeg (some q10))))))) :: ([] ++ WX4 (czT E) q10 u10))) 54 2055
  refine Cz_iinc X (i := 1) (j := 0) (v := 1) rfl (by decide) (Nat.le_of_ble_eq_true rfl) (ls2 := [(1, .int 1), (0, .ref h0)]) rfl dX7_init_118 rfl ?_
  refine Cz_goto X (tgt := 99) dX7_init_121 rfl ?_
  refine Cz_iload_n X (j := 0) rfl rfl dX7_init_99 rfl ?_
  refine Cz_bipush X (v := 6) (by decide) dX7_init_100 rfl ?_
  refine Cz_geF X (tgt := 124) (by decide) dX7_init_102 rfl rfl ?_
  refine Cz_aload_n X (j := 1) rfl rfl dX7_init_105 rfl ?_
  refine Cz_get0 X (j := 10) kc7 (Nat.le_of_ble_eq_true rfl) lf_X7_58 rfl dX7_init_106 rfl ?_
  refine Cz_iload_n X (j := 0) rfl rfl dX7_init_109 rfl ?_
  refine Cz_new X (ci := 4) (fs := [.int 0, .int 0, .int 0, .null]) kc4 lk_X7_56 ci_s4 ci_n4 (fun j hj => by rcases (show j = 0 ∨ j = 1 ∨ j = 2 ∨ j = 3 by omega) with rfl | rfl | rfl | rfl <;> rfl) (Nat.le_of_ble_eq_true rfl) (Nat.le_of_ble_eq_true rfl) dX7_init_110 rfl (fun q11 => ?_)
  refine Cz_dup X rfl dX7_init_113 rfl ?_
  refine Cz_callN X (as := []) (st := [.ref q11, .int 1, .ref q9]) (ws1 := (((h0, .inr (7, [.ref q1, .ref q2, .ref q3, .ref q4, .ref q5, .int 0, .int 0, .ref q6, .ref q7, .ref q8, .ref q9])) :: T1) ++ ((q9, .inl (czT E 3, 6, .inr (.inr (.inr (.inr (va_up (fun _ => none) (0 : Int32).toNatClampNeg (some q10))))))) :: ([] ++ WX4 (czT E) q10 u10)))) cm_X4 (by unfold nestL; decide) ci_i4 ci_n4 ci_c4 rfl (by decide) ⟨Nat.le_of_ble_eq_true rfl, Nat.le_of_ble_eq_true rfl⟩ ⟨Nat.le_of_ble_eq_true rfl, Nat.le_of_ble_eq_true rfl⟩ rfl (Nat.le_of_ble_eq_true rfl) dX7_init_114 rfl rfl (fun u11 => ?_)
  refine Cz_aast0 X (C := RX4) (t := 3) (N := 6) (W1 := (h0, .inr (7, [.ref q1, .ref q2, .ref q3, .ref q4, .ref q5, .int 0, .int 0, .ref q6, .ref q7, .ref q8, .ref q9])) :: T1) (W2 := ([] ++ WX4 (czT E) q10 u10)) (W3 := [(u11 1, .inl (czT E 1, 60, .inr (.inl (fun _ => 0))))]) (f := va_up (fun _ => none) (0 : Int32).toNatClampNeg (some q10)) (vs := [.int (-2), .int 0, .int 0, .ref (u11 1)]) (ci := 4) (cz_mid rfl) (fun _ => rfl) rfl (vin (a := 1) (by decide)) dX7_init_117 rfl ?_
  show Cz RR7 E 2 118 [(1, .int 1), (0, .ref h0)] [] (((h0, .inr (7, [.ref q1, .ref q2, .ref q3, .ref q4, .ref q5, .int 0, .int 0, .ref q6, .ref q7, .ref q8, .ref q9])) :: T1) ++ ((q9, .inl (czT E 3, 6, .inr (.inr (.inr (.inr (va_up (va_up (fun _ => none) (0 : Int32).toNatClampNeg (some q10)) (1 : Int32).toNatClampNeg (some q11))))))) :: (([] ++ WX4 (czT E) q10 u10) ++ WX4 (czT E) q11 u11))) 56 2119
  refine Cz_iinc X (i := 1) (j := 0) (v := 2) rfl (by decide) (Nat.le_of_ble_eq_true rfl) (ls2 := [(1, .int 2), (0, .ref h0)]) rfl dX7_init_118 rfl ?_
  refine Cz_goto X (tgt := 99) dX7_init_121 rfl ?_
  refine Cz_iload_n X (j := 0) rfl rfl dX7_init_99 rfl ?_
  refine Cz_bipush X (v := 6) (by decide) dX7_init_100 rfl ?_
  refine Cz_geF X (tgt := 124) (by decide) dX7_init_102 rfl rfl ?_
  refine Cz_aload_n X (j := 1) rfl rfl dX7_init_105 rfl ?_
  refine Cz_get0 X (j := 10) kc7 (Nat.le_of_ble_eq_true rfl) lf_X7_58 rfl dX7_init_106 rfl ?_
  refine Cz_iload_n X (j := 0) rfl rfl dX7_init_109 rfl ?_
  refine Cz_new X (ci := 4) (fs := [.int 0, .int 0, .int 0, .null]) kc4 lk_X7_56 ci_s4 ci_n4 (fun j hj => by rcases (show j = 0 ∨ j = 1 ∨ j = 2 ∨ j = 3 by omega) with rfl | rfl | rfl | rfl <;> rfl) (Nat.le_of_ble_eq_true rfl) (Nat.le_of_ble_eq_true rfl) dX7_init_110 rfl (fun q12 => ?_)
  refine Cz_dup X rfl dX7_init_113 rfl ?_
  refine Cz_callN X (as := []) (st := [.ref q12, .int 2, .ref q9]) (ws1 := (((h0, .inr (7, [.ref q1, .ref q2, .ref q3, .ref q4, .ref q5, .int 0, .int 0, .ref q6, .ref q7, .ref q8, .ref q9])) :: T1) ++ ((q9, .inl (czT E 3, 6, .inr (.inr (.inr (.inr (va_up (va_up (fun _ => none) (0 : Int32).toNatClampNeg (some q10)) (1 : Int32).toNatClampNeg (some q11))))))) :: (([] ++ WX4 (czT E) q10 u10) ++ WX4 (czT E) q11 u11)))) cm_X4 (by unfold nestL; decide) ci_i4 ci_n4 ci_c4 rfl (by decide) ⟨Nat.le_of_ble_eq_true rfl, Nat.le_of_ble_eq_true rfl⟩ ⟨Nat.le_of_ble_eq_true rfl, Nat.le_of_ble_eq_true rfl⟩ rfl (Nat.le_of_ble_eq_true rfl) dX7_init_114 rfl rfl (fun u12 => ?_)
  refine Cz_aast0 X (C := RX4) (t := 3) (N := 6) (W1 := (h0, .inr (7, [.ref q1, .ref q2, .ref q3, .ref q4, .ref q5, .int 0, .int 0, .ref q6, .ref q7, .ref q8, .ref q9])) :: T1) (W2 := (([] ++ WX4 (czT E) q10 u10) ++ WX4 (czT E) q11 u11)) (W3 := [(u12 1, .inl (czT E 1, 60, .inr (.inl (fun _ => 0))))]) (f := va_up (va_up (fun _ => none) (0 : Int32).toNatClampNeg (some q10)) (1 : Int32).toNatClampNeg (some q11)) (vs := [.int (-2), .int 0, .int 0, .ref (u12 1)]) (ci := 4) (cz_mid rfl) (fun _ => rfl) rfl (vin (a := 2) (by decide)) dX7_init_117 rfl ?_
  show Cz RR7 E 2 118 [(1, .int 2), (0, .ref h0)] [] (((h0, .inr (7, [.ref q1, .ref q2, .ref q3, .ref q4, .ref q5, .int 0, .int 0, .ref q6, .ref q7, .ref q8, .ref q9])) :: T1) ++ ((q9, .inl (czT E 3, 6, .inr (.inr (.inr (.inr (va_up (va_up (va_up (fun _ => none) (0 : Int32).toNatClampNeg (some q10)) (1 : Int32).toNatClampNeg (some q11)) (2 : Int32).toNatClampNeg (some q12))))))) :: ((([] ++ WX4 (czT E) q10 u10) ++ WX4 (czT E) q11 u11) ++ WX4 (czT E) q12 u12))) 58 2183
  refine Cz_iinc X (i := 1) (j := 0) (v := 3) rfl (by decide) (Nat.le_of_ble_eq_true rfl) (ls2 := [(1, .int 3), (0, .ref h0)]) rfl dX7_init_118 rfl ?_
  refine Cz_goto X (tgt := 99) dX7_init_121 rfl ?_
  refine Cz_iload_n X (j := 0) rfl rfl dX7_init_99 rfl ?_
  refine Cz_bipush X (v := 6) (by decide) dX7_init_100 rfl ?_
  refine Cz_geF X (tgt := 124) (by decide) dX7_init_102 rfl rfl ?_
  refine Cz_aload_n X (j := 1) rfl rfl dX7_init_105 rfl ?_
  refine Cz_get0 X (j := 10) kc7 (Nat.le_of_ble_eq_true rfl) lf_X7_58 rfl dX7_init_106 rfl ?_
  refine Cz_iload_n X (j := 0) rfl rfl dX7_init_109 rfl ?_
  refine Cz_new X (ci := 4) (fs := [.int 0, .int 0, .int 0, .null]) kc4 lk_X7_56 ci_s4 ci_n4 (fun j hj => by rcases (show j = 0 ∨ j = 1 ∨ j = 2 ∨ j = 3 by omega) with rfl | rfl | rfl | rfl <;> rfl) (Nat.le_of_ble_eq_true rfl) (Nat.le_of_ble_eq_true rfl) dX7_init_110 rfl (fun q13 => ?_)
  refine Cz_dup X rfl dX7_init_113 rfl ?_
  refine Cz_callN X (as := []) (st := [.ref q13, .int 3, .ref q9]) (ws1 := (((h0, .inr (7, [.ref q1, .ref q2, .ref q3, .ref q4, .ref q5, .int 0, .int 0, .ref q6, .ref q7, .ref q8, .ref q9])) :: T1) ++ ((q9, .inl (czT E 3, 6, .inr (.inr (.inr (.inr (va_up (va_up (va_up (fun _ => none) (0 : Int32).toNatClampNeg (some q10)) (1 : Int32).toNatClampNeg (some q11)) (2 : Int32).toNatClampNeg (some q12))))))) :: ((([] ++ WX4 (czT E) q10 u10) ++ WX4 (czT E) q11 u11) ++ WX4 (czT E) q12 u12)))) cm_X4 (by unfold nestL; decide) ci_i4 ci_n4 ci_c4 rfl (by decide) ⟨Nat.le_of_ble_eq_true rfl, Nat.le_of_ble_eq_true rfl⟩ ⟨Nat.le_of_ble_eq_true rfl, Nat.le_of_ble_eq_true rfl⟩ rfl (Nat.le_of_ble_eq_true rfl) dX7_init_114 rfl rfl (fun u13 => ?_)
  refine Cz_aast0 X (C := RX4) (t := 3) (N := 6) (W1 := (h0, .inr (7, [.ref q1, .ref q2, .ref q3, .ref q4, .ref q5, .int 0, .int 0, .ref q6, .ref q7, .ref q8, .ref q9])) :: T1) (W2 := ((([] ++ WX4 (czT E) q10 u10) ++ WX4 (czT E) q11 u11) ++ WX4 (czT E) q12 u12)) (W3 := [(u13 1, .inl (czT E 1, 60, .inr (.inl (fun _ => 0))))]) (f := va_up (va_up (va_up (fun _ => none) (0 : Int32).toNatClampNeg (some q10)) (1 : Int32).toNatClampNeg (some q11)) (2 : Int32).toNatClampNeg (some q12)) (vs := [.int (-2), .int 0, .int 0, .ref (u13 1)]) (ci := 4) (cz_mid rfl) (fun _ => rfl) rfl (vin (a := 3) (by decide)) dX7_init_117 rfl ?_
  show Cz RR7 E 2 118 [(1, .int 3), (0, .ref h0)] [] (((h0, .inr (7, [.ref q1, .ref q2, .ref q3, .ref q4, .ref q5, .int 0, .int 0, .ref q6, .ref q7, .ref q8, .ref q9])) :: T1) ++ ((q9, .inl (czT E 3, 6, .inr (.inr (.inr (.inr (va_up (va_up (va_up (va_up (fun _ => none) (0 : Int32).toNatClampNeg (some q10)) (1 : Int32).toNatClampNeg (some q11)) (2 : Int32).toNatClampNeg (some q12)) (3 : Int32).toNatClampNeg (some q13))))))) :: (((([] ++ WX4 (czT E) q10 u10) ++ WX4 (czT E) q11 u11) ++ WX4 (czT E) q12 u12) ++ WX4 (czT E) q13 u13))) 60 2247
  refine Cz_iinc X (i := 1) (j := 0) (v := 4) rfl (by decide) (Nat.le_of_ble_eq_true rfl) (ls2 := [(1, .int 4), (0, .ref h0)]) rfl dX7_init_118 rfl ?_
  refine Cz_goto X (tgt := 99) dX7_init_121 rfl ?_
  refine Cz_iload_n X (j := 0) rfl rfl dX7_init_99 rfl ?_
  refine Cz_bipush X (v := 6) (by decide) dX7_init_100 rfl ?_
  refine Cz_geF X (tgt := 124) (by decide) dX7_init_102 rfl rfl ?_
  refine Cz_aload_n X (j := 1) rfl rfl dX7_init_105 rfl ?_
  refine Cz_get0 X (j := 10) kc7 (Nat.le_of_ble_eq_true rfl) lf_X7_58 rfl dX7_init_106 rfl ?_
  refine Cz_iload_n X (j := 0) rfl rfl dX7_init_109 rfl ?_
  refine Cz_new X (ci := 4) (fs := [.int 0, .int 0, .int 0, .null]) kc4 lk_X7_56 ci_s4 ci_n4 (fun j hj => by rcases (show j = 0 ∨ j = 1 ∨ j = 2 ∨ j = 3 by omega) with rfl | rfl | rfl | rfl <;> rfl) (Nat.le_of_ble_eq_true rfl) (Nat.le_of_ble_eq_true rfl) dX7_init_110 rfl (fun q14 => ?_)
  refine Cz_dup X rfl dX7_init_113 rfl ?_
  refine Cz_callN X (as := []) (st := [.ref q14, .int 4, .ref q9]) (ws1 := (((h0, .inr (7, [.ref q1, .ref q2, .ref q3, .ref q4, .ref q5, .int 0, .int 0, .ref q6, .ref q7, .ref q8, .ref q9])) :: T1) ++ ((q9, .inl (czT E 3, 6, .inr (.inr (.inr (.inr (va_up (va_up (va_up (va_up (fun _ => none) (0 : Int32).toNatClampNeg (some q10)) (1 : Int32).toNatClampNeg (some q11)) (2 : Int32).toNatClampNeg (some q12)) (3 : Int32).toNatClampNeg (some q13))))))) :: (((([] ++ WX4 (czT E) q10 u10) ++ WX4 (czT E) q11 u11) ++ WX4 (czT E) q12 u12) ++ WX4 (czT E) q13 u13)))) cm_X4 (by unfold nestL; decide) ci_i4 ci_n4 ci_c4 rfl (by decide) ⟨Nat.le_of_ble_eq_true rfl, Nat.le_of_ble_eq_true rfl⟩ ⟨Nat.le_of_ble_eq_true rfl, Nat.le_of_ble_eq_true rfl⟩ rfl (Nat.le_of_ble_eq_true rfl) dX7_init_114 rfl rfl (fun u14 => ?_)
  refine Cz_aast0 X (C := RX4) (t := 3) (N := 6) (W1 := (h0, .inr (7, [.ref q1, .ref q2, .ref q3, .ref q4, .ref q5, .int 0, .int 0, .ref q6, .ref q7, .ref q8, .ref q9])) :: T1) (W2 := (((([] ++ WX4 (czT E) q10 u10) ++ WX4 (czT E) q11 u11) ++ WX4 (czT E) q12 u12) ++ WX4 (czT E) q13 u13)) (W3 := [(u14 1, .inl (czT E 1, 60, .inr (.inl (fun _ => 0))))]) (f := va_up (va_up (va_up (va_up (fun _ => none) (0 : Int32).toNatClampNeg (some q10)) (1 : Int32).toNatClampNeg (some q11)) (2 : Int32).toNatClampNeg (some q12)) (3 : Int32).toNatClampNeg (some q13)) (vs := [.int (-2), .int 0, .int 0, .ref (u14 1)]) (ci := 4) (cz_mid rfl) (fun _ => rfl) rfl (vin (a := 4) (by decide)) dX7_init_117 rfl ?_
  show Cz RR7 E 2 118 [(1, .int 4), (0, .ref h0)] [] (((h0, .inr (7, [.ref q1, .ref q2, .ref q3, .ref q4, .ref q5, .int 0, .int 0, .ref q6, .ref q7, .ref q8, .ref q9])) :: T1) ++ ((q9, .inl (czT E 3, 6, .inr (.inr (.inr (.inr (va_up (va_up (va_up (va_up (va_up (fun _ => none) (0 : Int32).toNatClampNeg (some q10)) (1 : Int32).toNatClampNeg (some q11)) (2 : Int32).toNatClampNeg (some q12)) (3 : Int32).toNatClampNeg (some q13)) (4 : Int32).toNatClampNeg (some q14))))))) :: ((((([] ++ WX4 (czT E) q10 u10) ++ WX4 (czT E) q11 u11) ++ WX4 (czT E) q12 u12) ++ WX4 (czT E) q13 u13) ++ WX4 (czT E) q14 u14))) 62 2311
  refine Cz_iinc X (i := 1) (j := 0) (v := 5) rfl (by decide) (Nat.le_of_ble_eq_true rfl) (ls2 := [(1, .int 5), (0, .ref h0)]) rfl dX7_init_118 rfl ?_
  refine Cz_goto X (tgt := 99) dX7_init_121 rfl ?_
  refine Cz_iload_n X (j := 0) rfl rfl dX7_init_99 rfl ?_
  refine Cz_bipush X (v := 6) (by decide) dX7_init_100 rfl ?_
  refine Cz_geF X (tgt := 124) (by decide) dX7_init_102 rfl rfl ?_
  refine Cz_aload_n X (j := 1) rfl rfl dX7_init_105 rfl ?_
  refine Cz_get0 X (j := 10) kc7 (Nat.le_of_ble_eq_true rfl) lf_X7_58 rfl dX7_init_106 rfl ?_
  refine Cz_iload_n X (j := 0) rfl rfl dX7_init_109 rfl ?_
  refine Cz_new X (ci := 4) (fs := [.int 0, .int 0, .int 0, .null]) kc4 lk_X7_56 ci_s4 ci_n4 (fun j hj => by rcases (show j = 0 ∨ j = 1 ∨ j = 2 ∨ j = 3 by omega) with rfl | rfl | rfl | rfl <;> rfl) (Nat.le_of_ble_eq_true rfl) (Nat.le_of_ble_eq_true rfl) dX7_init_110 rfl (fun q15 => ?_)
  refine Cz_dup X rfl dX7_init_113 rfl ?_
  refine Cz_callN X (as := []) (st := [.ref q15, .int 5, .ref q9]) (ws1 := (((h0, .inr (7, [.ref q1, .ref q2, .ref q3, .ref q4, .ref q5, .int 0, .int 0, .ref q6, .ref q7, .ref q8, .ref q9])) :: T1) ++ ((q9, .inl (czT E 3, 6, .inr (.inr (.inr (.inr (va_up (va_up (va_up (va_up (va_up (fun _ => none) (0 : Int32).toNatClampNeg (some q10)) (1 : Int32).toNatClampNeg (some q11)) (2 : Int32).toNatClampNeg (some q12)) (3 : Int32).toNatClampNeg (some q13)) (4 : Int32).toNatClampNeg (some q14))))))) :: ((((([] ++ WX4 (czT E) q10 u10) ++ WX4 (czT E) q11 u11) ++ WX4 (czT E) q12 u12) ++ WX4 (czT E) q13 u13) ++ WX4 (czT E) q14 u14)))) cm_X4 (by unfold nestL; decide) ci_i4 ci_n4 ci_c4 rfl (by decide) ⟨Nat.le_of_ble_eq_true rfl, Nat.le_of_ble_eq_true rfl⟩ ⟨Nat.le_of_ble_eq_true rfl, Nat.le_of_ble_eq_true rfl⟩ rfl (Nat.le_of_ble_eq_true rfl) dX7_init_114 rfl rfl (fun u15 => ?_)
  refine Cz_aast0 X (C := RX4) (t := 3) (N := 6) (W1 := (h0, .inr (7, [.ref q1, .ref q2, .ref q3, .ref q4, .ref q5, .int 0, .int 0, .ref q6, .ref q7, .ref q8, .ref q9])) :: T1) (W2 := ((((([] ++ WX4 (czT E) q10 u10) ++ WX4 (czT E) q11 u11) ++ WX4 (czT E) q12 u12) ++ WX4 (czT E) q13 u13) ++ WX4 (czT E) q14 u14)) (W3 := [(u15 1, .inl (czT E 1, 60, .inr (.inl (fun _ => 0))))]) (f := va_up (va_up (va_up (va_up (va_up (fun _ => none) (0 : Int32).toNatClampNeg (some q10)) (1 : Int32).toNatClampNeg (some q11)) (2 : Int32).toNatClampNeg (some q12)) (3 : Int32).toNatClampNeg (some q13)) (4 : Int32).toNatClampNeg (some q14)) (vs := [.int (-2), .int 0, .int 0, .ref (u15 1)]) (ci := 4) (cz_mid rfl) (fun _ => rfl) rfl (vin (a := 5) (by decide)) dX7_init_117 rfl ?_
  show Cz RR7 E 2 118 [(1, .int 5), (0, .ref h0)] [] (((h0, .inr (7, [.ref q1, .ref q2, .ref q3, .ref q4, .ref q5, .int 0, .int 0, .ref q6, .ref q7, .ref q8, .ref q9])) :: T1) ++ ((q9, .inl (czT E 3, 6, .inr (.inr (.inr (.inr (va_up (va_up (va_up (va_up (va_up (va_up (fun _ => none) (0 : Int32).toNatClampNeg (some q10)) (1 : Int32).toNatClampNeg (some q11)) (2 : Int32).toNatClampNeg (some q12)) (3 : Int32).toNatClampNeg (some q13)) (4 : Int32).toNatClampNeg (some q14)) (5 : Int32).toNatClampNeg (some q15))))))) :: (((((([] ++ WX4 (czT E) q10 u10) ++ WX4 (czT E) q11 u11) ++ WX4 (czT E) q12 u12) ++ WX4 (czT E) q13 u13) ++ WX4 (czT E) q14 u14) ++ WX4 (czT E) q15 u15))) 64 2375
  refine Cz_iinc X (i := 1) (j := 0) (v := 6) rfl (by decide) (Nat.le_of_ble_eq_true rfl) (ls2 := [(1, .int 6), (0, .ref h0)]) rfl dX7_init_118 rfl ?_
  refine Cz_goto X (tgt := 99) dX7_init_121 rfl ?_
  refine Cz_iload_n X (j := 0) rfl rfl dX7_init_99 rfl ?_
  refine Cz_bipush X (v := 6) (by decide) dX7_init_100 rfl ?_
  refine Cz_geT X (tgt := 124) (by decide) dX7_init_102 rfl ?_
  subst hT1
  refine Cz_ret2 X hQ (fun k => ([h0, q1, (u1 1), (u1 2), (u1 3), (u1 4), (u1 5), (u1 6), (u1 7), (u1 8), (u1 9), (u1 10), q2, (u2 1), (u2 2), q3, q4, (u4 1), (u4 2), q5, q6, (u6 1), (u6 2), (u6 3), (u6 4), (u6 5), (u6 6), (u6 7), (u6 8), (u6 9), (u6 10), (u6 11), (u6 12), (u6 13), (u6 14), (u6 15), (u6 16), (u6 17), (u6 18), (u6 19), (u6 20), (u6 21), (u6 22), (u6 23), q7, (u7 1), (u7 2), (u7 3), (u7 4), q8, (u8 1), (u8 2), q9, q10, (u10 1), q11, (u11 1), q12, (u12 1), q13, (u13 1), q14, (u14 1), q15, (u15 1)] : List Nat).getD k 0) rfl rfl (fun D H hP i q hq => ?_) rfl dX7_init_124
  have hi : i < 65 := by
    have := (List.getElem?_eq_some_iff.mp hq).1
    simpa [WX7, rfW, ΛC] using this
  rw [show WX7 w (czT E) h0 _ = rfW _ _ _ _ from rfl, rfW_at hi] at hq
  cases hq
  match i, hi with
  | 0, _ => exact hP 0 _ rfl
  | 1, _ => exact hP 1 _ rfl
  | 2, _ => exact hP 2 _ rfl
  | 3, _ => exact hP 3 _ rfl
  | 4, _ => exact hP 4 _ rfl
  | 5, _ => exact hP 5 _ rfl
  | 6, _ => exact hP 6 _ rfl
  | 7, _ => exact hP 7 _ rfl
  | 8, _ => exact hP 8 _ rfl
  | 9, _ => exact hP 9 _ rfl
  | 10, _ => exact hP 10 _ rfl
  | 11, _ => exact hP 11 _ rfl
  | 12, _ => exact hP 12 _ rfl
  | 13, _ => exact hP 13 _ rfl
  | 14, _ => exact hP 14 _ rfl
  | 15, _ => exact hP 15 _ rfl
  | 16, _ => exact hP 16 _ rfl
  | 17, _ => exact hP 17 _ rfl
  | 18, _ => exact hP 18 _ rfl
  | 19, _ => exact hP 19 _ rfl
  | 20, _ => exact hP 20 _ rfl
  | 21, _ => exact hP 21 _ rfl
  | 22, _ => exact rf_refs (hP 22 _ rfl) (fun j hj => by have hj : j < 6 := hj; rcases (show j = 0 ∨ j = 1 ∨ j = 2 ∨ j = 3 ∨ j = 4 ∨ j = 5 by omega) with rfl | rfl | rfl | rfl | rfl | rfl <;> rfl)
  | 23, _ => exact hP 23 _ rfl
  | 24, _ => exact hP 24 _ rfl
  | 25, _ => exact hP 25 _ rfl
  | 26, _ => exact hP 26 _ rfl
  | 27, _ => exact hP 27 _ rfl
  | 28, _ => exact hP 28 _ rfl
  | 29, _ => exact hP 29 _ rfl
  | 30, _ => exact hP 30 _ rfl
  | 31, _ => exact hP 31 _ rfl
  | 32, _ => exact hP 32 _ rfl
  | 33, _ => exact hP 33 _ rfl
  | 34, _ => exact hP 34 _ rfl
  | 35, _ => exact hP 35 _ rfl
  | 36, _ => exact hP 36 _ rfl
  | 37, _ => exact hP 37 _ rfl
  | 38, _ => exact hP 38 _ rfl
  | 39, _ => exact hP 39 _ rfl
  | 40, _ => exact hP 40 _ rfl
  | 41, _ => exact hP 41 _ rfl
  | 42, _ => exact hP 42 _ rfl
  | 43, _ => exact hP 43 _ rfl
  | 44, _ => exact hP 44 _ rfl
  | 45, _ => exact hP 45 _ rfl
  | 46, _ => exact hP 46 _ rfl
  | 47, _ => exact hP 47 _ rfl
  | 48, _ => exact hP 48 _ rfl
  | 49, _ => exact hP 49 _ rfl
  | 50, _ => exact hP 50 _ rfl
  | 51, _ => exact hP 51 _ rfl
  | 52, _ => exact rf_refs (hP 52 _ rfl) (fun j hj => by have hj : j < 6 := hj; rcases (show j = 0 ∨ j = 1 ∨ j = 2 ∨ j = 3 ∨ j = 4 ∨ j = 5 by omega) with rfl | rfl | rfl | rfl | rfl | rfl <;> rfl)
  | 53, _ => exact hP 53 _ rfl
  | 54, _ => exact hP 54 _ rfl
  | 55, _ => exact hP 55 _ rfl
  | 56, _ => exact hP 56 _ rfl
  | 57, _ => exact hP 57 _ rfl
  | 58, _ => exact hP 58 _ rfl
  | 59, _ => exact hP 59 _ rfl
  | 60, _ => exact hP 60 _ rfl
  | 61, _ => exact hP 61 _ rfl
  | 62, _ => exact hP 62 _ rfl
  | 63, _ => exact hP 63 _ rfl
  | 64, _ => exact hP 64 _ rfl
  | j9 + 65, hi => exact absurd hi (by omega)
