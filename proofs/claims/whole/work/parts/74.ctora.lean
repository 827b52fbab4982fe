/-! constructors: the leaves -/
theorem dX5_init_0 : decode cX5_init 0 = .ok (.aload_n 0, 1) := by decide +kernel
theorem dX5_init_1 : decode cX5_init 1 = .ok (.invokespecial 3, 3) := by decide +kernel
theorem dX5_init_4 : decode cX5_init 4 = .ok (.aload_n 0, 1) := by decide +kernel
theorem dX5_init_5 : decode cX5_init 5 = .ok (.bipush 7, 2) := by decide +kernel
theorem dX5_init_7 : decode cX5_init 7 = .ok (.newarray .int, 2) := by decide +kernel
theorem dX5_init_9 : decode cX5_init 9 = .ok (.putfield 9, 3) := by decide +kernel
theorem dX5_init_12 : decode cX5_init 12 = .ok (.aload_n 0, 1) := by decide +kernel
theorem dX5_init_13 : decode cX5_init 13 = .ok (.bipush 7, 2) := by decide +kernel
theorem dX5_init_15 : decode cX5_init 15 = .ok (.newarray .int, 2) := by decide +kernel
theorem dX5_init_17 : decode cX5_init 17 = .ok (.putfield 15, 3) := by decide +kernel
theorem dX5_init_20 : decode cX5_init 20 = .ok (.return_, 1) := by decide +kernel
abbrev RR5 : Room := { frames := 1, cells := 2, slots := 14, locals := 40 }
set_option maxHeartbeats 4000000 in
set_option maxRecDepth 100000 in
theorem cm_X5 : CM RR5 yX5_init cX5_init 1 [] 5 [.null, .null, .int 0, .int 0] WX5 := by
  refine CM.intro (by decide) rfl (fun _ => Nat.le_of_ble_eq_true rfl) (fun E h0 X hI hQ => ?_)
  show Cz RR5 E 1 0 [(0, .ref h0)] [] [(h0, .inr (5, [.null, .null, .int 0, .int 0]))] 0 0
  refine Cz_aload_n X (j := 0) rfl rfl dX5_init_0 rfl ?_
  refine Cz_obj X li_X5_3 oi_i oi_c (Nat.le_of_ble_eq_true rfl) (Nat.le_of_ble_eq_true rfl) (Nat.le_of_ble_eq_true rfl) dX5_init_1 rfl ?_
  refine Cz_aload_n X (j := 0) rfl rfl dX5_init_4 rfl ?_
  refine Cz_bipush X (v := 7) (by decide) dX5_init_5 rfl ?_
  refine Cz_newi X (N := 7) rfl (by decide) ac_i (Nat.le_of_ble_eq_true rfl) (Nat.le_of_ble_eq_true rfl) dX5_init_7 rfl (fun q1 => ?_)
  refine Cz_put X hI (q0 := 0) (j := 0) kc5 rfl (Nat.le_of_ble_eq_true rfl) (Nat.le_of_ble_eq_true rfl) rfl lf_X5_9 rfl rfl dX5_init_9 rfl (ws2 := ((h0, .inr (5, [.ref q1, .null, .int 0, .int 0])) :: ([] ++ [(q1, .inl (czT E 0, 7, .inl (fun _ => 0)))]))) rfl ?_
  refine Cz_aload_n X (j := 0) rfl rfl dX5_init_12 rfl ?_
  refine Cz_bipush X (v := 7) (by decide) dX5_init_13 rfl ?_
  refine Cz_newi X (N := 7) rfl (by decide) ac_i (Nat.le_of_ble_eq_true rfl) (Nat.le_of_ble_eq_true rfl) dX5_init_15 rfl (fun q2 => ?_)
  refine Cz_put X hI (q0 := 0) (j := 1) kc5 rfl (Nat.le_of_ble_eq_true rfl) (Nat.le_of_ble_eq_true rfl) rfl lf_X5_15 rfl rfl dX5_init_17 rfl (ws2 := ((h0, .inr (5, [.ref q1, .ref q2, .int 0, .int 0])) :: (([] ++ [(q1, .inl (czT E 0, 7, .inl (fun _ => 0)))]) ++ [(q2, .inl (czT E 0, 7, .inl (fun _ => 0)))]))) rfl ?_
  exact Cz_ret X hQ (fun k => ([h0, q1, q2] : List Nat).getD k 0) rfl rfl rfl dX5_init_20
theorem dX4_init_0 : decode cX4_init 0 = .ok (.aload_n 0, 1) := by decide +kernel
theorem dX4_init_1 : decode cX4_init 1 = .ok (.invokespecial 3, 3) := by decide +kernel
theorem dX4_init_4 : decode cX4_init 4 = .ok (.aload_n 0, 1) := by decide +kernel
theorem dX4_init_5 : decode cX4_init 5 = .ok (.bipush (-2), 2) := by decide +kernel
theorem dX4_init_7 : decode cX4_init 7 = .ok (.putfield 11, 3) := by decide +kernel
theorem dX4_init_10 : decode cX4_init 10 = .ok (.aload_n 0, 1) := by decide +kernel
theorem dX4_init_11 : decode cX4_init 11 = .ok (.bipush 60, 2) := by decide +kernel
theorem dX4_init_13 : decode cX4_init 13 = .ok (.newarray .long, 2) := by decide +kernel
theorem dX4_init_15 : decode cX4_init 15 = .ok (.putfield 15, 3) := by decide +kernel
theorem dX4_init_18 : decode cX4_init 18 = .ok (.return_, 1) := by decide +kernel
abbrev RR4 : Room := { frames := 1, cells := 1, slots := 60, locals := 40 }
set_option maxHeartbeats 4000000 in
set_option maxRecDepth 100000 in
theorem cm_X4 : CM RR4 yX4_init cX4_init 1 [] 4 [.int 0, .int 0, .int 0, .null] WX4 := by
  refine CM.intro (by decide) rfl (fun _ => Nat.le_of_ble_eq_true rfl) (fun E h0 X hI hQ => ?_)
  show Cz RR4 E 1 0 [(0, .ref h0)] [] [(h0, .inr (4, [.int 0, .int 0, .int 0, .null]))] 0 0
  refine Cz_aload_n X (j := 0) rfl rfl dX4_init_0 rfl ?_
  refine Cz_obj X li_X4_3 oi_i oi_c (Nat.le_of_ble_eq_true rfl) (Nat.le_of_ble_eq_true rfl) (Nat.le_of_ble_eq_true rfl) dX4_init_1 rfl ?_
  refine Cz_aload_n X (j := 0) rfl rfl dX4_init_4 rfl ?_
  refine Cz_bipush X (v := (-2)) (by decide) dX4_init_5 rfl ?_
  refine Cz_put X hI (q0 := 0) (j := 0) kc4 rfl (Nat.le_of_ble_eq_true rfl) (Nat.le_of_ble_eq_true rfl) rfl lf_X4_11 rfl rfl dX4_init_7 rfl (ws2 := ((h0, .inr (4, [.int (-2), .int 0, .int 0, .null])) :: [])) rfl ?_
  refine Cz_aload_n X (j := 0) rfl rfl dX4_init_10 rfl ?_
  refine Cz_bipush X (v := 60) (by decide) dX4_init_11 rfl ?_
  refine Cz_newl X (N := 60) rfl (by decide) ac_l (Nat.le_of_ble_eq_true rfl) (Nat.le_of_ble_eq_true rfl) dX4_init_13 rfl (fun q1 => ?_)
  refine Cz_put X hI (q0 := 0) (j := 3) kc4 rfl (Nat.le_of_ble_eq_true rfl) (Nat.le_of_ble_eq_true rfl) rfl lf_X4_15 rfl rfl dX4_init_15 rfl (ws2 := ((h0, .inr (4, [.int (-2), .int 0, .int 0, .ref q1])) :: ([] ++ [(q1, .inl (czT E 1, 60, .inr (.inl (fun _ => 0))))]))) rfl ?_
  exact Cz_ret X hQ (fun k => ([h0, q1] : List Nat).getD k 0) rfl rfl rfl dX4_init_18
theorem dX0_init_0 : decode cX0_init 0 = .ok (.aload_n 0, 1) := by decide +kernel
theorem dX0_init_1 : decode cX0_init 1 = .ok (.invokespecial 1, 3) := by decide +kernel
theorem dX0_init_4 : decode cX0_init 4 = .ok (.aload_n 0, 1) := by decide +kernel
theorem dX0_init_5 : decode cX0_init 5 = .ok (.bipush 50, 2) := by decide +kernel
theorem dX0_init_7 : decode cX0_init 7 = .ok (.newarray .int, 2) := by decide +kernel
theorem dX0_init_9 : decode cX0_init 9 = .ok (.putfield 9, 3) := by decide +kernel
theorem dX0_init_12 : decode cX0_init 12 = .ok (.aload_n 0, 1) := by decide +kernel
theorem dX0_init_13 : decode cX0_init 13 = .ok (.bipush 24, 2) := by decide +kernel
theorem dX0_init_15 : decode cX0_init 15 = .ok (.newarray .int, 2) := by decide +kernel
theorem dX0_init_17 : decode cX0_init 17 = .ok (.putfield 13, 3) := by decide +kernel
theorem dX0_init_20 : decode cX0_init 20 = .ok (.return_, 1) := by decide +kernel
abbrev RR0 : Room := { frames := 1, cells := 2, slots := 74, locals := 40 }
set_option maxHeartbeats 4000000 in
set_option maxRecDepth 100000 in
theorem cm_X0 : CM RR0 yX0_init cX0_init 1 [] 0 [.null, .int 0, .null, .int 0] WX0 := by
  refine CM.intro (by decide) rfl (fun _ => Nat.le_of_ble_eq_true rfl) (fun E h0 X hI hQ => ?_)
  show Cz RR0 E 1 0 [(0, .ref h0)] [] [(h0, .inr (0, [.null, .int 0, .null, .int 0]))] 0 0
  refine Cz_aload_n X (j := 0) rfl rfl dX0_init_0 rfl ?_
  refine Cz_obj X li_X0_1 oi_i oi_c (Nat.le_of_ble_eq_true rfl) (Nat.le_of_ble_eq_true rfl) (Nat.le_of_ble_eq_true rfl) dX0_init_1 rfl ?_
  refine Cz_aload_n X (j := 0) rfl rfl dX0_init_4 rfl ?_
  refine Cz_bipush X (v := 50) (by decide) dX0_init_5 rfl ?_
  refine Cz_newi X (N := 50) rfl (by decide) ac_i (Nat.le_of_ble_eq_true rfl) (Nat.le_of_ble_eq_true rfl) dX0_init_7 rfl (fun q1 => ?_)
  refine Cz_put X hI (q0 := 0) (j := 0) kc0 rfl (Nat.le_of_ble_eq_true rfl) (Nat.le_of_ble_eq_true rfl) rfl lf_X0_9 rfl rfl dX0_init_9 rfl (ws2 := ((h0, .inr (0, [.ref q1, .int 0, .null, .int 0])) :: ([] ++ [(q1, .inl (czT E 0, 50, .inl (fun _ => 0)))]))) rfl ?_
  refine Cz_aload_n X (j := 0) rfl rfl dX0_init_12 rfl ?_
  refine Cz_bipush X (v := 24) (by decide) dX0_init_13 rfl ?_
  refine Cz_newi X (N := 24) rfl (by decide) ac_i (Nat.le_of_ble_eq_true rfl) (Nat.le_of_ble_eq_true rfl) dX0_init_15 rfl (fun q2 => ?_)
  refine Cz_put X hI (q0 := 0) (j := 2) kc0 rfl (Nat.le_of_ble_eq_true rfl) (Nat.le_of_ble_eq_true rfl) rfl lf_X0_13 rfl rfl dX0_init_17 rfl (ws2 := ((h0, .inr (0, [.ref q1, .int 0, .ref q2, .int 0])) :: (([] ++ [(q1, .inl (czT E 0, 50, .inl (fun _ => 0)))]) ++ [(q2, .inl (czT E 0, 24, .inl (fun _ => 0)))]))) rfl ?_
  exact Cz_ret X hQ (fun k => ([h0, q1, q2] : List Nat).getD k 0) rfl rfl rfl dX0_init_20
theorem dX1_init_0 : decode cX1_init 0 = .ok (.aload_n 0, 1) := by decide +kernel
theorem dX1_init_1 : decode cX1_init 1 = .ok (.invokespecial 3, 3) := by decide +kernel
theorem dX1_init_4 : decode cX1_init 4 = .ok (.aload_n 0, 1) := by decide +kernel
theorem dX1_init_5 : decode cX1_init 5 = .ok (.bipush 40, 2) := by decide +kernel
theorem dX1_init_7 : decode cX1_init 7 = .ok (.newarray .int, 2) := by decide +kernel
theorem dX1_init_9 : decode cX1_init 9 = .ok (.putfield 9, 3) := by decide +kernel
theorem dX1_init_12 : decode cX1_init 12 = .ok (.aload_n 0, 1) := by decide +kernel
theorem dX1_init_13 : decode cX1_init 13 = .ok (.bipush 40, 2) := by decide +kernel
theorem dX1_init_15 : decode cX1_init 15 = .ok (.newarray .int, 2) := by decide +kernel
theorem dX1_init_17 : decode cX1_init 17 = .ok (.putfield 15, 3) := by decide +kernel
theorem dX1_init_20 : decode cX1_init 20 = .ok (.aload_n 0, 1) := by decide +kernel
theorem dX1_init_21 : decode cX1_init 21 = .ok (.bipush 40, 2) := by decide +kernel
theorem dX1_init_23 : decode cX1_init 23 = .ok (.newarray .int, 2) := by decide +kernel
theorem dX1_init_25 : decode cX1_init 25 = .ok (.putfield 18, 3) := by decide +kernel
theorem dX1_init_28 : decode cX1_init 28 = .ok (.aload_n 0, 1) := by decide +kernel
theorem dX1_init_29 : decode cX1_init 29 = .ok (.bipush 40, 2) := by decide +kernel
theorem dX1_init_31 : decode cX1_init 31 = .ok (.newarray .int, 2) := by decide +kernel
theorem dX1_init_33 : decode cX1_init 33 = .ok (.putfield 21, 3) := by decide +kernel
theorem dX1_init_36 : decode cX1_init 36 = .ok (.return_, 1) := by decide +kernel
abbrev RR1 : Room := { frames := 1, cells := 4, slots := 160, locals := 40 }
set_option maxHeartbeats 4000000 in
set_option maxRecDepth 100000 in
theorem cm_X1 : CM RR1 yX1_init cX1_init 1 [] 1 [.null, .null, .null, .null, .int 0, .int 0] WX1 := by
  refine CM.intro (by decide) rfl (fun _ => Nat.le_of_ble_eq_true rfl) (fun E h0 X hI hQ => ?_)
  show Cz RR1 E 1 0 [(0, .ref h0)] [] [(h0, .inr (1, [.null, .null, .null, .null, .int 0, .int 0]))] 0 0
  refine Cz_aload_n X (j := 0) rfl rfl dX1_init_0 rfl ?_
  refine Cz_obj X li_X1_3 oi_i oi_c (Nat.le_of_ble_eq_true rfl) (Nat.le_of_ble_eq_true rfl) (Nat.le_of_ble_eq_true rfl) dX1_init_1 rfl ?_
  refine Cz_aload_n X (j := 0) rfl rfl dX1_init_4 rfl ?_
  refine Cz_bipush X (v := 40) (by decide) dX1_init_5 rfl ?_
  refine Cz_newi X (N := 40) rfl (by decide) ac_i (Nat.le_of_ble_eq_true rfl) (Nat.le_of_ble_eq_true rfl) dX1_init_7 rfl (fun q1 => ?_)
  refine Cz_put X hI (q0 := 0) (j := 0) kc1 rfl (Nat.le_of_ble_eq_true rfl) (Nat.le_of_ble_eq_true rfl) rfl lf_X1_9 rfl rfl dX1_init_9 rfl (ws2 := ((h0, .inr (1, [.ref q1, .null, .null, .null, .int 0, .int 0])) :: ([] ++ [(q1, .inl (czT E 0, 40, .inl (fun _ => 0)))]))) rfl ?_
  refine Cz_aload_n X (j := 0) rfl rfl dX1_init_12 rfl ?_
  refine Cz_bipush X (v := 40) (by decide) dX1_init_13 rfl ?_
  refine Cz_newi X (N := 40) rfl (by decide) ac_i (Nat.le_of_ble_eq_true rfl) (Nat.le_of_ble_eq_true rfl) dX1_init_15 rfl (fun q2 => ?_)
  refine Cz_put X hI (q0 := 0) (j := 1) kc1 rfl (Nat.le_of_ble_eq_true rfl) (Nat.le_of_ble_eq_true rfl) rfl lf_X1_15 rfl rfl dX1_init_17 rfl (ws2 := ((h0, .inr (1, [.ref q1, .ref q2, .null, .null, .int 0, .int 0])) :: (([] ++ [(q1, .inl (czT E 0, 40, .inl (fun _ => 0)))]) ++ [(q2, .inl (czT E 0, 40, .inl (fun _ => 0)))]))) rfl ?_
  refine Cz_aload_n X (j := 0) rfl rfl dX1_init_20 rfl ?_
  refine Cz_bipush X (v := 40) (by decide) dX1_init_21 rfl ?_
  refine Cz_newi X (N := 40) rfl (by decide) ac_i (Nat.le_of_ble_eq_true rfl) (Nat.le_of_ble_eq_true rfl) dX1_init_23 rfl (fun q3 => ?_)
  refine Cz_put X hI (q0 := 0) (j := 2) kc1 rfl (Nat.le_of_ble_eq_true rfl) (Nat.le_of_ble_eq_true rfl) rfl lf_X1_18 rfl rfl dX1_init_25 rfl (ws2 := ((h0, .inr (1, [.ref q1, .ref q2, .ref q3, .null, .int 0, .int 0])) :: ((([] ++ [(q1, .inl (czT E 0, 40, .inl (fun _ => 0)))]) ++ [(q2, .inl (czT E 0, 40, .inl (fun _ => 0)))]) ++ [(q3, .inl (czT E 0, 40, .inl (fun _ => 0)))]))) rfl ?_
  refine Cz_aload_n X (j := 0) rfl rfl dX1_init_28 rfl ?_
  refine Cz_bipush X (v := 40) (by decide) dX1_init_29 rfl ?_
  refine Cz_newi X (N := 40) rfl (by decide) ac_i (Nat.le_of_ble_eq_true rfl) (Nat.le_of_ble_eq_true rfl) dX1_init_31 rfl (fun q4 => ?_)
  refine Cz_put X hI (q0 := 0) (j := 3) kc1 rfl (Nat.le_of_ble_eq_true rfl) (Nat.le_of_ble_eq_true rfl) rfl lf_X1_21 rfl rfl dX1_init_33 rfl (ws2 := ((h0, .inr (1, [.ref q1, .ref q2, .ref q3, .ref q4, .int 0, .int 0])) :: (((([] ++ [(q1, .inl (czT E 0, 40, .inl (fun _ => 0)))]) ++ [(q2, .inl (czT E 0, 40, .inl (fun _ => 0)))]) ++ [(q3, .inl (czT E 0, 40, .inl (fun _ => 0)))]) ++ [(q4, .inl (czT E 0, 40, .inl (fun _ => 0)))]))) rfl ?_
  exact Cz_ret X hQ (fun k => ([h0, q1, q2, q3, q4] : List Nat).getD k 0) rfl rfl rfl dX1_init_36
theorem dX3_init_0 : decode cX3_init 0 = .ok (.aload_n 0, 1) := by decide +kernel
theorem dX3_init_1 : decode cX3_init 1 = .ok (.invokespecial 3, 3) := by decide +kernel
theorem dX3_init_4 : decode cX3_init 4 = .ok (.aload_n 0, 1) := by decide +kernel
theorem dX3_init_5 : decode cX3_init 5 = .ok (.bipush 121, 2) := by decide +kernel
theorem dX3_init_7 : decode cX3_init 7 = .ok (.newarray .int, 2) := by decide +kernel
theorem dX3_init_9 : decode cX3_init 9 = .ok (.putfield 11, 3) := by decide +kernel
theorem dX3_init_12 : decode cX3_init 12 = .ok (.aload_n 0, 1) := by decide +kernel
theorem dX3_init_13 : decode cX3_init 13 = .ok (.bipush 121, 2) := by decide +kernel
theorem dX3_init_15 : decode cX3_init 15 = .ok (.newarray .int, 2) := by decide +kernel
theorem dX3_init_17 : decode cX3_init 17 = .ok (.putfield 15, 3) := by decide +kernel
theorem dX3_init_20 : decode cX3_init 20 = .ok (.aload_n 0, 1) := by decide +kernel
theorem dX3_init_21 : decode cX3_init 21 = .ok (.bipush 120, 2) := by decide +kernel
theorem dX3_init_23 : decode cX3_init 23 = .ok (.newarray .int, 2) := by decide +kernel
theorem dX3_init_25 : decode cX3_init 25 = .ok (.putfield 18, 3) := by decide +kernel
theorem dX3_init_28 : decode cX3_init 28 = .ok (.aload_n 0, 1) := by decide +kernel
theorem dX3_init_29 : decode cX3_init 29 = .ok (.bipush 121, 2) := by decide +kernel
theorem dX3_init_31 : decode cX3_init 31 = .ok (.newarray .int, 2) := by decide +kernel
theorem dX3_init_33 : decode cX3_init 33 = .ok (.putfield 21, 3) := by decide +kernel
theorem dX3_init_36 : decode cX3_init 36 = .ok (.return_, 1) := by decide +kernel
abbrev RR3 : Room := { frames := 1, cells := 4, slots := 483, locals := 40 }
set_option maxHeartbeats 4000000 in
set_option maxRecDepth 100000 in
theorem cm_X3 : CM RR3 yX3_init cX3_init 1 [] 3 [.null, .int 0, .null, .null, .int 0, .int 0, .null, .int 0] WX3 := by
  refine CM.intro (by decide) rfl (fun _ => Nat.le_of_ble_eq_true rfl) (fun E h0 X hI hQ => ?_)
  show Cz RR3 E 1 0 [(0, .ref h0)] [] [(h0, .inr (3, [.null, .int 0, .null, .null, .int 0, .int 0, .null, .int 0]))] 0 0
  refine Cz_aload_n X (j := 0) rfl rfl dX3_init_0 rfl ?_
  refine Cz_obj X li_X3_3 oi_i oi_c (Nat.le_of_ble_eq_true rfl) (Nat.le_of_ble_eq_true rfl) (Nat.le_of_ble_eq_true rfl) dX3_init_1 rfl ?_
  refine Cz_aload_n X (j := 0) rfl rfl dX3_init_4 rfl ?_
  refine Cz_bipush X (v := 121) (by decide) dX3_init_5 rfl ?_
  refine Cz_newi X (N := 121) rfl (by decide) ac_i (Nat.le_of_ble_eq_true rfl) (Nat.le_of_ble_eq_true rfl) dX3_init_7 rfl (fun q1 => ?_)
  refine Cz_put X hI (q0 := 0) (j := 0) kc3 rfl (Nat.le_of_ble_eq_true rfl) (Nat.le_of_ble_eq_true rfl) rfl lf_X3_11 rfl rfl dX3_init_9 rfl (ws2 := ((h0, .inr (3, [.ref q1, .int 0, .null, .null, .int 0, .int 0, .null, .int 0])) :: ([] ++ [(q1, .inl (czT E 0, 121, .inl (fun _ => 0)))]))) rfl ?_
  refine Cz_aload_n X (j := 0) rfl rfl dX3_init_12 rfl ?_
  refine Cz_bipush X (v := 121) (by decide) dX3_init_13 rfl ?_
  refine Cz_newi X (N := 121) rfl (by decide) ac_i (Nat.le_of_ble_eq_true rfl) (Nat.le_of_ble_eq_true rfl) dX3_init_15 rfl (fun q2 => ?_)
  refine Cz_put X hI (q0 := 0) (j := 2) kc3 rfl (Nat.le_of_ble_eq_true rfl) (Nat.le_of_ble_eq_true rfl) rfl lf_X3_15 rfl rfl dX3_init_17 rfl (ws2 := ((h0, .inr (3, [.ref q1, .int 0, .ref q2, .null, .int 0, .int 0, .null, .int 0])) :: (([] ++ [(q1, .inl (czT E 0, 121, .inl (fun _ => 0)))]) ++ [(q2, .inl (czT E 0, 121, .inl (fun _ => 0)))]))) rfl ?_
  refine Cz_aload_n X (j := 0) rfl rfl dX3_init_20 rfl ?_
  refine Cz_bipush X (v := 120) (by decide) dX3_init_21 rfl ?_
  refine Cz_newi X (N := 120) rfl (by decide) ac_i (Nat.le_of_ble_eq_true rfl) (Nat.le_of_ble_eq_true rfl) dX3_init_23 rfl (fun q3 => ?_)
  refine Cz_put X hI (q0 := 0) (j := 3) kc3 rfl (Nat.le_of_ble_eq_true rfl) (Nat.le_of_ble_eq_true rfl) rfl lf_X3_18 rfl rfl dX3_init_25 rfl (ws2 := ((h0, .inr (3, [.ref q1, .int 0, .ref q2, .ref q3, .int 0, .int 0, .null, .int 0])) :: ((([] ++ [(q1, .inl (czT E 0, 121, .inl (fun _ => 0)))]) ++ [(q2, .inl (czT E 0, 121, .inl (fun _ => 0)))]) ++ [(q3, .inl (czT E 0, 120, .inl (fun _ => 0)))]))) rfl ?_
  refine Cz_aload_n X (j := 0) rfl rfl dX3_init_28 rfl ?_
  refine Cz_bipush X (v := 121) (by decide) dX3_init_29 rfl ?_
  refine Cz_newi X (N := 121) rfl (by decide) ac_i (Nat.le_of_ble_eq_true rfl) (Nat.le_of_ble_eq_true rfl) dX3_init_31 rfl (fun q4 => ?_)
  refine Cz_put X hI (q0 := 0) (j := 6) kc3 rfl (Nat.le_of_ble_eq_true rfl) (Nat.le_of_ble_eq_true rfl) rfl lf_X3_21 rfl rfl dX3_init_33 rfl (ws2 := ((h0, .inr (3, [.ref q1, .int 0, .ref q2, .ref q3, .int 0, .int 0, .ref q4, .int 0])) :: (((([] ++ [(q1, .inl (czT E 0, 121, .inl (fun _ => 0)))]) ++ [(q2, .inl (czT E 0, 121, .inl (fun _ => 0)))]) ++ [(q3, .inl (czT E 0, 120, .inl (fun _ => 0)))]) ++ [(q4, .inl (czT E 0, 121, .inl (fun _ => 0)))]))) rfl ?_
  exact Cz_ret X hQ (fun k => ([h0, q1, q2, q3, q4] : List Nat).getD k 0) rfl rfl rfl dX3_init_36
