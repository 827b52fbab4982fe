/-! constructors: House, Thought -/
theorem dX2_init_0 : decode cX2_init 0 = .ok (.aload_n 0, 1) := by decide +kernel
theorem dX2_init_1 : decode cX2_init 1 = .ok (.invokespecial 3, 3) := by decide +kernel
theorem dX2_init_4 : decode cX2_init 4 = .ok (.aload_n 0, 1) := by decide +kernel
theorem dX2_init_5 : decode cX2_init 5 = .ok (.bipush 7, 2) := by decide +kernel
theorem dX2_init_7 : decode cX2_init 7 = .ok (.newarray .int, 2) := by decide +kernel
theorem dX2_init_9 : decode cX2_init 9 = .ok (.putfield 9, 3) := by decide +kernel
theorem dX2_init_12 : decode cX2_init 12 = .ok (.aload_n 0, 1) := by decide +kernel
theorem dX2_init_13 : decode cX2_init 13 = .ok (.bipush 7, 2) := by decide +kernel
theorem dX2_init_15 : decode cX2_init 15 = .ok (.newarray .int, 2) := by decide +kernel
theorem dX2_init_17 : decode cX2_init 17 = .ok (.putfield 15, 3) := by decide +kernel
theorem dX2_init_20 : decode cX2_init 20 = .ok (.aload_n 0, 1) := by decide +kernel
theorem dX2_init_21 : decode cX2_init 21 = .ok (.bipush 7, 2) := by decide +kernel
theorem dX2_init_23 : decode cX2_init 23 = .ok (.newarray .int, 2) := by decide +kernel
theorem dX2_init_25 : decode cX2_init 25 = .ok (.putfield 18, 3) := by decide +kernel
theorem dX2_init_28 : decode cX2_init 28 = .ok (.aload_n 0, 1) := by decide +kernel
theorem dX2_init_29 : decode cX2_init 29 = .ok (.bipush 7, 2) := by decide +kernel
theorem dX2_init_31 : decode cX2_init 31 = .ok (.newarray .int, 2) := by decide +kernel
theorem dX2_init_33 : decode cX2_init 33 = .ok (.putfield 21, 3) := by decide +kernel
theorem dX2_init_36 : decode cX2_init 36 = .ok (.aload_n 0, 1) := by decide +kernel
theorem dX2_init_37 : decode cX2_init 37 = .ok (.new 24, 3) := by decide +kernel
theorem dX2_init_40 : decode cX2_init 40 = .ok (.dup, 1) := by decide +kernel
theorem dX2_init_41 : decode cX2_init 41 = .ok (.invokespecial 26, 3) := by decide +kernel
theorem dX2_init_44 : decode cX2_init 44 = .ok (.putfield 27, 3) := by decide +kernel
theorem dX2_init_47 : decode cX2_init 47 = .ok (.aload_n 0, 1) := by decide +kernel
theorem dX2_init_48 : decode cX2_init 48 = .ok (.bipush 6, 2) := by decide +kernel
theorem dX2_init_50 : decode cX2_init 50 = .ok (.newarray .int, 2) := by decide +kernel
theorem dX2_init_52 : decode cX2_init 52 = .ok (.putfield 31, 3) := by decide +kernel
theorem dX2_init_55 : decode cX2_init 55 = .ok (.return_, 1) := by decide +kernel
abbrev RR2 : Room := { frames := 2, cells := 10, slots := 525, locals := 80 }
set_option maxHeartbeats 4000000 in
set_option maxRecDepth 100000 in
theorem cm_X2 : CM RR2 yX2_init cX2_init 1 [] 2 [.int 0, .null, .null, .null, .null, .null, .null] WX2 := by
  refine CM.intro (by decide) rfl (fun _ => Nat.le_of_ble_eq_true rfl) (fun E h0 X hI hQ => ?_)
  show Cz RR2 E 1 0 [(0, .ref h0)] [] [(h0, .inr (2, [.int 0, .null, .null, .null, .null, .null, .null]))] 0 0
  refine Cz_aload_n X (j := 0) rfl rfl dX2_init_0 rfl ?_
  refine Cz_obj X li_X2_3 oi_i oi_c (Nat.le_of_ble_eq_true rfl) (Nat.le_of_ble_eq_true rfl) (Nat.le_of_ble_eq_true rfl) dX2_init_1 rfl ?_
  refine Cz_aload_n X (j := 0) rfl rfl dX2_init_4 rfl ?_
  refine Cz_bipush X (v := 7) (by decide) dX2_init_5 rfl ?_
  refine Cz_newi X (N := 7) rfl (by decide) ac_i (Nat.le_of_ble_eq_true rfl) (Nat.le_of_ble_eq_true rfl) dX2_init_7 rfl (fun q1 => ?_)
  refine Cz_put X hI (q0 := 0) (j := 1) kc2 rfl (Nat.le_of_ble_eq_true rfl) (Nat.le_of_ble_eq_true rfl) rfl lf_X2_9 rfl rfl dX2_init_9 rfl (ws2 := ((h0, .inr (2, [.int 0, .ref q1, .null, .null, .null, .null, .null])) :: ([] ++ [(q1, .inl (czT E 0, 7, .inl (fun _ => 0)))]))) rfl ?_
  refine Cz_aload_n X (j := 0) rfl rfl dX2_init_12 rfl ?_
  refine Cz_bipush X (v := 7) (by decide) dX2_init_13 rfl ?_
  refine Cz_newi X (N := 7) rfl (by decide) ac_i (Nat.le_of_ble_eq_true rfl) (Nat.le_of_ble_eq_true rfl) dX2_init_15 rfl (fun q2 => ?_)
  refine Cz_put X hI (q0 := 0) (j := 2) kc2 rfl (Nat.le_of_ble_eq_true rfl) (Nat.le_of_ble_eq_true rfl) rfl lf_X2_15 rfl rfl dX2_init_17 rfl (ws2 := ((h0, .inr (2, [.int 0, .ref q1, .ref q2, .null, .null, .null, .null])) :: (([] ++ [(q1, .inl (czT E 0, 7, .inl (fun _ => 0)))]) ++ [(q2, .inl (czT E 0, 7, .inl (fun _ => 0)))]))) rfl ?_
  refine Cz_aload_n X (j := 0) rfl rfl dX2_init_20 rfl ?_
  refine Cz_bipush X (v := 7) (by decide) dX2_init_21 rfl ?_
  refine Cz_newi X (N := 7) rfl (by decide) ac_i (Nat.le_of_ble_eq_true rfl) (Nat.le_of_ble_eq_true rfl) dX2_init_23 rfl (fun q3 => ?_)
  refine Cz_put X hI (q0 := 0) (j := 3) kc2 rfl (Nat.le_of_ble_eq_true rfl) (Nat.le_of_ble_eq_true rfl) rfl lf_X2_18 rfl rfl dX2_init_25 rfl (ws2 := ((h0, .inr (2, [.int 0, .ref q1, .ref q2, .ref q3, .null, .null, .null])) :: ((([] ++ [(q1, .inl (czT E 0, 7, .inl (fun _ => 0)))]) ++ [(q2, .inl (czT E 0, 7, .inl (fun _ => 0)))]) ++ [(q3, .inl (czT E 0, 7, .inl (fun _ => 0)))]))) rfl ?_
  refine Cz_aload_n X (j := 0) rfl rfl dX2_init_28 rfl ?_
  refine Cz_bipush X (v := 7) (by decide) dX2_init_29 rfl ?_
  refine Cz_newi X (N := 7) rfl (by decide) ac_i (Nat.le_of_ble_eq_true rfl) (Nat.le_of_ble_eq_true rfl) dX2_init_31 rfl (fun q4 => ?_)
  refine Cz_put X hI (q0 := 0) (j := 4) kc2 rfl (Nat.le_of_ble_eq_true rfl) (Nat.le_of_ble_eq_true rfl) rfl lf_X2_21 rfl rfl dX2_init_33 rfl (ws2 := ((h0, .inr (2, [.int 0, .ref q1, .ref q2, .ref q3, .ref q4, .null, .null])) :: (((([] ++ [(q1, .inl (czT E 0, 7, .inl (fun _ => 0)))]) ++ [(q2, .inl (czT E 0, 7, .inl (fun _ => 0)))]) ++ [(q3, .inl (czT E 0, 7, .inl (fun _ => 0)))]) ++ [(q4, .inl (czT E 0, 7, .inl (fun _ => 0)))]))) rfl ?_
  refine Cz_aload_n X (j := 0) rfl rfl dX2_init_36 rfl ?_
  refine Cz_new X (ci := 3) (fs := [.null, .int 0, .null, .null, .int 0, .int 0, .null, .int 0]) kc3 lk_X2_24 ci_s3 ci_n3 (fun j hj => by rcases (show j = 0 ∨ j = 1 ∨ j = 2 ∨ j = 3 ∨ j = 4 ∨ j = 5 ∨ j = 6 ∨ j = 7 by omega) with rfl | rfl | rfl | rfl | rfl | rfl | rfl | rfl <;> rfl) (Nat.le_of_ble_eq_true rfl) (Nat.le_of_ble_eq_true rfl) dX2_init_37 rfl (fun q5 => ?_)
  refine Cz_dup X rfl dX2_init_40 rfl ?_
  refine Cz_callN X (as := []) (st := [.ref q5, .ref h0]) (ws1 := ((h0, .inr (2, [.int 0, .ref q1, .ref q2, .ref q3, .ref q4, .null, .null])) :: (((([] ++ [(q1, .inl (czT E 0, 7, .inl (fun _ => 0)))]) ++ [(q2, .inl (czT E 0, 7, .inl (fun _ => 0)))]) ++ [(q3, .inl (czT E 0, 7, .inl (fun _ => 0)))]) ++ [(q4, .inl (czT E 0, 7, .inl (fun _ => 0)))]))) cm_X3 (by unfold nestL; decide) ci_i3 ci_n3 ci_c3 rfl (by decide) ⟨Nat.le_of_ble_eq_true rfl, Nat.le_of_ble_eq_true rfl⟩ ⟨Nat.le_of_ble_eq_true rfl, Nat.le_of_ble_eq_true rfl⟩ rfl (Nat.le_of_ble_eq_true rfl) dX2_init_41 rfl rfl (fun u5 => ?_)
  refine Cz_put X hI (q0 := 0) (j := 5) kc2 rfl (Nat.le_of_ble_eq_true rfl) (Nat.le_of_ble_eq_true rfl) rfl lf_X2_27 rfl rfl dX2_init_44 rfl (ws2 := ((h0, .inr (2, [.int 0, .ref q1, .ref q2, .ref q3, .ref q4, .ref q5, .null])) :: ((((([] ++ [(q1, .inl (czT E 0, 7, .inl (fun _ => 0)))]) ++ [(q2, .inl (czT E 0, 7, .inl (fun _ => 0)))]) ++ [(q3, .inl (czT E 0, 7, .inl (fun _ => 0)))]) ++ [(q4, .inl (czT E 0, 7, .inl (fun _ => 0)))]) ++ WX3 (czT E) q5 u5))) rfl ?_
  refine Cz_aload_n X (j := 0) rfl rfl dX2_init_47 rfl ?_
  refine Cz_bipush X (v := 6) (by decide) dX2_init_48 rfl ?_
  refine Cz_newi X (N := 6) rfl (by decide) ac_i (Nat.le_of_ble_eq_true rfl) (Nat.le_of_ble_eq_true rfl) dX2_init_50 rfl (fun q6 => ?_)
  refine Cz_put X hI (q0 := 0) (j := 6) kc2 rfl (Nat.le_of_ble_eq_true rfl) (Nat.le_of_ble_eq_true rfl) rfl lf_X2_31 rfl rfl dX2_init_52 rfl (ws2 := ((h0, .inr (2, [.int 0, .ref q1, .ref q2, .ref q3, .ref q4, .ref q5, .ref q6])) :: (((((([] ++ [(q1, .inl (czT E 0, 7, .inl (fun _ => 0)))]) ++ [(q2, .inl (czT E 0, 7, .inl (fun _ => 0)))]) ++ [(q3, .inl (czT E 0, 7, .inl (fun _ => 0)))]) ++ [(q4, .inl (czT E 0, 7, .inl (fun _ => 0)))]) ++ WX3 (czT E) q5 u5) ++ [(q6, .inl (czT E 0, 6, .inl (fun _ => 0)))]))) rfl ?_
  exact Cz_ret X hQ (fun k => ([h0, q1, q2, q3, q4, q5, (u5 1), (u5 2), (u5 3), (u5 4), q6] : List Nat).getD k 0) rfl rfl rfl dX2_init_55
theorem dX6_init_0 : decode cX6_init 0 = .ok (.aload_n 0, 1) := by decide +kernel
theorem dX6_init_1 : decode cX6_init 1 = .ok (.invokespecial 3, 3) := by decide +kernel
theorem dX6_init_4 : decode cX6_init 4 = .ok (.aload_n 0, 1) := by decide +kernel
theorem dX6_init_5 : decode cX6_init 5 = .ok (.iconst 4, 1) := by decide +kernel
theorem dX6_init_6 : decode cX6_init 6 = .ok (.newarray .int, 2) := by decide +kernel
theorem dX6_init_8 : decode cX6_init 8 = .ok (.putfield 9, 3) := by decide +kernel
theorem dX6_init_11 : decode cX6_init 11 = .ok (.aload_n 0, 1) := by decide +kernel
theorem dX6_init_12 : decode cX6_init 12 = .ok (.bipush 6, 2) := by decide +kernel
theorem dX6_init_14 : decode cX6_init 14 = .ok (.anewarray 15, 3) := by decide +kernel
theorem dX6_init_17 : decode cX6_init 17 = .ok (.putfield 17, 3) := by decide +kernel
theorem dX6_init_20 : decode cX6_init 20 = .ok (.aload_n 0, 1) := by decide +kernel
theorem dX6_init_21 : decode cX6_init 21 = .ok (.iconst 4, 1) := by decide +kernel
theorem dX6_init_22 : decode cX6_init 22 = .ok (.newarray .int, 2) := by decide +kernel
theorem dX6_init_24 : decode cX6_init 24 = .ok (.putfield 21, 3) := by decide +kernel
theorem dX6_init_27 : decode cX6_init 27 = .ok (.aload_n 0, 1) := by decide +kernel
theorem dX6_init_28 : decode cX6_init 28 = .ok (.sipush 1024, 3) := by decide +kernel
theorem dX6_init_31 : decode cX6_init 31 = .ok (.newarray .int, 2) := by decide +kernel
theorem dX6_init_33 : decode cX6_init 33 = .ok (.putfield 24, 3) := by decide +kernel
theorem dX6_init_36 : decode cX6_init 36 = .ok (.aload_n 0, 1) := by decide +kernel
theorem dX6_init_37 : decode cX6_init 37 = .ok (.bipush 7, 2) := by decide +kernel
theorem dX6_init_39 : decode cX6_init 39 = .ok (.newarray .int, 2) := by decide +kernel
theorem dX6_init_41 : decode cX6_init 41 = .ok (.putfield 27, 3) := by decide +kernel
theorem dX6_init_44 : decode cX6_init 44 = .ok (.aload_n 0, 1) := by decide +kernel
theorem dX6_init_45 : decode cX6_init 45 = .ok (.aload_n 1, 1) := by decide +kernel
theorem dX6_init_46 : decode cX6_init 46 = .ok (.putfield 30, 3) := by decide +kernel
theorem dX6_init_49 : decode cX6_init 49 = .ok (.iconst 0, 1) := by decide +kernel
theorem dX6_init_50 : decode cX6_init 50 = .ok (.istore_n 2, 1) := by decide +kernel
theorem dX6_init_51 : decode cX6_init 51 = .ok (.iload_n 2, 1) := by decide +kernel
theorem dX6_init_52 : decode cX6_init 52 = .ok (.iconst 5, 1) := by decide +kernel
theorem dX6_init_53 : decode cX6_init 53 = .ok (.if_icmp .gt 22, 3) := by decide +kernel
theorem dX6_init_56 : decode cX6_init 56 = .ok (.aload_n 0, 1) := by decide +kernel
theorem dX6_init_57 : decode cX6_init 57 = .ok (.getfield 17, 3) := by decide +kernel
theorem dX6_init_60 : decode cX6_init 60 = .ok (.iload_n 2, 1) := by decide +kernel
theorem dX6_init_61 : decode cX6_init 61 = .ok (.new 15, 3) := by decide +kernel
theorem dX6_init_64 : decode cX6_init 64 = .ok (.dup, 1) := by decide +kernel
theorem dX6_init_65 : decode cX6_init 65 = .ok (.invokespecial 34, 3) := by decide +kernel
theorem dX6_init_68 : decode cX6_init 68 = .ok (.aastore, 1) := by decide +kernel
theorem dX6_init_69 : decode cX6_init 69 = .ok (.iinc 2 1, 3) := by decide +kernel
theorem dX6_init_72 : decode cX6_init 72 = .ok (.goto (-21), 3) := by decide +kernel
theorem dX6_init_75 : decode cX6_init 75 = .ok (.return_, 1) := by decide +kernel
abbrev RR6 : Room := { frames := 2, cells := 23, slots := 1153, locals := 80 }
set_option maxHeartbeats 4000000 in
set_option maxRecDepth 100000 in
theorem cm_X6 (hh : Nat) : CM RR6 yX6_init cX6_init 3 [.ref hh] 6 [.int 0, .int 0, .null, .int 0, .null, .null, .null, .int 0, .null, .null] (WX6 hh) := by
  refine CM.intro (by decide) rfl (fun _ => Nat.le_of_ble_eq_true rfl) (fun E h0 X hI hQ => ?_)
  show Cz RR6 E 3 0 [(0, .ref h0), (1, .ref hh)] [] [(h0, .inr (6, [.int 0, .int 0, .null, .int 0, .null, .null, .null, .int 0, .null, .null]))] 0 0
  refine Cz_aload_n X (j := 0) rfl rfl dX6_init_0 rfl ?_
  refine Cz_obj X li_X6_3 oi_i oi_c (Nat.le_of_ble_eq_true rfl) (Nat.le_of_ble_eq_true rfl) (Nat.le_of_ble_eq_true rfl) dX6_init_1 rfl ?_
  refine Cz_aload_n X (j := 0) rfl rfl dX6_init_4 rfl ?_
  refine Cz_iconst X (v := 4) (by decide) dX6_init_5 rfl ?_
  refine Cz_newi X (N := 4) rfl (by decide) ac_i (Nat.le_of_ble_eq_true rfl) (Nat.le_of_ble_eq_true rfl) dX6_init_6 rfl (fun q1 => ?_)
  refine Cz_put X hI (q0 := 0) (j := 2) kc6 rfl (Nat.le_of_ble_eq_true rfl) (Nat.le_of_ble_eq_true rfl) rfl lf_X6_9 rfl rfl dX6_init_8 rfl (ws2 := ((h0, .inr (6, [.int 0, .int 0, .ref q1, .int 0, .null, .null, .null, .int 0, .null, .null])) :: ([] ++ [(q1, .inl (czT E 0, 4, .inl (fun _ => 0)))]))) rfl ?_
  refine Cz_aload_n X (j := 0) rfl rfl dX6_init_11 rfl ?_
  refine Cz_bipush X (v := 6) (by decide) dX6_init_12 rfl ?_
  refine Cz_newq X (C := RX5) (t := 2) (N := 6) rfl (by decide) (fun _ => rfl) (fun _ h => h.2.1) lk_X6_15 (Nat.le_of_ble_eq_true rfl) (Nat.le_of_ble_eq_true rfl) dX6_init_14 rfl (fun q2 => ?_)
  refine Cz_put X hI (q0 := 0) (j := 5) kc6 rfl (Nat.le_of_ble_eq_true rfl) (Nat.le_of_ble_eq_true rfl) rfl lf_X6_17 rfl rfl dX6_init_17 rfl (ws2 := ((h0, .inr (6, [.int 0, .int 0, .ref q1, .int 0, .null, .ref q2, .null, .int 0, .null, .null])) :: (([] ++ [(q1, .inl (czT E 0, 4, .inl (fun _ => 0)))]) ++ [(q2, .inl (czT E 2, 6, .inr (.inr (.inr (.inr (fun _ => none))))))]))) rfl ?_
  refine Cz_aload_n X (j := 0) rfl rfl dX6_init_20 rfl ?_
  refine Cz_iconst X (v := 4) (by decide) dX6_init_21 rfl ?_
  refine Cz_newi X (N := 4) rfl (by decide) ac_i (Nat.le_of_ble_eq_true rfl) (Nat.le_of_ble_eq_true rfl) dX6_init_22 rfl (fun q3 => ?_)
  refine Cz_put X hI (q0 := 0) (j := 6) kc6 rfl (Nat.le_of_ble_eq_true rfl) (Nat.le_of_ble_eq_true rfl) rfl lf_X6_21 rfl rfl dX6_init_24 rfl (ws2 := ((h0, .inr (6, [.int 0, .int 0, .ref q1, .int 0, .null, .ref q2, .ref q3, .int 0, .null, .null])) :: ((([] ++ [(q1, .inl (czT E 0, 4, .inl (fun _ => 0)))]) ++ [(q2, .inl (czT E 2, 6, .inr (.inr (.inr (.inr (fun _ => none))))))]) ++ [(q3, .inl (czT E 0, 4, .inl (fun _ => 0)))]))) rfl ?_
  refine Cz_aload_n X (j := 0) rfl rfl dX6_init_27 rfl ?_
  refine Cz_sipush X (v := 1024) (by decide) dX6_init_28 rfl ?_
  refine Cz_newi X (N := 1024) rfl (by decide) ac_i (Nat.le_of_ble_eq_true rfl) (Nat.le_of_ble_eq_true rfl) dX6_init_31 rfl (fun q4 => ?_)
  refine Cz_put X hI (q0 := 0) (j := 8) kc6 rfl (Nat.le_of_ble_eq_true rfl) (Nat.le_of_ble_eq_true rfl) rfl lf_X6_24 rfl rfl dX6_init_33 rfl (ws2 := ((h0, .inr (6, [.int 0, .int 0, .ref q1, .int 0, .null, .ref q2, .ref q3, .int 0, .ref q4, .null])) :: (((([] ++ [(q1, .inl (czT E 0, 4, .inl (fun _ => 0)))]) ++ [(q2, .inl (czT E 2, 6, .inr (.inr (.inr (.inr (fun _ => none))))))]) ++ [(q3, .inl (czT E 0, 4, .inl (fun _ => 0)))]) ++ [(q4, .inl (czT E 0, 1024, .inl (fun _ => 0)))]))) rfl ?_
  refine Cz_aload_n X (j := 0) rfl rfl dX6_init_36 rfl ?_
  refine Cz_bipush X (v := 7) (by decide) dX6_init_37 rfl ?_
  refine Cz_newi X (N := 7) rfl (by decide) ac_i (Nat.le_of_ble_eq_true rfl) (Nat.le_of_ble_eq_true rfl) dX6_init_39 rfl (fun q5 => ?_)
  refine Cz_put X hI (q0 := 0) (j := 9) kc6 rfl (Nat.le_of_ble_eq_true rfl) (Nat.le_of_ble_eq_true rfl) rfl lf_X6_27 rfl rfl dX6_init_41 rfl (ws2 := ((h0, .inr (6, [.int 0, .int 0, .ref q1, .int 0, .null, .ref q2, .ref q3, .int 0, .ref q4, .ref q5])) :: ((((([] ++ [(q1, .inl (czT E 0, 4, .inl (fun _ => 0)))]) ++ [(q2, .inl (czT E 2, 6, .inr (.inr (.inr (.inr (fun _ => none))))))]) ++ [(q3, .inl (czT E 0, 4, .inl (fun _ => 0)))]) ++ [(q4, .inl (czT E 0, 1024, .inl (fun _ => 0)))]) ++ [(q5, .inl (czT E 0, 7, .inl (fun _ => 0)))]))) rfl ?_
  refine Cz_aload_n X (j := 0) rfl rfl dX6_init_44 rfl ?_
  refine Cz_aload_n X (j := 1) rfl rfl dX6_init_45 rfl ?_
  refine Cz_put X hI (q0 := 0) (j := 4) kc6 rfl (Nat.le_of_ble_eq_true rfl) (Nat.le_of_ble_eq_true rfl) rfl lf_X6_30 rfl rfl dX6_init_46 rfl (ws2 := ((h0, .inr (6, [.int 0, .int 0, .ref q1, .int 0, .ref hh, .ref q2, .ref q3, .int 0, .ref q4, .ref q5])) :: ((((([] ++ [(q1, .inl (czT E 0, 4, .inl (fun _ => 0)))]) ++ [(q2, .inl (czT E 2, 6, .inr (.inr (.inr (.inr (fun _ => none))))))]) ++ [(q3, .inl (czT E 0, 4, .inl (fun _ => 0)))]) ++ [(q4, .inl (czT E 0, 1024, .inl (fun _ => 0)))]) ++ [(q5, .inl (czT E 0, 7, .inl (fun _ => 0)))]))) rfl ?_
  refine Cz_iconst X (v := 0) (by decide) dX6_init_49 rfl ?_
  refine Cz_istore_n X (i := 2) rfl (Nat.le_of_ble_eq_true rfl) (ls2 := [(2, .int 0), (0, .ref h0), (1, .ref hh)]) rfl dX6_init_50 rfl ?_
  refine Cz_iload_n X (j := 0) rfl rfl dX6_init_51 rfl ?_
  refine Cz_iconst X (v := 5) (by decide) dX6_init_52 rfl ?_
  refine Cz_gtF X (tgt := 75) (by decide) dX6_init_53 rfl rfl ?_
  refine Cz_aload_n X (j := 1) rfl rfl dX6_init_56 rfl ?_
  refine Cz_get X (q0 := 0) (j := 5) kc6 rfl (Nat.le_of_ble_eq_true rfl) lf_X6_17 rfl dX6_init_57 rfl ?_
  refine Cz_iload_n X (j := 0) rfl rfl dX6_init_60 rfl ?_
  refine Cz_new X (ci := 5) (fs := [.null, .null, .int 0, .int 0]) kc5 lk_X6_15 ci_s5 ci_n5 (fun j hj => by rcases (show j = 0 ∨ j = 1 ∨ j = 2 ∨ j = 3 by omega) with rfl | rfl | rfl | rfl <;> rfl) (Nat.le_of_ble_eq_true rfl) (Nat.le_of_ble_eq_true rfl) dX6_init_61 rfl (fun q6 => ?_)
  refine Cz_dup X rfl dX6_init_64 rfl ?_
  refine Cz_callN X (as := []) (st := [.ref q6, .int 0, .ref q2]) (ws1 := ((h0, .inr (6, [.int 0, .int 0, .ref q1, .int 0, .ref hh, .ref q2, .ref q3, .int 0, .ref q4, .ref q5])) :: ((((([] ++ [(q1, .inl (czT E 0, 4, .inl (fun _ => 0)))]) ++ [(q2, .inl (czT E 2, 6, .inr (.inr (.inr (.inr (fun _ => none))))))]) ++ [(q3, .inl (czT E 0, 4, .inl (fun _ => 0)))]) ++ [(q4, .inl (czT E 0, 1024, .inl (fun _ => 0)))]) ++ [(q5, .inl (czT E 0, 7, .inl (fun _ => 0)))]))) cm_X5 (by unfold nestL; decide) ci_i5 ci_n5 ci_c5 rfl (by decide) ⟨Nat.le_of_ble_eq_true rfl, Nat.le_of_ble_eq_true rfl⟩ ⟨Nat.le_of_ble_eq_true rfl, Nat.le_of_ble_eq_true rfl⟩ rfl (Nat.le_of_ble_eq_true rfl) dX6_init_65 rfl rfl (fun u6 => ?_)
  refine Cz_aastore X (C := RX5) (t := 2) (q0 := 2) (qk := 6) (ci := 5) rfl (fun _ => rfl) rfl rfl (vin (a := 0) (by decide)) dX6_init_68 rfl (ws2 := ((h0, .inr (6, [.int 0, .int 0, .ref q1, .int 0, .ref hh, .ref q2, .ref q3, .int 0, .ref q4, .ref q5])) :: (((((([] ++ [(q1, .inl (czT E 0, 4, .inl (fun _ => 0)))]) ++ [(q2, .inl (czT E 2, 6, .inr (.inr (.inr (.inr (va_up (fun _ => none) (0 : Int32).toNatClampNeg (some q6)))))))]) ++ [(q3, .inl (czT E 0, 4, .inl (fun _ => 0)))]) ++ [(q4, .inl (czT E 0, 1024, .inl (fun _ => 0)))]) ++ [(q5, .inl (czT E 0, 7, .inl (fun _ => 0)))]) ++ WX5 (czT E) q6 u6))) rfl ?_
  refine Cz_iinc X (i := 2) (j := 0) (v := 1) rfl (by decide) (Nat.le_of_ble_eq_true rfl) (ls2 := [(2, .int 1), (0, .ref h0), (1, .ref hh)]) rfl dX6_init_69 rfl ?_
  refine Cz_goto X (tgt := 51) dX6_init_72 rfl ?_
  refine Cz_iload_n X (j := 0) rfl rfl dX6_init_51 rfl ?_
  refine Cz_iconst X (v := 5) (by decide) dX6_init_52 rfl ?_
  refine Cz_gtF X (tgt := 75) (by decide) dX6_init_53 rfl rfl ?_
  refine Cz_aload_n X (j := 1) rfl rfl dX6_init_56 rfl ?_
  refine Cz_get X (q0 := 0) (j := 5) kc6 rfl (Nat.le_of_ble_eq_true rfl) lf_X6_17 rfl dX6_init_57 rfl ?_
  refine Cz_iload_n X (j := 0) rfl rfl dX6_init_60 rfl ?_
  refine Cz_new X (ci := 5) (fs := [.null, .null, .int 0, .int 0]) kc5 lk_X6_15 ci_s5 ci_n5 (fun j hj => by rcases (show j = 0 ∨ j = 1 ∨ j = 2 ∨ j = 3 by omega) with rfl | rfl | rfl | rfl <;> rfl) (Nat.le_of_ble_eq_true rfl) (Nat.le_of_ble_eq_true rfl) dX6_init_61 rfl (fun q7 => ?_)
  refine Cz_dup X rfl dX6_init_64 rfl ?_
  refine Cz_callN X (as := []) (st := [.ref q7, .int 1, .ref q2]) (ws1 := ((h0, .inr (6, [.int 0, .int 0, .ref q1, .int 0, .ref hh, .ref q2, .ref q3, .int 0, .ref q4, .ref q5])) :: (((((([] ++ [(q1, .inl (czT E 0, 4, .inl (fun _ => 0)))]) ++ [(q2, .inl (czT E 2, 6, .inr (.inr (.inr (.inr (va_up (fun _ => none) (0 : Int32).toNatClampNeg (some q6)))))))]) ++ [(q3, .inl (czT E 0, 4, .inl (fun _ => 0)))]) ++ [(q4, .inl (czT E 0, 1024, .inl (fun _ => 0)))]) ++ [(q5, .inl (czT E 0, 7, .inl (fun _ => 0)))]) ++ WX5 (czT E) q6 u6))) cm_X5 (by unfold nestL; decide) ci_i5 ci_n5 ci_c5 rfl (by decide) ⟨Nat.le_of_ble_eq_true rfl, Nat.le_of_ble_eq_true rfl⟩ ⟨Nat.le_of_ble_eq_true rfl, Nat.le_of_ble_eq_true rfl⟩ rfl (Nat.le_of_ble_eq_true rfl) dX6_init_65 rfl rfl (fun u7 => ?_)
  refine Cz_aastore X (C := RX5) (t := 2) (q0 := 2) (qk := 9) (ci := 5) rfl (fun _ => rfl) rfl rfl (vin (a := 1) (by decide)) dX6_init_68 rfl (ws2 := ((h0, .inr (6, [.int 0, .int 0, .ref q1, .int 0, .ref hh, .ref q2, .ref q3, .int 0, .ref q4, .ref q5])) :: ((((((([] ++ [(q1, .inl (czT E 0, 4, .inl (fun _ => 0)))]) ++ [(q2, .inl (czT E 2, 6, .inr (.inr (.inr (.inr (va_up (va_up (fun _ => none) (0 : Int32).toNatClampNeg (some q6)) (1 : Int32).toNatClampNeg (some q7)))))))]) ++ [(q3, .inl (czT E 0, 4, .inl (fun _ => 0)))]) ++ [(q4, .inl (czT E 0, 1024, .inl (fun _ => 0)))]) ++ [(q5, .inl (czT E 0, 7, .inl (fun _ => 0)))]) ++ WX5 (czT E) q6 u6) ++ WX5 (czT E) q7 u7))) rfl ?_
  refine Cz_iinc X (i := 2) (j := 0) (v := 2) rfl (by decide) (Nat.le_of_ble_eq_true rfl) (ls2 := [(2, .int 2), (0, .ref h0), (1, .ref hh)]) rfl dX6_init_69 rfl ?_
  refine Cz_goto X (tgt := 51) dX6_init_72 rfl ?_
  refine Cz_iload_n X (j := 0) rfl rfl dX6_init_51 rfl ?_
  refine Cz_iconst X (v := 5) (by decide) dX6_init_52 rfl ?_
  refine Cz_gtF X (tgt := 75) (by decide) dX6_init_53 rfl rfl ?_
  refine Cz_aload_n X (j := 1) rfl rfl dX6_init_56 rfl ?_
  refine Cz_get X (q0 := 0) (j := 5) kc6 rfl (Nat.le_of_ble_eq_true rfl) lf_X6_17 rfl dX6_init_57 rfl ?_
  refine Cz_iload_n X (j := 0) rfl rfl dX6_init_60 rfl ?_
  refine Cz_new X (ci := 5) (fs := [.null, .null, .int 0, .int 0]) kc5 lk_X6_15 ci_s5 ci_n5 (fun j hj => by rcases (show j = 0 ∨ j = 1 ∨ j = 2 ∨ j = 3 by omega) with rfl | rfl | rfl | rfl <;> rfl) (Nat.le_of_ble_eq_true rfl) (Nat.le_of_ble_eq_true rfl) dX6_init_61 rfl (fun q8 => ?_)
  refine Cz_dup X rfl dX6_init_64 rfl ?_
  refine Cz_callN X (as := []) (st := [.ref q8, .int 2, .ref q2]) (ws1 := ((h0, .inr (6, [.int 0, .int 0, .ref q1, .int 0, .ref hh, .ref q2, .ref q3, .int 0, .ref q4, .ref q5])) :: ((((((([] ++ [(q1, .inl (czT E 0, 4, .inl (fun _ => 0)))]) ++ [(q2, .inl (czT E 2, 6, .inr (.inr (.inr (.inr (va_up (va_up (fun _ => none) (0 : Int32).toNatClampNeg (some q6)) (1 : Int32).toNatClampNeg (some q7)))))))]) ++ [(q3, .inl (czT E 0, 4, .inl (fun _ => 0)))]) ++ [(q4, .inl (czT E 0, 1024, .inl (fun _ => 0)))]) ++ [(q5, .inl (czT E 0, 7, .inl (fun _ => 0)))]) ++ WX5 (czT E) q6 u6) ++ WX5 (czT E) q7 u7))) cm_X5 (by unfold nestL; decide) ci_i5 ci_n5 ci_c5 rfl (by decide) ⟨Nat.le_of_ble_eq_true rfl, Nat.le_of_ble_eq_true rfl⟩ ⟨Nat.le_of_ble_eq_true rfl, Nat.le_of_ble_eq_true rfl⟩ rfl (Nat.le_of_ble_eq_true rfl) dX6_init_65 rfl rfl (fun u8 => ?_)
  refine Cz_aastore X (C := RX5) (t := 2) (q0 := 2) (qk := 12) (ci := 5) rfl (fun _ => rfl) rfl rfl (vin (a := 2) (by decide)) dX6_init_68 rfl (ws2 := ((h0, .inr (6, [.int 0, .int 0, .ref q1, .int 0, .ref hh, .ref q2, .ref q3, .int 0, .ref q4, .ref q5])) :: (((((((([] ++ [(q1, .inl (czT E 0, 4, .inl (fun _ => 0)))]) ++ [(q2, .inl (czT E 2, 6, .inr (.inr (.inr (.inr (va_up (va_up (va_up (fun _ => none) (0 : Int32).toNatClampNeg (some q6)) (1 : Int32).toNatClampNeg (some q7)) (2 : Int32).toNatClampNeg (some q8)))))))]) ++ [(q3, .inl (czT E 0, 4, .inl (fun _ => 0)))]) ++ [(q4, .inl (czT E 0, 1024, .inl (fun _ => 0)))]) ++ [(q5, .inl (czT E 0, 7, .inl (fun _ => 0)))]) ++ WX5 (czT E) q6 u6) ++ WX5 (czT E) q7 u7) ++ WX5 (czT E) q8 u8))) rfl ?_
  refine Cz_iinc X (i := 2) (j := 0) (v := 3) rfl (by decide) (Nat.le_of_ble_eq_true rfl) (ls2 := [(2, .int 3), (0, .ref h0), (1, .ref hh)]) rfl dX6_init_69 rfl ?_
  refine Cz_goto X (tgt := 51) dX6_init_72 rfl ?_
  refine Cz_iload_n X (j := 0) rfl rfl dX6_init_51 rfl ?_
  refine Cz_iconst X (v := 5) (by decide) dX6_init_52 rfl ?_
  refine Cz_gtF X (tgt := 75) (by decide) dX6_init_53 rfl rfl ?_
  refine Cz_aload_n X (j := 1) rfl rfl dX6_init_56 rfl ?_
  refine Cz_get X (q0 := 0) (j := 5) kc6 rfl (Nat.le_of_ble_eq_true rfl) lf_X6_17 rfl dX6_init_57 rfl ?_
  refine Cz_iload_n X (j := 0) rfl rfl dX6_init_60 rfl ?_
  refine Cz_new X (ci := 5) (fs := [.null, .null, .int 0, .int 0]) kc5 lk_X6_15 ci_s5 ci_n5 (fun j hj => by rcases (show j = 0 ∨ j = 1 ∨ j = 2 ∨ j = 3 by omega) with rfl | rfl | rfl | rfl <;> rfl) (Nat.le_of_ble_eq_true rfl) (Nat.le_of_ble_eq_true rfl) dX6_init_61 rfl (fun q9 => ?_)
  refine Cz_dup X rfl dX6_init_64 rfl ?_
  refine Cz_callN X (as := []) (st := [.ref q9, .int 3, .ref q2]) (ws1 := ((h0, .inr (6, [.int 0, .int 0, .ref q1, .int 0, .ref hh, .ref q2, .ref q3, .int 0, .ref q4, .ref q5])) :: (((((((([] ++ [(q1, .inl (czT E 0, 4, .inl (fun _ => 0)))]) ++ [(q2, .inl (czT E 2, 6, .inr (.inr (.inr (.inr (va_up (va_up (va_up (fun _ => none) (0 : Int32).toNatClampNeg (some q6)) (1 : Int32).toNatClampNeg (some q7)) (2 : Int32).toNatClampNeg (some q8)))))))]) ++ [(q3, .inl (czT E 0, 4, .inl (fun _ => 0)))]) ++ [(q4, .inl (czT E 0, 1024, .inl (fun _ => 0)))]) ++ [(q5, .inl (czT E 0, 7, .inl (fun _ => 0)))]) ++ WX5 (czT E) q6 u6) ++ WX5 (czT E) q7 u7) ++ WX5 (czT E) q8 u8))) cm_X5 (by unfold nestL; decide) ci_i5 ci_n5 ci_c5 rfl (by decide) ⟨Nat.le_of_ble_eq_true rfl, Nat.le_of_ble_eq_true rfl⟩ ⟨Nat.le_of_ble_eq_true rfl, Nat.le_of_ble_eq_true rfl⟩ rfl (Nat.le_of_ble_eq_true rfl) dX6_init_65 rfl rfl (fun u9 => ?_)
  refine Cz_aastore X (C := RX5) (t := 2) (q0 := 2) (qk := 15) (ci := 5) rfl (fun _ => rfl) rfl rfl (vin (a := 3) (by decide)) dX6_init_68 rfl (ws2 := ((h0, .inr (6, [.int 0, .int 0, .ref q1, .int 0, .ref hh, .ref q2, .ref q3, .int 0, .ref q4, .ref q5])) :: ((((((((([] ++ [(q1, .inl (czT E 0, 4, .inl (fun _ => 0)))]) ++ [(q2, .inl (czT E 2, 6, .inr (.inr (.inr (.inr (va_up (va_up (va_up (va_up (fun _ => none) (0 : Int32).toNatClampNeg (some q6)) (1 : Int32).toNatClampNeg (some q7)) (2 : Int32).toNatClampNeg (some q8)) (3 : Int32).toNatClampNeg (some q9)))))))]) ++ [(q3, .inl (czT E 0, 4, .inl (fun _ => 0)))]) ++ [(q4, .inl (czT E 0, 1024, .inl (fun _ => 0)))]) ++ [(q5, .inl (czT E 0, 7, .inl (fun _ => 0)))]) ++ WX5 (czT E) q6 u6) ++ WX5 (czT E) q7 u7) ++ WX5 (czT E) q8 u8) ++ WX5 (czT E) q9 u9))) rfl ?_
  refine Cz_iinc X (i := 2) (j := 0) (v := 4) rfl (by decide) (Nat.le_of_ble_eq_true rfl) (ls2 := [(2, .int 4), (0, .ref h0), (1, .ref hh)]) rfl dX6_init_69 rfl ?_
  refine Cz_goto X (tgt := 51) dX6_init_72 rfl ?_
  refine Cz_iload_n X (j := 0) rfl rfl dX6_init_51 rfl ?_
  refine Cz_iconst X (v := 5) (by decide) dX6_init_52 rfl ?_
  refine Cz_gtF X (tgt := 75) (by decide) dX6_init_53 rfl rfl ?_
  refine Cz_aload_n X (j := 1) rfl rfl dX6_init_56 rfl ?_
  refine Cz_get X (q0 := 0) (j := 5) kc6 rfl (Nat.le_of_ble_eq_true rfl) lf_X6_17 rfl dX6_init_57 rfl ?_
  refine Cz_iload_n X (j := 0) rfl rfl dX6_init_60 rfl ?_
  refine Cz_new X (ci := 5) (fs := [.null, .null, .int 0, .int 0]) kc5 lk_X6_15 ci_s5 ci_n5 (fun j hj => by rcases (show j = 0 ∨ j = 1 ∨ j = 2 ∨ j = 3 by omega) with rfl | rfl | rfl | rfl <;> rfl) (Nat.le_of_ble_eq_true rfl) (Nat.le_of_ble_eq_true rfl) dX6_init_61 rfl (fun q10 => ?_)
  refine Cz_dup X rfl dX6_init_64 rfl ?_
  refine Cz_callN X (as := []) (st := [.ref q10, .int 4, .ref q2]) (ws1 := ((h0, .inr (6, [.int 0, .int 0, .ref q1, .int 0, .ref hh, .ref q2, .ref q3, .int 0, .ref q4, .ref q5])) :: ((((((((([] ++ [(q1, .inl (czT E 0, 4, .inl (fun _ => 0)))]) ++ [(q2, .inl (czT E 2, 6, .inr (.inr (.inr (.inr (va_up (va_up (va_up (va_up (fun _ => none) (0 : Int32).toNatClampNeg (some q6)) (1 : Int32).toNatClampNeg (some q7)) (2 : Int32).toNatClampNeg (some q8)) (3 : Int32).toNatClampNeg (some q9)))))))]) ++ [(q3, .inl (czT E 0, 4, .inl (fun _ => 0)))]) ++ [(q4, .inl (czT E 0, 1024, .inl (fun _ => 0)))]) ++ [(q5, .inl (czT E 0, 7, .inl (fun _ => 0)))]) ++ WX5 (czT E) q6 u6) ++ WX5 (czT E) q7 u7) ++ WX5 (czT E) q8 u8) ++ WX5 (czT E) q9 u9))) cm_X5 (by unfold nestL; decide) ci_i5 ci_n5 ci_c5 rfl (by decide) ⟨Nat.le_of_ble_eq_true rfl, Nat.le_of_ble_eq_true rfl⟩ ⟨Nat.le_of_ble_eq_true rfl, Nat.le_of_ble_eq_true rfl⟩ rfl (Nat.le_of_ble_eq_true rfl) dX6_init_65 rfl rfl (fun u10 => ?_)
  refine Cz_aastore X (C := RX5) (t := 2) (q0 := 2) (qk := 18) (ci := 5) rfl (fun _ => rfl) rfl rfl (vin (a := 4) (by decide)) dX6_init_68 rfl (ws2 := ((h0, .inr (6, [.int 0, .int 0, .ref q1, .int 0, .ref hh, .ref q2, .ref q3, .int 0, .ref q4, .ref q5])) :: (((((((((([] ++ [(q1, .inl (czT E 0, 4, .inl (fun _ => 0)))]) ++ [(q2, .inl (czT E 2, 6, .inr (.inr (.inr (.inr (va_up (va_up (va_up (va_up (va_up (fun _ => none) (0 : Int32).toNatClampNeg (some q6)) (1 : Int32).toNatClampNeg (some q7)) (2 : Int32).toNatClampNeg (some q8)) (3 : Int32).toNatClampNeg (some q9)) (4 : Int32).toNatClampNeg (some q10)))))))]) ++ [(q3, .inl (czT E 0, 4, .inl (fun _ => 0)))]) ++ [(q4, .inl (czT E 0, 1024, .inl (fun _ => 0)))]) ++ [(q5, .inl (czT E 0, 7, .inl (fun _ => 0)))]) ++ WX5 (czT E) q6 u6) ++ WX5 (czT E) q7 u7) ++ WX5 (czT E) q8 u8) ++ WX5 (czT E) q9 u9) ++ WX5 (czT E) q10 u10))) rfl ?_
  refine Cz_iinc X (i := 2) (j := 0) (v := 5) rfl (by decide) (Nat.le_of_ble_eq_true rfl) (ls2 := [(2, .int 5), (0, .ref h0), (1, .ref hh)]) rfl dX6_init_69 rfl ?_
  refine Cz_goto X (tgt := 51) dX6_init_72 rfl ?_
  refine Cz_iload_n X (j := 0) rfl rfl dX6_init_51 rfl ?_
  refine Cz_iconst X (v := 5) (by decide) dX6_init_52 rfl ?_
  refine Cz_gtF X (tgt := 75) (by decide) dX6_init_53 rfl rfl ?_
  refine Cz_aload_n X (j := 1) rfl rfl dX6_init_56 rfl ?_
  refine Cz_get X (q0 := 0) (j := 5) kc6 rfl (Nat.le_of_ble_eq_true rfl) lf_X6_17 rfl dX6_init_57 rfl ?_
  refine Cz_iload_n X (j := 0) rfl rfl dX6_init_60 rfl ?_
  refine Cz_new X (ci := 5) (fs := [.null, .null, .int 0, .int 0]) kc5 lk_X6_15 ci_s5 ci_n5 (fun j hj => by rcases (show j = 0 ∨ j = 1 ∨ j = 2 ∨ j = 3 by omega) with rfl | rfl | rfl | rfl <;> rfl) (Nat.le_of_ble_eq_true rfl) (Nat.le_of_ble_eq_true rfl) dX6_init_61 rfl (fun q11 => ?_)
  refine Cz_dup X rfl dX6_init_64 rfl ?_
  refine Cz_callN X (as := []) (st := [.ref q11, .int 5, .ref q2]) (ws1 := ((h0, .inr (6, [.int 0, .int 0, .ref q1, .int 0, .ref hh, .ref q2, .ref q3, .int 0, .ref q4, .ref q5])) :: (((((((((([] ++ [(q1, .inl (czT E 0, 4, .inl (fun _ => 0)))]) ++ [(q2, .inl (czT E 2, 6, .inr (.inr (.inr (.inr (va_up (va_up (va_up (va_up (va_up (fun _ => none) (0 : Int32).toNatClampNeg (some q6)) (1 : Int32).toNatClampNeg (some q7)) (2 : Int32).toNatClampNeg (some q8)) (3 : Int32).toNatClampNeg (some q9)) (4 : Int32).toNatClampNeg (some q10)))))))]) ++ [(q3, .inl (czT E 0, 4, .inl (fun _ => 0)))]) ++ [(q4, .inl (czT E 0, 1024, .inl (fun _ => 0)))]) ++ [(q5, .inl (czT E 0, 7, .inl (fun _ => 0)))]) ++ WX5 (czT E) q6 u6) ++ WX5 (czT E) q7 u7) ++ WX5 (czT E) q8 u8) ++ WX5 (czT E) q9 u9) ++ WX5 (czT E) q10 u10))) cm_X5 (by unfold nestL; decide) ci_i5 ci_n5 ci_c5 rfl (by decide) ⟨Nat.le_of_ble_eq_true rfl, Nat.le_of_ble_eq_true rfl⟩ ⟨Nat.le_of_ble_eq_true rfl, Nat.le_of_ble_eq_true rfl⟩ rfl (Nat.le_of_ble_eq_true rfl) dX6_init_65 rfl rfl (fun u11 => ?_)
  refine Cz_aastore X (C := RX5) (t := 2) (q0 := 2) (qk := 21) (ci := 5) rfl (fun _ => rfl) rfl rfl (vin (a := 5) (by decide)) dX6_init_68 rfl (ws2 := ((h0, .inr (6, [.int 0, .int 0, .ref q1, .int 0, .ref hh, .ref q2, .ref q3, .int 0, .ref q4, .ref q5])) :: ((((((((((([] ++ [(q1, .inl (czT E 0, 4, .inl (fun _ => 0)))]) ++ [(q2, .inl (czT E 2, 6, .inr (.inr (.inr (.inr (va_up (va_up (va_up (va_up (va_up (va_up (fun _ => none) (0 : Int32).toNatClampNeg (some q6)) (1 : Int32).toNatClampNeg (some q7)) (2 : Int32).toNatClampNeg (some q8)) (3 : Int32).toNatClampNeg (some q9)) (4 : Int32).toNatClampNeg (some q10)) (5 : Int32).toNatClampNeg (some q11)))))))]) ++ [(q3, .inl (czT E 0, 4, .inl (fun _ => 0)))]) ++ [(q4, .inl (czT E 0, 1024, .inl (fun _ => 0)))]) ++ [(q5, .inl (czT E 0, 7, .inl (fun _ => 0)))]) ++ WX5 (czT E) q6 u6) ++ WX5 (czT E) q7 u7) ++ WX5 (czT E) q8 u8) ++ WX5 (czT E) q9 u9) ++ WX5 (czT E) q10 u10) ++ WX5 (czT E) q11 u11))) rfl ?_
  refine Cz_iinc X (i := 2) (j := 0) (v := 6) rfl (by decide) (Nat.le_of_ble_eq_true rfl) (ls2 := [(2, .int 6), (0, .ref h0), (1, .ref hh)]) rfl dX6_init_69 rfl ?_
  refine Cz_goto X (tgt := 51) dX6_init_72 rfl ?_
  refine Cz_iload_n X (j := 0) rfl rfl dX6_init_51 rfl ?_
  refine Cz_iconst X (v := 5) (by decide) dX6_init_52 rfl ?_
  refine Cz_gtT X (tgt := 75) (by decide) dX6_init_53 rfl ?_
  refine Cz_refs (t := 2) (q0 := 2) (N := 6) rfl (g := fun j => some ((fun k => ([h0, q1, q2, q3, q4, q5, q6, (u6 1), (u6 2), q7, (u7 1), (u7 2), q8, (u8 1), (u8 2), q9, (u9 1), (u9 2), q10, (u10 1), (u10 2), q11, (u11 1), (u11 2)] : List Nat).getD k 0) (6 + 3 * j))) (fun j hj => by rcases (show j = 0 ∨ j = 1 ∨ j = 2 ∨ j = 3 ∨ j = 4 ∨ j = 5 by omega) with rfl | rfl | rfl | rfl | rfl | rfl <;> rfl) (ws2 := ((h0, .inr (6, [.int 0, .int 0, .ref q1, .int 0, .ref hh, .ref q2, .ref q3, .int 0, .ref q4, .ref q5])) :: ((((((((((([] ++ [(q1, .inl (czT E 0, 4, .inl (fun _ => 0)))]) ++ [(q2, .inl (czT E 2, 6, .inr (.inr (.inr (.inr (fun j => some ((fun k => ([h0, q1, q2, q3, q4, q5, q6, (u6 1), (u6 2), q7, (u7 1), (u7 2), q8, (u8 1), (u8 2), q9, (u9 1), (u9 2), q10, (u10 1), (u10 2), q11, (u11 1), (u11 2)] : List Nat).getD k 0) (6 + 3 * j))))))))]) ++ [(q3, .inl (czT E 0, 4, .inl (fun _ => 0)))]) ++ [(q4, .inl (czT E 0, 1024, .inl (fun _ => 0)))]) ++ [(q5, .inl (czT E 0, 7, .inl (fun _ => 0)))]) ++ WX5 (czT E) q6 u6) ++ WX5 (czT E) q7 u7) ++ WX5 (czT E) q8 u8) ++ WX5 (czT E) q9 u9) ++ WX5 (czT E) q10 u10) ++ WX5 (czT E) q11 u11))) rfl ?_
  exact Cz_ret X hQ (fun k => ([h0, q1, q2, q3, q4, q5, q6, (u6 1), (u6 2), q7, (u7 1), (u7 2), q8, (u8 1), (u8 2), q9, (u9 1), (u9 2), q10, (u10 1), (u10 2), q11, (u11 1), (u11 2)] : List Nat).getD k 0) rfl rfl rfl dX6_init_75
