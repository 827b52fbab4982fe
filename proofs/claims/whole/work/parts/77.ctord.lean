/-! constructors: OneLegModel -/
theorem dX8_init_0 : decode cX8_init 0 = .ok (.aload_n 0, 1) := by decide +kernel
theorem dX8_init_1 : decode cX8_init 1 = .ok (.invokespecial 3, 3) := by decide +kernel
theorem dX8_init_4 : decode cX8_init 4 = .ok (.aload_n 0, 1) := by decide +kernel
theorem dX8_init_5 : decode cX8_init 5 = .ok (.bipush 42, 2) := by decide +kernel
theorem dX8_init_7 : decode cX8_init 7 = .ok (.newarray .int, 2) := by decide +kernel
theorem dX8_init_9 : decode cX8_init 9 = .ok (.putfield 9, 3) := by decide +kernel
theorem dX8_init_12 : decode cX8_init 12 = .ok (.aload_n 0, 1) := by decide +kernel
theorem dX8_init_13 : decode cX8_init 13 = .ok (.iconst 2, 1) := by decide +kernel
theorem dX8_init_14 : decode cX8_init 14 = .ok (.newarray .int, 2) := by decide +kernel
theorem dX8_init_16 : decode cX8_init 16 = .ok (.putfield 15, 3) := by decide +kernel
theorem dX8_init_19 : decode cX8_init 19 = .ok (.aload_n 0, 1) := by decide +kernel
theorem dX8_init_20 : decode cX8_init 20 = .ok (.bipush 120, 2) := by decide +kernel
theorem dX8_init_22 : decode cX8_init 22 = .ok (.newarray .int, 2) := by decide +kernel
theorem dX8_init_24 : decode cX8_init 24 = .ok (.putfield 18, 3) := by decide +kernel
theorem dX8_init_27 : decode cX8_init 27 = .ok (.aload_n 0, 1) := by decide +kernel
theorem dX8_init_28 : decode cX8_init 28 = .ok (.bipush 60, 2) := by decide +kernel
theorem dX8_init_30 : decode cX8_init 30 = .ok (.newarray .int, 2) := by decide +kernel
theorem dX8_init_32 : decode cX8_init 32 = .ok (.putfield 21, 3) := by decide +kernel
theorem dX8_init_35 : decode cX8_init 35 = .ok (.aload_n 0, 1) := by decide +kernel
theorem dX8_init_36 : decode cX8_init 36 = .ok (.bipush 60, 2) := by decide +kernel
theorem dX8_init_38 : decode cX8_init 38 = .ok (.newarray .int, 2) := by decide +kernel
theorem dX8_init_40 : decode cX8_init 40 = .ok (.putfield 24, 3) := by decide +kernel
theorem dX8_init_43 : decode cX8_init 43 = .ok (.aload_n 0, 1) := by decide +kernel
theorem dX8_init_44 : decode cX8_init 44 = .ok (.bipush 60, 2) := by decide +kernel
theorem dX8_init_46 : decode cX8_init 46 = .ok (.newarray .int, 2) := by decide +kernel
theorem dX8_init_48 : decode cX8_init 48 = .ok (.putfield 27, 3) := by decide +kernel
theorem dX8_init_51 : decode cX8_init 51 = .ok (.aload_n 0, 1) := by decide +kernel
theorem dX8_init_52 : decode cX8_init 52 = .ok (.sipush 200, 3) := by decide +kernel
theorem dX8_init_55 : decode cX8_init 55 = .ok (.newarray .int, 2) := by decide +kernel
theorem dX8_init_57 : decode cX8_init 57 = .ok (.putfield 30, 3) := by decide +kernel
theorem dX8_init_60 : decode cX8_init 60 = .ok (.aload_n 0, 1) := by decide +kernel
theorem dX8_init_61 : decode cX8_init 61 = .ok (.bipush 61, 2) := by decide +kernel
theorem dX8_init_63 : decode cX8_init 63 = .ok (.newarray .int, 2) := by decide +kernel
theorem dX8_init_65 : decode cX8_init 65 = .ok (.putfield 33, 3) := by decide +kernel
theorem dX8_init_68 : decode cX8_init 68 = .ok (.aload_n 0, 1) := by decide +kernel
theorem dX8_init_69 : decode cX8_init 69 = .ok (.bipush 61, 2) := by decide +kernel
theorem dX8_init_71 : decode cX8_init 71 = .ok (.newarray .int, 2) := by decide +kernel
theorem dX8_init_73 : decode cX8_init 73 = .ok (.putfield 36, 3) := by decide +kernel
theorem dX8_init_76 : decode cX8_init 76 = .ok (.aload_n 0, 1) := by decide +kernel
theorem dX8_init_77 : decode cX8_init 77 = .ok (.bipush 61, 2) := by decide +kernel
theorem dX8_init_79 : decode cX8_init 79 = .ok (.newarray .int, 2) := by decide +kernel
theorem dX8_init_81 : decode cX8_init 81 = .ok (.putfield 39, 3) := by decide +kernel
theorem dX8_init_84 : decode cX8_init 84 = .ok (.aload_n 0, 1) := by decide +kernel
theorem dX8_init_85 : decode cX8_init 85 = .ok (.sipush 200, 3) := by decide +kernel
theorem dX8_init_88 : decode cX8_init 88 = .ok (.newarray .int, 2) := by decide +kernel
theorem dX8_init_90 : decode cX8_init 90 = .ok (.putfield 42, 3) := by decide +kernel
theorem dX8_init_93 : decode cX8_init 93 = .ok (.aload_n 0, 1) := by decide +kernel
theorem dX8_init_94 : decode cX8_init 94 = .ok (.sipush 200, 3) := by decide +kernel
theorem dX8_init_97 : decode cX8_init 97 = .ok (.newarray .int, 2) := by decide +kernel
theorem dX8_init_99 : decode cX8_init 99 = .ok (.putfield 45, 3) := by decide +kernel
theorem dX8_init_102 : decode cX8_init 102 = .ok (.aload_n 0, 1) := by decide +kernel
theorem dX8_init_103 : decode cX8_init 103 = .ok (.bipush 6, 2) := by decide +kernel
theorem dX8_init_105 : decode cX8_init 105 = .ok (.newarray .int, 2) := by decide +kernel
theorem dX8_init_107 : decode cX8_init 107 = .ok (.putfield 48, 3) := by decide +kernel
theorem dX8_init_110 : decode cX8_init 110 = .ok (.aload_n 0, 1) := by decide +kernel
theorem dX8_init_111 : decode cX8_init 111 = .ok (.iconst 5, 1) := by decide +kernel
theorem dX8_init_112 : decode cX8_init 112 = .ok (.newarray .int, 2) := by decide +kernel
theorem dX8_init_114 : decode cX8_init 114 = .ok (.putfield 51, 3) := by decide +kernel
theorem dX8_init_117 : decode cX8_init 117 = .ok (.aload_n 0, 1) := by decide +kernel
theorem dX8_init_118 : decode cX8_init 118 = .ok (.bipush 16, 2) := by decide +kernel
theorem dX8_init_120 : decode cX8_init 120 = .ok (.newarray .int, 2) := by decide +kernel
theorem dX8_init_122 : decode cX8_init 122 = .ok (.putfield 54, 3) := by decide +kernel
theorem dX8_init_125 : decode cX8_init 125 = .ok (.aload_n 0, 1) := by decide +kernel
theorem dX8_init_126 : decode cX8_init 126 = .ok (.iconst 5, 1) := by decide +kernel
theorem dX8_init_127 : decode cX8_init 127 = .ok (.newarray .int, 2) := by decide +kernel
theorem dX8_init_129 : decode cX8_init 129 = .ok (.putfield 57, 3) := by decide +kernel
theorem dX8_init_132 : decode cX8_init 132 = .ok (.aload_n 0, 1) := by decide +kernel
theorem dX8_init_133 : decode cX8_init 133 = .ok (.sipush 160, 3) := by decide +kernel
theorem dX8_init_136 : decode cX8_init 136 = .ok (.newarray .int, 2) := by decide +kernel
theorem dX8_init_138 : decode cX8_init 138 = .ok (.putfield 60, 3) := by decide +kernel
theorem dX8_init_141 : decode cX8_init 141 = .ok (.aload_n 0, 1) := by decide +kernel
theorem dX8_init_142 : decode cX8_init 142 = .ok (.bipush 50, 2) := by decide +kernel
theorem dX8_init_144 : decode cX8_init 144 = .ok (.newarray .int, 2) := by decide +kernel
theorem dX8_init_146 : decode cX8_init 146 = .ok (.putfield 63, 3) := by decide +kernel
theorem dX8_init_149 : decode cX8_init 149 = .ok (.aload_n 0, 1) := by decide +kernel
theorem dX8_init_150 : decode cX8_init 150 = .ok (.bipush 24, 2) := by decide +kernel
theorem dX8_init_152 : decode cX8_init 152 = .ok (.newarray .int, 2) := by decide +kernel
theorem dX8_init_154 : decode cX8_init 154 = .ok (.putfield 66, 3) := by decide +kernel
theorem dX8_init_157 : decode cX8_init 157 = .ok (.aload_n 0, 1) := by decide +kernel
theorem dX8_init_158 : decode cX8_init 158 = .ok (.bipush 6, 2) := by decide +kernel
theorem dX8_init_160 : decode cX8_init 160 = .ok (.newarray .int, 2) := by decide +kernel
theorem dX8_init_162 : decode cX8_init 162 = .ok (.putfield 69, 3) := by decide +kernel
theorem dX8_init_165 : decode cX8_init 165 = .ok (.aload_n 0, 1) := by decide +kernel
theorem dX8_init_166 : decode cX8_init 166 = .ok (.bipush 6, 2) := by decide +kernel
theorem dX8_init_168 : decode cX8_init 168 = .ok (.newarray .int, 2) := by decide +kernel
theorem dX8_init_170 : decode cX8_init 170 = .ok (.putfield 72, 3) := by decide +kernel
theorem dX8_init_173 : decode cX8_init 173 = .ok (.aload_n 0, 1) := by decide +kernel
theorem dX8_init_174 : decode cX8_init 174 = .ok (.sipush 360, 3) := by decide +kernel
theorem dX8_init_177 : decode cX8_init 177 = .ok (.newarray .long, 2) := by decide +kernel
theorem dX8_init_179 : decode cX8_init 179 = .ok (.putfield 75, 3) := by decide +kernel
theorem dX8_init_182 : decode cX8_init 182 = .ok (.aload_n 0, 1) := by decide +kernel
theorem dX8_init_183 : decode cX8_init 183 = .ok (.bipush 16, 2) := by decide +kernel
theorem dX8_init_185 : decode cX8_init 185 = .ok (.newarray .int, 2) := by decide +kernel
theorem dX8_init_187 : decode cX8_init 187 = .ok (.putfield 79, 3) := by decide +kernel
theorem dX8_init_190 : decode cX8_init 190 = .ok (.aload_n 0, 1) := by decide +kernel
theorem dX8_init_191 : decode cX8_init 191 = .ok (.bipush 16, 2) := by decide +kernel
theorem dX8_init_193 : decode cX8_init 193 = .ok (.newarray .int, 2) := by decide +kernel
theorem dX8_init_195 : decode cX8_init 195 = .ok (.putfield 82, 3) := by decide +kernel
theorem dX8_init_198 : decode cX8_init 198 = .ok (.aload_n 0, 1) := by decide +kernel
theorem dX8_init_199 : decode cX8_init 199 = .ok (.bipush 7, 2) := by decide +kernel
theorem dX8_init_201 : decode cX8_init 201 = .ok (.newarray .int, 2) := by decide +kernel
theorem dX8_init_203 : decode cX8_init 203 = .ok (.putfield 85, 3) := by decide +kernel
theorem dX8_init_206 : decode cX8_init 206 = .ok (.aload_n 0, 1) := by decide +kernel
theorem dX8_init_207 : decode cX8_init 207 = .ok (.bipush 7, 2) := by decide +kernel
theorem dX8_init_209 : decode cX8_init 209 = .ok (.newarray .int, 2) := by decide +kernel
theorem dX8_init_211 : decode cX8_init 211 = .ok (.putfield 88, 3) := by decide +kernel
theorem dX8_init_214 : decode cX8_init 214 = .ok (.aload_n 0, 1) := by decide +kernel
theorem dX8_init_215 : decode cX8_init 215 = .ok (.sipush 128, 3) := by decide +kernel
theorem dX8_init_218 : decode cX8_init 218 = .ok (.newarray .int, 2) := by decide +kernel
theorem dX8_init_220 : decode cX8_init 220 = .ok (.putfield 91, 3) := by decide +kernel
theorem dX8_init_223 : decode cX8_init 223 = .ok (.iconst 0, 1) := by decide +kernel
theorem dX8_init_224 : decode cX8_init 224 = .ok (.istore_n 1, 1) := by decide +kernel
theorem dX8_init_225 : decode cX8_init 225 = .ok (.iload_n 1, 1) := by decide +kernel
theorem dX8_init_226 : decode cX8_init 226 = .ok (.bipush 6, 2) := by decide +kernel
theorem dX8_init_228 : decode cX8_init 228 = .ok (.if_icmp .ge 16, 3) := by decide +kernel
theorem dX8_init_231 : decode cX8_init 231 = .ok (.aload_n 0, 1) := by decide +kernel
theorem dX8_init_232 : decode cX8_init 232 = .ok (.getfield 69, 3) := by decide +kernel
theorem dX8_init_235 : decode cX8_init 235 = .ok (.iload_n 1, 1) := by decide +kernel
theorem dX8_init_236 : decode cX8_init 236 = .ok (.iconst (-1), 1) := by decide +kernel
theorem dX8_init_237 : decode cX8_init 237 = .ok (.iastore, 1) := by decide +kernel
theorem dX8_init_238 : decode cX8_init 238 = .ok (.iinc 1 1, 3) := by decide +kernel
theorem dX8_init_241 : decode cX8_init 241 = .ok (.goto (-16), 3) := by decide +kernel
theorem dX8_init_244 : decode cX8_init 244 = .ok (.return_, 1) := by decide +kernel
abbrev RR8 : Room := { frames := 1, cells := 27, slots := 1939, locals := 40 }
set_option maxHeartbeats 4000000 in
set_option maxRecDepth 100000 in
theorem cm_X8 (w : Nat → Nat) : CM RR8 yX8_init cX8_init 2 [] 8 [.int 0, .null, .null, .int 0, .null, .int 0, .int 0, .null, .null, .null, .null, .int 0, .int 0, .int 0, .int 0, .null, .null, .null, .null, .null, .null, .null, .int 0, .int 0, .null, .null, .int 0, .int 0, .null, .int 0, .null, .int 0, .null, .null, .null, .null, .null, .null, .null, .null, .int 0, .int 0, .null] (WX8 w) := by
  refine CM.intro (by decide) rfl (fun _ => Nat.le_of_ble_eq_true rfl) (fun E h0 X hI hQ => ?_)
  show Cz RR8 E 2 0 [(0, .ref h0)] [] [(h0, .inr (8, [.int 0, .null, .null, .int 0, .null, .int 0, .int 0, .null, .null, .null, .null, .int 0, .int 0, .int 0, .int 0, .null, .null, .null, .null, .null, .null, .null, .int 0, .int 0, .null, .null, .int 0, .int 0, .null, .int 0, .null, .int 0, .null, .null, .null, .null, .null, .null, .null, .null, .int 0, .int 0, .null]))] 0 0
  refine Cz_aload_n X (j := 0) rfl rfl dX8_init_0 rfl ?_
  refine Cz_obj X li_X8_3 oi_i oi_c (Nat.le_of_ble_eq_true rfl) (Nat.le_of_ble_eq_true rfl) (Nat.le_of_ble_eq_true rfl) dX8_init_1 rfl ?_
  refine Cz_aload_n X (j := 0) rfl rfl dX8_init_4 rfl ?_
  refine Cz_bipush X (v := 42) (by decide) dX8_init_5 rfl ?_
  refine Cz_newi X (N := 42) rfl (by decide) ac_i (Nat.le_of_ble_eq_true rfl) (Nat.le_of_ble_eq_true rfl) dX8_init_7 rfl (fun q1 => ?_)
  refine Cz_put0 X hI (j := 1) kc8 (Nat.le_of_ble_eq_true rfl) (Nat.le_of_ble_eq_true rfl) rfl lf_X8_9 rfl rfl dX8_init_9 rfl (fs2 := [.int 0, .ref q1, .null, .int 0, .null, .int 0, .int 0, .null, .null, .null, .null, .int 0, .int 0, .int 0, .int 0, .null, .null, .null, .null, .null, .null, .null, .int 0, .int 0, .null, .null, .int 0, .int 0, .null, .int 0, .null, .int 0, .null, .null, .null, .null, .null, .null, .null, .null, .int 0, .int 0, .null]) rfl ?_
  refine Cz_aload_n X (j := 0) rfl rfl dX8_init_12 rfl ?_
  refine Cz_iconst X (v := 2) (by decide) dX8_init_13 rfl ?_
  refine Cz_newi X (N := 2) rfl (by decide) ac_i (Nat.le_of_ble_eq_true rfl) (Nat.le_of_ble_eq_true rfl) dX8_init_14 rfl (fun q2 => ?_)
  refine Cz_put0 X hI (j := 2) kc8 (Nat.le_of_ble_eq_true rfl) (Nat.le_of_ble_eq_true rfl) rfl lf_X8_15 rfl rfl dX8_init_16 rfl (fs2 := [.int 0, .ref q1, .ref q2, .int 0, .null, .int 0, .int 0, .null, .null, .null, .null, .int 0, .int 0, .int 0, .int 0, .null, .null, .null, .null, .null, .null, .null, .int 0, .int 0, .null, .null, .int 0, .int 0, .null, .int 0, .null, .int 0, .null, .null, .null, .null, .null, .null, .null, .null, .int 0, .int 0, .null]) rfl ?_
  refine Cz_aload_n X (j := 0) rfl rfl dX8_init_19 rfl ?_
  refine Cz_bipush X (v := 120) (by decide) dX8_init_20 rfl ?_
  refine Cz_newi X (N := 120) rfl (by decide) ac_i (Nat.le_of_ble_eq_true rfl) (Nat.le_of_ble_eq_true rfl) dX8_init_22 rfl (fun q3 => ?_)
  refine Cz_put0 X hI (j := 4) kc8 (Nat.le_of_ble_eq_true rfl) (Nat.le_of_ble_eq_true rfl) rfl lf_X8_18 rfl rfl dX8_init_24 rfl (fs2 := [.int 0, .ref q1, .ref q2, .int 0, .ref q3, .int 0, .int 0, .null, .null, .null, .null, .int 0, .int 0, .int 0, .int 0, .null, .null, .null, .null, .null, .null, .null, .int 0, .int 0, .null, .null, .int 0, .int 0, .null, .int 0, .null, .int 0, .null, .null, .null, .null, .null, .null, .null, .null, .int 0, .int 0, .null]) rfl ?_
  refine Cz_aload_n X (j := 0) rfl rfl dX8_init_27 rfl ?_
  refine Cz_bipush X (v := 60) (by decide) dX8_init_28 rfl ?_
  refine Cz_newi X (N := 60) rfl (by decide) ac_i (Nat.le_of_ble_eq_true rfl) (Nat.le_of_ble_eq_true rfl) dX8_init_30 rfl (fun q4 => ?_)
  refine Cz_put0 X hI (j := 7) kc8 (Nat.le_of_ble_eq_true rfl) (Nat.le_of_ble_eq_true rfl) rfl lf_X8_21 rfl rfl dX8_init_32 rfl (fs2 := [.int 0, .ref q1, .ref q2, .int 0, .ref q3, .int 0, .int 0, .ref q4, .null, .null, .null, .int 0, .int 0, .int 0, .int 0, .null, .null, .null, .null, .null, .null, .null, .int 0, .int 0, .null, .null, .int 0, .int 0, .null, .int 0, .null, .int 0, .null, .null, .null, .null, .null, .null, .null, .null, .int 0, .int 0, .null]) rfl ?_
  refine Cz_aload_n X (j := 0) rfl rfl dX8_init_35 rfl ?_
  refine Cz_bipush X (v := 60) (by decide) dX8_init_36 rfl ?_
  refine Cz_newi X (N := 60) rfl (by decide) ac_i (Nat.le_of_ble_eq_true rfl) (Nat.le_of_ble_eq_true rfl) dX8_init_38 rfl (fun q5 => ?_)
  refine Cz_put0 X hI (j := 8) kc8 (Nat.le_of_ble_eq_true rfl) (Nat.le_of_ble_eq_true rfl) rfl lf_X8_24 rfl rfl dX8_init_40 rfl (fs2 := [.int 0, .ref q1, .ref q2, .int 0, .ref q3, .int 0, .int 0, .ref q4, .ref q5, .null, .null, .int 0, .int 0, .int 0, .int 0, .null, .null, .null, .null, .null, .null, .null, .int 0, .int 0, .null, .null, .int 0, .int 0, .null, .int 0, .null, .int 0, .null, .null, .null, .null, .null, .null, .null, .null, .int 0, .int 0, .null]) rfl ?_
  refine Cz_aload_n X (j := 0) rfl rfl dX8_init_43 rfl ?_
  refine Cz_bipush X (v := 60) (by decide) dX8_init_44 rfl ?_
  refine Cz_newi X (N := 60) rfl (by decide) ac_i (Nat.le_of_ble_eq_true rfl) (Nat.le_of_ble_eq_true rfl) dX8_init_46 rfl (fun q6 => ?_)
  refine Cz_put0 X hI (j := 9) kc8 (Nat.le_of_ble_eq_true rfl) (Nat.le_of_ble_eq_true rfl) rfl lf_X8_27 rfl rfl dX8_init_48 rfl (fs2 := [.int 0, .ref q1, .ref q2, .int 0, .ref q3, .int 0, .int 0, .ref q4, .ref q5, .ref q6, .null, .int 0, .int 0, .int 0, .int 0, .null, .null, .null, .null, .null, .null, .null, .int 0, .int 0, .null, .null, .int 0, .int 0, .null, .int 0, .null, .int 0, .null, .null, .null, .null, .null, .null, .null, .null, .int 0, .int 0, .null]) rfl ?_
  refine Cz_aload_n X (j := 0) rfl rfl dX8_init_51 rfl ?_
  refine Cz_sipush X (v := 200) (by decide) dX8_init_52 rfl ?_
  refine Cz_newi X (N := 200) rfl (by decide) ac_i (Nat.le_of_ble_eq_true rfl) (Nat.le_of_ble_eq_true rfl) dX8_init_55 rfl (fun q7 => ?_)
  refine Cz_put0 X hI (j := 10) kc8 (Nat.le_of_ble_eq_true rfl) (Nat.le_of_ble_eq_true rfl) rfl lf_X8_30 rfl rfl dX8_init_57 rfl (fs2 := [.int 0, .ref q1, .ref q2, .int 0, .ref q3, .int 0, .int 0, .ref q4, .ref q5, .ref q6, .ref q7, .int 0, .int 0, .int 0, .int 0, .null, .null, .null, .null, .null, .null, .null, .int 0, .int 0, .null, .null, .int 0, .int 0, .null, .int 0, .null, .int 0, .null, .null, .null, .null, .null, .null, .null, .null, .int 0, .int 0, .null]) rfl ?_
  refine Cz_aload_n X (j := 0) rfl rfl dX8_init_60 rfl ?_
  refine Cz_bipush X (v := 61) (by decide) dX8_init_61 rfl ?_
  refine Cz_newi X (N := 61) rfl (by decide) ac_i (Nat.le_of_ble_eq_true rfl) (Nat.le_of_ble_eq_true rfl) dX8_init_63 rfl (fun q8 => ?_)
  refine Cz_put0 X hI (j := 15) kc8 (Nat.le_of_ble_eq_true rfl) (Nat.le_of_ble_eq_true rfl) rfl lf_X8_33 rfl rfl dX8_init_65 rfl (fs2 := [.int 0, .ref q1, .ref q2, .int 0, .ref q3, .int 0, .int 0, .ref q4, .ref q5, .ref q6, .ref q7, .int 0, .int 0, .int 0, .int 0, .ref q8, .null, .null, .null, .null, .null, .null, .int 0, .int 0, .null, .null, .int 0, .int 0, .null, .int 0, .null, .int 0, .null, .null, .null, .null, .null, .null, .null, .null, .int 0, .int 0, .null]) rfl ?_
  refine Cz_aload_n X (j := 0) rfl rfl dX8_init_68 rfl ?_
  refine Cz_bipush X (v := 61) (by decide) dX8_init_69 rfl ?_
  refine Cz_newi X (N := 61) rfl (by decide) ac_i (Nat.le_of_ble_eq_true rfl) (Nat.le_of_ble_eq_true rfl) dX8_init_71 rfl (fun q9 => ?_)
  refine Cz_put0 X hI (j := 16) kc8 (Nat.le_of_ble_eq_true rfl) (Nat.le_of_ble_eq_true rfl) rfl lf_X8_36 rfl rfl dX8_init_73 rfl (fs2 := [.int 0, .ref q1, .ref q2, .int 0, .ref q3, .int 0, .int 0, .ref q4, .ref q5, .ref q6, .ref q7, .int 0, .int 0, .int 0, .int 0, .ref q8, .ref q9, .null, .null, .null, .null, .null, .int 0, .int 0, .null, .null, .int 0, .int 0, .null, .int 0, .null, .int 0, .null, .null, .null, .null, .null, .null, .null, .null, .int 0, .int 0, .null]) rfl ?_
  refine Cz_aload_n X (j := 0) rfl rfl dX8_init_76 rfl ?_
  refine Cz_bipush X (v := 61) (by decide) dX8_init_77 rfl ?_
  refine Cz_newi X (N := 61) rfl (by decide) ac_i (Nat.le_of_ble_eq_true rfl) (Nat.le_of_ble_eq_true rfl) dX8_init_79 rfl (fun q10 => ?_)
  refine Cz_put0 X hI (j := 17) kc8 (Nat.le_of_ble_eq_true rfl) (Nat.le_of_ble_eq_true rfl) rfl lf_X8_39 rfl rfl dX8_init_81 rfl (fs2 := [.int 0, .ref q1, .ref q2, .int 0, .ref q3, .int 0, .int 0, .ref q4, .ref q5, .ref q6, .ref q7, .int 0, .int 0, .int 0, .int 0, .ref q8, .ref q9, .ref q10, .null, .null, .null, .null, .int 0, .int 0, .null, .null, .int 0, .int 0, .null, .int 0, .null, .int 0, .null, .null, .null, .null, .null, .null, .null, .null, .int 0, .int 0, .null]) rfl ?_
  refine Cz_aload_n X (j := 0) rfl rfl dX8_init_84 rfl ?_
  refine Cz_sipush X (v := 200) (by decide) dX8_init_85 rfl ?_
  refine Cz_newi X (N := 200) rfl (by decide) ac_i (Nat.le_of_ble_eq_true rfl) (Nat.le_of_ble_eq_true rfl) dX8_init_88 rfl (fun q11 => ?_)
  refine Cz_put0 X hI (j := 18) kc8 (Nat.le_of_ble_eq_true rfl) (Nat.le_of_ble_eq_true rfl) rfl lf_X8_42 rfl rfl dX8_init_90 rfl (fs2 := [.int 0, .ref q1, .ref q2, .int 0, .ref q3, .int 0, .int 0, .ref q4, .ref q5, .ref q6, .ref q7, .int 0, .int 0, .int 0, .int 0, .ref q8, .ref q9, .ref q10, .ref q11, .null, .null, .null, .int 0, .int 0, .null, .null, .int 0, .int 0, .null, .int 0, .null, .int 0, .null, .null, .null, .null, .null, .null, .null, .null, .int 0, .int 0, .null]) rfl ?_
  refine Cz_aload_n X (j := 0) rfl rfl dX8_init_93 rfl ?_
  refine Cz_sipush X (v := 200) (by decide) dX8_init_94 rfl ?_
  refine Cz_newi X (N := 200) rfl (by decide) ac_i (Nat.le_of_ble_eq_true rfl) (Nat.le_of_ble_eq_true rfl) dX8_init_97 rfl (fun q12 => ?_)
  refine Cz_put0 X hI (j := 19) kc8 (Nat.le_of_ble_eq_true rfl) (Nat.le_of_ble_eq_true rfl) rfl lf_X8_45 rfl rfl dX8_init_99 rfl (fs2 := [.int 0, .ref q1, .ref q2, .int 0, .ref q3, .int 0, .int 0, .ref q4, .ref q5, .ref q6, .ref q7, .int 0, .int 0, .int 0, .int 0, .ref q8, .ref q9, .ref q10, .ref q11, .ref q12, .null, .null, .int 0, .int 0, .null, .null, .int 0, .int 0, .null, .int 0, .null, .int 0, .null, .null, .null, .null, .null, .null, .null, .null, .int 0, .int 0, .null]) rfl ?_
  refine Cz_aload_n X (j := 0) rfl rfl dX8_init_102 rfl ?_
  refine Cz_bipush X (v := 6) (by decide) dX8_init_103 rfl ?_
  refine Cz_newi X (N := 6) rfl (by decide) ac_i (Nat.le_of_ble_eq_true rfl) (Nat.le_of_ble_eq_true rfl) dX8_init_105 rfl (fun q13 => ?_)
  refine Cz_put0 X hI (j := 20) kc8 (Nat.le_of_ble_eq_true rfl) (Nat.le_of_ble_eq_true rfl) rfl lf_X8_48 rfl rfl dX8_init_107 rfl (fs2 := [.int 0, .ref q1, .ref q2, .int 0, .ref q3, .int 0, .int 0, .ref q4, .ref q5, .ref q6, .ref q7, .int 0, .int 0, .int 0, .int 0, .ref q8, .ref q9, .ref q10, .ref q11, .ref q12, .ref q13, .null, .int 0, .int 0, .null, .null, .int 0, .int 0, .null, .int 0, .null, .int 0, .null, .null, .null, .null, .null, .null, .null, .null, .int 0, .int 0, .null]) rfl ?_
  refine Cz_aload_n X (j := 0) rfl rfl dX8_init_110 rfl ?_
  refine Cz_iconst X (v := 5) (by decide) dX8_init_111 rfl ?_
  refine Cz_newi X (N := 5) rfl (by decide) ac_i (Nat.le_of_ble_eq_true rfl) (Nat.le_of_ble_eq_true rfl) dX8_init_112 rfl (fun q14 => ?_)
  refine Cz_put0 X hI (j := 21) kc8 (Nat.le_of_ble_eq_true rfl) (Nat.le_of_ble_eq_true rfl) rfl lf_X8_51 rfl rfl dX8_init_114 rfl (fs2 := [.int 0, .ref q1, .ref q2, .int 0, .ref q3, .int 0, .int 0, .ref q4, .ref q5, .ref q6, .ref q7, .int 0, .int 0, .int 0, .int 0, .ref q8, .ref q9, .ref q10, .ref q11, .ref q12, .ref q13, .ref q14, .int 0, .int 0, .null, .null, .int 0, .int 0, .null, .int 0, .null, .int 0, .null, .null, .null, .null, .null, .null, .null, .null, .int 0, .int 0, .null]) rfl ?_
  refine Cz_aload_n X (j := 0) rfl rfl dX8_init_117 rfl ?_
  refine Cz_bipush X (v := 16) (by decide) dX8_init_118 rfl ?_
  refine Cz_newi X (N := 16) rfl (by decide) ac_i (Nat.le_of_ble_eq_true rfl) (Nat.le_of_ble_eq_true rfl) dX8_init_120 rfl (fun q15 => ?_)
  refine Cz_put0 X hI (j := 24) kc8 (Nat.le_of_ble_eq_true rfl) (Nat.le_of_ble_eq_true rfl) rfl lf_X8_54 rfl rfl dX8_init_122 rfl (fs2 := [.int 0, .ref q1, .ref q2, .int 0, .ref q3, .int 0, .int 0, .ref q4, .ref q5, .ref q6, .ref q7, .int 0, .int 0, .int 0, .int 0, .ref q8, .ref q9, .ref q10, .ref q11, .ref q12, .ref q13, .ref q14, .int 0, .int 0, .ref q15, .null, .int 0, .int 0, .null, .int 0, .null, .int 0, .null, .null, .null, .null, .null, .null, .null, .null, .int 0, .int 0, .null]) rfl ?_
  refine Cz_aload_n X (j := 0) rfl rfl dX8_init_125 rfl ?_
  refine Cz_iconst X (v := 5) (by decide) dX8_init_126 rfl ?_
  refine Cz_newi X (N := 5) rfl (by decide) ac_i (Nat.le_of_ble_eq_true rfl) (Nat.le_of_ble_eq_true rfl) dX8_init_127 rfl (fun q16 => ?_)
  refine Cz_put0 X hI (j := 25) kc8 (Nat.le_of_ble_eq_true rfl) (Nat.le_of_ble_eq_true rfl) rfl lf_X8_57 rfl rfl dX8_init_129 rfl (fs2 := [.int 0, .ref q1, .ref q2, .int 0, .ref q3, .int 0, .int 0, .ref q4, .ref q5, .ref q6, .ref q7, .int 0, .int 0, .int 0, .int 0, .ref q8, .ref q9, .ref q10, .ref q11, .ref q12, .ref q13, .ref q14, .int 0, .int 0, .ref q15, .ref q16, .int 0, .int 0, .null, .int 0, .null, .int 0, .null, .null, .null, .null, .null, .null, .null, .null, .int 0, .int 0, .null]) rfl ?_
  refine Cz_aload_n X (j := 0) rfl rfl dX8_init_132 rfl ?_
  refine Cz_sipush X (v := 160) (by decide) dX8_init_133 rfl ?_
  refine Cz_newi X (N := 160) rfl (by decide) ac_i (Nat.le_of_ble_eq_true rfl) (Nat.le_of_ble_eq_true rfl) dX8_init_136 rfl (fun q17 => ?_)
  refine Cz_put0 X hI (j := 28) kc8 (Nat.le_of_ble_eq_true rfl) (Nat.le_of_ble_eq_true rfl) rfl lf_X8_60 rfl rfl dX8_init_138 rfl (fs2 := [.int 0, .ref q1, .ref q2, .int 0, .ref q3, .int 0, .int 0, .ref q4, .ref q5, .ref q6, .ref q7, .int 0, .int 0, .int 0, .int 0, .ref q8, .ref q9, .ref q10, .ref q11, .ref q12, .ref q13, .ref q14, .int 0, .int 0, .ref q15, .ref q16, .int 0, .int 0, .ref q17, .int 0, .null, .int 0, .null, .null, .null, .null, .null, .null, .null, .null, .int 0, .int 0, .null]) rfl ?_
  refine Cz_aload_n X (j := 0) rfl rfl dX8_init_141 rfl ?_
  refine Cz_bipush X (v := 50) (by decide) dX8_init_142 rfl ?_
  refine Cz_newi X (N := 50) rfl (by decide) ac_i (Nat.le_of_ble_eq_true rfl) (Nat.le_of_ble_eq_true rfl) dX8_init_144 rfl (fun q18 => ?_)
  refine Cz_put0 X hI (j := 30) kc8 (Nat.le_of_ble_eq_true rfl) (Nat.le_of_ble_eq_true rfl) rfl lf_X8_63 rfl rfl dX8_init_146 rfl (fs2 := [.int 0, .ref q1, .ref q2, .int 0, .ref q3, .int 0, .int 0, .ref q4, .ref q5, .ref q6, .ref q7, .int 0, .int 0, .int 0, .int 0, .ref q8, .ref q9, .ref q10, .ref q11, .ref q12, .ref q13, .ref q14, .int 0, .int 0, .ref q15, .ref q16, .int 0, .int 0, .ref q17, .int 0, .ref q18, .int 0, .null, .null, .null, .null, .null, .null, .null, .null, .int 0, .int 0, .null]) rfl ?_
  refine Cz_aload_n X (j := 0) rfl rfl dX8_init_149 rfl ?_
  refine Cz_bipush X (v := 24) (by decide) dX8_init_150 rfl ?_
  refine Cz_newi X (N := 24) rfl (by decide) ac_i (Nat.le_of_ble_eq_true rfl) (Nat.le_of_ble_eq_true rfl) dX8_init_152 rfl (fun q19 => ?_)
  refine Cz_put0 X hI (j := 32) kc8 (Nat.le_of_ble_eq_true rfl) (Nat.le_of_ble_eq_true rfl) rfl lf_X8_66 rfl rfl dX8_init_154 rfl (fs2 := [.int 0, .ref q1, .ref q2, .int 0, .ref q3, .int 0, .int 0, .ref q4, .ref q5, .ref q6, .ref q7, .int 0, .int 0, .int 0, .int 0, .ref q8, .ref q9, .ref q10, .ref q11, .ref q12, .ref q13, .ref q14, .int 0, .int 0, .ref q15, .ref q16, .int 0, .int 0, .ref q17, .int 0, .ref q18, .int 0, .ref q19, .null, .null, .null, .null, .null, .null, .null, .int 0, .int 0, .null]) rfl ?_
  refine Cz_aload_n X (j := 0) rfl rfl dX8_init_157 rfl ?_
  refine Cz_bipush X (v := 6) (by decide) dX8_init_158 rfl ?_
  refine Cz_newi X (N := 6) rfl (by decide) ac_i (Nat.le_of_ble_eq_true rfl) (Nat.le_of_ble_eq_true rfl) dX8_init_160 rfl (fun q20 => ?_)
  refine Cz_put0 X hI (j := 33) kc8 (Nat.le_of_ble_eq_true rfl) (Nat.le_of_ble_eq_true rfl) rfl lf_X8_69 rfl rfl dX8_init_162 rfl (fs2 := [.int 0, .ref q1, .ref q2, .int 0, .ref q3, .int 0, .int 0, .ref q4, .ref q5, .ref q6, .ref q7, .int 0, .int 0, .int 0, .int 0, .ref q8, .ref q9, .ref q10, .ref q11, .ref q12, .ref q13, .ref q14, .int 0, .int 0, .ref q15, .ref q16, .int 0, .int 0, .ref q17, .int 0, .ref q18, .int 0, .ref q19, .ref q20, .null, .null, .null, .null, .null, .null, .int 0, .int 0, .null]) rfl ?_
  refine Cz_aload_n X (j := 0) rfl rfl dX8_init_165 rfl ?_
  refine Cz_bipush X (v := 6) (by decide) dX8_init_166 rfl ?_
  refine Cz_newi X (N := 6) rfl (by decide) ac_i (Nat.le_of_ble_eq_true rfl) (Nat.le_of_ble_eq_true rfl) dX8_init_168 rfl (fun q21 => ?_)
  refine Cz_put0 X hI (j := 34) kc8 (Nat.le_of_ble_eq_true rfl) (Nat.le_of_ble_eq_true rfl) rfl lf_X8_72 rfl rfl dX8_init_170 rfl (fs2 := [.int 0, .ref q1, .ref q2, .int 0, .ref q3, .int 0, .int 0, .ref q4, .ref q5, .ref q6, .ref q7, .int 0, .int 0, .int 0, .int 0, .ref q8, .ref q9, .ref q10, .ref q11, .ref q12, .ref q13, .ref q14, .int 0, .int 0, .ref q15, .ref q16, .int 0, .int 0, .ref q17, .int 0, .ref q18, .int 0, .ref q19, .ref q20, .ref q21, .null, .null, .null, .null, .null, .int 0, .int 0, .null]) rfl ?_
  refine Cz_aload_n X (j := 0) rfl rfl dX8_init_173 rfl ?_
  refine Cz_sipush X (v := 360) (by decide) dX8_init_174 rfl ?_
  refine Cz_newl X (N := 360) rfl (by decide) ac_l (Nat.le_of_ble_eq_true rfl) (Nat.le_of_ble_eq_true rfl) dX8_init_177 rfl (fun q22 => ?_)
  refine Cz_put0 X hI (j := 35) kc8 (Nat.le_of_ble_eq_true rfl) (Nat.le_of_ble_eq_true rfl) rfl lf_X8_75 rfl rfl dX8_init_179 rfl (fs2 := [.int 0, .ref q1, .ref q2, .int 0, .ref q3, .int 0, .int 0, .ref q4, .ref q5, .ref q6, .ref q7, .int 0, .int 0, .int 0, .int 0, .ref q8, .ref q9, .ref q10, .ref q11, .ref q12, .ref q13, .ref q14, .int 0, .int 0, .ref q15, .ref q16, .int 0, .int 0, .ref q17, .int 0, .ref q18, .int 0, .ref q19, .ref q20, .ref q21, .ref q22, .null, .null, .null, .null, .int 0, .int 0, .null]) rfl ?_
  refine Cz_aload_n X (j := 0) rfl rfl dX8_init_182 rfl ?_
  refine Cz_bipush X (v := 16) (by decide) dX8_init_183 rfl ?_
  refine Cz_newi X (N := 16) rfl (by decide) ac_i (Nat.le_of_ble_eq_true rfl) (Nat.le_of_ble_eq_true rfl) dX8_init_185 rfl (fun q23 => ?_)
  refine Cz_put0 X hI (j := 36) kc8 (Nat.le_of_ble_eq_true rfl) (Nat.le_of_ble_eq_true rfl) rfl lf_X8_79 rfl rfl dX8_init_187 rfl (fs2 := [.int 0, .ref q1, .ref q2, .int 0, .ref q3, .int 0, .int 0, .ref q4, .ref q5, .ref q6, .ref q7, .int 0, .int 0, .int 0, .int 0, .ref q8, .ref q9, .ref q10, .ref q11, .ref q12, .ref q13, .ref q14, .int 0, .int 0, .ref q15, .ref q16, .int 0, .int 0, .ref q17, .int 0, .ref q18, .int 0, .ref q19, .ref q20, .ref q21, .ref q22, .ref q23, .null, .null, .null, .int 0, .int 0, .null]) rfl ?_
  refine Cz_aload_n X (j := 0) rfl rfl dX8_init_190 rfl ?_
  refine Cz_bipush X (v := 16) (by decide) dX8_init_191 rfl ?_
  refine Cz_newi X (N := 16) rfl (by decide) ac_i (Nat.le_of_ble_eq_true rfl) (Nat.le_of_ble_eq_true rfl) dX8_init_193 rfl (fun q24 => ?_)
  refine Cz_put0 X hI (j := 37) kc8 (Nat.le_of_ble_eq_true rfl) (Nat.le_of_ble_eq_true rfl) rfl lf_X8_82 rfl rfl dX8_init_195 rfl (fs2 := [.int 0, .ref q1, .ref q2, .int 0, .ref q3, .int 0, .int 0, .ref q4, .ref q5, .ref q6, .ref q7, .int 0, .int 0, .int 0, .int 0, .ref q8, .ref q9, .ref q10, .ref q11, .ref q12, .ref q13, .ref q14, .int 0, .int 0, .ref q15, .ref q16, .int 0, .int 0, .ref q17, .int 0, .ref q18, .int 0, .ref q19, .ref q20, .ref q21, .ref q22, .ref q23, .ref q24, .null, .null, .int 0, .int 0, .null]) rfl ?_
  refine Cz_aload_n X (j := 0) rfl rfl dX8_init_198 rfl ?_
  refine Cz_bipush X (v := 7) (by decide) dX8_init_199 rfl ?_
  refine Cz_newi X (N := 7) rfl (by decide) ac_i (Nat.le_of_ble_eq_true rfl) (Nat.le_of_ble_eq_true rfl) dX8_init_201 rfl (fun q25 => ?_)
  refine Cz_put0 X hI (j := 38) kc8 (Nat.le_of_ble_eq_true rfl) (Nat.le_of_ble_eq_true rfl) rfl lf_X8_85 rfl rfl dX8_init_203 rfl (fs2 := [.int 0, .ref q1, .ref q2, .int 0, .ref q3, .int 0, .int 0, .ref q4, .ref q5, .ref q6, .ref q7, .int 0, .int 0, .int 0, .int 0, .ref q8, .ref q9, .ref q10, .ref q11, .ref q12, .ref q13, .ref q14, .int 0, .int 0, .ref q15, .ref q16, .int 0, .int 0, .ref q17, .int 0, .ref q18, .int 0, .ref q19, .ref q20, .ref q21, .ref q22, .ref q23, .ref q24, .ref q25, .null, .int 0, .int 0, .null]) rfl ?_
  refine Cz_aload_n X (j := 0) rfl rfl dX8_init_206 rfl ?_
  refine Cz_bipush X (v := 7) (by decide) dX8_init_207 rfl ?_
  refine Cz_newi X (N := 7) rfl (by decide) ac_i (Nat.le_of_ble_eq_true rfl) (Nat.le_of_ble_eq_true rfl) dX8_init_209 rfl (fun q26 => ?_)
  refine Cz_put0 X hI (j := 39) kc8 (Nat.le_of_ble_eq_true rfl) (Nat.le_of_ble_eq_true rfl) rfl lf_X8_88 rfl rfl dX8_init_211 rfl (fs2 := [.int 0, .ref q1, .ref q2, .int 0, .ref q3, .int 0, .int 0, .ref q4, .ref q5, .ref q6, .ref q7, .int 0, .int 0, .int 0, .int 0, .ref q8, .ref q9, .ref q10, .ref q11, .ref q12, .ref q13, .ref q14, .int 0, .int 0, .ref q15, .ref q16, .int 0, .int 0, .ref q17, .int 0, .ref q18, .int 0, .ref q19, .ref q20, .ref q21, .ref q22, .ref q23, .ref q24, .ref q25, .ref q26, .int 0, .int 0, .null]) rfl ?_
  refine Cz_aload_n X (j := 0) rfl rfl dX8_init_214 rfl ?_
  refine Cz_sipush X (v := 128) (by decide) dX8_init_215 rfl ?_
  refine Cz_newi X (N := 128) rfl (by decide) ac_i (Nat.le_of_ble_eq_true rfl) (Nat.le_of_ble_eq_true rfl) dX8_init_218 rfl (fun q27 => ?_)
  refine Cz_put0 X hI (j := 42) kc8 (Nat.le_of_ble_eq_true rfl) (Nat.le_of_ble_eq_true rfl) rfl lf_X8_91 rfl rfl dX8_init_220 rfl (fs2 := [.int 0, .ref q1, .ref q2, .int 0, .ref q3, .int 0, .int 0, .ref q4, .ref q5, .ref q6, .ref q7, .int 0, .int 0, .int 0, .int 0, .ref q8, .ref q9, .ref q10, .ref q11, .ref q12, .ref q13, .ref q14, .int 0, .int 0, .ref q15, .ref q16, .int 0, .int 0, .ref q17, .int 0, .ref q18, .int 0, .ref q19, .ref q20, .ref q21, .ref q22, .ref q23, .ref q24, .ref q25, .ref q26, .int 0, .int 0, .ref q27]) rfl ?_
  refine Cz_iconst X (v := 0) (by decide) dX8_init_223 rfl ?_
  refine Cz_istore_n X (i := 1) rfl (Nat.le_of_ble_eq_true rfl) (ls2 := [(1, .int 0), (0, .ref h0)]) rfl dX8_init_224 rfl ?_
  refine Cz_iload_n X (j := 0) rfl rfl dX8_init_225 rfl ?_
  refine Cz_bipush X (v := 6) (by decide) dX8_init_226 rfl ?_
  refine Cz_geF X (tgt := 244) (by decide) dX8_init_228 rfl rfl ?_
  refine Cz_aload_n X (j := 1) rfl rfl dX8_init_231 rfl ?_
  refine Cz_get0 X (j := 33) kc8 (Nat.le_of_ble_eq_true rfl) lf_X8_69 rfl dX8_init_232 rfl ?_
  refine Cz_iload_n X (j := 0) rfl rfl dX8_init_235 rfl ?_
  refine Cz_iconst X (v := (-1)) (by decide) dX8_init_236 rfl ?_
  refine Cz_ws (ws2 := ((h0, .inr (8, [.int 0, .ref q1, .ref q2, .int 0, .ref q3, .int 0, .int 0, .ref q4, .ref q5, .ref q6, .ref q7, .int 0, .int 0, .int 0, .int 0, .ref q8, .ref q9, .ref q10, .ref q11, .ref q12, .ref q13, .ref q14, .int 0, .int 0, .ref q15, .ref q16, .int 0, .int 0, .ref q17, .int 0, .ref q18, .int 0, .ref q19, .ref q20, .ref q21, .ref q22, .ref q23, .ref q24, .ref q25, .ref q26, .int 0, .int 0, .ref q27])) :: [(q1, .inl (czT E 0, 42, .inl (fun _ => 0))), (q2, .inl (czT E 0, 2, .inl (fun _ => 0))), (q3, .inl (czT E 0, 120, .inl (fun _ => 0))), (q4, .inl (czT E 0, 60, .inl (fun _ => 0))), (q5, .inl (czT E 0, 60, .inl (fun _ => 0))), (q6, .inl (czT E 0, 60, .inl (fun _ => 0))), (q7, .inl (czT E 0, 200, .inl (fun _ => 0))), (q8, .inl (czT E 0, 61, .inl (fun _ => 0))), (q9, .inl (czT E 0, 61, .inl (fun _ => 0))), (q10, .inl (czT E 0, 61, .inl (fun _ => 0))), (q11, .inl (czT E 0, 200, .inl (fun _ => 0))), (q12, .inl (czT E 0, 200, .inl (fun _ => 0))), (q13, .inl (czT E 0, 6, .inl (fun _ => 0))), (q14, .inl (czT E 0, 5, .inl (fun _ => 0))), (q15, .inl (czT E 0, 16, .inl (fun _ => 0))), (q16, .inl (czT E 0, 5, .inl (fun _ => 0))), (q17, .inl (czT E 0, 160, .inl (fun _ => 0))), (q18, .inl (czT E 0, 50, .inl (fun _ => 0))), (q19, .inl (czT E 0, 24, .inl (fun _ => 0))), (q20, .inl (czT E 0, 6, .inl (fun _ => 0))), (q21, .inl (czT E 0, 6, .inl (fun _ => 0))), (q22, .inl (czT E 1, 360, .inr (.inl (fun _ => 0)))), (q23, .inl (czT E 0, 16, .inl (fun _ => 0))), (q24, .inl (czT E 0, 16, .inl (fun _ => 0))), (q25, .inl (czT E 0, 7, .inl (fun _ => 0))), (q26, .inl (czT E 0, 7, .inl (fun _ => 0))), (q27, .inl (czT E 0, 128, .inl (fun _ => 0)))])) (by simp only [List.append_eq, List.nil_append, List.cons_append, List.append_assoc]) ?_
  refine Cz_iastore X (q0 := 20) rfl (vin (a := 0) (by decide)) dX8_init_237 rfl (ws2 := ((h0, .inr (8, [.int 0, .ref q1, .ref q2, .int 0, .ref q3, .int 0, .int 0, .ref q4, .ref q5, .ref q6, .ref q7, .int 0, .int 0, .int 0, .int 0, .ref q8, .ref q9, .ref q10, .ref q11, .ref q12, .ref q13, .ref q14, .int 0, .int 0, .ref q15, .ref q16, .int 0, .int 0, .ref q17, .int 0, .ref q18, .int 0, .ref q19, .ref q20, .ref q21, .ref q22, .ref q23, .ref q24, .ref q25, .ref q26, .int 0, .int 0, .ref q27])) :: [(q1, .inl (czT E 0, 42, .inl (fun _ => 0))), (q2, .inl (czT E 0, 2, .inl (fun _ => 0))), (q3, .inl (czT E 0, 120, .inl (fun _ => 0))), (q4, .inl (czT E 0, 60, .inl (fun _ => 0))), (q5, .inl (czT E 0, 60, .inl (fun _ => 0))), (q6, .inl (czT E 0, 60, .inl (fun _ => 0))), (q7, .inl (czT E 0, 200, .inl (fun _ => 0))), (q8, .inl (czT E 0, 61, .inl (fun _ => 0))), (q9, .inl (czT E 0, 61, .inl (fun _ => 0))), (q10, .inl (czT E 0, 61, .inl (fun _ => 0))), (q11, .inl (czT E 0, 200, .inl (fun _ => 0))), (q12, .inl (czT E 0, 200, .inl (fun _ => 0))), (q13, .inl (czT E 0, 6, .inl (fun _ => 0))), (q14, .inl (czT E 0, 5, .inl (fun _ => 0))), (q15, .inl (czT E 0, 16, .inl (fun _ => 0))), (q16, .inl (czT E 0, 5, .inl (fun _ => 0))), (q17, .inl (czT E 0, 160, .inl (fun _ => 0))), (q18, .inl (czT E 0, 50, .inl (fun _ => 0))), (q19, .inl (czT E 0, 24, .inl (fun _ => 0))), (q20, .inl (czT E 0, 6, .inl (upd (fun _ => 0) (0 : Int32).toNatClampNeg (-1)))), (q21, .inl (czT E 0, 6, .inl (fun _ => 0))), (q22, .inl (czT E 1, 360, .inr (.inl (fun _ => 0)))), (q23, .inl (czT E 0, 16, .inl (fun _ => 0))), (q24, .inl (czT E 0, 16, .inl (fun _ => 0))), (q25, .inl (czT E 0, 7, .inl (fun _ => 0))), (q26, .inl (czT E 0, 7, .inl (fun _ => 0))), (q27, .inl (czT E 0, 128, .inl (fun _ => 0)))])) rfl ?_
  refine Cz_iinc X (i := 1) (j := 0) (v := 1) rfl (by decide) (Nat.le_of_ble_eq_true rfl) (ls2 := [(1, .int 1), (0, .ref h0)]) rfl dX8_init_238 rfl ?_
  refine Cz_goto X (tgt := 225) dX8_init_241 rfl ?_
  refine Cz_iload_n X (j := 0) rfl rfl dX8_init_225 rfl ?_
  refine Cz_bipush X (v := 6) (by decide) dX8_init_226 rfl ?_
  refine Cz_geF X (tgt := 244) (by decide) dX8_init_228 rfl rfl ?_
  refine Cz_aload_n X (j := 1) rfl rfl dX8_init_231 rfl ?_
  refine Cz_get0 X (j := 33) kc8 (Nat.le_of_ble_eq_true rfl) lf_X8_69 rfl dX8_init_232 rfl ?_
  refine Cz_iload_n X (j := 0) rfl rfl dX8_init_235 rfl ?_
  refine Cz_iconst X (v := (-1)) (by decide) dX8_init_236 rfl ?_
  refine Cz_iastore X (q0 := 20) rfl (vin (a := 1) (by decide)) dX8_init_237 rfl (ws2 := ((h0, .inr (8, [.int 0, .ref q1, .ref q2, .int 0, .ref q3, .int 0, .int 0, .ref q4, .ref q5, .ref q6, .ref q7, .int 0, .int 0, .int 0, .int 0, .ref q8, .ref q9, .ref q10, .ref q11, .ref q12, .ref q13, .ref q14, .int 0, .int 0, .ref q15, .ref q16, .int 0, .int 0, .ref q17, .int 0, .ref q18, .int 0, .ref q19, .ref q20, .ref q21, .ref q22, .ref q23, .ref q24, .ref q25, .ref q26, .int 0, .int 0, .ref q27])) :: [(q1, .inl (czT E 0, 42, .inl (fun _ => 0))), (q2, .inl (czT E 0, 2, .inl (fun _ => 0))), (q3, .inl (czT E 0, 120, .inl (fun _ => 0))), (q4, .inl (czT E 0, 60, .inl (fun _ => 0))), (q5, .inl (czT E 0, 60, .inl (fun _ => 0))), (q6, .inl (czT E 0, 60, .inl (fun _ => 0))), (q7, .inl (czT E 0, 200, .inl (fun _ => 0))), (q8, .inl (czT E 0, 61, .inl (fun _ => 0))), (q9, .inl (czT E 0, 61, .inl (fun _ => 0))), (q10, .inl (czT E 0, 61, .inl (fun _ => 0))), (q11, .inl (czT E 0, 200, .inl (fun _ => 0))), (q12, .inl (czT E 0, 200, .inl (fun _ => 0))), (q13, .inl (czT E 0, 6, .inl (fun _ => 0))), (q14, .inl (czT E 0, 5, .inl (fun _ => 0))), (q15, .inl (czT E 0, 16, .inl (fun _ => 0))), (q16, .inl (czT E 0, 5, .inl (fun _ => 0))), (q17, .inl (czT E 0, 160, .inl (fun _ => 0))), (q18, .inl (czT E 0, 50, .inl (fun _ => 0))), (q19, .inl (czT E 0, 24, .inl (fun _ => 0))), (q20, .inl (czT E 0, 6, .inl (upd (upd (fun _ => 0) (0 : Int32).toNatClampNeg (-1)) (1 : Int32).toNatClampNeg (-1)))), (q21, .inl (czT E 0, 6, .inl (fun _ => 0))), (q22, .inl (czT E 1, 360, .inr (.inl (fun _ => 0)))), (q23, .inl (czT E 0, 16, .inl (fun _ => 0))), (q24, .inl (czT E 0, 16, .inl (fun _ => 0))), (q25, .inl (czT E 0, 7, .inl (fun _ => 0))), (q26, .inl (czT E 0, 7, .inl (fun _ => 0))), (q27, .inl (czT E 0, 128, .inl (fun _ => 0)))])) rfl ?_
  refine Cz_iinc X (i := 1) (j := 0) (v := 2) rfl (by decide) (Nat.le_of_ble_eq_true rfl) (ls2 := [(1, .int 2), (0, .ref h0)]) rfl dX8_init_238 rfl ?_
  refine Cz_goto X (tgt := 225) dX8_init_241 rfl ?_
  refine Cz_iload_n X (j := 0) rfl rfl dX8_init_225 rfl ?_
  refine Cz_bipush X (v := 6) (by decide) dX8_init_226 rfl ?_
  refine Cz_geF X (tgt := 244) (by decide) dX8_init_228 rfl rfl ?_
  refine Cz_aload_n X (j := 1) rfl rfl dX8_init_231 rfl ?_
  refine Cz_get0 X (j := 33) kc8 (Nat.le_of_ble_eq_true rfl) lf_X8_69 rfl dX8_init_232 rfl ?_
  refine Cz_iload_n X (j := 0) rfl rfl dX8_init_235 rfl ?_
  refine Cz_iconst X (v := (-1)) (by decide) dX8_init_236 rfl ?_
  refine Cz_iastore X (q0 := 20) rfl (vin (a := 2) (by decide)) dX8_init_237 rfl (ws2 := ((h0, .inr (8, [.int 0, .ref q1, .ref q2, .int 0, .ref q3, .int 0, .int 0, .ref q4, .ref q5, .ref q6, .ref q7, .int 0, .int 0, .int 0, .int 0, .ref q8, .ref q9, .ref q10, .ref q11, .ref q12, .ref q13, .ref q14, .int 0, .int 0, .ref q15, .ref q16, .int 0, .int 0, .ref q17, .int 0, .ref q18, .int 0, .ref q19, .ref q20, .ref q21, .ref q22, .ref q23, .ref q24, .ref q25, .ref q26, .int 0, .int 0, .ref q27])) :: [(q1, .inl (czT E 0, 42, .inl (fun _ => 0))), (q2, .inl (czT E 0, 2, .inl (fun _ => 0))), (q3, .inl (czT E 0, 120, .inl (fun _ => 0))), (q4, .inl (czT E 0, 60, .inl (fun _ => 0))), (q5, .inl (czT E 0, 60, .inl (fun _ => 0))), (q6, .inl (czT E 0, 60, .inl (fun _ => 0))), (q7, .inl (czT E 0, 200, .inl (fun _ => 0))), (q8, .inl (czT E 0, 61, .inl (fun _ => 0))), (q9, .inl (czT E 0, 61, .inl (fun _ => 0))), (q10, .inl (czT E 0, 61, .inl (fun _ => 0))), (q11, .inl (czT E 0, 200, .inl (fun _ => 0))), (q12, .inl (czT E 0, 200, .inl (fun _ => 0))), (q13, .inl (czT E 0, 6, .inl (fun _ => 0))), (q14, .inl (czT E 0, 5, .inl (fun _ => 0))), (q15, .inl (czT E 0, 16, .inl (fun _ => 0))), (q16, .inl (czT E 0, 5, .inl (fun _ => 0))), (q17, .inl (czT E 0, 160, .inl (fun _ => 0))), (q18, .inl (czT E 0, 50, .inl (fun _ => 0))), (q19, .inl (czT E 0, 24, .inl (fun _ => 0))), (q20, .inl (czT E 0, 6, .inl (upd (upd (upd (fun _ => 0) (0 : Int32).toNatClampNeg (-1)) (1 : Int32).toNatClampNeg (-1)) (2 : Int32).toNatClampNeg (-1)))), (q21, .inl (czT E 0, 6, .inl (fun _ => 0))), (q22, .inl (czT E 1, 360, .inr (.inl (fun _ => 0)))), (q23, .inl (czT E 0, 16, .inl (fun _ => 0))), (q24, .inl (czT E 0, 16, .inl (fun _ => 0))), (q25, .inl (czT E 0, 7, .inl (fun _ => 0))), (q26, .inl (czT E 0, 7, .inl (fun _ => 0))), (q27, .inl (czT E 0, 128, .inl (fun _ => 0)))])) rfl ?_
  refine Cz_iinc X (i := 1) (j := 0) (v := 3) rfl (by decide) (Nat.le_of_ble_eq_true rfl) (ls2 := [(1, .int 3), (0, .ref h0)]) rfl dX8_init_238 rfl ?_
  refine Cz_goto X (tgt := 225) dX8_init_241 rfl ?_
  refine Cz_iload_n X (j := 0) rfl rfl dX8_init_225 rfl ?_
  refine Cz_bipush X (v := 6) (by decide) dX8_init_226 rfl ?_
  refine Cz_geF X (tgt := 244) (by decide) dX8_init_228 rfl rfl ?_
  refine Cz_aload_n X (j := 1) rfl rfl dX8_init_231 rfl ?_
  refine Cz_get0 X (j := 33) kc8 (Nat.le_of_ble_eq_true rfl) lf_X8_69 rfl dX8_init_232 rfl ?_
  refine Cz_iload_n X (j := 0) rfl rfl dX8_init_235 rfl ?_
  refine Cz_iconst X (v := (-1)) (by decide) dX8_init_236 rfl ?_
  refine Cz_iastore X (q0 := 20) rfl (vin (a := 3) (by decide)) dX8_init_237 rfl (ws2 := ((h0, .inr (8, [.int 0, .ref q1, .ref q2, .int 0, .ref q3, .int 0, .int 0, .ref q4, .ref q5, .ref q6, .ref q7, .int 0, .int 0, .int 0, .int 0, .ref q8, .ref q9, .ref q10, .ref q11, .ref q12, .ref q13, .ref q14, .int 0, .int 0, .ref q15, .ref q16, .int 0, .int 0, .ref q17, .int 0, .ref q18, .int 0, .ref q19, .ref q20, .ref q21, .ref q22, .ref q23, .ref q24, .ref q25, .ref q26, .int 0, .int 0, .ref q27])) :: [(q1, .inl (czT E 0, 42, .inl (fun _ => 0))), (q2, .inl (czT E 0, 2, .inl (fun _ => 0))), (q3, .inl (czT E 0, 120, .inl (fun _ => 0))), (q4, .inl (czT E 0, 60, .inl (fun _ => 0))), (q5, .inl (czT E 0, 60, .inl (fun _ => 0))), (q6, .inl (czT E 0, 60, .inl (fun _ => 0))), (q7, .inl (czT E 0, 200, .inl (fun _ => 0))), (q8, .inl (czT E 0, 61, .inl (fun _ => 0))), (q9, .inl (czT E 0, 61, .inl (fun _ => 0))), (q10, .inl (czT E 0, 61, .inl (fun _ => 0))), (q11, .inl (czT E 0, 200, .inl (fun _ => 0))), (q12, .inl (czT E 0, 200, .inl (fun _ => 0))), (q13, .inl (czT E 0, 6, .inl (fun _ => 0))), (q14, .inl (czT E 0, 5, .inl (fun _ => 0))), (q15, .inl (czT E 0, 16, .inl (fun _ => 0))), (q16, .inl (czT E 0, 5, .inl (fun _ => 0))), (q17, .inl (czT E 0, 160, .inl (fun _ => 0))), (q18, .inl (czT E 0, 50, .inl (fun _ => 0))), (q19, .inl (czT E 0, 24, .inl (fun _ => 0))), (q20, .inl (czT E 0, 6, .inl (upd (upd (upd (upd (fun _ => 0) (0 : Int32).toNatClampNeg (-1)) (1 : Int32).toNatClampNeg (-1)) (2 : Int32).toNatClampNeg (-1)) (3 : Int32).toNatClampNeg (-1)))), (q21, .inl (czT E 0, 6, .inl (fun _ => 0))), (q22, .inl (czT E 1, 360, .inr (.inl (fun _ => 0)))), (q23, .inl (czT E 0, 16, .inl (fun _ => 0))), (q24, .inl (czT E 0, 16, .inl (fun _ => 0))), (q25, .inl (czT E 0, 7, .inl (fun _ => 0))), (q26, .inl (czT E 0, 7, .inl (fun _ => 0))), (q27, .inl (czT E 0, 128, .inl (fun _ => 0)))])) rfl ?_
  refine Cz_iinc X (i := 1) (j := 0) (v := 4) rfl (by decide) (Nat.le_of_ble_eq_true rfl) (ls2 := [(1, .int 4), (0, .ref h0)]) rfl dX8_init_238 rfl ?_
  refine Cz_goto X (tgt := 225) dX8_init_241 rfl ?_
  refine Cz_iload_n X (j := 0) rfl rfl dX8_init_225 rfl ?_
  refine Cz_bipush X (v := 6) (by decide) dX8_init_226 rfl ?_
  refine Cz_geF X (tgt := 244) (by decide) dX8_init_228 rfl rfl ?_
  refine Cz_aload_n X (j := 1) rfl rfl dX8_init_231 rfl ?_
  refine Cz_get0 X (j := 33) kc8 (Nat.le_of_ble_eq_true rfl) lf_X8_69 rfl dX8_init_232 rfl ?_
  refine Cz_iload_n X (j := 0) rfl rfl dX8_init_235 rfl ?_
  refine Cz_iconst X (v := (-1)) (by decide) dX8_init_236 rfl ?_
  refine Cz_iastore X (q0 := 20) rfl (vin (a := 4) (by decide)) dX8_init_237 rfl (ws2 := ((h0, .inr (8, [.int 0, .ref q1, .ref q2, .int 0, .ref q3, .int 0, .int 0, .ref q4, .ref q5, .ref q6, .ref q7, .int 0, .int 0, .int 0, .int 0, .ref q8, .ref q9, .ref q10, .ref q11, .ref q12, .ref q13, .ref q14, .int 0, .int 0, .ref q15, .ref q16, .int 0, .int 0, .ref q17, .int 0, .ref q18, .int 0, .ref q19, .ref q20, .ref q21, .ref q22, .ref q23, .ref q24, .ref q25, .ref q26, .int 0, .int 0, .ref q27])) :: [(q1, .inl (czT E 0, 42, .inl (fun _ => 0))), (q2, .inl (czT E 0, 2, .inl (fun _ => 0))), (q3, .inl (czT E 0, 120, .inl (fun _ => 0))), (q4, .inl (czT E 0, 60, .inl (fun _ => 0))), (q5, .inl (czT E 0, 60, .inl (fun _ => 0))), (q6, .inl (czT E 0, 60, .inl (fun _ => 0))), (q7, .inl (czT E 0, 200, .inl (fun _ => 0))), (q8, .inl (czT E 0, 61, .inl (fun _ => 0))), (q9, .inl (czT E 0, 61, .inl (fun _ => 0))), (q10, .inl (czT E 0, 61, .inl (fun _ => 0))), (q11, .inl (czT E 0, 200, .inl (fun _ => 0))), (q12, .inl (czT E 0, 200, .inl (fun _ => 0))), (q13, .inl (czT E 0, 6, .inl (fun _ => 0))), (q14, .inl (czT E 0, 5, .inl (fun _ => 0))), (q15, .inl (czT E 0, 16, .inl (fun _ => 0))), (q16, .inl (czT E 0, 5, .inl (fun _ => 0))), (q17, .inl (czT E 0, 160, .inl (fun _ => 0))), (q18, .inl (czT E 0, 50, .inl (fun _ => 0))), (q19, .inl (czT E 0, 24, .inl (fun _ => 0))), (q20, .inl (czT E 0, 6, .inl (upd (upd (upd (upd (upd (fun _ => 0) (0 : Int32).toNatClampNeg (-1)) (1 : Int32).toNatClampNeg (-1)) (2 : Int32).toNatClampNeg (-1)) (3 : Int32).toNatClampNeg (-1)) (4 : Int32).toNatClampNeg (-1)))), (q21, .inl (czT E 0, 6, .inl (fun _ => 0))), (q22, .inl (czT E 1, 360, .inr (.inl (fun _ => 0)))), (q23, .inl (czT E 0, 16, .inl (fun _ => 0))), (q24, .inl (czT E 0, 16, .inl (fun _ => 0))), (q25, .inl (czT E 0, 7, .inl (fun _ => 0))), (q26, .inl (czT E 0, 7, .inl (fun _ => 0))), (q27, .inl (czT E 0, 128, .inl (fun _ => 0)))])) rfl ?_
  refine Cz_iinc X (i := 1) (j := 0) (v := 5) rfl (by decide) (Nat.le_of_ble_eq_true rfl) (ls2 := [(1, .int 5), (0, .ref h0)]) rfl dX8_init_238 rfl ?_
  refine Cz_goto X (tgt := 225) dX8_init_241 rfl ?_
  refine Cz_iload_n X (j := 0) rfl rfl dX8_init_225 rfl ?_
  refine Cz_bipush X (v := 6) (by decide) dX8_init_226 rfl ?_
  refine Cz_geF X (tgt := 244) (by decide) dX8_init_228 rfl rfl ?_
  refine Cz_aload_n X (j := 1) rfl rfl dX8_init_231 rfl ?_
  refine Cz_get0 X (j := 33) kc8 (Nat.le_of_ble_eq_true rfl) lf_X8_69 rfl dX8_init_232 rfl ?_
  refine Cz_iload_n X (j := 0) rfl rfl dX8_init_235 rfl ?_
  refine Cz_iconst X (v := (-1)) (by decide) dX8_init_236 rfl ?_
  refine Cz_iastore X (q0 := 20) rfl (vin (a := 5) (by decide)) dX8_init_237 rfl (ws2 := ((h0, .inr (8, [.int 0, .ref q1, .ref q2, .int 0, .ref q3, .int 0, .int 0, .ref q4, .ref q5, .ref q6, .ref q7, .int 0, .int 0, .int 0, .int 0, .ref q8, .ref q9, .ref q10, .ref q11, .ref q12, .ref q13, .ref q14, .int 0, .int 0, .ref q15, .ref q16, .int 0, .int 0, .ref q17, .int 0, .ref q18, .int 0, .ref q19, .ref q20, .ref q21, .ref q22, .ref q23, .ref q24, .ref q25, .ref q26, .int 0, .int 0, .ref q27])) :: [(q1, .inl (czT E 0, 42, .inl (fun _ => 0))), (q2, .inl (czT E 0, 2, .inl (fun _ => 0))), (q3, .inl (czT E 0, 120, .inl (fun _ => 0))), (q4, .inl (czT E 0, 60, .inl (fun _ => 0))), (q5, .inl (czT E 0, 60, .inl (fun _ => 0))), (q6, .inl (czT E 0, 60, .inl (fun _ => 0))), (q7, .inl (czT E 0, 200, .inl (fun _ => 0))), (q8, .inl (czT E 0, 61, .inl (fun _ => 0))), (q9, .inl (czT E 0, 61, .inl (fun _ => 0))), (q10, .inl (czT E 0, 61, .inl (fun _ => 0))), (q11, .inl (czT E 0, 200, .inl (fun _ => 0))), (q12, .inl (czT E 0, 200, .inl (fun _ => 0))), (q13, .inl (czT E 0, 6, .inl (fun _ => 0))), (q14, .inl (czT E 0, 5, .inl (fun _ => 0))), (q15, .inl (czT E 0, 16, .inl (fun _ => 0))), (q16, .inl (czT E 0, 5, .inl (fun _ => 0))), (q17, .inl (czT E 0, 160, .inl (fun _ => 0))), (q18, .inl (czT E 0, 50, .inl (fun _ => 0))), (q19, .inl (czT E 0, 24, .inl (fun _ => 0))), (q20, .inl (czT E 0, 6, .inl (upd (upd (upd (upd (upd (upd (fun _ => 0) (0 : Int32).toNatClampNeg (-1)) (1 : Int32).toNatClampNeg (-1)) (2 : Int32).toNatClampNeg (-1)) (3 : Int32).toNatClampNeg (-1)) (4 : Int32).toNatClampNeg (-1)) (5 : Int32).toNatClampNeg (-1)))), (q21, .inl (czT E 0, 6, .inl (fun _ => 0))), (q22, .inl (czT E 1, 360, .inr (.inl (fun _ => 0)))), (q23, .inl (czT E 0, 16, .inl (fun _ => 0))), (q24, .inl (czT E 0, 16, .inl (fun _ => 0))), (q25, .inl (czT E 0, 7, .inl (fun _ => 0))), (q26, .inl (czT E 0, 7, .inl (fun _ => 0))), (q27, .inl (czT E 0, 128, .inl (fun _ => 0)))])) rfl ?_
  refine Cz_iinc X (i := 1) (j := 0) (v := 6) rfl (by decide) (Nat.le_of_ble_eq_true rfl) (ls2 := [(1, .int 6), (0, .ref h0)]) rfl dX8_init_238 rfl ?_
  refine Cz_goto X (tgt := 225) dX8_init_241 rfl ?_
  refine Cz_iload_n X (j := 0) rfl rfl dX8_init_225 rfl ?_
  refine Cz_bipush X (v := 6) (by decide) dX8_init_226 rfl ?_
  refine Cz_geT X (tgt := 244) (by decide) dX8_init_228 rfl ?_
  refine Cz_ret2 X hQ (fun k => ([h0, q1, q2, q3, q4, q5, q6, q7, q8, q9, q10, q11, q12, q13, q14, q15, q16, q17, q18, q19, q20, q21, q22, q23, q24, q25, q26, q27] : List Nat).getD k 0) rfl rfl (fun D H hP i q hq => ?_) rfl dX8_init_244
  have hi : i < 28 := by
    have := (List.getElem?_eq_some_iff.mp hq).1
    simpa [WX8, rfW, ΛM] using this
  rw [show WX8 w (czT E) h0 _ = rfW _ _ _ _ from rfl, rfW_at hi] at hq
  cases hq
  match i, hi with
  | 0, _ => exact hP 0 _ rfl
  | 1, _ => exact hP 1 _ rfl
  | 2, _ => exact hP 2 _ rfl
  | 3, _ => exact hP 3 _ rfl
  | 4, _ => exact hP 4 _ rfl
  | 5, _ => exact hP 5 _ rfl
  | 6, _ => exact hP 6 _ rfl
  | 7, _ => exact hP 7 _ rfl
  | 8, _ => exact hP 8 _ rfl
  | 9, _ => exact hP 9 _ rfl
  | 10, _ => exact hP 10 _ rfl
  | 11, _ => exact hP 11 _ rfl
  | 12, _ => exact hP 12 _ rfl
  | 13, _ => exact hP 13 _ rfl
  | 14, _ => exact hP 14 _ rfl
  | 15, _ => exact hP 15 _ rfl
  | 16, _ => exact hP 16 _ rfl
  | 17, _ => exact hP 17 _ rfl
  | 18, _ => exact hP 18 _ rfl
  | 19, _ => exact hP 19 _ rfl
  | 20, _ => exact hP 20 _ rfl
  | 21, _ => exact hP 21 _ rfl
  | 22, _ => exact hP 22 _ rfl
  | 23, _ => exact hP 23 _ rfl
  | 24, _ => exact hP 24 _ rfl
  | 25, _ => exact hP 25 _ rfl
  | 26, _ => exact hP 26 _ rfl
  | 27, _ => exact hP 27 _ rfl
  | j9 + 28, hi => exact absurd hi (by omega)
