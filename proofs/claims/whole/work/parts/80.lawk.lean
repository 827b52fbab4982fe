/-! the law: links and cases -/
set_option maxRecDepth 40000 in
theorem lm_L_13 : Cond.methodLink R_law 13 ⟨"OneLeg", "brother", "(I)I"⟩ ∈ rfG := rf_gl 360 rfl rfl
set_option maxRecDepth 40000 in
theorem lm_L_18 : Cond.methodLink R_law 18 ⟨"OneLeg", "brothers", "(III)I"⟩ ∈ rfG := rf_gl 371 rfl rfl
set_option maxRecDepth 40000 in
theorem lm_L_23 : Cond.methodLink R_law 23 ⟨"OneLeg", "mend", "(III)I"⟩ ∈ rfG := rf_gl 382 rfl rfl
set_option maxRecDepth 40000 in
theorem lm_L_27 : Cond.methodLink R_law 27 ⟨"OneLeg", "of", "(II)I"⟩ ∈ rfG := rf_gl 417 rfl rfl
set_option maxRecDepth 40000 in
theorem lm_L_32 : Cond.methodLink R_law 32 ⟨"OneLeg", "feed", "(I)I"⟩ ∈ rfG := rf_gl 421 rfl rfl
set_option maxRecDepth 40000 in
theorem lm_L_36 : Cond.methodLink R_law 36 ⟨"OneLeg", "law", "()I"⟩ ∈ rfG := rf_gl 429 rfl rfl
set_option maxRecDepth 40000 in
theorem lm_L_41 : Cond.methodLink R_law 41 ⟨"OneLeg", "does", "(I)I"⟩ ∈ rfG := rf_gl 479 rfl rfl
set_option maxRecDepth 40000 in
theorem lm_L_45 : Cond.methodLink R_law 45 ⟨"OneLeg", "later", "(IIII)I"⟩ ∈ rfG := rf_gl 514 rfl rfl
set_option maxRecDepth 40000 in
theorem lm_L_50 : Cond.methodLink R_law 50 ⟨"OneLeg", "deep", "(III)I"⟩ ∈ rfG := rf_gl 559 rfl rfl
set_option maxRecDepth 40000 in
theorem lm_L_54 : Cond.methodLink R_law 54 ⟨"OneLeg", "bestRota", "(II)I"⟩ ∈ rfG := rf_gl 565 rfl rfl
set_option maxRecDepth 40000 in
theorem lm_L_58 : Cond.methodLink R_law 58 ⟨"OneLeg", "told", "(III)I"⟩ ∈ rfG := rf_gl 583 rfl rfl
set_option maxRecDepth 40000 in
theorem lm_L_62 : Cond.methodLink R_law 62 ⟨"OneLeg", "apart", "(I)I"⟩ ∈ rfG := rf_gl 598 rfl rfl
set_option maxRecDepth 40000 in
theorem lm_L_66 : Cond.methodLink R_law 66 ⟨"OneLeg", "week", "(I)I"⟩ ∈ rfG := rf_gl 614 rfl rfl
set_option maxRecDepth 40000 in
theorem lm_L_70 : Cond.methodLink R_law 70 ⟨"OneLeg", "fire", "(I)I"⟩ ∈ rfG := rf_gl 633 rfl rfl
set_option maxRecDepth 40000 in
theorem lm_L_74 : Cond.methodLink R_law 74 ⟨"OneLeg", "judge", "(II)I"⟩ ∈ rfG := rf_gl 650 rfl rfl
set_option maxRecDepth 40000 in
theorem lm_L_78 : Cond.methodLink R_law 78 ⟨"OneLeg", "fits", "(III)I"⟩ ∈ rfG := rf_gl 666 rfl rfl
set_option maxRecDepth 40000 in
theorem lm_L_82 : Cond.methodLink R_law 82 ⟨"OneLeg", "byTurns", "(III)I"⟩ ∈ rfG := rf_gl 674 rfl rfl
set_option maxRecDepth 40000 in
theorem lm_L_86 : Cond.methodLink R_law 86 ⟨"OneLeg", "drawn", "(III)I"⟩ ∈ rfG := rf_gl 692 rfl rfl
set_option maxRecDepth 40000 in
theorem lm_L_90 : Cond.methodLink R_law 90 ⟨"OneLeg", "day", "(I)I"⟩ ∈ rfG := rf_gl 705 rfl rfl
set_option maxRecDepth 40000 in
theorem lm_L_94 : Cond.methodLink R_law 94 ⟨"OneLeg", "tells", "(II)I"⟩ ∈ rfG := rf_gl 711 rfl rfl
set_option maxRecDepth 40000 in
theorem lm_L_98 : Cond.methodLink R_law 98 ⟨"OneLeg", "pays", "(III)I"⟩ ∈ rfG := rf_gl 719 rfl rfl
set_option maxRecDepth 40000 in
theorem lm_L_102 : Cond.methodLink R_law 102 ⟨"OneLeg", "cobble", "()I"⟩ ∈ rfG := rf_gl 723 rfl rfl
set_option maxRecDepth 40000 in
theorem lm_L_106 : Cond.methodLink R_law 106 ⟨"OneLeg", "led", "(I)I"⟩ ∈ rfG := rf_gl 727 rfl rfl
set_option maxRecDepth 40000 in
theorem lm_L_110 : Cond.methodLink R_law 110 ⟨"OneLeg", "image", "()I"⟩ ∈ rfG := rf_gl 731 rfl rfl
set_option maxRecDepth 40000 in
theorem lm_L_114 : Cond.methodLink R_law 114 ⟨"OneLeg", "back", "()I"⟩ ∈ rfG := rf_gl 737 rfl rfl
set_option maxRecDepth 40000 in
theorem lm_L_118 : Cond.methodLink R_law 118 ⟨"OneLeg", "undo", "()I"⟩ ∈ rfG := rf_gl 741 rfl rfl
set_option maxRecDepth 40000 in
theorem lm_L_122 : Cond.methodLink R_law 122 ⟨"OneLeg", "redo", "()I"⟩ ∈ rfG := rf_gl 745 rfl rfl
set_option maxRecDepth 40000 in
theorem lm_L_126 : Cond.methodLink R_law 126 ⟨"OneLeg", "body", "(I)I"⟩ ∈ rfG := rf_gl 749 rfl rfl
set_option maxRecDepth 40000 in
theorem lm_L_130 : Cond.methodLink R_law 130 ⟨"OneLeg", "act", "(III)I"⟩ ∈ rfG := rf_gl 757 rfl rfl
set_option maxRecDepth 40000 in
theorem lm_L_134 : Cond.methodLink R_law 134 ⟨"OneLeg", "trace", "(I)I"⟩ ∈ rfG := rf_gl 785 rfl rfl
set_option maxRecDepth 40000 in
theorem lm_L_138 : Cond.methodLink R_law 138 ⟨"OneLeg", "keep", "(II)I"⟩ ∈ rfG := rf_gl 789 rfl rfl
set_option maxRecDepth 40000 in
theorem lm_L_142 : Cond.methodLink R_law 142 ⟨"OneLeg", "row", "(III)I"⟩ ∈ rfG := rf_gl 793 rfl rfl
set_option maxRecDepth 40000 in
theorem lm_L_148 : Cond.methodLink R_law 148 ⟨"OneLeg", "put", "(IIJ)I"⟩ ∈ rfG := rf_gl 801 rfl rfl
set_option maxRecDepth 40000 in
theorem lm_L_153 : Cond.methodLink R_law 153 ⟨"OneLeg", "element", "(II)J"⟩ ∈ rfG := rf_gl 813 rfl rfl
set_option maxRecDepth 40000 in
theorem lm_L_158 : Cond.methodLink R_law 158 ⟨"OneLeg", "shift", "(IIIII)I"⟩ ∈ rfG := rf_gl 818 rfl rfl
set_option maxRecDepth 40000 in
theorem lm_L_163 : Cond.methodLink R_law 163 ⟨"OneLeg", "taken", "(II)I"⟩ ∈ rfG := rf_gl 826 rfl rfl
set_option maxRecDepth 40000 in
theorem lm_L_167 : Cond.methodLink R_law 167 ⟨"OneLeg", "count", "(I)I"⟩ ∈ rfG := rf_gl 833 rfl rfl
set_option maxRecDepth 40000 in
theorem lm_L_17 : Cond.methodLink R_law 17 ⟨"OneLegModel", "brother", "(I)I"⟩ ∈ rfG := rf_gl 973 rfl rfl
set_option maxRecDepth 40000 in
theorem lm_L_22 : Cond.methodLink R_law 22 ⟨"OneLegModel", "brothers", "(III)I"⟩ ∈ rfG := rf_gl 984 rfl rfl
set_option maxRecDepth 40000 in
theorem lm_L_26 : Cond.methodLink R_law 26 ⟨"OneLegModel", "mend", "(III)I"⟩ ∈ rfG := rf_gl 996 rfl rfl
set_option maxRecDepth 40000 in
theorem lm_L_31 : Cond.methodLink R_law 31 ⟨"OneLegModel", "of", "(II)I"⟩ ∈ rfG := rf_gl 1019 rfl rfl
set_option maxRecDepth 40000 in
theorem lm_L_121 : Cond.methodLink R_law 121 ⟨"OneLegModel", "undo", "()I"⟩ ∈ rfG := rf_gl 1023 rfl rfl
set_option maxRecDepth 40000 in
theorem lm_L_125 : Cond.methodLink R_law 125 ⟨"OneLegModel", "redo", "()I"⟩ ∈ rfG := rf_gl 1027 rfl rfl
set_option maxRecDepth 40000 in
theorem lm_L_35 : Cond.methodLink R_law 35 ⟨"OneLegModel", "feed", "(I)I"⟩ ∈ rfG := rf_gl 1031 rfl rfl
set_option maxRecDepth 40000 in
theorem lm_L_40 : Cond.methodLink R_law 40 ⟨"OneLegModel", "law", "()I"⟩ ∈ rfG := rf_gl 1035 rfl rfl
set_option maxRecDepth 40000 in
theorem lm_L_44 : Cond.methodLink R_law 44 ⟨"OneLegModel", "does", "(I)I"⟩ ∈ rfG := rf_gl 1086 rfl rfl
set_option maxRecDepth 40000 in
theorem lm_L_49 : Cond.methodLink R_law 49 ⟨"OneLegModel", "later", "(IIII)I"⟩ ∈ rfG := rf_gl 1115 rfl rfl
set_option maxRecDepth 40000 in
theorem lm_L_53 : Cond.methodLink R_law 53 ⟨"OneLegModel", "deep", "(III)I"⟩ ∈ rfG := rf_gl 1147 rfl rfl
set_option maxRecDepth 40000 in
theorem lm_L_57 : Cond.methodLink R_law 57 ⟨"OneLegModel", "bestRota", "(II)I"⟩ ∈ rfG := rf_gl 1151 rfl rfl
set_option maxRecDepth 40000 in
theorem lm_L_61 : Cond.methodLink R_law 61 ⟨"OneLegModel", "told", "(III)I"⟩ ∈ rfG := rf_gl 1159 rfl rfl
set_option maxRecDepth 40000 in
theorem lm_L_65 : Cond.methodLink R_law 65 ⟨"OneLegModel", "apart", "(I)I"⟩ ∈ rfG := rf_gl 1167 rfl rfl
set_option maxRecDepth 40000 in
theorem lm_L_69 : Cond.methodLink R_law 69 ⟨"OneLegModel", "week", "(I)I"⟩ ∈ rfG := rf_gl 1175 rfl rfl
set_option maxRecDepth 40000 in
theorem lm_L_73 : Cond.methodLink R_law 73 ⟨"OneLegModel", "fire", "(I)I"⟩ ∈ rfG := rf_gl 1183 rfl rfl
set_option maxRecDepth 40000 in
theorem lm_L_77 : Cond.methodLink R_law 77 ⟨"OneLegModel", "judge", "(II)I"⟩ ∈ rfG := rf_gl 1199 rfl rfl
set_option maxRecDepth 40000 in
theorem lm_L_81 : Cond.methodLink R_law 81 ⟨"OneLegModel", "fits", "(III)I"⟩ ∈ rfG := rf_gl 1211 rfl rfl
set_option maxRecDepth 40000 in
theorem lm_L_85 : Cond.methodLink R_law 85 ⟨"OneLegModel", "byTurns", "(III)I"⟩ ∈ rfG := rf_gl 1215 rfl rfl
set_option maxRecDepth 40000 in
theorem lm_L_89 : Cond.methodLink R_law 89 ⟨"OneLegModel", "drawn", "(III)I"⟩ ∈ rfG := rf_gl 1229 rfl rfl
set_option maxRecDepth 40000 in
theorem lm_L_93 : Cond.methodLink R_law 93 ⟨"OneLegModel", "day", "(I)I"⟩ ∈ rfG := rf_gl 1234 rfl rfl
set_option maxRecDepth 40000 in
theorem lm_L_97 : Cond.methodLink R_law 97 ⟨"OneLegModel", "tells", "(II)I"⟩ ∈ rfG := rf_gl 1238 rfl rfl
set_option maxRecDepth 40000 in
theorem lm_L_101 : Cond.methodLink R_law 101 ⟨"OneLegModel", "pays", "(III)I"⟩ ∈ rfG := rf_gl 1242 rfl rfl
set_option maxRecDepth 40000 in
theorem lm_L_105 : Cond.methodLink R_law 105 ⟨"OneLegModel", "cobble", "()I"⟩ ∈ rfG := rf_gl 1246 rfl rfl
set_option maxRecDepth 40000 in
theorem lm_L_109 : Cond.methodLink R_law 109 ⟨"OneLegModel", "led", "(I)I"⟩ ∈ rfG := rf_gl 1250 rfl rfl
set_option maxRecDepth 40000 in
theorem lm_L_113 : Cond.methodLink R_law 113 ⟨"OneLegModel", "image", "()I"⟩ ∈ rfG := rf_gl 1254 rfl rfl
set_option maxRecDepth 40000 in
theorem lm_L_117 : Cond.methodLink R_law 117 ⟨"OneLegModel", "back", "()I"⟩ ∈ rfG := rf_gl 1258 rfl rfl
set_option maxRecDepth 40000 in
theorem lm_L_129 : Cond.methodLink R_law 129 ⟨"OneLegModel", "body", "(I)I"⟩ ∈ rfG := rf_gl 1262 rfl rfl
set_option maxRecDepth 40000 in
theorem lm_L_133 : Cond.methodLink R_law 133 ⟨"OneLegModel", "act", "(III)I"⟩ ∈ rfG := rf_gl 1266 rfl rfl
set_option maxRecDepth 40000 in
theorem lm_L_137 : Cond.methodLink R_law 137 ⟨"OneLegModel", "trace", "(I)I"⟩ ∈ rfG := rf_gl 1293 rfl rfl
set_option maxRecDepth 40000 in
theorem lm_L_141 : Cond.methodLink R_law 141 ⟨"OneLegModel", "keep", "(II)I"⟩ ∈ rfG := rf_gl 1297 rfl rfl
set_option maxRecDepth 40000 in
theorem lm_L_145 : Cond.methodLink R_law 145 ⟨"OneLegModel", "row", "(III)I"⟩ ∈ rfG := rf_gl 1301 rfl rfl
set_option maxRecDepth 40000 in
theorem lm_L_152 : Cond.methodLink R_law 152 ⟨"OneLegModel", "put", "(IIJ)I"⟩ ∈ rfG := rf_gl 1305 rfl rfl
set_option maxRecDepth 40000 in
theorem lm_L_157 : Cond.methodLink R_law 157 ⟨"OneLegModel", "element", "(II)J"⟩ ∈ rfG := rf_gl 1316 rfl rfl
set_option maxRecDepth 40000 in
theorem lm_L_162 : Cond.methodLink R_law 162 ⟨"OneLegModel", "shift", "(IIIII)I"⟩ ∈ rfG := rf_gl 1321 rfl rfl
set_option maxRecDepth 40000 in
theorem lm_L_166 : Cond.methodLink R_law 166 ⟨"OneLegModel", "taken", "(II)I"⟩ ∈ rfG := rf_gl 1325 rfl rfl
set_option maxRecDepth 40000 in
theorem lm_L_170 : Cond.methodLink R_law 170 ⟨"OneLegModel", "count", "(I)I"⟩ ∈ rfG := rf_gl 1329 rfl rfl
set_option maxRecDepth 40000 in
theorem lc_L_146 : Cond.constantLong R_law 146 4294967295 ∈ rfG := rf_gl 1333 rfl rfl
set_option maxHeartbeats 1000000 in
set_option maxRecDepth 20000 in
theorem cs_0 {E : lzE} {b L : Nat} {xs : Nat → Int32} {aC aM : Nat → Nat} (X : lwX E b L xs aC aM) {i : Nat} (hi : i + 6 ≤ L) {n bs : Nat} {sC sM : rfS} (hR : Rel n bs sC sM) (kk : ∀ c2 m2, RelE c2 m2 → Lw E b aC aM 1378 (lls b aC aM i) [] c2 m2) : Lw E b aC aM 196 (lls b aC aM i) [] sC sM := by
  refine Lw_aload_n X (j := 1) rfl rfl dw_196 rfl ?_
  refine Lw_arg X (t := 1) hi (by decide) rfl dw_197 dw_198 dw_199 dw_200 dw_201 rfl ?_
  refine Lw_callC X (as := [.int (xs (i + 1))]) (st := []) (k_X7_brother (op_brother hR _)) (fun _ => rfl) (by decide) lm_L_13 mi_X7_brother rfl rfl (Nat.le_of_ble_eq_true rfl) dw_202 rfl (fun r3 c2 hq => ?_)
  obtain ⟨v1, rfl, h1⟩ := hq
  show Lw E b aC aM 205 (lls b aC aM i) [.int v1] c2 sM
  refine Lw_aload_n X (j := 2) rfl rfl dw_205 rfl ?_
  refine Lw_arg X (t := 1) hi (by decide) rfl dw_206 dw_207 dw_208 dw_209 dw_210 rfl ?_
  refine Lw_callM X (as := [.int (xs (i + 1))]) (st := [.int v1]) (k_X8_brother h1) (fun _ => rfl) (by decide) lm_L_17 mi_X8_brother rfl rfl (Nat.le_of_ble_eq_true rfl) dw_211 rfl (fun r4 m2 hq => ?_)
  obtain ⟨v2, rfl, h2, hE⟩ := hq
  subst h2
  show Lw E b aC aM 214 (lls b aC aM i) [.int v1, .int v1] c2 m2
  exact Lw_eq X (tgt := 1378) rfl dw_214 rfl (kk c2 m2 hE)
set_option maxHeartbeats 1000000 in
set_option maxRecDepth 20000 in
theorem cs_1 {E : lzE} {b L : Nat} {xs : Nat → Int32} {aC aM : Nat → Nat} (X : lwX E b L xs aC aM) {i : Nat} (hi : i + 6 ≤ L) {n bs : Nat} {sC sM : rfS} (hR : Rel n bs sC sM) (kk : ∀ c2 m2, RelE c2 m2 → Lw E b aC aM 1378 (lls b aC aM i) [] c2 m2) : Lw E b aC aM 219 (lls b aC aM i) [] sC sM := by
  refine Lw_aload_n X (j := 1) rfl rfl dw_219 rfl ?_
  refine Lw_arg X (t := 1) hi (by decide) rfl dw_220 dw_221 dw_222 dw_223 dw_224 rfl ?_
  refine Lw_arg X (t := 2) hi (by decide) rfl dw_225 dw_226 dw_227 dw_228 dw_229 rfl ?_
  refine Lw_arg X (t := 3) hi (by decide) rfl dw_230 dw_231 dw_232 dw_233 dw_234 rfl ?_
  refine Lw_callC X (as := [.int (xs (i + 1)), .int (xs (i + 2)), .int (xs (i + 3))]) (st := []) (k_X7_brothers (op_brothers hR _ _ _)) (fun _ => rfl) (by decide) lm_L_18 mi_X7_brothers rfl rfl (Nat.le_of_ble_eq_true rfl) dw_235 rfl (fun r3 c2 hq => ?_)
  obtain ⟨v1, rfl, h1⟩ := hq
  show Lw E b aC aM 238 (lls b aC aM i) [.int v1] c2 sM
  refine Lw_aload_n X (j := 2) rfl rfl dw_238 rfl ?_
  refine Lw_arg X (t := 1) hi (by decide) rfl dw_239 dw_240 dw_241 dw_242 dw_243 rfl ?_
  refine Lw_arg X (t := 2) hi (by decide) rfl dw_244 dw_245 dw_246 dw_247 dw_248 rfl ?_
  refine Lw_arg X (t := 3) hi (by decide) rfl dw_249 dw_250 dw_251 dw_252 dw_253 rfl ?_
  refine Lw_callM X (as := [.int (xs (i + 1)), .int (xs (i + 2)), .int (xs (i + 3))]) (st := [.int v1]) (k_X8_brothers h1) (fun _ => rfl) (by decide) lm_L_22 mi_X8_brothers rfl rfl (Nat.le_of_ble_eq_true rfl) dw_254 rfl (fun r4 m2 hq => ?_)
  obtain ⟨v2, rfl, h2, hE⟩ := hq
  subst h2
  show Lw E b aC aM 257 (lls b aC aM i) [.int v1, .int v1] c2 m2
  exact Lw_eq X (tgt := 1378) rfl dw_257 rfl (kk c2 m2 hE)
set_option maxHeartbeats 1000000 in
set_option maxRecDepth 20000 in
theorem cs_2 {E : lzE} {b L : Nat} {xs : Nat → Int32} {aC aM : Nat → Nat} (X : lwX E b L xs aC aM) {i : Nat} (hi : i + 6 ≤ L) {n bs : Nat} {sC sM : rfS} (hR : Rel n bs sC sM) (kk : ∀ c2 m2, RelE c2 m2 → Lw E b aC aM 1378 (lls b aC aM i) [] c2 m2) : Lw E b aC aM 262 (lls b aC aM i) [] sC sM := by
  refine Lw_aload_n X (j := 1) rfl rfl dw_262 rfl ?_
  refine Lw_arg X (t := 1) hi (by decide) rfl dw_263 dw_264 dw_265 dw_266 dw_267 rfl ?_
  refine Lw_arg X (t := 2) hi (by decide) rfl dw_268 dw_269 dw_270 dw_271 dw_272 rfl ?_
  refine Lw_arg X (t := 3) hi (by decide) rfl dw_273 dw_274 dw_275 dw_276 dw_277 rfl ?_
  refine Lw_callC X (as := [.int (xs (i + 1)), .int (xs (i + 2)), .int (xs (i + 3))]) (st := []) (k_X7_mend (op_mend hR _ _ _)) (fun _ => rfl) (by decide) lm_L_23 mi_X7_mend rfl rfl (Nat.le_of_ble_eq_true rfl) dw_278 rfl (fun r3 c2 hq => ?_)
  obtain ⟨v1, rfl, h1⟩ := hq
  show Lw E b aC aM 281 (lls b aC aM i) [.int v1] c2 sM
  refine Lw_aload_n X (j := 2) rfl rfl dw_281 rfl ?_
  refine Lw_arg X (t := 1) hi (by decide) rfl dw_282 dw_283 dw_284 dw_285 dw_286 rfl ?_
  refine Lw_arg X (t := 2) hi (by decide) rfl dw_287 dw_288 dw_289 dw_290 dw_291 rfl ?_
  refine Lw_arg X (t := 3) hi (by decide) rfl dw_292 dw_293 dw_294 dw_295 dw_296 rfl ?_
  refine Lw_callM X (as := [.int (xs (i + 1)), .int (xs (i + 2)), .int (xs (i + 3))]) (st := [.int v1]) (k_X8_mend h1) (fun _ => rfl) (by decide) lm_L_26 mi_X8_mend rfl rfl (Nat.le_of_ble_eq_true rfl) dw_297 rfl (fun r4 m2 hq => ?_)
  obtain ⟨v2, rfl, h2, hE⟩ := hq
  subst h2
  show Lw E b aC aM 300 (lls b aC aM i) [.int v1, .int v1] c2 m2
  exact Lw_eq X (tgt := 1378) rfl dw_300 rfl (kk c2 m2 hE)
set_option maxHeartbeats 1000000 in
set_option maxRecDepth 20000 in
theorem cs_3 {E : lzE} {b L : Nat} {xs : Nat → Int32} {aC aM : Nat → Nat} (X : lwX E b L xs aC aM) {i : Nat} (hi : i + 6 ≤ L) {n bs : Nat} {sC sM : rfS} (hR : Rel n bs sC sM) (kk : ∀ c2 m2, RelE c2 m2 → Lw E b aC aM 1378 (lls b aC aM i) [] c2 m2) : Lw E b aC aM 305 (lls b aC aM i) [] sC sM := by
  refine Lw_aload_n X (j := 1) rfl rfl dw_305 rfl ?_
  refine Lw_arg X (t := 1) hi (by decide) rfl dw_306 dw_307 dw_308 dw_309 dw_310 rfl ?_
  refine Lw_arg X (t := 2) hi (by decide) rfl dw_311 dw_312 dw_313 dw_314 dw_315 rfl ?_
  refine Lw_callC X (as := [.int (xs (i + 1)), .int (xs (i + 2))]) (st := []) (k_X7_of (op_of hR _ _)) (fun _ => rfl) (by decide) lm_L_27 mi_X7_of rfl rfl (Nat.le_of_ble_eq_true rfl) dw_316 rfl (fun r3 c2 hq => ?_)
  obtain ⟨v1, rfl, h1⟩ := hq
  show Lw E b aC aM 319 (lls b aC aM i) [.int v1] c2 sM
  refine Lw_aload_n X (j := 2) rfl rfl dw_319 rfl ?_
  refine Lw_arg X (t := 1) hi (by decide) rfl dw_320 dw_321 dw_322 dw_323 dw_324 rfl ?_
  refine Lw_arg X (t := 2) hi (by decide) rfl dw_325 dw_326 dw_327 dw_328 dw_329 rfl ?_
  refine Lw_callM X (as := [.int (xs (i + 1)), .int (xs (i + 2))]) (st := [.int v1]) (k_X8_of h1) (fun _ => rfl) (by decide) lm_L_31 mi_X8_of rfl rfl (Nat.le_of_ble_eq_true rfl) dw_330 rfl (fun r4 m2 hq => ?_)
  obtain ⟨v2, rfl, h2, hE⟩ := hq
  subst h2
  show Lw E b aC aM 333 (lls b aC aM i) [.int v1, .int v1] c2 m2
  exact Lw_eq X (tgt := 1378) rfl dw_333 rfl (kk c2 m2 hE)
set_option maxHeartbeats 1000000 in
set_option maxRecDepth 20000 in
theorem cs_4 {E : lzE} {b L : Nat} {xs : Nat → Int32} {aC aM : Nat → Nat} (X : lwX E b L xs aC aM) {i : Nat} (hi : i + 6 ≤ L) {n bs : Nat} {sC sM : rfS} (hR : Rel n bs sC sM) (kk : ∀ c2 m2, RelE c2 m2 → Lw E b aC aM 1378 (lls b aC aM i) [] c2 m2) : Lw E b aC aM 338 (lls b aC aM i) [] sC sM := by
  refine Lw_aload_n X (j := 1) rfl rfl dw_338 rfl ?_
  refine Lw_arg X (t := 1) hi (by decide) rfl dw_339 dw_340 dw_341 dw_342 dw_343 rfl ?_
  refine Lw_callC X (as := [.int (xs (i + 1))]) (st := []) (k_X7_feed (op_feed hR _)) (fun _ => rfl) (by decide) lm_L_32 mi_X7_feed rfl rfl (Nat.le_of_ble_eq_true rfl) dw_344 rfl (fun r3 c2 hq => ?_)
  obtain ⟨v1, rfl, h1⟩ := hq
  show Lw E b aC aM 347 (lls b aC aM i) [.int v1] c2 sM
  refine Lw_aload_n X (j := 2) rfl rfl dw_347 rfl ?_
  refine Lw_arg X (t := 1) hi (by decide) rfl dw_348 dw_349 dw_350 dw_351 dw_352 rfl ?_
  refine Lw_callM X (as := [.int (xs (i + 1))]) (st := [.int v1]) (k_X8_feed h1) (fun _ => rfl) (by decide) lm_L_35 mi_X8_feed rfl rfl (Nat.le_of_ble_eq_true rfl) dw_353 rfl (fun r4 m2 hq => ?_)
  obtain ⟨v2, rfl, h2, hE⟩ := hq
  subst h2
  show Lw E b aC aM 356 (lls b aC aM i) [.int v1, .int v1] c2 m2
  exact Lw_eq X (tgt := 1378) rfl dw_356 rfl (kk c2 m2 hE)
set_option maxHeartbeats 1000000 in
set_option maxRecDepth 20000 in
theorem cs_5 {E : lzE} {b L : Nat} {xs : Nat → Int32} {aC aM : Nat → Nat} (X : lwX E b L xs aC aM) {i : Nat} (hi : i + 6 ≤ L) {n bs : Nat} {sC sM : rfS} (hR : Rel n bs sC sM) (kk : ∀ c2 m2, RelE c2 m2 → Lw E b aC aM 1378 (lls b aC aM i) [] c2 m2) : Lw E b aC aM 361 (lls b aC aM i) [] sC sM := by
  refine Lw_aload_n X (j := 1) rfl rfl dw_361 rfl ?_
  refine Lw_callC X (as := []) (st := []) (k_X7_law (d := 1 + 49 + 1 + 1 + 1) (fun _ _ h => k_X3_read (d := 1 + 49 + 1 + 1) (fun _ _ h => k_X3_readLines (d := 1 + 49 + 1) (fun _ _ h => k_X3_readLine (d := 1 + 49) (RCO_k 49).1 (by decide) h) (by decide) h) (by decide) h) (by decide) (op_law hR)) (fun _ => rfl) (by decide) lm_L_36 mi_X7_law rfl rfl (Nat.le_of_ble_eq_true rfl) dw_362 rfl (fun r3 c2 hq => ?_)
  obtain ⟨v1, rfl, h1⟩ := hq
  show Lw E b aC aM 365 (lls b aC aM i) [.int v1] c2 sM
  refine Lw_aload_n X (j := 2) rfl rfl dw_365 rfl ?_
  refine Lw_callM X (as := []) (st := [.int v1]) (k_X8_law (d := 1 + 42 + 1) (fun _ _ h => k_X8_isLine (d := 1 + 42) (MIE_k 42).2.2.2.2.2 (by decide) h) (by decide) h1) (fun _ => rfl) (by decide) lm_L_40 mi_X8_law rfl rfl (Nat.le_of_ble_eq_true rfl) dw_366 rfl (fun r4 m2 hq => ?_)
  obtain ⟨v2, rfl, h2, hE⟩ := hq
  subst h2
  show Lw E b aC aM 369 (lls b aC aM i) [.int v1, .int v1] c2 m2
  exact Lw_eq X (tgt := 1378) rfl dw_369 rfl (kk c2 m2 hE)
set_option maxHeartbeats 1000000 in
set_option maxRecDepth 20000 in
theorem cs_6 {E : lzE} {b L : Nat} {xs : Nat → Int32} {aC aM : Nat → Nat} (X : lwX E b L xs aC aM) {i : Nat} (hi : i + 6 ≤ L) {n bs : Nat} {sC sM : rfS} (hR : Rel n bs sC sM) (kk : ∀ c2 m2, RelE c2 m2 → Lw E b aC aM 1378 (lls b aC aM i) [] c2 m2) : Lw E b aC aM 374 (lls b aC aM i) [] sC sM := by
  refine Lw_aload_n X (j := 1) rfl rfl dw_374 rfl ?_
  refine Lw_arg X (t := 1) hi (by decide) rfl dw_375 dw_376 dw_377 dw_378 dw_379 rfl ?_
  refine Lw_callC X (as := [.int (xs (i + 1))]) (st := []) (k_X7_does (op_does hR _)) (fun _ => rfl) (by decide) lm_L_41 mi_X7_does rfl rfl (Nat.le_of_ble_eq_true rfl) dw_380 rfl (fun r3 c2 hq => ?_)
  obtain ⟨v1, rfl, h1⟩ := hq
  show Lw E b aC aM 383 (lls b aC aM i) [.int v1] c2 sM
  refine Lw_aload_n X (j := 2) rfl rfl dw_383 rfl ?_
  refine Lw_arg X (t := 1) hi (by decide) rfl dw_384 dw_385 dw_386 dw_387 dw_388 rfl ?_
  refine Lw_callM X (as := [.int (xs (i + 1))]) (st := [.int v1]) (k_X8_does h1) (fun _ => rfl) (by decide) lm_L_44 mi_X8_does rfl rfl (Nat.le_of_ble_eq_true rfl) dw_389 rfl (fun r4 m2 hq => ?_)
  obtain ⟨v2, rfl, h2, hE⟩ := hq
  subst h2
  show Lw E b aC aM 392 (lls b aC aM i) [.int v1, .int v1] c2 m2
  exact Lw_eq X (tgt := 1378) rfl dw_392 rfl (kk c2 m2 hE)
set_option maxHeartbeats 1000000 in
set_option maxRecDepth 20000 in
theorem cs_7 {E : lzE} {b L : Nat} {xs : Nat → Int32} {aC aM : Nat → Nat} (X : lwX E b L xs aC aM) {i : Nat} (hi : i + 6 ≤ L) {n bs : Nat} {sC sM : rfS} (hR : Rel n bs sC sM) (kk : ∀ c2 m2, RelE c2 m2 → Lw E b aC aM 1378 (lls b aC aM i) [] c2 m2) : Lw E b aC aM 397 (lls b aC aM i) [] sC sM := by
  refine Lw_aload_n X (j := 1) rfl rfl dw_397 rfl ?_
  refine Lw_arg X (t := 1) hi (by decide) rfl dw_398 dw_399 dw_400 dw_401 dw_402 rfl ?_
  refine Lw_arg X (t := 2) hi (by decide) rfl dw_403 dw_404 dw_405 dw_406 dw_407 rfl ?_
  refine Lw_arg X (t := 3) hi (by decide) rfl dw_408 dw_409 dw_410 dw_411 dw_412 rfl ?_
  refine Lw_arg X (t := 4) hi (by decide) rfl dw_413 dw_414 dw_415 dw_416 dw_417 rfl ?_
  refine Lw_callC X (as := [.int (xs (i + 1)), .int (xs (i + 2)), .int (xs (i + 3)), .int (xs (i + 4))]) (st := []) (k_X7_later (op_later hR _ _ _ _)) (fun _ => rfl) (by decide) lm_L_45 mi_X7_later rfl rfl (Nat.le_of_ble_eq_true rfl) dw_418 rfl (fun r3 c2 hq => ?_)
  obtain ⟨v1, rfl, h1⟩ := hq
  show Lw E b aC aM 421 (lls b aC aM i) [.int v1] c2 sM
  refine Lw_aload_n X (j := 2) rfl rfl dw_421 rfl ?_
  refine Lw_arg X (t := 1) hi (by decide) rfl dw_422 dw_423 dw_424 dw_425 dw_426 rfl ?_
  refine Lw_arg X (t := 2) hi (by decide) rfl dw_427 dw_428 dw_429 dw_430 dw_431 rfl ?_
  refine Lw_arg X (t := 3) hi (by decide) rfl dw_432 dw_433 dw_434 dw_435 dw_436 rfl ?_
  refine Lw_arg X (t := 4) hi (by decide) rfl dw_437 dw_438 dw_439 dw_440 dw_441 rfl ?_
  refine Lw_callM X (as := [.int (xs (i + 1)), .int (xs (i + 2)), .int (xs (i + 3)), .int (xs (i + 4))]) (st := [.int v1]) (k_X8_later h1) (fun _ => rfl) (by decide) lm_L_49 mi_X8_later rfl rfl (Nat.le_of_ble_eq_true rfl) dw_442 rfl (fun r4 m2 hq => ?_)
  obtain ⟨v2, rfl, h2, hE⟩ := hq
  subst h2
  show Lw E b aC aM 445 (lls b aC aM i) [.int v1, .int v1] c2 m2
  exact Lw_eq X (tgt := 1378) rfl dw_445 rfl (kk c2 m2 hE)
set_option maxHeartbeats 1000000 in
set_option maxRecDepth 20000 in
theorem cs_8 {E : lzE} {b L : Nat} {xs : Nat → Int32} {aC aM : Nat → Nat} (X : lwX E b L xs aC aM) {i : Nat} (hi : i + 6 ≤ L) {n bs : Nat} {sC sM : rfS} (hR : Rel n bs sC sM) (kk : ∀ c2 m2, RelE c2 m2 → Lw E b aC aM 1378 (lls b aC aM i) [] c2 m2) : Lw E b aC aM 450 (lls b aC aM i) [] sC sM := by
  refine Lw_aload_n X (j := 1) rfl rfl dw_450 rfl ?_
  refine Lw_arg X (t := 1) hi (by decide) rfl dw_451 dw_452 dw_453 dw_454 dw_455 rfl ?_
  refine Lw_arg X (t := 2) hi (by decide) rfl dw_456 dw_457 dw_458 dw_459 dw_460 rfl ?_
  refine Lw_arg X (t := 3) hi (by decide) rfl dw_461 dw_462 dw_463 dw_464 dw_465 rfl ?_
  refine Lw_callC X (as := [.int (xs (i + 1)), .int (xs (i + 2)), .int (xs (i + 3))]) (st := []) (k_X7_deep (op_deep hR _ _ _)) (fun _ => rfl) (by decide) lm_L_50 mi_X7_deep rfl rfl (Nat.le_of_ble_eq_true rfl) dw_466 rfl (fun r3 c2 hq => ?_)
  obtain ⟨v1, rfl, h1⟩ := hq
  show Lw E b aC aM 469 (lls b aC aM i) [.int v1] c2 sM
  refine Lw_aload_n X (j := 2) rfl rfl dw_469 rfl ?_
  refine Lw_arg X (t := 1) hi (by decide) rfl dw_470 dw_471 dw_472 dw_473 dw_474 rfl ?_
  refine Lw_arg X (t := 2) hi (by decide) rfl dw_475 dw_476 dw_477 dw_478 dw_479 rfl ?_
  refine Lw_arg X (t := 3) hi (by decide) rfl dw_480 dw_481 dw_482 dw_483 dw_484 rfl ?_
  refine Lw_callM X (as := [.int (xs (i + 1)), .int (xs (i + 2)), .int (xs (i + 3))]) (st := [.int v1]) (k_X8_deep h1) (fun _ => rfl) (by decide) lm_L_53 mi_X8_deep rfl rfl (Nat.le_of_ble_eq_true rfl) dw_485 rfl (fun r4 m2 hq => ?_)
  obtain ⟨v2, rfl, h2, hE⟩ := hq
  subst h2
  show Lw E b aC aM 488 (lls b aC aM i) [.int v1, .int v1] c2 m2
  exact Lw_eq X (tgt := 1378) rfl dw_488 rfl (kk c2 m2 hE)
set_option maxHeartbeats 1000000 in
set_option maxRecDepth 20000 in
theorem cs_9 {E : lzE} {b L : Nat} {xs : Nat → Int32} {aC aM : Nat → Nat} (X : lwX E b L xs aC aM) {i : Nat} (hi : i + 6 ≤ L) {n bs : Nat} {sC sM : rfS} (hR : Rel n bs sC sM) (kk : ∀ c2 m2, RelE c2 m2 → Lw E b aC aM 1378 (lls b aC aM i) [] c2 m2) : Lw E b aC aM 493 (lls b aC aM i) [] sC sM := by
  refine Lw_aload_n X (j := 1) rfl rfl dw_493 rfl ?_
  refine Lw_arg X (t := 1) hi (by decide) rfl dw_494 dw_495 dw_496 dw_497 dw_498 rfl ?_
  refine Lw_arg X (t := 2) hi (by decide) rfl dw_499 dw_500 dw_501 dw_502 dw_503 rfl ?_
  refine Lw_callC X (as := [.int (xs (i + 1)), .int (xs (i + 2))]) (st := []) (k_X7_bestRota (d := 3 + 5 + 1) (fun _ _ _ _ ha h => k_X6_seekBest (d := 3 + 5) (Sk_k 5) (by decide) ha h) (by decide) (op_bestRota hR _ _)) (fun _ => rfl) (by decide) lm_L_54 mi_X7_bestRota rfl rfl (Nat.le_of_ble_eq_true rfl) dw_504 rfl (fun r3 c2 hq => ?_)
  obtain ⟨v1, rfl, h1⟩ := hq
  show Lw E b aC aM 507 (lls b aC aM i) [.int v1] c2 sM
  refine Lw_aload_n X (j := 2) rfl rfl dw_507 rfl ?_
  refine Lw_arg X (t := 1) hi (by decide) rfl dw_508 dw_509 dw_510 dw_511 dw_512 rfl ?_
  refine Lw_arg X (t := 2) hi (by decide) rfl dw_513 dw_514 dw_515 dw_516 dw_517 rfl ?_
  refine Lw_callM X (as := [.int (xs (i + 1)), .int (xs (i + 2))]) (st := [.int v1]) (k_X8_bestRota (d := 4 + 5) (Tr_k 5) (by decide) h1) (fun _ => rfl) (by decide) lm_L_57 mi_X8_bestRota rfl rfl (Nat.le_of_ble_eq_true rfl) dw_518 rfl (fun r4 m2 hq => ?_)
  obtain ⟨v2, rfl, h2, hE⟩ := hq
  subst h2
  show Lw E b aC aM 521 (lls b aC aM i) [.int v1, .int v1] c2 m2
  exact Lw_eq X (tgt := 1378) rfl dw_521 rfl (kk c2 m2 hE)
set_option maxHeartbeats 1000000 in
set_option maxRecDepth 20000 in
theorem cs_10 {E : lzE} {b L : Nat} {xs : Nat → Int32} {aC aM : Nat → Nat} (X : lwX E b L xs aC aM) {i : Nat} (hi : i + 6 ≤ L) {n bs : Nat} {sC sM : rfS} (hR : Rel n bs sC sM) (kk : ∀ c2 m2, RelE c2 m2 → Lw E b aC aM 1378 (lls b aC aM i) [] c2 m2) : Lw E b aC aM 526 (lls b aC aM i) [] sC sM := by
  refine Lw_aload_n X (j := 1) rfl rfl dw_526 rfl ?_
  refine Lw_arg X (t := 1) hi (by decide) rfl dw_527 dw_528 dw_529 dw_530 dw_531 rfl ?_
  refine Lw_arg X (t := 2) hi (by decide) rfl dw_532 dw_533 dw_534 dw_535 dw_536 rfl ?_
  refine Lw_arg X (t := 3) hi (by decide) rfl dw_537 dw_538 dw_539 dw_540 dw_541 rfl ?_
  refine Lw_callC X (as := [.int (xs (i + 1)), .int (xs (i + 2)), .int (xs (i + 3))]) (st := []) (k_X7_told (op_told hR _ _ _)) (fun _ => rfl) (by decide) lm_L_58 mi_X7_told rfl rfl (Nat.le_of_ble_eq_true rfl) dw_542 rfl (fun r3 c2 hq => ?_)
  obtain ⟨v1, rfl, h1⟩ := hq
  show Lw E b aC aM 545 (lls b aC aM i) [.int v1] c2 sM
  refine Lw_aload_n X (j := 2) rfl rfl dw_545 rfl ?_
  refine Lw_arg X (t := 1) hi (by decide) rfl dw_546 dw_547 dw_548 dw_549 dw_550 rfl ?_
  refine Lw_arg X (t := 2) hi (by decide) rfl dw_551 dw_552 dw_553 dw_554 dw_555 rfl ?_
  refine Lw_arg X (t := 3) hi (by decide) rfl dw_556 dw_557 dw_558 dw_559 dw_560 rfl ?_
  refine Lw_callM X (as := [.int (xs (i + 1)), .int (xs (i + 2)), .int (xs (i + 3))]) (st := [.int v1]) (k_X8_told h1) (fun _ => rfl) (by decide) lm_L_61 mi_X8_told rfl rfl (Nat.le_of_ble_eq_true rfl) dw_561 rfl (fun r4 m2 hq => ?_)
  obtain ⟨v2, rfl, h2, hE⟩ := hq
  subst h2
  show Lw E b aC aM 564 (lls b aC aM i) [.int v1, .int v1] c2 m2
  exact Lw_eq X (tgt := 1378) rfl dw_564 rfl (kk c2 m2 hE)
set_option maxHeartbeats 1000000 in
set_option maxRecDepth 20000 in
theorem cs_11 {E : lzE} {b L : Nat} {xs : Nat → Int32} {aC aM : Nat → Nat} (X : lwX E b L xs aC aM) {i : Nat} (hi : i + 6 ≤ L) {n bs : Nat} {sC sM : rfS} (hR : Rel n bs sC sM) (kk : ∀ c2 m2, RelE c2 m2 → Lw E b aC aM 1378 (lls b aC aM i) [] c2 m2) : Lw E b aC aM 569 (lls b aC aM i) [] sC sM := by
  refine Lw_aload_n X (j := 1) rfl rfl dw_569 rfl ?_
  refine Lw_arg X (t := 1) hi (by decide) rfl dw_570 dw_571 dw_572 dw_573 dw_574 rfl ?_
  refine Lw_callC X (as := [.int (xs (i + 1))]) (st := []) (k_X7_apart (op_apart hR _)) (fun _ => rfl) (by decide) lm_L_62 mi_X7_apart rfl rfl (Nat.le_of_ble_eq_true rfl) dw_575 rfl (fun r3 c2 hq => ?_)
  obtain ⟨v1, rfl, h1⟩ := hq
  show Lw E b aC aM 578 (lls b aC aM i) [.int v1] c2 sM
  refine Lw_aload_n X (j := 2) rfl rfl dw_578 rfl ?_
  refine Lw_arg X (t := 1) hi (by decide) rfl dw_579 dw_580 dw_581 dw_582 dw_583 rfl ?_
  refine Lw_callM X (as := [.int (xs (i + 1))]) (st := [.int v1]) (k_X8_apart h1) (fun _ => rfl) (by decide) lm_L_65 mi_X8_apart rfl rfl (Nat.le_of_ble_eq_true rfl) dw_584 rfl (fun r4 m2 hq => ?_)
  obtain ⟨v2, rfl, h2, hE⟩ := hq
  subst h2
  show Lw E b aC aM 587 (lls b aC aM i) [.int v1, .int v1] c2 m2
  exact Lw_eq X (tgt := 1378) rfl dw_587 rfl (kk c2 m2 hE)
set_option maxHeartbeats 1000000 in
set_option maxRecDepth 20000 in
theorem cs_12 {E : lzE} {b L : Nat} {xs : Nat → Int32} {aC aM : Nat → Nat} (X : lwX E b L xs aC aM) {i : Nat} (hi : i + 6 ≤ L) {n bs : Nat} {sC sM : rfS} (hR : Rel n bs sC sM) (kk : ∀ c2 m2, RelE c2 m2 → Lw E b aC aM 1378 (lls b aC aM i) [] c2 m2) : Lw E b aC aM 592 (lls b aC aM i) [] sC sM := by
  refine Lw_aload_n X (j := 1) rfl rfl dw_592 rfl ?_
  refine Lw_arg X (t := 1) hi (by decide) rfl dw_593 dw_594 dw_595 dw_596 dw_597 rfl ?_
  refine Lw_callC X (as := [.int (xs (i + 1))]) (st := []) (k_X7_week (op_week hR _)) (fun _ => rfl) (by decide) lm_L_66 mi_X7_week rfl rfl (Nat.le_of_ble_eq_true rfl) dw_598 rfl (fun r3 c2 hq => ?_)
  obtain ⟨v1, rfl, h1⟩ := hq
  show Lw E b aC aM 601 (lls b aC aM i) [.int v1] c2 sM
  refine Lw_aload_n X (j := 2) rfl rfl dw_601 rfl ?_
  refine Lw_arg X (t := 1) hi (by decide) rfl dw_602 dw_603 dw_604 dw_605 dw_606 rfl ?_
  refine Lw_callM X (as := [.int (xs (i + 1))]) (st := [.int v1]) (k_X8_week (d := 1 + 8) (Dl_k 8) (by decide) h1) (fun _ => rfl) (by decide) lm_L_69 mi_X8_week rfl rfl (Nat.le_of_ble_eq_true rfl) dw_607 rfl (fun r4 m2 hq => ?_)
  obtain ⟨v2, rfl, h2, hE⟩ := hq
  subst h2
  show Lw E b aC aM 610 (lls b aC aM i) [.int v1, .int v1] c2 m2
  exact Lw_eq X (tgt := 1378) rfl dw_610 rfl (kk c2 m2 hE)
set_option maxHeartbeats 1000000 in
set_option maxRecDepth 20000 in
theorem cs_13 {E : lzE} {b L : Nat} {xs : Nat → Int32} {aC aM : Nat → Nat} (X : lwX E b L xs aC aM) {i : Nat} (hi : i + 6 ≤ L) {n bs : Nat} {sC sM : rfS} (hR : Rel n bs sC sM) (kk : ∀ c2 m2, RelE c2 m2 → Lw E b aC aM 1378 (lls b aC aM i) [] c2 m2) : Lw E b aC aM 615 (lls b aC aM i) [] sC sM := by
  refine Lw_aload_n X (j := 1) rfl rfl dw_615 rfl ?_
  refine Lw_arg X (t := 1) hi (by decide) rfl dw_616 dw_617 dw_618 dw_619 dw_620 rfl ?_
  refine Lw_callC X (as := [.int (xs (i + 1))]) (st := []) (k_X7_fire (op_fire hR _)) (fun _ => rfl) (by decide) lm_L_70 mi_X7_fire rfl rfl (Nat.le_of_ble_eq_true rfl) dw_621 rfl (fun r3 c2 hq => ?_)
  obtain ⟨v1, rfl, h1⟩ := hq
  show Lw E b aC aM 624 (lls b aC aM i) [.int v1] c2 sM
  refine Lw_aload_n X (j := 2) rfl rfl dw_624 rfl ?_
  refine Lw_arg X (t := 1) hi (by decide) rfl dw_625 dw_626 dw_627 dw_628 dw_629 rfl ?_
  refine Lw_callM X (as := [.int (xs (i + 1))]) (st := [.int v1]) (k_X8_fire h1) (fun _ => rfl) (by decide) lm_L_73 mi_X8_fire rfl rfl (Nat.le_of_ble_eq_true rfl) dw_630 rfl (fun r4 m2 hq => ?_)
  obtain ⟨v2, rfl, h2, hE⟩ := hq
  subst h2
  show Lw E b aC aM 633 (lls b aC aM i) [.int v1, .int v1] c2 m2
  exact Lw_eq X (tgt := 1378) rfl dw_633 rfl (kk c2 m2 hE)
set_option maxHeartbeats 1000000 in
set_option maxRecDepth 20000 in
theorem cs_14 {E : lzE} {b L : Nat} {xs : Nat → Int32} {aC aM : Nat → Nat} (X : lwX E b L xs aC aM) {i : Nat} (hi : i + 6 ≤ L) {n bs : Nat} {sC sM : rfS} (hR : Rel n bs sC sM) (kk : ∀ c2 m2, RelE c2 m2 → Lw E b aC aM 1378 (lls b aC aM i) [] c2 m2) : Lw E b aC aM 638 (lls b aC aM i) [] sC sM := by
  refine Lw_aload_n X (j := 1) rfl rfl dw_638 rfl ?_
  refine Lw_arg X (t := 1) hi (by decide) rfl dw_639 dw_640 dw_641 dw_642 dw_643 rfl ?_
  refine Lw_arg X (t := 2) hi (by decide) rfl dw_644 dw_645 dw_646 dw_647 dw_648 rfl ?_
  refine Lw_callC X (as := [.int (xs (i + 1)), .int (xs (i + 2))]) (st := []) (k_X7_judge (op_judge hR _ _)) (fun _ => rfl) (by decide) lm_L_74 mi_X7_judge rfl rfl (Nat.le_of_ble_eq_true rfl) dw_649 rfl (fun r3 c2 hq => ?_)
  obtain ⟨v1, rfl, h1⟩ := hq
  show Lw E b aC aM 652 (lls b aC aM i) [.int v1] c2 sM
  refine Lw_aload_n X (j := 2) rfl rfl dw_652 rfl ?_
  refine Lw_arg X (t := 1) hi (by decide) rfl dw_653 dw_654 dw_655 dw_656 dw_657 rfl ?_
  refine Lw_arg X (t := 2) hi (by decide) rfl dw_658 dw_659 dw_660 dw_661 dw_662 rfl ?_
  refine Lw_callM X (as := [.int (xs (i + 1)), .int (xs (i + 2))]) (st := [.int v1]) (k_X8_judge h1) (fun _ => rfl) (by decide) lm_L_77 mi_X8_judge rfl rfl (Nat.le_of_ble_eq_true rfl) dw_663 rfl (fun r4 m2 hq => ?_)
  obtain ⟨v2, rfl, h2, hE⟩ := hq
  subst h2
  show Lw E b aC aM 666 (lls b aC aM i) [.int v1, .int v1] c2 m2
  exact Lw_eq X (tgt := 1378) rfl dw_666 rfl (kk c2 m2 hE)
set_option maxHeartbeats 1000000 in
set_option maxRecDepth 20000 in
theorem cs_15 {E : lzE} {b L : Nat} {xs : Nat → Int32} {aC aM : Nat → Nat} (X : lwX E b L xs aC aM) {i : Nat} (hi : i + 6 ≤ L) {n bs : Nat} {sC sM : rfS} (hR : Rel n bs sC sM) (kk : ∀ c2 m2, RelE c2 m2 → Lw E b aC aM 1378 (lls b aC aM i) [] c2 m2) : Lw E b aC aM 671 (lls b aC aM i) [] sC sM := by
  refine Lw_aload_n X (j := 1) rfl rfl dw_671 rfl ?_
  refine Lw_arg X (t := 1) hi (by decide) rfl dw_672 dw_673 dw_674 dw_675 dw_676 rfl ?_
  refine Lw_arg X (t := 2) hi (by decide) rfl dw_677 dw_678 dw_679 dw_680 dw_681 rfl ?_
  refine Lw_arg X (t := 3) hi (by decide) rfl dw_682 dw_683 dw_684 dw_685 dw_686 rfl ?_
  refine Lw_callC X (as := [.int (xs (i + 1)), .int (xs (i + 2)), .int (xs (i + 3))]) (st := []) (k_X7_fits (op_fits hR _ _ _)) (fun _ => rfl) (by decide) lm_L_78 mi_X7_fits rfl rfl (Nat.le_of_ble_eq_true rfl) dw_687 rfl (fun r3 c2 hq => ?_)
  obtain ⟨v1, rfl, h1⟩ := hq
  show Lw E b aC aM 690 (lls b aC aM i) [.int v1] c2 sM
  refine Lw_aload_n X (j := 2) rfl rfl dw_690 rfl ?_
  refine Lw_arg X (t := 1) hi (by decide) rfl dw_691 dw_692 dw_693 dw_694 dw_695 rfl ?_
  refine Lw_arg X (t := 2) hi (by decide) rfl dw_696 dw_697 dw_698 dw_699 dw_700 rfl ?_
  refine Lw_arg X (t := 3) hi (by decide) rfl dw_701 dw_702 dw_703 dw_704 dw_705 rfl ?_
  refine Lw_callM X (as := [.int (xs (i + 1)), .int (xs (i + 2)), .int (xs (i + 3))]) (st := [.int v1]) (k_X8_fits h1) (fun _ => rfl) (by decide) lm_L_81 mi_X8_fits rfl rfl (Nat.le_of_ble_eq_true rfl) dw_706 rfl (fun r4 m2 hq => ?_)
  obtain ⟨v2, rfl, h2, hE⟩ := hq
  subst h2
  show Lw E b aC aM 709 (lls b aC aM i) [.int v1, .int v1] c2 m2
  exact Lw_eq X (tgt := 1378) rfl dw_709 rfl (kk c2 m2 hE)
set_option maxHeartbeats 1000000 in
set_option maxRecDepth 20000 in
theorem cs_16 {E : lzE} {b L : Nat} {xs : Nat → Int32} {aC aM : Nat → Nat} (X : lwX E b L xs aC aM) {i : Nat} (hi : i + 6 ≤ L) {n bs : Nat} {sC sM : rfS} (hR : Rel n bs sC sM) (kk : ∀ c2 m2, RelE c2 m2 → Lw E b aC aM 1378 (lls b aC aM i) [] c2 m2) : Lw E b aC aM 714 (lls b aC aM i) [] sC sM := by
  refine Lw_aload_n X (j := 1) rfl rfl dw_714 rfl ?_
  refine Lw_arg X (t := 1) hi (by decide) rfl dw_715 dw_716 dw_717 dw_718 dw_719 rfl ?_
  refine Lw_arg X (t := 2) hi (by decide) rfl dw_720 dw_721 dw_722 dw_723 dw_724 rfl ?_
  refine Lw_arg X (t := 3) hi (by decide) rfl dw_725 dw_726 dw_727 dw_728 dw_729 rfl ?_
  refine Lw_callC X (as := [.int (xs (i + 1)), .int (xs (i + 2)), .int (xs (i + 3))]) (st := []) (k_X7_byTurns (d := 3 + 2 * 6 + 1) (fun _ _ _ _ _ _ ha h => k_X6_worthOfTurns (d := 3 + 2 * 6) (WF_k 6) (by decide) ha h) (by decide) (op_byTurns hR _ _ _)) (fun _ => rfl) (by decide) lm_L_82 mi_X7_byTurns rfl rfl (Nat.le_of_ble_eq_true rfl) dw_730 rfl (fun r3 c2 hq => ?_)
  obtain ⟨v1, rfl, h1⟩ := hq
  show Lw E b aC aM 733 (lls b aC aM i) [.int v1] c2 sM
  refine Lw_aload_n X (j := 2) rfl rfl dw_733 rfl ?_
  refine Lw_arg X (t := 1) hi (by decide) rfl dw_734 dw_735 dw_736 dw_737 dw_738 rfl ?_
  refine Lw_arg X (t := 2) hi (by decide) rfl dw_739 dw_740 dw_741 dw_742 dw_743 rfl ?_
  refine Lw_arg X (t := 3) hi (by decide) rfl dw_744 dw_745 dw_746 dw_747 dw_748 rfl ?_
  refine Lw_callM X (as := [.int (xs (i + 1)), .int (xs (i + 2)), .int (xs (i + 3))]) (st := [.int v1]) (k_X8_byTurns (d := 3 + 2 * 6) (TB_k 6) (by decide) h1) (fun _ => rfl) (by decide) lm_L_85 mi_X8_byTurns rfl rfl (Nat.le_of_ble_eq_true rfl) dw_749 rfl (fun r4 m2 hq => ?_)
  obtain ⟨v2, rfl, h2, hE⟩ := hq
  subst h2
  show Lw E b aC aM 752 (lls b aC aM i) [.int v1, .int v1] c2 m2
  exact Lw_eq X (tgt := 1378) rfl dw_752 rfl (kk c2 m2 hE)
set_option maxHeartbeats 1000000 in
set_option maxRecDepth 20000 in
theorem cs_17 {E : lzE} {b L : Nat} {xs : Nat → Int32} {aC aM : Nat → Nat} (X : lwX E b L xs aC aM) {i : Nat} (hi : i + 6 ≤ L) {n bs : Nat} {sC sM : rfS} (hR : Rel n bs sC sM) (kk : ∀ c2 m2, RelE c2 m2 → Lw E b aC aM 1378 (lls b aC aM i) [] c2 m2) : Lw E b aC aM 757 (lls b aC aM i) [] sC sM := by
  refine Lw_aload_n X (j := 1) rfl rfl dw_757 rfl ?_
  refine Lw_arg X (t := 1) hi (by decide) rfl dw_758 dw_759 dw_760 dw_761 dw_762 rfl ?_
  refine Lw_arg X (t := 2) hi (by decide) rfl dw_763 dw_764 dw_765 dw_766 dw_767 rfl ?_
  refine Lw_arg X (t := 3) hi (by decide) rfl dw_768 dw_769 dw_770 dw_771 dw_772 rfl ?_
  refine Lw_callC X (as := [.int (xs (i + 1)), .int (xs (i + 2)), .int (xs (i + 3))]) (st := []) (k_X7_drawn (op_drawn hR _ _ _)) (fun _ => rfl) (by decide) lm_L_86 mi_X7_drawn rfl rfl (Nat.le_of_ble_eq_true rfl) dw_773 rfl (fun r3 c2 hq => ?_)
  obtain ⟨v1, rfl, h1⟩ := hq
  show Lw E b aC aM 776 (lls b aC aM i) [.int v1] c2 sM
  refine Lw_aload_n X (j := 2) rfl rfl dw_776 rfl ?_
  refine Lw_arg X (t := 1) hi (by decide) rfl dw_777 dw_778 dw_779 dw_780 dw_781 rfl ?_
  refine Lw_arg X (t := 2) hi (by decide) rfl dw_782 dw_783 dw_784 dw_785 dw_786 rfl ?_
  refine Lw_arg X (t := 3) hi (by decide) rfl dw_787 dw_788 dw_789 dw_790 dw_791 rfl ?_
  refine Lw_callM X (as := [.int (xs (i + 1)), .int (xs (i + 2)), .int (xs (i + 3))]) (st := [.int v1]) (k_X8_drawn h1) (fun _ => rfl) (by decide) lm_L_89 mi_X8_drawn rfl rfl (Nat.le_of_ble_eq_true rfl) dw_792 rfl (fun r4 m2 hq => ?_)
  obtain ⟨v2, rfl, h2, hE⟩ := hq
  subst h2
  show Lw E b aC aM 795 (lls b aC aM i) [.int v1, .int v1] c2 m2
  exact Lw_eq X (tgt := 1378) rfl dw_795 rfl (kk c2 m2 hE)
set_option maxHeartbeats 1000000 in
set_option maxRecDepth 20000 in
theorem cs_18 {E : lzE} {b L : Nat} {xs : Nat → Int32} {aC aM : Nat → Nat} (X : lwX E b L xs aC aM) {i : Nat} (hi : i + 6 ≤ L) {n bs : Nat} {sC sM : rfS} (hR : Rel n bs sC sM) (kk : ∀ c2 m2, RelE c2 m2 → Lw E b aC aM 1378 (lls b aC aM i) [] c2 m2) : Lw E b aC aM 800 (lls b aC aM i) [] sC sM := by
  refine Lw_aload_n X (j := 1) rfl rfl dw_800 rfl ?_
  refine Lw_arg X (t := 1) hi (by decide) rfl dw_801 dw_802 dw_803 dw_804 dw_805 rfl ?_
  refine Lw_callC X (as := [.int (xs (i + 1))]) (st := []) (k_X7_day (op_day hR _)) (fun _ => rfl) (by decide) lm_L_90 mi_X7_day rfl rfl (Nat.le_of_ble_eq_true rfl) dw_806 rfl (fun r3 c2 hq => ?_)
  obtain ⟨v1, rfl, h1⟩ := hq
  show Lw E b aC aM 809 (lls b aC aM i) [.int v1] c2 sM
  refine Lw_aload_n X (j := 2) rfl rfl dw_809 rfl ?_
  refine Lw_arg X (t := 1) hi (by decide) rfl dw_810 dw_811 dw_812 dw_813 dw_814 rfl ?_
  refine Lw_callM X (as := [.int (xs (i + 1))]) (st := [.int v1]) (k_X8_day h1) (fun _ => rfl) (by decide) lm_L_93 mi_X8_day rfl rfl (Nat.le_of_ble_eq_true rfl) dw_815 rfl (fun r4 m2 hq => ?_)
  obtain ⟨v2, rfl, h2, hE⟩ := hq
  subst h2
  show Lw E b aC aM 818 (lls b aC aM i) [.int v1, .int v1] c2 m2
  exact Lw_eq X (tgt := 1378) rfl dw_818 rfl (kk c2 m2 hE)
set_option maxHeartbeats 1000000 in
set_option maxRecDepth 20000 in
theorem cs_19 {E : lzE} {b L : Nat} {xs : Nat → Int32} {aC aM : Nat → Nat} (X : lwX E b L xs aC aM) {i : Nat} (hi : i + 6 ≤ L) {n bs : Nat} {sC sM : rfS} (hR : Rel n bs sC sM) (kk : ∀ c2 m2, RelE c2 m2 → Lw E b aC aM 1378 (lls b aC aM i) [] c2 m2) : Lw E b aC aM 823 (lls b aC aM i) [] sC sM := by
  refine Lw_aload_n X (j := 1) rfl rfl dw_823 rfl ?_
  refine Lw_arg X (t := 1) hi (by decide) rfl dw_824 dw_825 dw_826 dw_827 dw_828 rfl ?_
  refine Lw_arg X (t := 2) hi (by decide) rfl dw_829 dw_830 dw_831 dw_832 dw_833 rfl ?_
  refine Lw_callC X (as := [.int (xs (i + 1)), .int (xs (i + 2))]) (st := []) (k_X7_tells (op_tells hR _ _)) (fun _ => rfl) (by decide) lm_L_94 mi_X7_tells rfl rfl (Nat.le_of_ble_eq_true rfl) dw_834 rfl (fun r3 c2 hq => ?_)
  obtain ⟨v1, rfl, h1⟩ := hq
  show Lw E b aC aM 837 (lls b aC aM i) [.int v1] c2 sM
  refine Lw_aload_n X (j := 2) rfl rfl dw_837 rfl ?_
  refine Lw_arg X (t := 1) hi (by decide) rfl dw_838 dw_839 dw_840 dw_841 dw_842 rfl ?_
  refine Lw_arg X (t := 2) hi (by decide) rfl dw_843 dw_844 dw_845 dw_846 dw_847 rfl ?_
  refine Lw_callM X (as := [.int (xs (i + 1)), .int (xs (i + 2))]) (st := [.int v1]) (k_X8_tells h1) (fun _ => rfl) (by decide) lm_L_97 mi_X8_tells rfl rfl (Nat.le_of_ble_eq_true rfl) dw_848 rfl (fun r4 m2 hq => ?_)
  obtain ⟨v2, rfl, h2, hE⟩ := hq
  subst h2
  show Lw E b aC aM 851 (lls b aC aM i) [.int v1, .int v1] c2 m2
  exact Lw_eq X (tgt := 1378) rfl dw_851 rfl (kk c2 m2 hE)
set_option maxHeartbeats 1000000 in
set_option maxRecDepth 20000 in
theorem cs_20 {E : lzE} {b L : Nat} {xs : Nat → Int32} {aC aM : Nat → Nat} (X : lwX E b L xs aC aM) {i : Nat} (hi : i + 6 ≤ L) {n bs : Nat} {sC sM : rfS} (hR : Rel n bs sC sM) (kk : ∀ c2 m2, RelE c2 m2 → Lw E b aC aM 1378 (lls b aC aM i) [] c2 m2) : Lw E b aC aM 856 (lls b aC aM i) [] sC sM := by
  refine Lw_aload_n X (j := 1) rfl rfl dw_856 rfl ?_
  refine Lw_arg X (t := 1) hi (by decide) rfl dw_857 dw_858 dw_859 dw_860 dw_861 rfl ?_
  refine Lw_arg X (t := 2) hi (by decide) rfl dw_862 dw_863 dw_864 dw_865 dw_866 rfl ?_
  refine Lw_arg X (t := 3) hi (by decide) rfl dw_867 dw_868 dw_869 dw_870 dw_871 rfl ?_
  refine Lw_callC X (as := [.int (xs (i + 1)), .int (xs (i + 2)), .int (xs (i + 3))]) (st := []) (k_X7_pays (op_pays hR _ _ _)) (fun _ => rfl) (by decide) lm_L_98 mi_X7_pays rfl rfl (Nat.le_of_ble_eq_true rfl) dw_872 rfl (fun r3 c2 hq => ?_)
  obtain ⟨v1, rfl, h1⟩ := hq
  show Lw E b aC aM 875 (lls b aC aM i) [.int v1] c2 sM
  refine Lw_aload_n X (j := 2) rfl rfl dw_875 rfl ?_
  refine Lw_arg X (t := 1) hi (by decide) rfl dw_876 dw_877 dw_878 dw_879 dw_880 rfl ?_
  refine Lw_arg X (t := 2) hi (by decide) rfl dw_881 dw_882 dw_883 dw_884 dw_885 rfl ?_
  refine Lw_arg X (t := 3) hi (by decide) rfl dw_886 dw_887 dw_888 dw_889 dw_890 rfl ?_
  refine Lw_callM X (as := [.int (xs (i + 1)), .int (xs (i + 2)), .int (xs (i + 3))]) (st := [.int v1]) (k_X8_pays h1) (fun _ => rfl) (by decide) lm_L_101 mi_X8_pays rfl rfl (Nat.le_of_ble_eq_true rfl) dw_891 rfl (fun r4 m2 hq => ?_)
  obtain ⟨v2, rfl, h2, hE⟩ := hq
  subst h2
  show Lw E b aC aM 894 (lls b aC aM i) [.int v1, .int v1] c2 m2
  exact Lw_eq X (tgt := 1378) rfl dw_894 rfl (kk c2 m2 hE)
set_option maxHeartbeats 1000000 in
set_option maxRecDepth 20000 in
theorem cs_21 {E : lzE} {b L : Nat} {xs : Nat → Int32} {aC aM : Nat → Nat} (X : lwX E b L xs aC aM) {i : Nat} (hi : i + 6 ≤ L) {n bs : Nat} {sC sM : rfS} (hR : Rel n bs sC sM) (kk : ∀ c2 m2, RelE c2 m2 → Lw E b aC aM 1378 (lls b aC aM i) [] c2 m2) : Lw E b aC aM 899 (lls b aC aM i) [] sC sM := by
  refine Lw_aload_n X (j := 1) rfl rfl dw_899 rfl ?_
  refine Lw_callC X (as := []) (st := []) (k_X7_cobble (op_cobble hR)) (fun _ => rfl) (by decide) lm_L_102 mi_X7_cobble rfl rfl (Nat.le_of_ble_eq_true rfl) dw_900 rfl (fun r3 c2 hq => ?_)
  obtain ⟨v1, rfl, h1⟩ := hq
  show Lw E b aC aM 903 (lls b aC aM i) [.int v1] c2 sM
  refine Lw_aload_n X (j := 2) rfl rfl dw_903 rfl ?_
  refine Lw_callM X (as := []) (st := [.int v1]) (k_X8_cobble h1) (fun _ => rfl) (by decide) lm_L_105 mi_X8_cobble rfl rfl (Nat.le_of_ble_eq_true rfl) dw_904 rfl (fun r4 m2 hq => ?_)
  obtain ⟨v2, rfl, h2, hE⟩ := hq
  subst h2
  show Lw E b aC aM 907 (lls b aC aM i) [.int v1, .int v1] c2 m2
  exact Lw_eq X (tgt := 1378) rfl dw_907 rfl (kk c2 m2 hE)
set_option maxHeartbeats 1000000 in
set_option maxRecDepth 20000 in
theorem cs_22 {E : lzE} {b L : Nat} {xs : Nat → Int32} {aC aM : Nat → Nat} (X : lwX E b L xs aC aM) {i : Nat} (hi : i + 6 ≤ L) {n bs : Nat} {sC sM : rfS} (hR : Rel n bs sC sM) (kk : ∀ c2 m2, RelE c2 m2 → Lw E b aC aM 1378 (lls b aC aM i) [] c2 m2) : Lw E b aC aM 912 (lls b aC aM i) [] sC sM := by
  refine Lw_aload_n X (j := 1) rfl rfl dw_912 rfl ?_
  refine Lw_arg X (t := 1) hi (by decide) rfl dw_913 dw_914 dw_915 dw_916 dw_917 rfl ?_
  refine Lw_callC X (as := [.int (xs (i + 1))]) (st := []) (k_X7_led (op_led hR _)) (fun _ => rfl) (by decide) lm_L_106 mi_X7_led rfl rfl (Nat.le_of_ble_eq_true rfl) dw_918 rfl (fun r3 c2 hq => ?_)
  obtain ⟨v1, rfl, h1⟩ := hq
  show Lw E b aC aM 921 (lls b aC aM i) [.int v1] c2 sM
  refine Lw_aload_n X (j := 2) rfl rfl dw_921 rfl ?_
  refine Lw_arg X (t := 1) hi (by decide) rfl dw_922 dw_923 dw_924 dw_925 dw_926 rfl ?_
  refine Lw_callM X (as := [.int (xs (i + 1))]) (st := [.int v1]) (k_X8_led h1) (fun _ => rfl) (by decide) lm_L_109 mi_X8_led rfl rfl (Nat.le_of_ble_eq_true rfl) dw_927 rfl (fun r4 m2 hq => ?_)
  obtain ⟨v2, rfl, h2, hE⟩ := hq
  subst h2
  show Lw E b aC aM 930 (lls b aC aM i) [.int v1, .int v1] c2 m2
  exact Lw_eq X (tgt := 1378) rfl dw_930 rfl (kk c2 m2 hE)
set_option maxHeartbeats 1000000 in
set_option maxRecDepth 20000 in
theorem cs_23 {E : lzE} {b L : Nat} {xs : Nat → Int32} {aC aM : Nat → Nat} (X : lwX E b L xs aC aM) {i : Nat} (hi : i + 6 ≤ L) {n bs : Nat} {sC sM : rfS} (hR : Rel n bs sC sM) (kk : ∀ c2 m2, RelE c2 m2 → Lw E b aC aM 1378 (lls b aC aM i) [] c2 m2) : Lw E b aC aM 935 (lls b aC aM i) [] sC sM := by
  refine Lw_aload_n X (j := 1) rfl rfl dw_935 rfl ?_
  refine Lw_callC X (as := []) (st := []) (k_X7_image (op_image hR)) (fun _ => rfl) (by decide) lm_L_110 mi_X7_image rfl rfl (Nat.le_of_ble_eq_true rfl) dw_936 rfl (fun r3 c2 hq => ?_)
  obtain ⟨v1, rfl, h1⟩ := hq
  show Lw E b aC aM 939 (lls b aC aM i) [.int v1] c2 sM
  refine Lw_aload_n X (j := 2) rfl rfl dw_939 rfl ?_
  refine Lw_callM X (as := []) (st := [.int v1]) (k_X8_image h1) (fun _ => rfl) (by decide) lm_L_113 mi_X8_image rfl rfl (Nat.le_of_ble_eq_true rfl) dw_940 rfl (fun r4 m2 hq => ?_)
  obtain ⟨v2, rfl, h2, hE⟩ := hq
  subst h2
  show Lw E b aC aM 943 (lls b aC aM i) [.int v1, .int v1] c2 m2
  exact Lw_eq X (tgt := 1378) rfl dw_943 rfl (kk c2 m2 hE)
set_option maxHeartbeats 1000000 in
set_option maxRecDepth 20000 in
theorem cs_24 {E : lzE} {b L : Nat} {xs : Nat → Int32} {aC aM : Nat → Nat} (X : lwX E b L xs aC aM) {i : Nat} (hi : i + 6 ≤ L) {n bs : Nat} {sC sM : rfS} (hR : Rel n bs sC sM) (kk : ∀ c2 m2, RelE c2 m2 → Lw E b aC aM 1378 (lls b aC aM i) [] c2 m2) : Lw E b aC aM 948 (lls b aC aM i) [] sC sM := by
  refine Lw_aload_n X (j := 1) rfl rfl dw_948 rfl ?_
  refine Lw_callC X (as := []) (st := []) (k_X7_back (op_back hR)) (fun _ => rfl) (by decide) lm_L_114 mi_X7_back rfl rfl (Nat.le_of_ble_eq_true rfl) dw_949 rfl (fun r3 c2 hq => ?_)
  obtain ⟨v1, rfl, h1⟩ := hq
  show Lw E b aC aM 952 (lls b aC aM i) [.int v1] c2 sM
  refine Lw_aload_n X (j := 2) rfl rfl dw_952 rfl ?_
  refine Lw_callM X (as := []) (st := [.int v1]) (k_X8_back h1) (fun _ => rfl) (by decide) lm_L_117 mi_X8_back rfl rfl (Nat.le_of_ble_eq_true rfl) dw_953 rfl (fun r4 m2 hq => ?_)
  obtain ⟨v2, rfl, h2, hE⟩ := hq
  subst h2
  show Lw E b aC aM 956 (lls b aC aM i) [.int v1, .int v1] c2 m2
  exact Lw_eq X (tgt := 1378) rfl dw_956 rfl (kk c2 m2 hE)
set_option maxHeartbeats 1000000 in
set_option maxRecDepth 20000 in
theorem cs_25 {E : lzE} {b L : Nat} {xs : Nat → Int32} {aC aM : Nat → Nat} (X : lwX E b L xs aC aM) {i : Nat} (hi : i + 6 ≤ L) {n bs : Nat} {sC sM : rfS} (hR : Rel n bs sC sM) (kk : ∀ c2 m2, RelE c2 m2 → Lw E b aC aM 1378 (lls b aC aM i) [] c2 m2) : Lw E b aC aM 961 (lls b aC aM i) [] sC sM := by
  refine Lw_aload_n X (j := 1) rfl rfl dw_961 rfl ?_
  refine Lw_callC X (as := []) (st := []) (k_X7_undo (op_undo hR)) (fun _ => rfl) (by decide) lm_L_118 mi_X7_undo rfl rfl (Nat.le_of_ble_eq_true rfl) dw_962 rfl (fun r3 c2 hq => ?_)
  obtain ⟨v1, rfl, h1⟩ := hq
  show Lw E b aC aM 965 (lls b aC aM i) [.int v1] c2 sM
  refine Lw_aload_n X (j := 2) rfl rfl dw_965 rfl ?_
  refine Lw_callM X (as := []) (st := [.int v1]) (k_X8_undo h1) (fun _ => rfl) (by decide) lm_L_121 mi_X8_undo rfl rfl (Nat.le_of_ble_eq_true rfl) dw_966 rfl (fun r4 m2 hq => ?_)
  obtain ⟨v2, rfl, h2, hE⟩ := hq
  subst h2
  show Lw E b aC aM 969 (lls b aC aM i) [.int v1, .int v1] c2 m2
  exact Lw_eq X (tgt := 1378) rfl dw_969 rfl (kk c2 m2 hE)
set_option maxHeartbeats 1000000 in
set_option maxRecDepth 20000 in
theorem cs_26 {E : lzE} {b L : Nat} {xs : Nat → Int32} {aC aM : Nat → Nat} (X : lwX E b L xs aC aM) {i : Nat} (hi : i + 6 ≤ L) {n bs : Nat} {sC sM : rfS} (hR : Rel n bs sC sM) (kk : ∀ c2 m2, RelE c2 m2 → Lw E b aC aM 1378 (lls b aC aM i) [] c2 m2) : Lw E b aC aM 974 (lls b aC aM i) [] sC sM := by
  refine Lw_aload_n X (j := 1) rfl rfl dw_974 rfl ?_
  refine Lw_callC X (as := []) (st := []) (k_X7_redo (op_redo hR)) (fun _ => rfl) (by decide) lm_L_122 mi_X7_redo rfl rfl (Nat.le_of_ble_eq_true rfl) dw_975 rfl (fun r3 c2 hq => ?_)
  obtain ⟨v1, rfl, h1⟩ := hq
  show Lw E b aC aM 978 (lls b aC aM i) [.int v1] c2 sM
  refine Lw_aload_n X (j := 2) rfl rfl dw_978 rfl ?_
  refine Lw_callM X (as := []) (st := [.int v1]) (k_X8_redo h1) (fun _ => rfl) (by decide) lm_L_125 mi_X8_redo rfl rfl (Nat.le_of_ble_eq_true rfl) dw_979 rfl (fun r4 m2 hq => ?_)
  obtain ⟨v2, rfl, h2, hE⟩ := hq
  subst h2
  show Lw E b aC aM 982 (lls b aC aM i) [.int v1, .int v1] c2 m2
  exact Lw_eq X (tgt := 1378) rfl dw_982 rfl (kk c2 m2 hE)
set_option maxHeartbeats 1000000 in
set_option maxRecDepth 20000 in
theorem cs_27 {E : lzE} {b L : Nat} {xs : Nat → Int32} {aC aM : Nat → Nat} (X : lwX E b L xs aC aM) {i : Nat} (hi : i + 6 ≤ L) {n bs : Nat} {sC sM : rfS} (hR : Rel n bs sC sM) (kk : ∀ c2 m2, RelE c2 m2 → Lw E b aC aM 1378 (lls b aC aM i) [] c2 m2) : Lw E b aC aM 987 (lls b aC aM i) [] sC sM := by
  refine Lw_aload_n X (j := 1) rfl rfl dw_987 rfl ?_
  refine Lw_arg X (t := 1) hi (by decide) rfl dw_988 dw_989 dw_990 dw_991 dw_992 rfl ?_
  refine Lw_callC X (as := [.int (xs (i + 1))]) (st := []) (k_X7_body (op_body hR _)) (fun _ => rfl) (by decide) lm_L_126 mi_X7_body rfl rfl (Nat.le_of_ble_eq_true rfl) dw_993 rfl (fun r3 c2 hq => ?_)
  obtain ⟨v1, rfl, h1⟩ := hq
  show Lw E b aC aM 996 (lls b aC aM i) [.int v1] c2 sM
  refine Lw_aload_n X (j := 2) rfl rfl dw_996 rfl ?_
  refine Lw_arg X (t := 1) hi (by decide) rfl dw_997 dw_998 dw_999 dw_1000 dw_1001 rfl ?_
  refine Lw_callM X (as := [.int (xs (i + 1))]) (st := [.int v1]) (k_X8_body h1) (fun _ => rfl) (by decide) lm_L_129 mi_X8_body rfl rfl (Nat.le_of_ble_eq_true rfl) dw_1002 rfl (fun r4 m2 hq => ?_)
  obtain ⟨v2, rfl, h2, hE⟩ := hq
  subst h2
  show Lw E b aC aM 1005 (lls b aC aM i) [.int v1, .int v1] c2 m2
  exact Lw_eq X (tgt := 1378) rfl dw_1005 rfl (kk c2 m2 hE)
set_option maxHeartbeats 1000000 in
set_option maxRecDepth 20000 in
theorem cs_28 {E : lzE} {b L : Nat} {xs : Nat → Int32} {aC aM : Nat → Nat} (X : lwX E b L xs aC aM) {i : Nat} (hi : i + 6 ≤ L) {n bs : Nat} {sC sM : rfS} (hR : Rel n bs sC sM) (kk : ∀ c2 m2, RelE c2 m2 → Lw E b aC aM 1378 (lls b aC aM i) [] c2 m2) : Lw E b aC aM 1010 (lls b aC aM i) [] sC sM := by
  refine Lw_aload_n X (j := 1) rfl rfl dw_1010 rfl ?_
  refine Lw_arg X (t := 1) hi (by decide) rfl dw_1011 dw_1012 dw_1013 dw_1014 dw_1015 rfl ?_
  refine Lw_arg X (t := 2) hi (by decide) rfl dw_1016 dw_1017 dw_1018 dw_1019 dw_1020 rfl ?_
  refine Lw_arg X (t := 3) hi (by decide) rfl dw_1021 dw_1022 dw_1023 dw_1024 dw_1025 rfl ?_
  refine Lw_callC X (as := [.int (xs (i + 1)), .int (xs (i + 2)), .int (xs (i + 3))]) (st := []) (k_X7_act (d := 21) (fun _ _ _ _ _ h => k_X0_run (d := 20) (Pf_k 20) (by decide) h) (by decide) (op_act hR _ _ _)) (fun _ => rfl) (by decide) lm_L_130 mi_X7_act rfl rfl (Nat.le_of_ble_eq_true rfl) dw_1026 rfl (fun r3 c2 hq => ?_)
  obtain ⟨v1, rfl, h1⟩ := hq
  show Lw E b aC aM 1029 (lls b aC aM i) [.int v1] c2 sM
  refine Lw_aload_n X (j := 2) rfl rfl dw_1029 rfl ?_
  refine Lw_arg X (t := 1) hi (by decide) rfl dw_1030 dw_1031 dw_1032 dw_1033 dw_1034 rfl ?_
  refine Lw_arg X (t := 2) hi (by decide) rfl dw_1035 dw_1036 dw_1037 dw_1038 dw_1039 rfl ?_
  refine Lw_arg X (t := 3) hi (by decide) rfl dw_1040 dw_1041 dw_1042 dw_1043 dw_1044 rfl ?_
  refine Lw_callM X (as := [.int (xs (i + 1)), .int (xs (i + 2)), .int (xs (i + 3))]) (st := [.int v1]) (k_X8_act (d := 20) (Lnk_k 20) (Owk_k 20) (Tlk_k 20) (Wk_k 20) (by decide) h1) (fun _ => rfl) (by decide) lm_L_133 mi_X8_act rfl rfl (Nat.le_of_ble_eq_true rfl) dw_1045 rfl (fun r4 m2 hq => ?_)
  obtain ⟨v2, rfl, h2, hE⟩ := hq
  subst h2
  show Lw E b aC aM 1048 (lls b aC aM i) [.int v1, .int v1] c2 m2
  exact Lw_eq X (tgt := 1378) rfl dw_1048 rfl (kk c2 m2 hE)
set_option maxHeartbeats 1000000 in
set_option maxRecDepth 20000 in
theorem cs_29 {E : lzE} {b L : Nat} {xs : Nat → Int32} {aC aM : Nat → Nat} (X : lwX E b L xs aC aM) {i : Nat} (hi : i + 6 ≤ L) {n bs : Nat} {sC sM : rfS} (hR : Rel n bs sC sM) (kk : ∀ c2 m2, RelE c2 m2 → Lw E b aC aM 1378 (lls b aC aM i) [] c2 m2) : Lw E b aC aM 1053 (lls b aC aM i) [] sC sM := by
  refine Lw_aload_n X (j := 1) rfl rfl dw_1053 rfl ?_
  refine Lw_arg X (t := 1) hi (by decide) rfl dw_1054 dw_1055 dw_1056 dw_1057 dw_1058 rfl ?_
  refine Lw_callC X (as := [.int (xs (i + 1))]) (st := []) (k_X7_trace (op_trace hR _)) (fun _ => rfl) (by decide) lm_L_134 mi_X7_trace rfl rfl (Nat.le_of_ble_eq_true rfl) dw_1059 rfl (fun r3 c2 hq => ?_)
  obtain ⟨v1, rfl, h1⟩ := hq
  show Lw E b aC aM 1062 (lls b aC aM i) [.int v1] c2 sM
  refine Lw_aload_n X (j := 2) rfl rfl dw_1062 rfl ?_
  refine Lw_arg X (t := 1) hi (by decide) rfl dw_1063 dw_1064 dw_1065 dw_1066 dw_1067 rfl ?_
  refine Lw_callM X (as := [.int (xs (i + 1))]) (st := [.int v1]) (k_X8_trace h1) (fun _ => rfl) (by decide) lm_L_137 mi_X8_trace rfl rfl (Nat.le_of_ble_eq_true rfl) dw_1068 rfl (fun r4 m2 hq => ?_)
  obtain ⟨v2, rfl, h2, hE⟩ := hq
  subst h2
  show Lw E b aC aM 1071 (lls b aC aM i) [.int v1, .int v1] c2 m2
  exact Lw_eq X (tgt := 1378) rfl dw_1071 rfl (kk c2 m2 hE)
set_option maxHeartbeats 1000000 in
set_option maxRecDepth 20000 in
theorem cs_30 {E : lzE} {b L : Nat} {xs : Nat → Int32} {aC aM : Nat → Nat} (X : lwX E b L xs aC aM) {i : Nat} (hi : i + 6 ≤ L) {n bs : Nat} {sC sM : rfS} (hR : Rel n bs sC sM) (kk : ∀ c2 m2, RelE c2 m2 → Lw E b aC aM 1378 (lls b aC aM i) [] c2 m2) : Lw E b aC aM 1076 (lls b aC aM i) [] sC sM := by
  refine Lw_aload_n X (j := 1) rfl rfl dw_1076 rfl ?_
  refine Lw_arg X (t := 1) hi (by decide) rfl dw_1077 dw_1078 dw_1079 dw_1080 dw_1081 rfl ?_
  refine Lw_arg X (t := 2) hi (by decide) rfl dw_1082 dw_1083 dw_1084 dw_1085 dw_1086 rfl ?_
  refine Lw_callC X (as := [.int (xs (i + 1)), .int (xs (i + 2))]) (st := []) (k_X7_keep (op_keep hR _ _)) (fun _ => rfl) (by decide) lm_L_138 mi_X7_keep rfl rfl (Nat.le_of_ble_eq_true rfl) dw_1087 rfl (fun r3 c2 hq => ?_)
  obtain ⟨v1, rfl, h1⟩ := hq
  show Lw E b aC aM 1090 (lls b aC aM i) [.int v1] c2 sM
  refine Lw_aload_n X (j := 2) rfl rfl dw_1090 rfl ?_
  refine Lw_arg X (t := 1) hi (by decide) rfl dw_1091 dw_1092 dw_1093 dw_1094 dw_1095 rfl ?_
  refine Lw_arg X (t := 2) hi (by decide) rfl dw_1096 dw_1097 dw_1098 dw_1099 dw_1100 rfl ?_
  refine Lw_callM X (as := [.int (xs (i + 1)), .int (xs (i + 2))]) (st := [.int v1]) (k_X8_keep h1) (fun _ => rfl) (by decide) lm_L_141 mi_X8_keep rfl rfl (Nat.le_of_ble_eq_true rfl) dw_1101 rfl (fun r4 m2 hq => ?_)
  obtain ⟨v2, rfl, h2, hE⟩ := hq
  subst h2
  show Lw E b aC aM 1104 (lls b aC aM i) [.int v1, .int v1] c2 m2
  exact Lw_eq X (tgt := 1378) rfl dw_1104 rfl (kk c2 m2 hE)
set_option maxHeartbeats 1000000 in
set_option maxRecDepth 20000 in
theorem cs_31 {E : lzE} {b L : Nat} {xs : Nat → Int32} {aC aM : Nat → Nat} (X : lwX E b L xs aC aM) {i : Nat} (hi : i + 6 ≤ L) {n bs : Nat} {sC sM : rfS} (hR : Rel n bs sC sM) (kk : ∀ c2 m2, RelE c2 m2 → Lw E b aC aM 1378 (lls b aC aM i) [] c2 m2) : Lw E b aC aM 1109 (lls b aC aM i) [] sC sM := by
  refine Lw_aload_n X (j := 1) rfl rfl dw_1109 rfl ?_
  refine Lw_arg X (t := 1) hi (by decide) rfl dw_1110 dw_1111 dw_1112 dw_1113 dw_1114 rfl ?_
  refine Lw_arg X (t := 2) hi (by decide) rfl dw_1115 dw_1116 dw_1117 dw_1118 dw_1119 rfl ?_
  refine Lw_arg X (t := 3) hi (by decide) rfl dw_1120 dw_1121 dw_1122 dw_1123 dw_1124 rfl ?_
  refine Lw_callC X (as := [.int (xs (i + 1)), .int (xs (i + 2)), .int (xs (i + 3))]) (st := []) (k_X7_row (op_row hR _ _ _)) (fun _ => rfl) (by decide) lm_L_142 mi_X7_row rfl rfl (Nat.le_of_ble_eq_true rfl) dw_1125 rfl (fun r3 c2 hq => ?_)
  obtain ⟨v1, rfl, h1⟩ := hq
  show Lw E b aC aM 1128 (lls b aC aM i) [.int v1] c2 sM
  refine Lw_aload_n X (j := 2) rfl rfl dw_1128 rfl ?_
  refine Lw_arg X (t := 1) hi (by decide) rfl dw_1129 dw_1130 dw_1131 dw_1132 dw_1133 rfl ?_
  refine Lw_arg X (t := 2) hi (by decide) rfl dw_1134 dw_1135 dw_1136 dw_1137 dw_1138 rfl ?_
  refine Lw_arg X (t := 3) hi (by decide) rfl dw_1139 dw_1140 dw_1141 dw_1142 dw_1143 rfl ?_
  refine Lw_callM X (as := [.int (xs (i + 1)), .int (xs (i + 2)), .int (xs (i + 3))]) (st := [.int v1]) (k_X8_row h1) (fun _ => rfl) (by decide) lm_L_145 mi_X8_row rfl rfl (Nat.le_of_ble_eq_true rfl) dw_1144 rfl (fun r4 m2 hq => ?_)
  obtain ⟨v2, rfl, h2, hE⟩ := hq
  subst h2
  show Lw E b aC aM 1147 (lls b aC aM i) [.int v1, .int v1] c2 m2
  exact Lw_eq X (tgt := 1378) rfl dw_1147 rfl (kk c2 m2 hE)
set_option maxHeartbeats 1000000 in
set_option maxRecDepth 20000 in
theorem cs_32 {E : lzE} {b L : Nat} {xs : Nat → Int32} {aC aM : Nat → Nat} (X : lwX E b L xs aC aM) {i : Nat} (hi : i + 6 ≤ L) {n bs : Nat} {sC sM : rfS} (hR : Rel n bs sC sM) (kk : ∀ c2 m2, RelE c2 m2 → Lw E b aC aM 1378 (lls b aC aM i) [] c2 m2) : Lw E b aC aM 1152 (lls b aC aM i) [] sC sM := by
  refine Lw_aload_n X (j := 1) rfl rfl dw_1152 rfl ?_
  refine Lw_arg X (t := 1) hi (by decide) rfl dw_1153 dw_1154 dw_1155 dw_1156 dw_1157 rfl ?_
  refine Lw_arg X (t := 2) hi (by decide) rfl dw_1158 dw_1159 dw_1160 dw_1161 dw_1162 rfl ?_
  refine Lw_arg X (t := 3) hi (by decide) rfl dw_1163 dw_1164 dw_1165 dw_1166 dw_1167 rfl ?_
  refine Lw_i2l X dw_1168 rfl ?_
  refine Lw_bipush X (v := 32) (by decide) dw_1169 rfl ?_
  refine Lw_lshl X dw_1171 rfl ?_
  refine Lw_arg X (t := 4) hi (by decide) rfl dw_1172 dw_1173 dw_1174 dw_1175 dw_1176 rfl ?_
  refine Lw_i2l X dw_1177 rfl ?_
  refine Lw_ldc2 X (v := 4294967295) lc_L_146 dw_1178 rfl ?_
  refine Lw_land X dw_1181 rfl ?_
  refine Lw_lor X dw_1182 rfl ?_
  refine Lw_callC X (as := [.int (xs (i + 1)), .int (xs (i + 2)), .long ((((xs (i + 3))).toInt64 <<< ((32 : Int32).toInt64 &&& 63)) ||| (((xs (i + 4))).toInt64 &&& 4294967295))]) (st := []) (k_X7_put (op_put hR _ _ _)) (fun _ => rfl) (by decide) lm_L_148 mi_X7_put rfl rfl (Nat.le_of_ble_eq_true rfl) dw_1183 rfl (fun r3 c2 hq => ?_)
  obtain ⟨v1, rfl, h1⟩ := hq
  show Lw E b aC aM 1186 (lls b aC aM i) [.int v1] c2 sM
  refine Lw_aload_n X (j := 2) rfl rfl dw_1186 rfl ?_
  refine Lw_arg X (t := 1) hi (by decide) rfl dw_1187 dw_1188 dw_1189 dw_1190 dw_1191 rfl ?_
  refine Lw_arg X (t := 2) hi (by decide) rfl dw_1192 dw_1193 dw_1194 dw_1195 dw_1196 rfl ?_
  refine Lw_arg X (t := 3) hi (by decide) rfl dw_1197 dw_1198 dw_1199 dw_1200 dw_1201 rfl ?_
  refine Lw_i2l X dw_1202 rfl ?_
  refine Lw_bipush X (v := 32) (by decide) dw_1203 rfl ?_
  refine Lw_lshl X dw_1205 rfl ?_
  refine Lw_arg X (t := 4) hi (by decide) rfl dw_1206 dw_1207 dw_1208 dw_1209 dw_1210 rfl ?_
  refine Lw_i2l X dw_1211 rfl ?_
  refine Lw_ldc2 X (v := 4294967295) lc_L_146 dw_1212 rfl ?_
  refine Lw_land X dw_1215 rfl ?_
  refine Lw_lor X dw_1216 rfl ?_
  refine Lw_callM X (as := [.int (xs (i + 1)), .int (xs (i + 2)), .long ((((xs (i + 3))).toInt64 <<< ((32 : Int32).toInt64 &&& 63)) ||| (((xs (i + 4))).toInt64 &&& 4294967295))]) (st := [.int v1]) (k_X8_put h1) (fun _ => rfl) (by decide) lm_L_152 mi_X8_put rfl rfl (Nat.le_of_ble_eq_true rfl) dw_1217 rfl (fun r4 m2 hq => ?_)
  obtain ⟨v2, rfl, h2, hE⟩ := hq
  subst h2
  show Lw E b aC aM 1220 (lls b aC aM i) [.int v1, .int v1] c2 m2
  exact Lw_eq X (tgt := 1378) rfl dw_1220 rfl (kk c2 m2 hE)
set_option maxHeartbeats 1000000 in
set_option maxRecDepth 20000 in
theorem cs_33 {E : lzE} {b L : Nat} {xs : Nat → Int32} {aC aM : Nat → Nat} (X : lwX E b L xs aC aM) {i : Nat} (hi : i + 6 ≤ L) {n bs : Nat} {sC sM : rfS} (hR : Rel n bs sC sM) (kk : ∀ c2 m2, RelE c2 m2 → Lw E b aC aM 1378 (lls b aC aM i) [] c2 m2) : Lw E b aC aM 1225 (lls b aC aM i) [] sC sM := by
  refine Lw_aload_n X (j := 1) rfl rfl dw_1225 rfl ?_
  refine Lw_arg X (t := 1) hi (by decide) rfl dw_1226 dw_1227 dw_1228 dw_1229 dw_1230 rfl ?_
  refine Lw_arg X (t := 2) hi (by decide) rfl dw_1231 dw_1232 dw_1233 dw_1234 dw_1235 rfl ?_
  refine Lw_callC X (as := [.int (xs (i + 1)), .int (xs (i + 2))]) (st := []) (k_X7_element (op_element hR _ _)) (fun _ => rfl) (by decide) lm_L_153 mi_X7_element rfl rfl (Nat.le_of_ble_eq_true rfl) dw_1236 rfl (fun r3 c2 hq => ?_)
  obtain ⟨v1, rfl, h1⟩ := hq
  show Lw E b aC aM 1239 (lls b aC aM i) [.long v1] c2 sM
  refine Lw_aload_n X (j := 2) rfl rfl dw_1239 rfl ?_
  refine Lw_arg X (t := 1) hi (by decide) rfl dw_1240 dw_1241 dw_1242 dw_1243 dw_1244 rfl ?_
  refine Lw_arg X (t := 2) hi (by decide) rfl dw_1245 dw_1246 dw_1247 dw_1248 dw_1249 rfl ?_
  refine Lw_callM X (as := [.int (xs (i + 1)), .int (xs (i + 2))]) (st := [.long v1]) (k_X8_element h1) (fun _ => rfl) (by decide) lm_L_157 mi_X8_element rfl rfl (Nat.le_of_ble_eq_true rfl) dw_1250 rfl (fun r4 m2 hq => ?_)
  obtain ⟨v2, rfl, h2, hE⟩ := hq
  subst h2
  show Lw E b aC aM 1253 (lls b aC aM i) [.long v1, .long v1] c2 m2
  exact Lw_leq X (tgt := 1378) dw_1253 dw_1254 rfl (kk c2 m2 hE)
set_option maxHeartbeats 1000000 in
set_option maxRecDepth 20000 in
theorem cs_34 {E : lzE} {b L : Nat} {xs : Nat → Int32} {aC aM : Nat → Nat} (X : lwX E b L xs aC aM) {i : Nat} (hi : i + 6 ≤ L) {n bs : Nat} {sC sM : rfS} (hR : Rel n bs sC sM) (kk : ∀ c2 m2, RelE c2 m2 → Lw E b aC aM 1378 (lls b aC aM i) [] c2 m2) : Lw E b aC aM 1259 (lls b aC aM i) [] sC sM := by
  refine Lw_aload_n X (j := 1) rfl rfl dw_1259 rfl ?_
  refine Lw_arg X (t := 1) hi (by decide) rfl dw_1260 dw_1261 dw_1262 dw_1263 dw_1264 rfl ?_
  refine Lw_arg X (t := 2) hi (by decide) rfl dw_1265 dw_1266 dw_1267 dw_1268 dw_1269 rfl ?_
  refine Lw_arg X (t := 3) hi (by decide) rfl dw_1270 dw_1271 dw_1272 dw_1273 dw_1274 rfl ?_
  refine Lw_arg X (t := 4) hi (by decide) rfl dw_1275 dw_1276 dw_1277 dw_1278 dw_1279 rfl ?_
  refine Lw_arg X (t := 5) hi (by decide) rfl dw_1280 dw_1281 dw_1282 dw_1283 dw_1284 rfl ?_
  refine Lw_callC X (as := [.int (xs (i + 1)), .int (xs (i + 2)), .int (xs (i + 3)), .int (xs (i + 4)), .int (xs (i + 5))]) (st := []) (k_X7_shift (op_shift hR _ _ _ _ _)) (fun _ => rfl) (by decide) lm_L_158 mi_X7_shift rfl rfl (Nat.le_of_ble_eq_true rfl) dw_1285 rfl (fun r3 c2 hq => ?_)
  obtain ⟨v1, rfl, h1⟩ := hq
  show Lw E b aC aM 1288 (lls b aC aM i) [.int v1] c2 sM
  refine Lw_aload_n X (j := 2) rfl rfl dw_1288 rfl ?_
  refine Lw_arg X (t := 1) hi (by decide) rfl dw_1289 dw_1290 dw_1291 dw_1292 dw_1293 rfl ?_
  refine Lw_arg X (t := 2) hi (by decide) rfl dw_1294 dw_1295 dw_1296 dw_1297 dw_1298 rfl ?_
  refine Lw_arg X (t := 3) hi (by decide) rfl dw_1299 dw_1300 dw_1301 dw_1302 dw_1303 rfl ?_
  refine Lw_arg X (t := 4) hi (by decide) rfl dw_1304 dw_1305 dw_1306 dw_1307 dw_1308 rfl ?_
  refine Lw_arg X (t := 5) hi (by decide) rfl dw_1309 dw_1310 dw_1311 dw_1312 dw_1313 rfl ?_
  refine Lw_callM X (as := [.int (xs (i + 1)), .int (xs (i + 2)), .int (xs (i + 3)), .int (xs (i + 4)), .int (xs (i + 5))]) (st := [.int v1]) (k_X8_shift h1) (fun _ => rfl) (by decide) lm_L_162 mi_X8_shift rfl rfl (Nat.le_of_ble_eq_true rfl) dw_1314 rfl (fun r4 m2 hq => ?_)
  obtain ⟨v2, rfl, h2, hE⟩ := hq
  subst h2
  show Lw E b aC aM 1317 (lls b aC aM i) [.int v1, .int v1] c2 m2
  exact Lw_eq X (tgt := 1378) rfl dw_1317 rfl (kk c2 m2 hE)
set_option maxHeartbeats 1000000 in
set_option maxRecDepth 20000 in
theorem cs_35 {E : lzE} {b L : Nat} {xs : Nat → Int32} {aC aM : Nat → Nat} (X : lwX E b L xs aC aM) {i : Nat} (hi : i + 6 ≤ L) {n bs : Nat} {sC sM : rfS} (hR : Rel n bs sC sM) (kk : ∀ c2 m2, RelE c2 m2 → Lw E b aC aM 1378 (lls b aC aM i) [] c2 m2) : Lw E b aC aM 1322 (lls b aC aM i) [] sC sM := by
  refine Lw_aload_n X (j := 1) rfl rfl dw_1322 rfl ?_
  refine Lw_arg X (t := 1) hi (by decide) rfl dw_1323 dw_1324 dw_1325 dw_1326 dw_1327 rfl ?_
  refine Lw_arg X (t := 2) hi (by decide) rfl dw_1328 dw_1329 dw_1330 dw_1331 dw_1332 rfl ?_
  refine Lw_callC X (as := [.int (xs (i + 1)), .int (xs (i + 2))]) (st := []) (k_X7_taken (op_taken hR _ _)) (fun _ => rfl) (by decide) lm_L_163 mi_X7_taken rfl rfl (Nat.le_of_ble_eq_true rfl) dw_1333 rfl (fun r3 c2 hq => ?_)
  obtain ⟨v1, rfl, h1⟩ := hq
  show Lw E b aC aM 1336 (lls b aC aM i) [.int v1] c2 sM
  refine Lw_aload_n X (j := 2) rfl rfl dw_1336 rfl ?_
  refine Lw_arg X (t := 1) hi (by decide) rfl dw_1337 dw_1338 dw_1339 dw_1340 dw_1341 rfl ?_
  refine Lw_arg X (t := 2) hi (by decide) rfl dw_1342 dw_1343 dw_1344 dw_1345 dw_1346 rfl ?_
  refine Lw_callM X (as := [.int (xs (i + 1)), .int (xs (i + 2))]) (st := [.int v1]) (k_X8_taken h1) (fun _ => rfl) (by decide) lm_L_166 mi_X8_taken rfl rfl (Nat.le_of_ble_eq_true rfl) dw_1347 rfl (fun r4 m2 hq => ?_)
  obtain ⟨v2, rfl, h2, hE⟩ := hq
  subst h2
  show Lw E b aC aM 1350 (lls b aC aM i) [.int v1, .int v1] c2 m2
  exact Lw_eq X (tgt := 1378) rfl dw_1350 rfl (kk c2 m2 hE)
set_option maxHeartbeats 1000000 in
set_option maxRecDepth 20000 in
theorem cs_36 {E : lzE} {b L : Nat} {xs : Nat → Int32} {aC aM : Nat → Nat} (X : lwX E b L xs aC aM) {i : Nat} (hi : i + 6 ≤ L) {n bs : Nat} {sC sM : rfS} (hR : Rel n bs sC sM) (kk : ∀ c2 m2, RelE c2 m2 → Lw E b aC aM 1378 (lls b aC aM i) [] c2 m2) : Lw E b aC aM 1355 (lls b aC aM i) [] sC sM := by
  refine Lw_aload_n X (j := 1) rfl rfl dw_1355 rfl ?_
  refine Lw_arg X (t := 1) hi (by decide) rfl dw_1356 dw_1357 dw_1358 dw_1359 dw_1360 rfl ?_
  refine Lw_callC X (as := [.int (xs (i + 1))]) (st := []) (k_X7_count (op_count hR _)) (fun _ => rfl) (by decide) lm_L_167 mi_X7_count rfl rfl (Nat.le_of_ble_eq_true rfl) dw_1361 rfl (fun r3 c2 hq => ?_)
  obtain ⟨v1, rfl, h1⟩ := hq
  show Lw E b aC aM 1364 (lls b aC aM i) [.int v1] c2 sM
  refine Lw_aload_n X (j := 2) rfl rfl dw_1364 rfl ?_
  refine Lw_arg X (t := 1) hi (by decide) rfl dw_1365 dw_1366 dw_1367 dw_1368 dw_1369 rfl ?_
  refine Lw_callM X (as := [.int (xs (i + 1))]) (st := [.int v1]) (k_X8_count h1) (fun _ => rfl) (by decide) lm_L_170 mi_X8_count rfl rfl (Nat.le_of_ble_eq_true rfl) dw_1370 rfl (fun r4 m2 hq => ?_)
  obtain ⟨v2, rfl, h2, hE⟩ := hq
  subst h2
  show Lw E b aC aM 1373 (lls b aC aM i) [.int v1, .int v1] c2 m2
  exact Lw_eq X (tgt := 1378) rfl dw_1373 rfl (kk c2 m2 hE)
