def rtC (a : Nat) : List (List (Option Nat)) := [[some 50, none, some 51, none], [some 45, some 46, some 47, some 48, none, none], [none, some 2, some 3, some 4, some 5, some 6, some 11], [some 7, none, some 8, some 9, none, none, some 10, none], [none, none, none, some (a+1)], [some (a+1), some (a+2), none, none], [none, none, some 21, none, some 1, some 22, some 23, none, some 24, some 25], [some 1, some 12, some 15, some 16, some 19, none, none, some 20, some 44, some 49, some 52], [none, none, none, none, none, none, none, none, none, none, none, none, none, none, none, none, none, none, none, none, none, none, none, none, none, none, none, none, none, none, none, none, none, none, none, none, none, none, none, none, none, none, none]]
def rtM : List (List (Option Nat)) := [[none, none, none, none], [none, none, none, none, none, none], [none, none, none, none, none, none, none], [none, none, none, none, none, none, none, none], [none, none, none, none], [none, none, none, none], [none, none, none, none, none, none, none, none, none, none], [none, none, none, none, none, none, none, none, none, none, none], [none, some 1, some 2, none, some 3, none, none, some 4, some 5, some 6, some 7, none, none, none, none, some 8, some 9, some 10, some 11, some 12, some 13, some 14, none, none, some 15, some 16, none, none, some 17, none, some 18, none, some 19, some 20, some 21, some 22, some 23, some 24, some 25, some 26, none, none, some 27]]
def ΛC : rfL := (65, fun k => [11, 6, 0, 0, 0, 0, 7, 0, 0, 0, 0, 0, 9, 0, 0, 0, 9, 0, 0, 0, 10, 0, 2, 0, 0, 0, 9, 0, 0, 9, 0, 0, 9, 0, 0, 9, 0, 0, 9, 0, 0, 9, 0, 0, 5, 0, 0, 0, 0, 4, 0, 0, 3, 8, 1, 8, 1, 8, 1, 8, 1, 8, 1, 8, 1].getD k 99, fun k => [0, 0, 7, 7, 7, 7, 0, 121, 121, 120, 121, 6, 0, 7, 7, 5, 0, 7, 7, 5, 0, 4, 6, 4, 1024, 7, 0, 7, 7, 0, 7, 7, 0, 7, 7, 0, 7, 7, 0, 7, 7, 0, 7, 7, 0, 40, 40, 40, 40, 0, 50, 24, 6, 0, 60, 0, 60, 0, 60, 0, 60, 0, 60, 0, 60].getD k 0, fun c a j => ((rtC a).getD c []).getD j none, fun k j => if k = 22 then 26 + 3 * j else 53 + 2 * j)
def ΛM : rfL := (28, fun k => [12, 0, 0, 0, 0, 0, 0, 0, 0, 0, 0, 0, 0, 0, 0, 0, 0, 0, 0, 0, 0, 0, 1, 0, 0, 0, 0, 0].getD k 99, fun k => [0, 42, 2, 120, 60, 60, 60, 200, 61, 61, 61, 200, 200, 6, 5, 16, 5, 160, 50, 24, 6, 6, 360, 16, 16, 7, 7, 128].getD k 0, fun c _ j => (rtM.getD c []).getD j none, fun _ _ => 0)
def isSt (a : Nat) : Prop := a ∈ [12, 16, 26, 29, 32, 35, 38, 41]
def isSh (a : Nat) : Prop := a ∈ [53, 55, 57, 59, 61, 63]
theorem isSt_f : ∀ a ∈ [12, 16, 26, 29, 32, 35, 38, 41], (a < ΛC.1 ∧ ΛC.2.1 a = 9) ∧ (a + 1 < ΛC.1 ∧ ΛC.2.1 (a + 1) = 0 ∧ ΛC.2.2.1 (a + 1) = 7) ∧ (a + 2 < ΛC.1 ∧ ΛC.2.1 (a + 2) = 0 ∧ ΛC.2.2.1 (a + 2) = 7) := by decide +kernel
theorem isSh_f : ∀ a ∈ [53, 55, 57, 59, 61, 63], (a < ΛC.1 ∧ ΛC.2.1 a = 8) ∧ (a + 1 < ΛC.1 ∧ ΛC.2.1 (a + 1) = 1 ∧ ΛC.2.2.1 (a + 1) = 60) := by decide +kernel
theorem isSt_of {i : Int32} (h : vp_in i 6) : isSt (26 + 3 * i.toNatClampNeg) := by
  have h1 : i.toNatClampNeg < 6 := Nat.not_le.mp fun q => h (Or.inr q)
  generalize i.toNatClampNeg = j at h1 ⊢
  match j, h1 with
  | 0, _ => unfold isSt; decide
  | 1, _ => unfold isSt; decide
  | 2, _ => unfold isSt; decide
  | 3, _ => unfold isSt; decide
  | 4, _ => unfold isSt; decide
  | 5, _ => unfold isSt; decide
theorem isSh_of {i : Int32} (h : vp_in i 6) : isSh (53 + 2 * i.toNatClampNeg) := by
  have h1 : i.toNatClampNeg < 6 := Nat.not_le.mp fun q => h (Or.inr q)
  generalize i.toNatClampNeg = j at h1 ⊢
  match j, h1 with
  | 0, _ => unfold isSh; decide
  | 1, _ => unfold isSh; decide
  | 2, _ => unfold isSh; decide
  | 3, _ => unfold isSh; decide
  | 4, _ => unfold isSh; decide
  | 5, _ => unfold isSh; decide
set_option maxRecDepth 40000 in
theorem lf_X3_11 : Cond.fieldLink "OneLeg$Law" 11 "OneLeg$Law" "steps" "[I" ∈ rfG := rf_gl 116 rfl rfl
set_option maxRecDepth 40000 in
theorem lf_X3_24 : Cond.fieldLink "OneLeg$Law" 24 "OneLeg$Law" "size" "I" ∈ rfG := rf_gl 117 rfl rfl
set_option maxRecDepth 40000 in
theorem lf_X3_15 : Cond.fieldLink "OneLeg$Law" 15 "OneLeg$Law" "stack" "[I" ∈ rfG := rf_gl 118 rfl rfl
set_option maxRecDepth 40000 in
theorem lf_X3_18 : Cond.fieldLink "OneLeg$Law" 18 "OneLeg$Law" "tape" "[I" ∈ rfG := rf_gl 119 rfl rfl
set_option maxRecDepth 40000 in
theorem lf_X3_28 : Cond.fieldLink "OneLeg$Law" 28 "OneLeg$Law" "length" "I" ∈ rfG := rf_gl 120 rfl rfl
set_option maxRecDepth 40000 in
theorem lf_X7_144 : Cond.fieldLink "OneLeg" 144 "OneLeg$Law" "length" "I" ∈ rfG := rf_gl 121 rfl rfl
set_option maxRecDepth 40000 in
theorem lf_X3_31 : Cond.fieldLink "OneLeg$Law" 31 "OneLeg$Law" "at" "I" ∈ rfG := rf_gl 122 rfl rfl
set_option maxRecDepth 40000 in
theorem lf_X3_21 : Cond.fieldLink "OneLeg$Law" 21 "OneLeg$Law" "draft" "[I" ∈ rfG := rf_gl 123 rfl rfl
set_option maxRecDepth 40000 in
theorem lf_X3_34 : Cond.fieldLink "OneLeg$Law" 34 "OneLeg$Law" "drafted" "I" ∈ rfG := rf_gl 124 rfl rfl
set_option maxRecDepth 40000 in
theorem lf_X2_34 : Cond.fieldLink "OneLeg$House" 34 "OneLeg$House" "size" "I" ∈ rfG := rf_gl 143 rfl rfl
set_option maxRecDepth 40000 in
theorem lf_X7_67 : Cond.fieldLink "OneLeg" 67 "OneLeg$House" "size" "I" ∈ rfG := rf_gl 144 rfl rfl
set_option maxRecDepth 40000 in
theorem lf_X6_35 : Cond.fieldLink "OneLeg$Thought" 35 "OneLeg$House" "size" "I" ∈ rfG := rf_gl 145 rfl rfl
set_option maxRecDepth 40000 in
theorem lf_X2_9 : Cond.fieldLink "OneLeg$House" 9 "OneLeg$House" "wants" "[I" ∈ rfG := rf_gl 146 rfl rfl
set_option maxRecDepth 40000 in
theorem lf_X7_91 : Cond.fieldLink "OneLeg" 91 "OneLeg$House" "wants" "[I" ∈ rfG := rf_gl 147 rfl rfl
set_option maxRecDepth 40000 in
theorem lf_X6_121 : Cond.fieldLink "OneLeg$Thought" 121 "OneLeg$House" "wants" "[I" ∈ rfG := rf_gl 148 rfl rfl
set_option maxRecDepth 40000 in
theorem lf_X2_15 : Cond.fieldLink "OneLeg$House" 15 "OneLeg$House" "slow" "[I" ∈ rfG := rf_gl 149 rfl rfl
set_option maxRecDepth 40000 in
theorem lf_X7_94 : Cond.fieldLink "OneLeg" 94 "OneLeg$House" "slow" "[I" ∈ rfG := rf_gl 150 rfl rfl
set_option maxRecDepth 40000 in
theorem lf_X6_127 : Cond.fieldLink "OneLeg$Thought" 127 "OneLeg$House" "slow" "[I" ∈ rfG := rf_gl 151 rfl rfl
set_option maxRecDepth 40000 in
theorem lf_X2_18 : Cond.fieldLink "OneLeg$House" 18 "OneLeg$House" "kinds" "[I" ∈ rfG := rf_gl 152 rfl rfl
set_option maxRecDepth 40000 in
theorem lf_X7_128 : Cond.fieldLink "OneLeg" 128 "OneLeg$House" "kinds" "[I" ∈ rfG := rf_gl 153 rfl rfl
set_option maxRecDepth 40000 in
theorem lf_X2_21 : Cond.fieldLink "OneLeg$House" 21 "OneLeg$House" "facts" "[I" ∈ rfG := rf_gl 154 rfl rfl
set_option maxRecDepth 40000 in
theorem lf_X7_131 : Cond.fieldLink "OneLeg" 131 "OneLeg$House" "facts" "[I" ∈ rfG := rf_gl 155 rfl rfl
set_option maxRecDepth 40000 in
theorem lf_X2_27 : Cond.fieldLink "OneLeg$House" 27 "OneLeg$House" "law" "LOneLeg$Law;" ∈ rfG := rf_gl 156 rfl rfl
set_option maxRecDepth 40000 in
theorem lf_X7_140 : Cond.fieldLink "OneLeg" 140 "OneLeg$House" "law" "LOneLeg$Law;" ∈ rfG := rf_gl 157 rfl rfl
set_option maxRecDepth 40000 in
theorem lf_X2_31 : Cond.fieldLink "OneLeg$House" 31 "OneLeg$House" "named" "[I" ∈ rfG := rf_gl 158 rfl rfl
set_option maxRecDepth 40000 in
theorem lf_X5_9 : Cond.fieldLink "OneLeg$Standing" 9 "OneLeg$Standing" "owed" "[I" ∈ rfG := rf_gl 180 rfl rfl
set_option maxRecDepth 40000 in
theorem lf_X2_49 : Cond.fieldLink "OneLeg$House" 49 "OneLeg$Standing" "owed" "[I" ∈ rfG := rf_gl 181 rfl rfl
set_option maxRecDepth 40000 in
theorem lf_X7_97 : Cond.fieldLink "OneLeg" 97 "OneLeg$Standing" "owed" "[I" ∈ rfG := rf_gl 182 rfl rfl
set_option maxRecDepth 40000 in
theorem lf_X5_15 : Cond.fieldLink "OneLeg$Standing" 15 "OneLeg$Standing" "knows" "[I" ∈ rfG := rf_gl 183 rfl rfl
set_option maxRecDepth 40000 in
theorem lf_X2_55 : Cond.fieldLink "OneLeg$House" 55 "OneLeg$Standing" "knows" "[I" ∈ rfG := rf_gl 184 rfl rfl
set_option maxRecDepth 40000 in
theorem lf_X7_100 : Cond.fieldLink "OneLeg" 100 "OneLeg$Standing" "knows" "[I" ∈ rfG := rf_gl 185 rfl rfl
set_option maxRecDepth 40000 in
theorem lf_X5_24 : Cond.fieldLink "OneLeg$Standing" 24 "OneLeg$Standing" "worn" "I" ∈ rfG := rf_gl 186 rfl rfl
set_option maxRecDepth 40000 in
theorem lf_X2_52 : Cond.fieldLink "OneLeg$House" 52 "OneLeg$Standing" "worn" "I" ∈ rfG := rf_gl 187 rfl rfl
set_option maxRecDepth 40000 in
theorem lf_X7_134 : Cond.fieldLink "OneLeg" 134 "OneLeg$Standing" "worn" "I" ∈ rfG := rf_gl 188 rfl rfl
set_option maxRecDepth 40000 in
theorem lf_X5_28 : Cond.fieldLink "OneLeg$Standing" 28 "OneLeg$Standing" "today" "I" ∈ rfG := rf_gl 189 rfl rfl
set_option maxRecDepth 40000 in
theorem lf_X2_40 : Cond.fieldLink "OneLeg$House" 40 "OneLeg$Standing" "today" "I" ∈ rfG := rf_gl 190 rfl rfl
set_option maxRecDepth 40000 in
theorem lf_X7_137 : Cond.fieldLink "OneLeg" 137 "OneLeg$Standing" "today" "I" ∈ rfG := rf_gl 191 rfl rfl
set_option maxRecDepth 40000 in
theorem lf_X6_81 : Cond.fieldLink "OneLeg$Thought" 81 "OneLeg$Thought" "bestDone" "I" ∈ rfG := rf_gl 210 rfl rfl
set_option maxRecDepth 40000 in
theorem lf_X7_187 : Cond.fieldLink "OneLeg" 187 "OneLeg$Thought" "bestDone" "I" ∈ rfG := rf_gl 211 rfl rfl
set_option maxRecDepth 40000 in
theorem lf_X6_84 : Cond.fieldLink "OneLeg$Thought" 84 "OneLeg$Thought" "bestOwed" "I" ∈ rfG := rf_gl 212 rfl rfl
set_option maxRecDepth 40000 in
theorem lf_X7_190 : Cond.fieldLink "OneLeg" 190 "OneLeg$Thought" "bestOwed" "I" ∈ rfG := rf_gl 213 rfl rfl
set_option maxRecDepth 40000 in
theorem lf_X6_9 : Cond.fieldLink "OneLeg$Thought" 9 "OneLeg$Thought" "bestRota" "[I" ∈ rfG := rf_gl 214 rfl rfl
set_option maxRecDepth 40000 in
theorem lf_X7_193 : Cond.fieldLink "OneLeg" 193 "OneLeg$Thought" "bestRota" "[I" ∈ rfG := rf_gl 215 rfl rfl
set_option maxRecDepth 40000 in
theorem lf_X6_101 : Cond.fieldLink "OneLeg$Thought" 101 "OneLeg$Thought" "isTakenFirst" "Z" ∈ rfG := rf_gl 216 rfl rfl
set_option maxRecDepth 40000 in
theorem lf_X7_251 : Cond.fieldLink "OneLeg" 251 "OneLeg$Thought" "isTakenFirst" "Z" ∈ rfG := rf_gl 217 rfl rfl
set_option maxRecDepth 40000 in
theorem lf_X6_30 : Cond.fieldLink "OneLeg$Thought" 30 "OneLeg$Thought" "house" "LOneLeg$House;" ∈ rfG := rf_gl 218 rfl rfl
set_option maxRecDepth 40000 in
theorem lf_X6_17 : Cond.fieldLink "OneLeg$Thought" 17 "OneLeg$Thought" "steps" "[LOneLeg$Standing;" ∈ rfG := rf_gl 219 rfl rfl
set_option maxRecDepth 40000 in
theorem lf_X6_21 : Cond.fieldLink "OneLeg$Thought" 21 "OneLeg$Thought" "rota" "[I" ∈ rfG := rf_gl 220 rfl rfl
set_option maxRecDepth 40000 in
theorem lf_X6_65 : Cond.fieldLink "OneLeg$Thought" 65 "OneLeg$Thought" "hasBest" "Z" ∈ rfG := rf_gl 221 rfl rfl
set_option maxRecDepth 40000 in
theorem lf_X6_24 : Cond.fieldLink "OneLeg$Thought" 24 "OneLeg$Thought" "mostDealt" "[I" ∈ rfG := rf_gl 222 rfl rfl
set_option maxRecDepth 40000 in
theorem lf_X6_27 : Cond.fieldLink "OneLeg$Thought" 27 "OneLeg$Thought" "bySlow" "[I" ∈ rfG := rf_gl 223 rfl rfl
set_option maxRecDepth 40000 in
theorem lf_X1_9 : Cond.fieldLink "OneLeg$Changes" 9 "OneLeg$Changes" "numbers" "[I" ∈ rfG := rf_gl 251 rfl rfl
set_option maxRecDepth 40000 in
theorem lf_X7_287 : Cond.fieldLink "OneLeg" 287 "OneLeg$Changes" "numbers" "[I" ∈ rfG := rf_gl 252 rfl rfl
set_option maxRecDepth 40000 in
theorem lf_X1_15 : Cond.fieldLink "OneLeg$Changes" 15 "OneLeg$Changes" "whats" "[I" ∈ rfG := rf_gl 253 rfl rfl
set_option maxRecDepth 40000 in
theorem lf_X7_290 : Cond.fieldLink "OneLeg" 290 "OneLeg$Changes" "whats" "[I" ∈ rfG := rf_gl 254 rfl rfl
set_option maxRecDepth 40000 in
theorem lf_X1_18 : Cond.fieldLink "OneLeg$Changes" 18 "OneLeg$Changes" "before" "[I" ∈ rfG := rf_gl 255 rfl rfl
set_option maxRecDepth 40000 in
theorem lf_X7_293 : Cond.fieldLink "OneLeg" 293 "OneLeg$Changes" "before" "[I" ∈ rfG := rf_gl 256 rfl rfl
set_option maxRecDepth 40000 in
theorem lf_X1_21 : Cond.fieldLink "OneLeg$Changes" 21 "OneLeg$Changes" "after" "[I" ∈ rfG := rf_gl 257 rfl rfl
set_option maxRecDepth 40000 in
theorem lf_X7_299 : Cond.fieldLink "OneLeg" 299 "OneLeg$Changes" "after" "[I" ∈ rfG := rf_gl 258 rfl rfl
set_option maxRecDepth 40000 in
theorem lf_X1_24 : Cond.fieldLink "OneLeg$Changes" 24 "OneLeg$Changes" "done" "I" ∈ rfG := rf_gl 259 rfl rfl
set_option maxRecDepth 40000 in
theorem lf_X7_284 : Cond.fieldLink "OneLeg" 284 "OneLeg$Changes" "done" "I" ∈ rfG := rf_gl 260 rfl rfl
set_option maxRecDepth 40000 in
theorem lf_X1_31 : Cond.fieldLink "OneLeg$Changes" 31 "OneLeg$Changes" "kept" "I" ∈ rfG := rf_gl 261 rfl rfl
set_option maxRecDepth 40000 in
theorem lf_X7_296 : Cond.fieldLink "OneLeg" 296 "OneLeg$Changes" "kept" "I" ∈ rfG := rf_gl 262 rfl rfl
set_option maxRecDepth 40000 in
theorem lf_X0_9 : Cond.fieldLink "OneLeg$Boots" 9 "OneLeg$Boots" "kinds" "[I" ∈ rfG := rf_gl 282 rfl rfl
set_option maxRecDepth 40000 in
theorem lf_X7_336 : Cond.fieldLink "OneLeg" 336 "OneLeg$Boots" "kinds" "[I" ∈ rfG := rf_gl 283 rfl rfl
set_option maxRecDepth 40000 in
theorem lf_X0_16 : Cond.fieldLink "OneLeg$Boots" 16 "OneLeg$Boots" "size" "I" ∈ rfG := rf_gl 284 rfl rfl
set_option maxRecDepth 40000 in
theorem lf_X7_302 : Cond.fieldLink "OneLeg" 302 "OneLeg$Boots" "size" "I" ∈ rfG := rf_gl 285 rfl rfl
set_option maxRecDepth 40000 in
theorem lf_X0_13 : Cond.fieldLink "OneLeg$Boots" 13 "OneLeg$Boots" "traced" "[I" ∈ rfG := rf_gl 286 rfl rfl
set_option maxRecDepth 40000 in
theorem lf_X7_314 : Cond.fieldLink "OneLeg" 314 "OneLeg$Boots" "traced" "[I" ∈ rfG := rf_gl 287 rfl rfl
set_option maxRecDepth 40000 in
theorem lf_X0_38 : Cond.fieldLink "OneLeg$Boots" 38 "OneLeg$Boots" "ran" "I" ∈ rfG := rf_gl 288 rfl rfl
set_option maxRecDepth 40000 in
theorem lf_X7_305 : Cond.fieldLink "OneLeg" 305 "OneLeg$Boots" "ran" "I" ∈ rfG := rf_gl 289 rfl rfl
set_option maxRecDepth 40000 in
theorem lf_X4_11 : Cond.fieldLink "OneLeg$Shelf" 11 "OneLeg$Shelf" "holds" "I" ∈ rfG := rf_gl 306 rfl rfl
set_option maxRecDepth 40000 in
theorem lf_X7_79 : Cond.fieldLink "OneLeg" 79 "OneLeg$Shelf" "holds" "I" ∈ rfG := rf_gl 307 rfl rfl
set_option maxRecDepth 40000 in
theorem lf_X7_317 : Cond.fieldLink "OneLeg" 317 "OneLeg$Shelf" "boot" "I" ∈ rfG := rf_gl 308 rfl rfl
set_option maxRecDepth 40000 in
theorem lf_X4_19 : Cond.fieldLink "OneLeg$Shelf" 19 "OneLeg$Shelf" "size" "I" ∈ rfG := rf_gl 309 rfl rfl
set_option maxRecDepth 40000 in
theorem lf_X7_86 : Cond.fieldLink "OneLeg" 86 "OneLeg$Shelf" "size" "I" ∈ rfG := rf_gl 310 rfl rfl
set_option maxRecDepth 40000 in
theorem lf_X2_89 : Cond.fieldLink "OneLeg$House" 89 "OneLeg$Shelf" "size" "I" ∈ rfG := rf_gl 311 rfl rfl
set_option maxRecDepth 40000 in
theorem lf_X4_15 : Cond.fieldLink "OneLeg$Shelf" 15 "OneLeg$Shelf" "elements" "[J" ∈ rfG := rf_gl 312 rfl rfl
set_option maxRecDepth 40000 in
theorem lf_X6_55 : Cond.fieldLink "OneLeg$Thought" 55 "OneLeg$Shelf" "elements" "[J" ∈ rfG := rf_gl 313 rfl rfl
set_option maxRecDepth 40000 in
theorem lf_X7_87 : Cond.fieldLink "OneLeg" 87 "OneLeg$Shelf" "elements" "[J" ∈ rfG := rf_gl 314 rfl rfl
set_option maxRecDepth 40000 in
theorem lf_X2_92 : Cond.fieldLink "OneLeg$House" 92 "OneLeg$Shelf" "elements" "[J" ∈ rfG := rf_gl 315 rfl rfl
set_option maxRecDepth 40000 in
theorem lf_X7_10 : Cond.fieldLink "OneLeg" 10 "OneLeg" "house" "LOneLeg$House;" ∈ rfG := rf_gl 326 rfl rfl
set_option maxRecDepth 40000 in
theorem lf_X7_19 : Cond.fieldLink "OneLeg" 19 "OneLeg" "now" "LOneLeg$Standing;" ∈ rfG := rf_gl 327 rfl rfl
set_option maxRecDepth 40000 in
theorem lf_X7_23 : Cond.fieldLink "OneLeg" 23 "OneLeg" "led" "[I" ∈ rfG := rf_gl 328 rfl rfl
set_option maxRecDepth 40000 in
theorem lf_X7_27 : Cond.fieldLink "OneLeg" 27 "OneLeg" "imaged" "LOneLeg$Standing;" ∈ rfG := rf_gl 329 rfl rfl
set_option maxRecDepth 40000 in
theorem lf_X7_30 : Cond.fieldLink "OneLeg" 30 "OneLeg" "imagedLed" "[I" ∈ rfG := rf_gl 330 rfl rfl
set_option maxRecDepth 40000 in
theorem lf_X7_269 : Cond.fieldLink "OneLeg" 269 "OneLeg" "imagedBrothers" "I" ∈ rfG := rf_gl 331 rfl rfl
set_option maxRecDepth 40000 in
theorem lf_X7_281 : Cond.fieldLink "OneLeg" 281 "OneLeg" "hasImage" "Z" ∈ rfG := rf_gl 332 rfl rfl
set_option maxRecDepth 40000 in
theorem lf_X7_38 : Cond.fieldLink "OneLeg" 38 "OneLeg" "thought" "LOneLeg$Thought;" ∈ rfG := rf_gl 333 rfl rfl
set_option maxRecDepth 40000 in
theorem lf_X7_45 : Cond.fieldLink "OneLeg" 45 "OneLeg" "changes" "LOneLeg$Changes;" ∈ rfG := rf_gl 334 rfl rfl
set_option maxRecDepth 40000 in
theorem lf_X7_52 : Cond.fieldLink "OneLeg" 52 "OneLeg" "boots" "LOneLeg$Boots;" ∈ rfG := rf_gl 335 rfl rfl
set_option maxRecDepth 40000 in
theorem lf_X7_58 : Cond.fieldLink "OneLeg" 58 "OneLeg" "shelves" "[LOneLeg$Shelf;" ∈ rfG := rf_gl 336 rfl rfl
set_option maxRecDepth 40000 in
theorem lm_X7_63 : Cond.methodLink "OneLeg" 63 ⟨"OneLeg", "isWithin", "(III)Z"⟩ ∈ rfG := rf_gl 364 rfl rfl
set_option maxRecDepth 40000 in
theorem lm_X7_71 : Cond.methodLink "OneLeg" 71 ⟨"OneLeg", "welcome", "(III)I"⟩ ∈ rfG := rf_gl 367 rfl rfl
set_option maxRecDepth 40000 in
theorem lm_X7_75 : Cond.methodLink "OneLeg" 75 ⟨"OneLeg", "isShelf", "(I)Z"⟩ ∈ rfG := rf_gl 375 rfl rfl
set_option maxRecDepth 40000 in
theorem lm_X7_82 : Cond.methodLink "OneLeg" 82 ⟨"OneLeg", "comesFrom", "(LOneLeg$Shelf;I)Z"⟩ ∈ rfG := rf_gl 378 rfl rfl
set_option maxRecDepth 40000 in
theorem lm_X7_103 : Cond.methodLink "OneLeg" 103 ⟨"OneLeg", "isNumber", "(II)Z"⟩ ∈ rfG := rf_gl 386 rfl rfl
set_option maxRecDepth 40000 in
theorem lm_X7_125 : Cond.methodLink "OneLeg" 125 ⟨"OneLeg$House", "isOne", "(I)Z"⟩ ∈ rfG := rf_gl 390 rfl rfl
set_option maxRecDepth 40000 in
theorem lf_X7_107 : Cond.fieldLink "OneLeg" 107 "OneLeg" "LEAST_OF" "[I" ∈ rfG := rf_gl 394 rfl rfl
set_option maxRecDepth 40000 in
theorem lf_X7_110 : Cond.fieldLink "OneLeg" 110 "OneLeg" "MOST_OF" "[I" ∈ rfG := rf_gl 396 rfl rfl
set_option maxRecDepth 40000 in
theorem lm_X7_113 : Cond.methodLink "OneLeg" 113 ⟨"OneLeg", "numberOf", "(II)I"⟩ ∈ rfG := rf_gl 398 rfl rfl
set_option maxRecDepth 40000 in
theorem lm_X7_117 : Cond.methodLink "OneLeg" 117 ⟨"OneLeg$Changes", "add", "(IIII)V"⟩ ∈ rfG := rf_gl 402 rfl rfl
set_option maxRecDepth 40000 in
theorem lm_X1_28 : Cond.methodLink "OneLeg$Changes" 28 ⟨"OneLeg$Changes", "dropOldest", "()V"⟩ ∈ rfG := rf_gl 406 rfl rfl
set_option maxRecDepth 40000 in
theorem lm_X1_34 : Cond.methodLink "OneLeg$Changes" 34 ⟨"java/lang/System", "arraycopy", "(Ljava/lang/Object;ILjava/lang/Object;II)V"⟩ ∈ rfG := rf_gl 410 rfl rfl
set_option maxRecDepth 40000 in
theorem lm_X7_121 : Cond.methodLink "OneLeg" 121 ⟨"OneLeg", "become", "(III)V"⟩ ∈ rfG := rf_gl 413 rfl rfl
set_option maxRecDepth 40000 in
theorem lm_X7_149 : Cond.methodLink "OneLeg" 149 ⟨"OneLeg$Law", "write", "(I)I"⟩ ∈ rfG := rf_gl 425 rfl rfl
set_option maxRecDepth 40000 in
theorem lm_X7_153 : Cond.methodLink "OneLeg" 153 ⟨"OneLeg$Law", "read", "()I"⟩ ∈ rfG := rf_gl 433 rfl rfl
set_option maxRecDepth 40000 in
theorem lm_X3_37 : Cond.methodLink "OneLeg$Law" 37 ⟨"OneLeg$Law", "readLines", "()Z"⟩ ∈ rfG := rf_gl 437 rfl rfl
set_option maxRecDepth 40000 in
theorem lm_X3_47 : Cond.methodLink "OneLeg$Law" 47 ⟨"OneLeg$Law", "readLine", "()Z"⟩ ∈ rfG := rf_gl 441 rfl rfl
set_option maxRecDepth 40000 in
theorem lm_X3_58 : Cond.methodLink "OneLeg$Law" 58 ⟨"OneLeg$Law", "readChain", "(II)Z"⟩ ∈ rfG := rf_gl 445 rfl rfl
set_option maxRecDepth 40000 in
theorem lm_X3_62 : Cond.methodLink "OneLeg$Law" 62 ⟨"OneLeg$Law", "readOperand", "(I)Z"⟩ ∈ rfG := rf_gl 449 rfl rfl
set_option maxRecDepth 40000 in
theorem lm_X3_65 : Cond.methodLink "OneLeg$Law" 65 ⟨"OneLeg$Law", "sign", "()I"⟩ ∈ rfG := rf_gl 453 rfl rfl
set_option maxRecDepth 40000 in
theorem lm_X3_73 : Cond.methodLink "OneLeg$Law" 73 ⟨"OneLeg$Law", "isDigit", "(I)Z"⟩ ∈ rfG := rf_gl 457 rfl rfl
set_option maxRecDepth 40000 in
theorem lm_X3_76 : Cond.methodLink "OneLeg$Law" 76 ⟨"OneLeg$Law", "readNumber", "()V"⟩ ∈ rfG := rf_gl 460 rfl rfl
set_option maxRecDepth 40000 in
theorem lm_X3_50 : Cond.methodLink "OneLeg$Law" 50 ⟨"OneLeg$Law", "addStep", "(I)V"⟩ ∈ rfG := rf_gl 464 rfl rfl
set_option maxRecDepth 40000 in
theorem lm_X3_79 : Cond.methodLink "OneLeg$Law" 79 ⟨"OneLeg$Law", "nameOf", "(I)I"⟩ ∈ rfG := rf_gl 468 rfl rfl
set_option maxRecDepth 40000 in
theorem lm_X3_54 : Cond.methodLink "OneLeg$Law" 54 ⟨"OneLeg$Law", "isAccepted", "(I)Z"⟩ ∈ rfG := rf_gl 471 rfl rfl
set_option maxRecDepth 40000 in
theorem lm_X3_69 : Cond.methodLink "OneLeg$Law" 69 ⟨"OneLeg$Law", "levelOf", "(I)I"⟩ ∈ rfG := rf_gl 475 rfl rfl
set_option maxRecDepth 40000 in
theorem lm_X3_41 : Cond.methodLink "OneLeg$Law" 41 ⟨"java/lang/System", "arraycopy", "(Ljava/lang/Object;ILjava/lang/Object;II)V"⟩ ∈ rfG := rf_gl 478 rfl rfl
set_option maxRecDepth 40000 in
theorem lm_X7_157 : Cond.methodLink "OneLeg" 157 ⟨"OneLeg$House", "doneBy", "(LOneLeg$Standing;I)I"⟩ ∈ rfG := rf_gl 483 rfl rfl
set_option maxRecDepth 40000 in
theorem lm_X2_45 : Cond.methodLink "OneLeg$House" 45 ⟨"OneLeg$Law", "isWritten", "()Z"⟩ ∈ rfG := rf_gl 487 rfl rfl
set_option maxRecDepth 40000 in
theorem lm_X2_58 : Cond.methodLink "OneLeg$House" 58 ⟨"java/lang/Integer", "bitCount", "(I)I"⟩ ∈ rfG := rf_gl 491 rfl rfl
set_option maxRecDepth 40000 in
theorem lc_J6_265 : Cond.constant "java/lang/Integer" 265 (1431655765 : Int32) ∈ rfG := rf_gl 494 rfl rfl
set_option maxRecDepth 40000 in
theorem lc_J6_266 : Cond.constant "java/lang/Integer" 266 (858993459 : Int32) ∈ rfG := rf_gl 495 rfl rfl
set_option maxRecDepth 40000 in
theorem lc_J6_267 : Cond.constant "java/lang/Integer" 267 (252645135 : Int32) ∈ rfG := rf_gl 496 rfl rfl
set_option maxRecDepth 40000 in
theorem lm_X2_64 : Cond.methodLink "OneLeg$House" 64 ⟨"OneLeg$Law", "workOut", "([I)I"⟩ ∈ rfG := rf_gl 497 rfl rfl
set_option maxRecDepth 40000 in
theorem lm_X3_82 : Cond.methodLink "OneLeg$Law" 82 ⟨"OneLeg$Law", "endOfLine", "(I)I"⟩ ∈ rfG := rf_gl 501 rfl rfl
set_option maxRecDepth 40000 in
theorem lm_X3_85 : Cond.methodLink "OneLeg$Law" 85 ⟨"OneLeg$Law", "joined", "(III)I"⟩ ∈ rfG := rf_gl 505 rfl rfl
set_option maxRecDepth 40000 in
theorem lm_X2_68 : Cond.methodLink "OneLeg$House" 68 ⟨"java/lang/Math", "min", "(II)I"⟩ ∈ rfG := rf_gl 508 rfl rfl
set_option maxRecDepth 40000 in
theorem lm_X2_74 : Cond.methodLink "OneLeg$House" 74 ⟨"java/lang/Math", "max", "(II)I"⟩ ∈ rfG := rf_gl 511 rfl rfl
set_option maxRecDepth 40000 in
theorem lm_X7_161 : Cond.methodLink "OneLeg" 161 ⟨"OneLeg$Shelf", "refusalFor", "(I)I"⟩ ∈ rfG := rf_gl 518 rfl rfl
set_option maxRecDepth 40000 in
theorem lm_X7_164 : Cond.methodLink "OneLeg" 164 ⟨"OneLeg$Thought", "follow", "(LOneLeg$Standing;LOneLeg$Shelf;I)I"⟩ ∈ rfG := rf_gl 522 rfl rfl
set_option maxRecDepth 40000 in
theorem lm_X6_41 : Cond.methodLink "OneLeg$Thought" 41 ⟨"OneLeg$Standing", "copyFrom", "(LOneLeg$Standing;I)V"⟩ ∈ rfG := rf_gl 526 rfl rfl
set_option maxRecDepth 40000 in
theorem lm_X5_18 : Cond.methodLink "OneLeg$Standing" 18 ⟨"java/lang/System", "arraycopy", "(Ljava/lang/Object;ILjava/lang/Object;II)V"⟩ ∈ rfG := rf_gl 530 rfl rfl
set_option maxRecDepth 40000 in
theorem lm_X6_45 : Cond.methodLink "OneLeg$Thought" 45 ⟨"OneLeg$House", "daysOf", "(LOneLeg$Shelf;)I"⟩ ∈ rfG := rf_gl 531 rfl rfl
set_option maxRecDepth 40000 in
theorem lm_X2_96 : Cond.methodLink "OneLeg$House" 96 ⟨"OneLeg$House", "mayHave", "(J)Z"⟩ ∈ rfG := rf_gl 535 rfl rfl
set_option maxRecDepth 40000 in
theorem lc_X2_38 : Cond.constantLong "OneLeg$House" 38 (7 : Int64) ∈ rfG := rf_gl 539 rfl rfl
set_option maxRecDepth 40000 in
theorem lm_X6_49 : Cond.methodLink "OneLeg$Thought" 49 ⟨"java/lang/Math", "min", "(II)I"⟩ ∈ rfG := rf_gl 540 rfl rfl
set_option maxRecDepth 40000 in
theorem lm_X6_61 : Cond.methodLink "OneLeg$Thought" 61 ⟨"OneLeg$House", "pass", "(LOneLeg$Standing;I)I"⟩ ∈ rfG := rf_gl 541 rfl rfl
set_option maxRecDepth 40000 in
theorem lm_X2_77 : Cond.methodLink "OneLeg$House" 77 ⟨"OneLeg$House", "isOne", "(I)Z"⟩ ∈ rfG := rf_gl 545 rfl rfl
set_option maxRecDepth 40000 in
theorem lm_X2_81 : Cond.methodLink "OneLeg$House" 81 ⟨"OneLeg$House", "doneBy", "(LOneLeg$Standing;I)I"⟩ ∈ rfG := rf_gl 546 rfl rfl
set_option maxRecDepth 40000 in
theorem lm_X2_85 : Cond.methodLink "OneLeg$House" 85 ⟨"OneLeg$House", "owedBehind", "(IIIII)I"⟩ ∈ rfG := rf_gl 547 rfl rfl
set_option maxRecDepth 40000 in
theorem lm_X7_168 : Cond.methodLink "OneLeg" 168 ⟨"OneLeg$Thought", "latest", "()LOneLeg$Standing;"⟩ ∈ rfG := rf_gl 551 rfl rfl
set_option maxRecDepth 40000 in
theorem lm_X7_172 : Cond.methodLink "OneLeg" 172 ⟨"OneLeg$Standing", "owedOfAll", "(I)I"⟩ ∈ rfG := rf_gl 555 rfl rfl
set_option maxRecDepth 40000 in
theorem lm_X7_175 : Cond.methodLink "OneLeg" 175 ⟨"OneLeg$House", "daysOf", "(LOneLeg$Shelf;)I"⟩ ∈ rfG := rf_gl 563 rfl rfl
set_option maxRecDepth 40000 in
theorem lm_X7_179 : Cond.methodLink "OneLeg" 179 ⟨"OneLeg$House", "owedBehind", "(IIIII)I"⟩ ∈ rfG := rf_gl 564 rfl rfl
set_option maxRecDepth 40000 in
theorem lm_X7_183 : Cond.methodLink "OneLeg" 183 ⟨"OneLeg$Thought", "seekBest", "(LOneLeg$Standing;I)V"⟩ ∈ rfG := rf_gl 569 rfl rfl
set_option maxRecDepth 40000 in
theorem lm_X6_69 : Cond.methodLink "OneLeg$Thought" 69 ⟨"OneLeg$Thought", "seekFrom", "(III)V"⟩ ∈ rfG := rf_gl 573 rfl rfl
set_option maxRecDepth 40000 in
theorem lm_X6_73 : Cond.methodLink "OneLeg$Thought" 73 ⟨"OneLeg$Thought", "weigh", "(II)V"⟩ ∈ rfG := rf_gl 577 rfl rfl
set_option maxRecDepth 40000 in
theorem lm_X6_77 : Cond.methodLink "OneLeg$Thought" 77 ⟨"OneLeg$Standing", "owedOfAll", "(I)I"⟩ ∈ rfG := rf_gl 581 rfl rfl
set_option maxRecDepth 40000 in
theorem lm_X6_87 : Cond.methodLink "OneLeg$Thought" 87 ⟨"java/lang/System", "arraycopy", "(Ljava/lang/Object;ILjava/lang/Object;II)V"⟩ ∈ rfG := rf_gl 582 rfl rfl
set_option maxRecDepth 40000 in
theorem lm_X7_196 : Cond.methodLink "OneLeg" 196 ⟨"OneLeg", "knownByGroup", "(I)I"⟩ ∈ rfG := rf_gl 587 rfl rfl
set_option maxRecDepth 40000 in
theorem lm_X7_199 : Cond.methodLink "OneLeg" 199 ⟨"OneLeg", "fewer", "(II)I"⟩ ∈ rfG := rf_gl 591 rfl rfl
set_option maxRecDepth 40000 in
theorem lm_X7_214 : Cond.methodLink "OneLeg" 214 ⟨"java/lang/Integer", "bitCount", "(I)I"⟩ ∈ rfG := rf_gl 594 rfl rfl
set_option maxRecDepth 40000 in
theorem lm_X7_202 : Cond.methodLink "OneLeg" 202 ⟨"OneLeg", "manyOrWhich", "(II)I"⟩ ∈ rfG := rf_gl 595 rfl rfl
set_option maxRecDepth 40000 in
theorem lm_X7_205 : Cond.methodLink "OneLeg" 205 ⟨"OneLeg", "fewestApart", "()I"⟩ ∈ rfG := rf_gl 602 rfl rfl
set_option maxRecDepth 40000 in
theorem lm_X7_211 : Cond.methodLink "OneLeg" 211 ⟨"OneLeg", "areToldApart", "(I)Z"⟩ ∈ rfG := rf_gl 606 rfl rfl
set_option maxRecDepth 40000 in
theorem lm_X7_208 : Cond.methodLink "OneLeg" 208 ⟨"OneLeg", "knownByAll", "()I"⟩ ∈ rfG := rf_gl 610 rfl rfl
set_option maxRecDepth 40000 in
theorem lm_X7_219 : Cond.methodLink "OneLeg" 219 ⟨"OneLeg$Thought", "dealt", "(I)I"⟩ ∈ rfG := rf_gl 618 rfl rfl
set_option maxRecDepth 40000 in
theorem lm_X6_111 : Cond.methodLink "OneLeg$Thought" 111 ⟨"OneLeg$Thought", "holderOf", "(II)I"⟩ ∈ rfG := rf_gl 622 rfl rfl
set_option maxRecDepth 40000 in
theorem lm_X6_114 : Cond.methodLink "OneLeg$Thought" 114 ⟨"OneLeg$Thought", "dealtBy", "(III)I"⟩ ∈ rfG := rf_gl 626 rfl rfl
set_option maxRecDepth 40000 in
theorem lm_X6_118 : Cond.methodLink "OneLeg$Thought" 118 ⟨"OneLeg$Thought", "groupOf", "(I)I"⟩ ∈ rfG := rf_gl 630 rfl rfl
set_option maxRecDepth 40000 in
theorem lm_X7_222 : Cond.methodLink "OneLeg" 222 ⟨"OneLeg$Thought", "minutesOut", "()I"⟩ ∈ rfG := rf_gl 637 rfl rfl
set_option maxRecDepth 40000 in
theorem lm_X6_124 : Cond.methodLink "OneLeg$Thought" 124 ⟨"OneLeg$Thought", "sortBySlow", "()V"⟩ ∈ rfG := rf_gl 641 rfl rfl
set_option maxRecDepth 40000 in
theorem lm_X7_225 : Cond.methodLink "OneLeg" 225 ⟨"OneLeg", "firstOut", "()I"⟩ ∈ rfG := rf_gl 645 rfl rfl
set_option maxRecDepth 40000 in
theorem lm_X7_228 : Cond.methodLink "OneLeg" 228 ⟨"java/lang/Math", "min", "(II)I"⟩ ∈ rfG := rf_gl 649 rfl rfl
set_option maxRecDepth 40000 in
theorem lm_X7_233 : Cond.methodLink "OneLeg" 233 ⟨"OneLeg", "areShelves", "(I)Z"⟩ ∈ rfG := rf_gl 654 rfl rfl
set_option maxRecDepth 40000 in
theorem lm_X7_236 : Cond.methodLink "OneLeg" 236 ⟨"OneLeg", "refusalOfDebts", "(I)I"⟩ ∈ rfG := rf_gl 658 rfl rfl
set_option maxRecDepth 40000 in
theorem lm_X7_239 : Cond.methodLink "OneLeg" 239 ⟨"OneLeg", "firstNotSo", "(IIII)I"⟩ ∈ rfG := rf_gl 662 rfl rfl
set_option maxRecDepth 40000 in
theorem lm_X7_243 : Cond.methodLink "OneLeg" 243 ⟨"OneLeg", "areBrothers", "(I)Z"⟩ ∈ rfG := rf_gl 670 rfl rfl
set_option maxRecDepth 40000 in
theorem lc_X7_246 : Cond.constant "OneLeg" 246 (-2000000000 : Int32) ∈ rfG := rf_gl 678 rfl rfl
set_option maxRecDepth 40000 in
theorem lm_X7_247 : Cond.methodLink "OneLeg" 247 ⟨"OneLeg$Thought", "worthOfTurns", "(LOneLeg$Standing;III)I"⟩ ∈ rfG := rf_gl 679 rfl rfl
set_option maxRecDepth 40000 in
theorem lm_X6_93 : Cond.methodLink "OneLeg$Thought" 93 ⟨"OneLeg$Thought", "worthFrom", "(IIII)I"⟩ ∈ rfG := rf_gl 683 rfl rfl
set_option maxRecDepth 40000 in
theorem lm_X6_97 : Cond.methodLink "OneLeg$Thought" 97 ⟨"OneLeg$Thought", "worthBehind", "(IIIII)I"⟩ ∈ rfG := rf_gl 687 rfl rfl
set_option maxRecDepth 40000 in
theorem lm_X6_104 : Cond.methodLink "OneLeg$Thought" 104 ⟨"java/lang/Math", "max", "(II)I"⟩ ∈ rfG := rf_gl 691 rfl rfl
set_option maxRecDepth 40000 in
theorem lm_X7_255 : Cond.methodLink "OneLeg" 255 ⟨"OneLeg$Thought", "draw", "(LOneLeg$Standing;IIIII)I"⟩ ∈ rfG := rf_gl 696 rfl rfl
set_option maxRecDepth 40000 in
theorem lc_X6_107 : Cond.constant "OneLeg$Thought" 107 (1103515245 : Int32) ∈ rfG := rf_gl 700 rfl rfl
set_option maxRecDepth 40000 in
theorem lm_X6_108 : Cond.methodLink "OneLeg$Thought" 108 ⟨"OneLeg$Thought", "drawnBy", "(II)I"⟩ ∈ rfG := rf_gl 701 rfl rfl
set_option maxRecDepth 40000 in
theorem lm_X7_259 : Cond.methodLink "OneLeg" 259 ⟨"OneLeg$House", "mayHave", "(J)Z"⟩ ∈ rfG := rf_gl 709 rfl rfl
set_option maxRecDepth 40000 in
theorem lm_X7_263 : Cond.methodLink "OneLeg" 263 ⟨"OneLeg$House", "pass", "(LOneLeg$Standing;I)I"⟩ ∈ rfG := rf_gl 710 rfl rfl
set_option maxRecDepth 40000 in
theorem lm_X7_266 : Cond.methodLink "OneLeg" 266 ⟨"OneLeg", "areTwo", "(II)Z"⟩ ∈ rfG := rf_gl 715 rfl rfl
set_option maxRecDepth 40000 in
theorem lm_X7_272 : Cond.methodLink "OneLeg" 272 ⟨"OneLeg$Standing", "copyFrom", "(LOneLeg$Standing;I)V"⟩ ∈ rfG := rf_gl 735 rfl rfl
set_option maxRecDepth 40000 in
theorem lm_X7_275 : Cond.methodLink "OneLeg" 275 ⟨"java/lang/System", "arraycopy", "(Ljava/lang/Object;ILjava/lang/Object;II)V"⟩ ∈ rfG := rf_gl 736 rfl rfl
set_option maxRecDepth 40000 in
theorem lm_X7_303 : Cond.methodLink "OneLeg" 303 ⟨"OneLeg$Boots", "add", "(I)I"⟩ ∈ rfG := rf_gl 753 rfl rfl
set_option maxRecDepth 40000 in
theorem lm_X7_308 : Cond.methodLink "OneLeg" 308 ⟨"OneLeg", "isBody", "(I)Z"⟩ ∈ rfG := rf_gl 761 rfl rfl
set_option maxRecDepth 40000 in
theorem lm_X7_311 : Cond.methodLink "OneLeg" 311 ⟨"OneLeg$Boots", "run", "(III)I"⟩ ∈ rfG := rf_gl 765 rfl rfl
set_option maxRecDepth 40000 in
theorem lm_X0_23 : Cond.methodLink "OneLeg$Boots" 23 ⟨"OneLeg$Boots", "perform", "(IIIII)I"⟩ ∈ rfG := rf_gl 769 rfl rfl
set_option maxRecDepth 40000 in
theorem lf_X0_27 : Cond.fieldLink "OneLeg$Boots" 27 "OneLeg$Boots" "BODIES" "[I" ∈ rfG := rf_gl 773 rfl rfl
set_option maxRecDepth 40000 in
theorem lf_X0_20 : Cond.fieldLink "OneLeg$Boots" 20 "OneLeg$Boots" "ABOVE" "[I" ∈ rfG := rf_gl 775 rfl rfl
set_option maxRecDepth 40000 in
theorem lm_X0_30 : Cond.methodLink "OneLeg$Boots" 30 ⟨"OneLeg$Boots", "note", "(I)V"⟩ ∈ rfG := rf_gl 777 rfl rfl
set_option maxRecDepth 40000 in
theorem lm_X0_34 : Cond.methodLink "OneLeg$Boots" 34 ⟨"OneLeg$Boots", "own", "(IIII)I"⟩ ∈ rfG := rf_gl 781 rfl rfl
set_option maxRecDepth 40000 in
theorem lm_X7_320 : Cond.methodLink "OneLeg" 320 ⟨"OneLeg$Shelf", "becomeRow", "(II)V"⟩ ∈ rfG := rf_gl 797 rfl rfl
set_option maxRecDepth 40000 in
theorem lm_X7_324 : Cond.methodLink "OneLeg" 324 ⟨"OneLeg", "refusalOfPlace", "(II)I"⟩ ∈ rfG := rf_gl 805 rfl rfl
set_option maxRecDepth 40000 in
theorem lm_X7_327 : Cond.methodLink "OneLeg" 327 ⟨"OneLeg$Shelf", "cut", "(J)J"⟩ ∈ rfG := rf_gl 809 rfl rfl
set_option maxRecDepth 40000 in
theorem lc_X7_331 : Cond.constantLong "OneLeg" 331 (-9223372036854775808 : Int64) ∈ rfG := rf_gl 817 rfl rfl
set_option maxRecDepth 40000 in
theorem lm_X7_333 : Cond.methodLink "OneLeg" 333 ⟨"OneLeg$Shelf", "hasPlaces", "(II)Z"⟩ ∈ rfG := rf_gl 822 rfl rfl
set_option maxRecDepth 40000 in
theorem lm_X7_337 : Cond.methodLink "OneLeg" 337 ⟨"OneLeg$Boots", "isUnder", "(II)Z"⟩ ∈ rfG := rf_gl 830 rfl rfl
set_option maxRecDepth 40000 in
theorem lf_X8_94 : Cond.fieldLink "OneLegModel" 94 "OneLegModel" "brothers" "I" ∈ rfG := rf_gl 843 rfl rfl
set_option maxRecDepth 40000 in
theorem lf_X8_9 : Cond.fieldLink "OneLegModel" 9 "OneLegModel" "ways" "[I" ∈ rfG := rf_gl 844 rfl rfl
set_option maxRecDepth 40000 in
theorem lf_X8_15 : Cond.fieldLink "OneLegModel" 15 "OneLegModel" "other" "[I" ∈ rfG := rf_gl 845 rfl rfl
set_option maxRecDepth 40000 in
theorem lf_X8_139 : Cond.fieldLink "OneLegModel" 139 "OneLegModel" "taped" "I" ∈ rfG := rf_gl 846 rfl rfl
set_option maxRecDepth 40000 in
theorem lf_X8_18 : Cond.fieldLink "OneLegModel" 18 "OneLegModel" "tape" "[I" ∈ rfG := rf_gl 847 rfl rfl
set_option maxRecDepth 40000 in
theorem lf_X8_193 : Cond.fieldLink "OneLegModel" 193 "OneLegModel" "isTold" "Z" ∈ rfG := rf_gl 848 rfl rfl
set_option maxRecDepth 40000 in
theorem lf_X8_197 : Cond.fieldLink "OneLegModel" 197 "OneLegModel" "lines" "I" ∈ rfG := rf_gl 849 rfl rfl
set_option maxRecDepth 40000 in
theorem lf_X8_21 : Cond.fieldLink "OneLegModel" 21 "OneLegModel" "asks" "[I" ∈ rfG := rf_gl 850 rfl rfl
set_option maxRecDepth 40000 in
theorem lf_X8_24 : Cond.fieldLink "OneLegModel" 24 "OneLegModel" "says" "[I" ∈ rfG := rf_gl 851 rfl rfl
set_option maxRecDepth 40000 in
theorem lf_X8_27 : Cond.fieldLink "OneLegModel" 27 "OneLegModel" "ends" "[I" ∈ rfG := rf_gl 852 rfl rfl
set_option maxRecDepth 40000 in
theorem lf_X8_30 : Cond.fieldLink "OneLegModel" 30 "OneLegModel" "code" "[I" ∈ rfG := rf_gl 853 rfl rfl
set_option maxRecDepth 40000 in
theorem lf_X8_142 : Cond.fieldLink "OneLegModel" 142 "OneLegModel" "at" "I" ∈ rfG := rf_gl 854 rfl rfl
set_option maxRecDepth 40000 in
theorem lf_X8_163 : Cond.fieldLink "OneLegModel" 163 "OneLegModel" "open" "I" ∈ rfG := rf_gl 855 rfl rfl
set_option maxRecDepth 40000 in
theorem lf_X8_149 : Cond.fieldLink "OneLegModel" 149 "OneLegModel" "coded" "I" ∈ rfG := rf_gl 856 rfl rfl
set_option maxRecDepth 40000 in
theorem lf_X8_187 : Cond.fieldLink "OneLegModel" 187 "OneLegModel" "newLines" "I" ∈ rfG := rf_gl 857 rfl rfl
set_option maxRecDepth 40000 in
theorem lf_X8_33 : Cond.fieldLink "OneLegModel" 33 "OneLegModel" "newAsks" "[I" ∈ rfG := rf_gl 858 rfl rfl
set_option maxRecDepth 40000 in
theorem lf_X8_36 : Cond.fieldLink "OneLegModel" 36 "OneLegModel" "newSays" "[I" ∈ rfG := rf_gl 859 rfl rfl
set_option maxRecDepth 40000 in
theorem lf_X8_39 : Cond.fieldLink "OneLegModel" 39 "OneLegModel" "newEnds" "[I" ∈ rfG := rf_gl 860 rfl rfl
set_option maxRecDepth 40000 in
theorem lf_X8_42 : Cond.fieldLink "OneLegModel" 42 "OneLegModel" "newCode" "[I" ∈ rfG := rf_gl 861 rfl rfl
set_option maxRecDepth 40000 in
theorem lf_X8_45 : Cond.fieldLink "OneLegModel" 45 "OneLegModel" "stack" "[I" ∈ rfG := rf_gl 862 rfl rfl
set_option maxRecDepth 40000 in
theorem lf_X8_48 : Cond.fieldLink "OneLegModel" 48 "OneLegModel" "names" "[I" ∈ rfG := rf_gl 863 rfl rfl
set_option maxRecDepth 40000 in
theorem lf_X8_51 : Cond.fieldLink "OneLegModel" 51 "OneLegModel" "led" "[I" ∈ rfG := rf_gl 864 rfl rfl
set_option maxRecDepth 40000 in
theorem lf_X8_298 : Cond.fieldLink "OneLegModel" 298 "OneLegModel" "imaged" "Z" ∈ rfG := rf_gl 865 rfl rfl
set_option maxRecDepth 40000 in
theorem lf_X8_301 : Cond.fieldLink "OneLegModel" 301 "OneLegModel" "oldBrothers" "I" ∈ rfG := rf_gl 866 rfl rfl
set_option maxRecDepth 40000 in
theorem lf_X8_54 : Cond.fieldLink "OneLegModel" 54 "OneLegModel" "old" "[I" ∈ rfG := rf_gl 867 rfl rfl
set_option maxRecDepth 40000 in
theorem lf_X8_57 : Cond.fieldLink "OneLegModel" 57 "OneLegModel" "oldLed" "[I" ∈ rfG := rf_gl 868 rfl rfl
set_option maxRecDepth 40000 in
theorem lf_X8_136 : Cond.fieldLink "OneLegModel" 136 "OneLegModel" "changes" "I" ∈ rfG := rf_gl 869 rfl rfl
set_option maxRecDepth 40000 in
theorem lf_X8_133 : Cond.fieldLink "OneLegModel" 133 "OneLegModel" "done" "I" ∈ rfG := rf_gl 870 rfl rfl
set_option maxRecDepth 40000 in
theorem lf_X8_60 : Cond.fieldLink "OneLegModel" 60 "OneLegModel" "changed" "[I" ∈ rfG := rf_gl 871 rfl rfl
set_option maxRecDepth 40000 in
theorem lf_X8_326 : Cond.fieldLink "OneLegModel" 326 "OneLegModel" "bodies" "I" ∈ rfG := rf_gl 872 rfl rfl
set_option maxRecDepth 40000 in
theorem lf_X8_63 : Cond.fieldLink "OneLegModel" 63 "OneLegModel" "bodyKind" "[I" ∈ rfG := rf_gl 873 rfl rfl
set_option maxRecDepth 40000 in
theorem lf_X8_304 : Cond.fieldLink "OneLegModel" 304 "OneLegModel" "traced" "I" ∈ rfG := rf_gl 874 rfl rfl
set_option maxRecDepth 40000 in
theorem lf_X8_66 : Cond.fieldLink "OneLegModel" 66 "OneLegModel" "traces" "[I" ∈ rfG := rf_gl 875 rfl rfl
set_option maxRecDepth 40000 in
theorem lf_X8_69 : Cond.fieldLink "OneLegModel" 69 "OneLegModel" "holding" "[I" ∈ rfG := rf_gl 876 rfl rfl
set_option maxRecDepth 40000 in
theorem lf_X8_72 : Cond.fieldLink "OneLegModel" 72 "OneLegModel" "rowLength" "[I" ∈ rfG := rf_gl 877 rfl rfl
set_option maxRecDepth 40000 in
theorem lf_X8_75 : Cond.fieldLink "OneLegModel" 75 "OneLegModel" "rowOf" "[J" ∈ rfG := rf_gl 878 rfl rfl
set_option maxRecDepth 40000 in
theorem lf_X8_79 : Cond.fieldLink "OneLegModel" 79 "OneLegModel" "was" "[I" ∈ rfG := rf_gl 879 rfl rfl
set_option maxRecDepth 40000 in
theorem lf_X8_82 : Cond.fieldLink "OneLegModel" 82 "OneLegModel" "begun" "[I" ∈ rfG := rf_gl 880 rfl rfl
set_option maxRecDepth 40000 in
theorem lf_X8_85 : Cond.fieldLink "OneLegModel" 85 "OneLegModel" "tried" "[I" ∈ rfG := rf_gl 881 rfl rfl
set_option maxRecDepth 40000 in
theorem lf_X8_88 : Cond.fieldLink "OneLegModel" 88 "OneLegModel" "best" "[I" ∈ rfG := rf_gl 882 rfl rfl
set_option maxRecDepth 40000 in
theorem lf_X8_253 : Cond.fieldLink "OneLegModel" 253 "OneLegModel" "most" "I" ∈ rfG := rf_gl 883 rfl rfl
set_option maxRecDepth 40000 in
theorem lf_X8_256 : Cond.fieldLink "OneLegModel" 256 "OneLegModel" "least" "I" ∈ rfG := rf_gl 884 rfl rfl
set_option maxRecDepth 40000 in
theorem lf_X8_91 : Cond.fieldLink "OneLegModel" 91 "OneLegModel" "minutes" "[I" ∈ rfG := rf_gl 885 rfl rfl
set_option maxRecDepth 40000 in
theorem lm_X8_98 : Cond.methodLink "OneLegModel" 98 ⟨"OneLegModel", "within", "(III)Z"⟩ ∈ rfG := rf_gl 977 rfl rfl
set_option maxRecDepth 40000 in
theorem lm_X8_102 : Cond.methodLink "OneLegModel" 102 ⟨"OneLegModel", "newOne", "(III)I"⟩ ∈ rfG := rf_gl 980 rfl rfl
set_option maxRecDepth 40000 in
theorem lm_X8_106 : Cond.methodLink "OneLegModel" 106 ⟨"OneLegModel", "isShelf", "(I)Z"⟩ ∈ rfG := rf_gl 988 rfl rfl
set_option maxRecDepth 40000 in
theorem lc_X8_110 : Cond.constantLong "OneLegModel" 110 (3 : Int64) ∈ rfG := rf_gl 991 rfl rfl
set_option maxRecDepth 40000 in
theorem lm_X8_112 : Cond.methodLink "OneLegModel" 112 ⟨"OneLegModel", "toldAt", "(II)I"⟩ ∈ rfG := rf_gl 992 rfl rfl
set_option maxRecDepth 40000 in
theorem lm_X8_119 : Cond.methodLink "OneLegModel" 119 ⟨"OneLegModel", "isOf", "(II)Z"⟩ ∈ rfG := rf_gl 1000 rfl rfl
set_option maxRecDepth 40000 in
theorem lm_X8_116 : Cond.methodLink "OneLegModel" 116 ⟨"OneLegModel", "isOne", "(I)Z"⟩ ∈ rfG := rf_gl 1004 rfl rfl
set_option maxRecDepth 40000 in
theorem lm_X8_123 : Cond.methodLink "OneLegModel" 123 ⟨"OneLegModel", "isFit", "(II)Z"⟩ ∈ rfG := rf_gl 1008 rfl rfl
set_option maxRecDepth 40000 in
theorem lm_X8_126 : Cond.methodLink "OneLegModel" 126 ⟨"OneLegModel", "get", "(II)I"⟩ ∈ rfG := rf_gl 1011 rfl rfl
set_option maxRecDepth 40000 in
theorem lm_X8_129 : Cond.methodLink "OneLegModel" 129 ⟨"OneLegModel", "becomes", "(III)V"⟩ ∈ rfG := rf_gl 1015 rfl rfl
set_option maxRecDepth 40000 in
theorem lm_X8_190 : Cond.methodLink "OneLegModel" 190 ⟨"OneLegModel", "isLine", "()Z"⟩ ∈ rfG := rf_gl 1039 rfl rfl
set_option maxRecDepth 40000 in
theorem lm_X8_172 : Cond.methodLink "OneLegModel" 172 ⟨"OneLegModel", "isE", "()Z"⟩ ∈ rfG := rf_gl 1043 rfl rfl
set_option maxRecDepth 40000 in
theorem lm_X8_184 : Cond.methodLink "OneLegModel" 184 ⟨"OneLegModel", "isA", "()Z"⟩ ∈ rfG := rf_gl 1047 rfl rfl
set_option maxRecDepth 40000 in
theorem lm_X8_181 : Cond.methodLink "OneLegModel" 181 ⟨"OneLegModel", "isB", "()Z"⟩ ∈ rfG := rf_gl 1051 rfl rfl
set_option maxRecDepth 40000 in
theorem lm_X8_178 : Cond.methodLink "OneLegModel" 178 ⟨"OneLegModel", "isS", "()Z"⟩ ∈ rfG := rf_gl 1055 rfl rfl
set_option maxRecDepth 40000 in
theorem lm_X8_175 : Cond.methodLink "OneLegModel" 175 ⟨"OneLegModel", "isP", "()Z"⟩ ∈ rfG := rf_gl 1059 rfl rfl
set_option maxRecDepth 40000 in
theorem lm_X8_169 : Cond.methodLink "OneLegModel" 169 ⟨"OneLegModel", "isO", "()Z"⟩ ∈ rfG := rf_gl 1063 rfl rfl
set_option maxRecDepth 40000 in
theorem lm_X8_152 : Cond.methodLink "OneLegModel" 152 ⟨"OneLegModel", "isDigit", "()Z"⟩ ∈ rfG := rf_gl 1067 rfl rfl
set_option maxRecDepth 40000 in
theorem lm_X8_145 : Cond.methodLink "OneLegModel" 145 ⟨"OneLegModel", "sign", "()I"⟩ ∈ rfG := rf_gl 1071 rfl rfl
set_option maxRecDepth 40000 in
theorem lm_X8_156 : Cond.methodLink "OneLegModel" 156 ⟨"OneLegModel", "codes", "(I)Z"⟩ ∈ rfG := rf_gl 1075 rfl rfl
set_option maxRecDepth 40000 in
theorem lm_X8_159 : Cond.methodLink "OneLegModel" 159 ⟨"OneLegModel", "nameOf", "(I)I"⟩ ∈ rfG := rf_gl 1079 rfl rfl
set_option maxRecDepth 40000 in
theorem lm_X8_166 : Cond.methodLink "OneLegModel" 166 ⟨"OneLegModel", "is", "(I)Z"⟩ ∈ rfG := rf_gl 1082 rfl rfl
set_option maxRecDepth 40000 in
theorem lm_X8_228 : Cond.methodLink "OneLegModel" 228 ⟨"OneLegModel", "doneBy", "(I)I"⟩ ∈ rfG := rf_gl 1090 rfl rfl
set_option maxRecDepth 40000 in
theorem lm_X8_217 : Cond.methodLink "OneLegModel" 217 ⟨"OneLegModel", "byLaw", "(I)I"⟩ ∈ rfG := rf_gl 1094 rfl rfl
set_option maxRecDepth 40000 in
theorem lm_X8_206 : Cond.methodLink "OneLegModel" 206 ⟨"OneLegModel", "wants", "(II)Z"⟩ ∈ rfG := rf_gl 1098 rfl rfl
set_option maxRecDepth 40000 in
theorem lm_X8_203 : Cond.methodLink "OneLegModel" 203 ⟨"OneLegModel", "has", "(II)Z"⟩ ∈ rfG := rf_gl 1102 rfl rfl
set_option maxRecDepth 40000 in
theorem lm_X8_209 : Cond.methodLink "OneLegModel" 209 ⟨"java/lang/Integer", "bitCount", "(I)I"⟩ ∈ rfG := rf_gl 1105 rfl rfl
set_option maxRecDepth 40000 in
theorem lm_X8_214 : Cond.methodLink "OneLegModel" 214 ⟨"OneLegModel", "worked", "(II)I"⟩ ∈ rfG := rf_gl 1106 rfl rfl
set_option maxRecDepth 40000 in
theorem lm_X8_200 : Cond.methodLink "OneLegModel" 200 ⟨"OneLegModel", "both", "(III)I"⟩ ∈ rfG := rf_gl 1110 rfl rfl
set_option maxRecDepth 40000 in
theorem lm_X8_220 : Cond.methodLink "OneLegModel" 220 ⟨"java/lang/Math", "min", "(II)I"⟩ ∈ rfG := rf_gl 1113 rfl rfl
set_option maxRecDepth 40000 in
theorem lm_X8_225 : Cond.methodLink "OneLegModel" 225 ⟨"java/lang/Math", "max", "(II)I"⟩ ∈ rfG := rf_gl 1114 rfl rfl
set_option maxRecDepth 40000 in
theorem lm_X8_237 : Cond.methodLink "OneLegModel" 237 ⟨"OneLegModel", "noBytes", "(I)I"⟩ ∈ rfG := rf_gl 1119 rfl rfl
set_option maxRecDepth 40000 in
theorem lm_X8_240 : Cond.methodLink "OneLegModel" 240 ⟨"OneLegModel", "keeps", "([I)V"⟩ ∈ rfG := rf_gl 1123 rfl rfl
set_option maxRecDepth 40000 in
theorem lm_X8_244 : Cond.methodLink "OneLegModel" 244 ⟨"OneLegModel", "goes", "(II)I"⟩ ∈ rfG := rf_gl 1127 rfl rfl
set_option maxRecDepth 40000 in
theorem lm_X8_231 : Cond.methodLink "OneLegModel" 231 ⟨"OneLegModel", "daysOf", "(I)I"⟩ ∈ rfG := rf_gl 1131 rfl rfl
set_option maxRecDepth 40000 in
theorem lm_X8_234 : Cond.methodLink "OneLegModel" 234 ⟨"OneLegModel", "passes", "(I)I"⟩ ∈ rfG := rf_gl 1135 rfl rfl
set_option maxRecDepth 40000 in
theorem lm_X8_247 : Cond.methodLink "OneLegModel" 247 ⟨"OneLegModel", "allOwed", "()I"⟩ ∈ rfG := rf_gl 1139 rfl rfl
set_option maxRecDepth 40000 in
theorem lm_X8_250 : Cond.methodLink "OneLegModel" 250 ⟨"OneLegModel", "laysBack", "([I)V"⟩ ∈ rfG := rf_gl 1143 rfl rfl
set_option maxRecDepth 40000 in
theorem lm_X8_259 : Cond.methodLink "OneLegModel" 259 ⟨"OneLegModel", "tries", "(II)V"⟩ ∈ rfG := rf_gl 1155 rfl rfl
set_option maxRecDepth 40000 in
theorem lm_X8_263 : Cond.methodLink "OneLegModel" 263 ⟨"OneLegModel", "knownBy", "(I)I"⟩ ∈ rfG := rf_gl 1163 rfl rfl
set_option maxRecDepth 40000 in
theorem lm_X8_266 : Cond.methodLink "OneLegModel" 266 ⟨"OneLegModel", "parts", "(I)Z"⟩ ∈ rfG := rf_gl 1171 rfl rfl
set_option maxRecDepth 40000 in
theorem lm_X8_269 : Cond.methodLink "OneLegModel" 269 ⟨"OneLegModel", "deals", "(III)V"⟩ ∈ rfG := rf_gl 1179 rfl rfl
set_option maxRecDepth 40000 in
theorem lm_X8_278 : Cond.methodLink "OneLegModel" 278 ⟨"OneLegModel", "burns", "()V"⟩ ∈ rfG := rf_gl 1187 rfl rfl
set_option maxRecDepth 40000 in
theorem lm_X8_275 : Cond.methodLink "OneLegModel" 275 ⟨"OneLegModel", "goOut", "(III)I"⟩ ∈ rfG := rf_gl 1191 rfl rfl
set_option maxRecDepth 40000 in
theorem lm_X8_272 : Cond.methodLink "OneLegModel" 272 ⟨"OneLegModel", "slow", "(I)I"⟩ ∈ rfG := rf_gl 1195 rfl rfl
set_option maxRecDepth 40000 in
theorem lm_X8_281 : Cond.methodLink "OneLegModel" 281 ⟨"OneLegModel", "noDebts", "(I)I"⟩ ∈ rfG := rf_gl 1203 rfl rfl
set_option maxRecDepth 40000 in
theorem lm_X8_284 : Cond.methodLink "OneLegModel" 284 ⟨"OneLegModel", "unlike", "(II)I"⟩ ∈ rfG := rf_gl 1207 rfl rfl
set_option maxRecDepth 40000 in
theorem lc_X8_296 : Cond.constant "OneLegModel" 296 (-2000000000 : Int32) ∈ rfG := rf_gl 1219 rfl rfl
set_option maxRecDepth 40000 in
theorem lm_X8_287 : Cond.methodLink "OneLegModel" 287 ⟨"OneLegModel", "turnBy", "(IIIZ)I"⟩ ∈ rfG := rf_gl 1220 rfl rfl
set_option maxRecDepth 40000 in
theorem lm_X8_291 : Cond.methodLink "OneLegModel" 291 ⟨"OneLegModel", "turnFrom", "(III)I"⟩ ∈ rfG := rf_gl 1224 rfl rfl
set_option maxRecDepth 40000 in
theorem lc_X8_294 : Cond.constantLong "OneLegModel" 294 (255 : Int64) ∈ rfG := rf_gl 1228 rfl rfl
set_option maxRecDepth 40000 in
theorem lc_X8_297 : Cond.constant "OneLegModel" 297 (1103515245 : Int32) ∈ rfG := rf_gl 1233 rfl rfl
set_option maxRecDepth 40000 in
theorem lm_X8_311 : Cond.methodLink "OneLegModel" 311 ⟨"OneLegModel", "walksBy", "(III)I"⟩ ∈ rfG := rf_gl 1270 rfl rfl
set_option maxRecDepth 40000 in
theorem lm_X8_307 : Cond.methodLink "OneLegModel" 307 ⟨"OneLegModel", "ran", "(I)V"⟩ ∈ rfG := rf_gl 1274 rfl rfl
set_option maxRecDepth 40000 in
theorem lm_X8_314 : Cond.methodLink "OneLegModel" 314 ⟨"OneLegModel", "above", "(I)I"⟩ ∈ rfG := rf_gl 1278 rfl rfl
set_option maxRecDepth 40000 in
theorem lm_X8_317 : Cond.methodLink "OneLegModel" 317 ⟨"OneLegModel", "leansBy", "(III)I"⟩ ∈ rfG := rf_gl 1281 rfl rfl
set_option maxRecDepth 40000 in
theorem lm_X8_320 : Cond.methodLink "OneLegModel" 320 ⟨"OneLegModel", "owesBy", "(III)I"⟩ ∈ rfG := rf_gl 1285 rfl rfl
set_option maxRecDepth 40000 in
theorem lm_X8_323 : Cond.methodLink "OneLegModel" 323 ⟨"OneLegModel", "tells", "(III)I"⟩ ∈ rfG := rf_gl 1289 rfl rfl
set_option maxRecDepth 40000 in
theorem lm_X8_329 : Cond.methodLink "OneLegModel" 329 ⟨"OneLegModel", "isRow", "(I)Z"⟩ ∈ rfG := rf_gl 1309 rfl rfl
set_option maxRecDepth 40000 in
theorem lm_X8_332 : Cond.methodLink "OneLegModel" 332 ⟨"OneLegModel", "kept", "(IJ)J"⟩ ∈ rfG := rf_gl 1313 rfl rfl
set_option maxRecDepth 40000 in
theorem lc_X8_336 : Cond.constantLong "OneLegModel" 336 (-9223372036854775808 : Int64) ∈ rfG := rf_gl 1320 rfl rfl
def rfMi (C : String) (y : MethodName) (cc : ByteArray) (nL : Nat) (ret : Option FieldType) (n : Nat) : Prop := nL ≤ 45 ∧ Cond.instanceMethod y ∈ rfG ∧ Cond.selects C y y ∈ rfG ∧ Cond.initialized C ∈ rfG ∧ Cond.code y cc nL ret ∈ rfG ∧ (y.cls = C ∧ y.cls ≠ "java/lang/invoke/MethodHandle" ∧ y.cls ≠ "java/lang/invoke/VarHandle" ∧ (parseMethodDescriptor y.desc).map (fun d => d.parameters.length) = some n)
def rfMs (y : MethodName) (cc : ByteArray) (nL : Nat) (ret : Option FieldType) (n : Nat) : Prop := nL ≤ 45 ∧ Cond.static y ∈ rfG ∧ Cond.initialized y.cls ∈ rfG ∧ Cond.code y cc nL ret ∈ rfG ∧ (y.cls ≠ "java/lang/invoke/MethodHandle" ∧ y.cls ≠ "java/lang/invoke/VarHandle" ∧ (parseMethodDescriptor y.desc).map (fun d => d.parameters.length) = some n)
set_option maxRecDepth 40000 in
theorem mi_X0_add : rfMi RX0 yX0_add cX0_add 2 (some .int) 1 := ⟨by decide, rf_gl 754 rfl rfl, rf_gl 755 rfl rfl, rf_gl 90 rfl rfl, rf_gl 756 rfl rfl, by decide +kernel⟩
set_option maxRecDepth 40000 in
theorem ms_X0_isUnder : rfMs yX0_isUnder cX0_isUnder 4 (some .boolean) 2 := ⟨by decide, rf_gl 831 rfl rfl, rf_gl 90 rfl rfl, rf_gl 832 rfl rfl, by decide +kernel⟩
set_option maxRecDepth 40000 in
theorem mi_X0_run : rfMi RX0 yX0_run cX0_run 4 (some .int) 3 := ⟨by decide, rf_gl 766 rfl rfl, rf_gl 767 rfl rfl, rf_gl 90 rfl rfl, rf_gl 768 rfl rfl, by decide +kernel⟩
set_option maxRecDepth 40000 in
theorem mi_X0_perform : rfMi RX0 yX0_perform cX0_perform 9 (some .int) 5 := ⟨by decide, rf_gl 771 rfl rfl, rf_gl 34 rfl rfl, rf_gl 90 rfl rfl, rf_gl 772 rfl rfl, by decide +kernel⟩
set_option maxRecDepth 40000 in
theorem mi_X0_own : rfMi RX0 yX0_own cX0_own 5 (some .int) 4 := ⟨by decide, rf_gl 783 rfl rfl, rf_gl 36 rfl rfl, rf_gl 90 rfl rfl, rf_gl 784 rfl rfl, by decide +kernel⟩
set_option maxRecDepth 40000 in
theorem mi_X0_note : rfMi RX0 yX0_note cX0_note 2 none 1 := ⟨by decide, rf_gl 779 rfl rfl, rf_gl 35 rfl rfl, rf_gl 90 rfl rfl, rf_gl 780 rfl rfl, by decide +kernel⟩
set_option maxRecDepth 40000 in
theorem mi_X1_add : rfMi RX1 yX1_add cX1_add 5 none 4 := ⟨by decide, rf_gl 403 rfl rfl, rf_gl 404 rfl rfl, rf_gl 89 rfl rfl, rf_gl 405 rfl rfl, by decide +kernel⟩
set_option maxRecDepth 40000 in
theorem mi_X1_dropOldest : rfMi RX1 yX1_dropOldest cX1_dropOldest 1 none 0 := ⟨by decide, rf_gl 408 rfl rfl, rf_gl 4 rfl rfl, rf_gl 89 rfl rfl, rf_gl 409 rfl rfl, by decide +kernel⟩
set_option maxRecDepth 40000 in
theorem mi_X2_isOne : rfMi RX2 yX2_isOne cX2_isOne 2 (some .boolean) 1 := ⟨by decide, rf_gl 391 rfl rfl, rf_gl 392 rfl rfl, rf_gl 85 rfl rfl, rf_gl 393 rfl rfl, by decide +kernel⟩
set_option maxRecDepth 40000 in
theorem mi_X2_mayHave : rfMi RX2 yX2_mayHave cX2_mayHave 3 (some .boolean) 1 := ⟨by decide, rf_gl 536 rfl rfl, rf_gl 537 rfl rfl, rf_gl 85 rfl rfl, rf_gl 538 rfl rfl, by decide +kernel⟩
set_option maxRecDepth 40000 in
theorem mi_X2_doneBy : rfMi RX2 yX2_doneBy cX2_doneBy 6 (some .int) 2 := ⟨by decide, rf_gl 484 rfl rfl, rf_gl 485 rfl rfl, rf_gl 85 rfl rfl, rf_gl 486 rfl rfl, by decide +kernel⟩
set_option maxRecDepth 40000 in
theorem mi_X2_pass : rfMi RX2 yX2_pass cX2_pass 5 (some .int) 2 := ⟨by decide, rf_gl 542 rfl rfl, rf_gl 543 rfl rfl, rf_gl 85 rfl rfl, rf_gl 544 rfl rfl, by decide +kernel⟩
set_option maxRecDepth 40000 in
theorem mi_X2_owedBehind : rfMi RX2 yX2_owedBehind cX2_owedBehind 7 (some .int) 5 := ⟨by decide, rf_gl 548 rfl rfl, rf_gl 549 rfl rfl, rf_gl 85 rfl rfl, rf_gl 550 rfl rfl, by decide +kernel⟩
set_option maxRecDepth 40000 in
theorem mi_X2_daysOf : rfMi RX2 yX2_daysOf cX2_daysOf 4 (some .int) 1 := ⟨by decide, rf_gl 532 rfl rfl, rf_gl 533 rfl rfl, rf_gl 85 rfl rfl, rf_gl 534 rfl rfl, by decide +kernel⟩
set_option maxRecDepth 40000 in
theorem mi_X3_isWritten : rfMi RX3 yX3_isWritten cX3_isWritten 1 (some .boolean) 0 := ⟨by decide, rf_gl 488 rfl rfl, rf_gl 489 rfl rfl, rf_gl 86 rfl rfl, rf_gl 490 rfl rfl, by decide +kernel⟩
set_option maxRecDepth 40000 in
theorem mi_X3_write : rfMi RX3 yX3_write cX3_write 2 (some .int) 1 := ⟨by decide, rf_gl 426 rfl rfl, rf_gl 427 rfl rfl, rf_gl 86 rfl rfl, rf_gl 428 rfl rfl, by decide +kernel⟩
set_option maxRecDepth 40000 in
theorem mi_X3_read : rfMi RX3 yX3_read cX3_read 2 (some .int) 0 := ⟨by decide, rf_gl 434 rfl rfl, rf_gl 435 rfl rfl, rf_gl 86 rfl rfl, rf_gl 436 rfl rfl, by decide +kernel⟩
set_option maxRecDepth 40000 in
theorem mi_X3_readLines : rfMi RX3 yX3_readLines cX3_readLines 2 (some .boolean) 0 := ⟨by decide, rf_gl 439 rfl rfl, rf_gl 6 rfl rfl, rf_gl 86 rfl rfl, rf_gl 440 rfl rfl, by decide +kernel⟩
set_option maxRecDepth 40000 in
theorem mi_X3_readLine : rfMi RX3 yX3_readLine cX3_readLine 1 (some .boolean) 0 := ⟨by decide, rf_gl 443 rfl rfl, rf_gl 7 rfl rfl, rf_gl 86 rfl rfl, rf_gl 444 rfl rfl, by decide +kernel⟩
set_option maxRecDepth 40000 in
theorem mi_X3_readChain : rfMi RX3 yX3_readChain cX3_readChain 5 (some .boolean) 2 := ⟨by decide, rf_gl 447 rfl rfl, rf_gl 8 rfl rfl, rf_gl 86 rfl rfl, rf_gl 448 rfl rfl, by decide +kernel⟩
set_option maxRecDepth 40000 in
theorem mi_X3_readOperand : rfMi RX3 yX3_readOperand cX3_readOperand 5 (some .boolean) 1 := ⟨by decide, rf_gl 451 rfl rfl, rf_gl 9 rfl rfl, rf_gl 86 rfl rfl, rf_gl 452 rfl rfl, by decide +kernel⟩
set_option maxRecDepth 40000 in
theorem mi_X3_readNumber : rfMi RX3 yX3_readNumber cX3_readNumber 3 none 0 := ⟨by decide, rf_gl 462 rfl rfl, rf_gl 11 rfl rfl, rf_gl 86 rfl rfl, rf_gl 463 rfl rfl, by decide +kernel⟩
set_option maxRecDepth 40000 in
theorem mi_X3_isAccepted : rfMi RX3 yX3_isAccepted cX3_isAccepted 2 (some .boolean) 1 := ⟨by decide, rf_gl 473 rfl rfl, rf_gl 13 rfl rfl, rf_gl 86 rfl rfl, rf_gl 474 rfl rfl, by decide +kernel⟩
set_option maxRecDepth 40000 in
theorem mi_X3_sign : rfMi RX3 yX3_sign cX3_sign 1 (some .int) 0 := ⟨by decide, rf_gl 455 rfl rfl, rf_gl 10 rfl rfl, rf_gl 86 rfl rfl, rf_gl 456 rfl rfl, by decide +kernel⟩
set_option maxRecDepth 40000 in
theorem mi_X3_addStep : rfMi RX3 yX3_addStep cX3_addStep 2 none 1 := ⟨by decide, rf_gl 466 rfl rfl, rf_gl 12 rfl rfl, rf_gl 86 rfl rfl, rf_gl 467 rfl rfl, by decide +kernel⟩
set_option maxRecDepth 40000 in
theorem ms_X3_isDigit : rfMs yX3_isDigit cX3_isDigit 1 (some .boolean) 1 := ⟨by decide, rf_gl 458 rfl rfl, rf_gl 86 rfl rfl, rf_gl 459 rfl rfl, by decide +kernel⟩
set_option maxRecDepth 40000 in
theorem ms_X3_nameOf : rfMs yX3_nameOf cX3_nameOf 1 (some .int) 1 := ⟨by decide, rf_gl 469 rfl rfl, rf_gl 86 rfl rfl, rf_gl 470 rfl rfl, by decide +kernel⟩
set_option maxRecDepth 40000 in
theorem ms_X3_levelOf : rfMs yX3_levelOf cX3_levelOf 1 (some .int) 1 := ⟨by decide, rf_gl 476 rfl rfl, rf_gl 86 rfl rfl, rf_gl 477 rfl rfl, by decide +kernel⟩
set_option maxRecDepth 40000 in
theorem mi_X3_workOut : rfMi RX3 yX3_workOut cX3_workOut 7 (some .int) 1 := ⟨by decide, rf_gl 498 rfl rfl, rf_gl 499 rfl rfl, rf_gl 86 rfl rfl, rf_gl 500 rfl rfl, by decide +kernel⟩
set_option maxRecDepth 40000 in
theorem mi_X3_endOfLine : rfMi RX3 yX3_endOfLine cX3_endOfLine 3 (some .int) 1 := ⟨by decide, rf_gl 503 rfl rfl, rf_gl 14 rfl rfl, rf_gl 86 rfl rfl, rf_gl 504 rfl rfl, by decide +kernel⟩
set_option maxRecDepth 40000 in
theorem ms_X3_joined : rfMs yX3_joined cX3_joined 3 (some .int) 3 := ⟨by decide, rf_gl 506 rfl rfl, rf_gl 86 rfl rfl, rf_gl 507 rfl rfl, by decide +kernel⟩
set_option maxRecDepth 40000 in
theorem mi_X4_becomeRow : rfMi RX4 yX4_becomeRow cX4_becomeRow 4 none 2 := ⟨by decide, rf_gl 798 rfl rfl, rf_gl 799 rfl rfl, rf_gl 91 rfl rfl, rf_gl 800 rfl rfl, by decide +kernel⟩
set_option maxRecDepth 40000 in
theorem mi_X4_refusalFor : rfMi RX4 yX4_refusalFor cX4_refusalFor 2 (some .int) 1 := ⟨by decide, rf_gl 519 rfl rfl, rf_gl 520 rfl rfl, rf_gl 91 rfl rfl, rf_gl 521 rfl rfl, by decide +kernel⟩
set_option maxRecDepth 40000 in
theorem mi_X4_hasPlaces : rfMi RX4 yX4_hasPlaces cX4_hasPlaces 3 (some .boolean) 2 := ⟨by decide, rf_gl 823 rfl rfl, rf_gl 824 rfl rfl, rf_gl 91 rfl rfl, rf_gl 825 rfl rfl, by decide +kernel⟩
set_option maxRecDepth 40000 in
theorem mi_X4_cut : rfMi RX4 yX4_cut cX4_cut 3 (some .long) 1 := ⟨by decide, rf_gl 810 rfl rfl, rf_gl 811 rfl rfl, rf_gl 91 rfl rfl, rf_gl 812 rfl rfl, by decide +kernel⟩
set_option maxRecDepth 40000 in
theorem mi_X5_copyFrom : rfMi RX5 yX5_copyFrom cX5_copyFrom 3 none 2 := ⟨by decide, rf_gl 527 rfl rfl, rf_gl 528 rfl rfl, rf_gl 87 rfl rfl, rf_gl 529 rfl rfl, by decide +kernel⟩
set_option maxRecDepth 40000 in
theorem mi_X5_owedOfAll : rfMi RX5 yX5_owedOfAll cX5_owedOfAll 4 (some .int) 1 := ⟨by decide, rf_gl 556 rfl rfl, rf_gl 557 rfl rfl, rf_gl 87 rfl rfl, rf_gl 558 rfl rfl, by decide +kernel⟩
set_option maxRecDepth 40000 in
theorem mi_X6_latest : rfMi RX6 yX6_latest cX6_latest 1 (some (.object "OneLeg$Standing")) 0 := ⟨by decide, rf_gl 552 rfl rfl, rf_gl 553 rfl rfl, rf_gl 88 rfl rfl, rf_gl 554 rfl rfl, by decide +kernel⟩
set_option maxRecDepth 40000 in
theorem mi_X6_follow : rfMi RX6 yX6_follow cX6_follow 7 (some .int) 3 := ⟨by decide, rf_gl 523 rfl rfl, rf_gl 524 rfl rfl, rf_gl 88 rfl rfl, rf_gl 525 rfl rfl, by decide +kernel⟩
set_option maxRecDepth 40000 in
theorem mi_X6_seekBest : rfMi RX6 yX6_seekBest cX6_seekBest 3 none 2 := ⟨by decide, rf_gl 570 rfl rfl, rf_gl 571 rfl rfl, rf_gl 88 rfl rfl, rf_gl 572 rfl rfl, by decide +kernel⟩
set_option maxRecDepth 40000 in
theorem mi_X6_seekFrom : rfMi RX6 yX6_seekFrom cX6_seekFrom 5 none 3 := ⟨by decide, rf_gl 575 rfl rfl, rf_gl 15 rfl rfl, rf_gl 88 rfl rfl, rf_gl 576 rfl rfl, by decide +kernel⟩
set_option maxRecDepth 40000 in
theorem mi_X6_weigh : rfMi RX6 yX6_weigh cX6_weigh 5 none 2 := ⟨by decide, rf_gl 579 rfl rfl, rf_gl 16 rfl rfl, rf_gl 88 rfl rfl, rf_gl 580 rfl rfl, by decide +kernel⟩
set_option maxRecDepth 40000 in
theorem mi_X6_worthOfTurns : rfMi RX6 yX6_worthOfTurns cX6_worthOfTurns 5 (some .int) 4 := ⟨by decide, rf_gl 680 rfl rfl, rf_gl 681 rfl rfl, rf_gl 88 rfl rfl, rf_gl 682 rfl rfl, by decide +kernel⟩
set_option maxRecDepth 40000 in
theorem mi_X6_worthFrom : rfMi RX6 yX6_worthFrom cX6_worthFrom 7 (some .int) 4 := ⟨by decide, rf_gl 685 rfl rfl, rf_gl 29 rfl rfl, rf_gl 88 rfl rfl, rf_gl 686 rfl rfl, by decide +kernel⟩
set_option maxRecDepth 40000 in
theorem mi_X6_worthBehind : rfMi RX6 yX6_worthBehind cX6_worthBehind 7 (some .int) 5 := ⟨by decide, rf_gl 689 rfl rfl, rf_gl 30 rfl rfl, rf_gl 88 rfl rfl, rf_gl 690 rfl rfl, by decide +kernel⟩
set_option maxRecDepth 40000 in
theorem mi_X6_draw : rfMi RX6 yX6_draw cX6_draw 13 (some .int) 6 := ⟨by decide, rf_gl 697 rfl rfl, rf_gl 698 rfl rfl, rf_gl 88 rfl rfl, rf_gl 699 rfl rfl, by decide +kernel⟩
set_option maxRecDepth 40000 in
theorem mi_X6_drawnBy : rfMi RX6 yX6_drawnBy cX6_drawnBy 3 (some .int) 2 := ⟨by decide, rf_gl 703 rfl rfl, rf_gl 31 rfl rfl, rf_gl 88 rfl rfl, rf_gl 704 rfl rfl, by decide +kernel⟩
set_option maxRecDepth 40000 in
theorem mi_X6_dealt : rfMi RX6 yX6_dealt cX6_dealt 5 (some .int) 1 := ⟨by decide, rf_gl 619 rfl rfl, rf_gl 620 rfl rfl, rf_gl 88 rfl rfl, rf_gl 621 rfl rfl, by decide +kernel⟩
set_option maxRecDepth 40000 in
theorem mi_X6_holderOf : rfMi RX6 yX6_holderOf cX6_holderOf 7 (some .int) 2 := ⟨by decide, rf_gl 624 rfl rfl, rf_gl 21 rfl rfl, rf_gl 88 rfl rfl, rf_gl 625 rfl rfl, by decide +kernel⟩
set_option maxRecDepth 40000 in
theorem mi_X6_dealtBy : rfMi RX6 yX6_dealtBy cX6_dealtBy 5 (some .int) 3 := ⟨by decide, rf_gl 628 rfl rfl, rf_gl 22 rfl rfl, rf_gl 88 rfl rfl, rf_gl 629 rfl rfl, by decide +kernel⟩
set_option maxRecDepth 40000 in
theorem ms_X6_groupOf : rfMs yX6_groupOf cX6_groupOf 1 (some .int) 1 := ⟨by decide, rf_gl 631 rfl rfl, rf_gl 88 rfl rfl, rf_gl 632 rfl rfl, by decide +kernel⟩
set_option maxRecDepth 40000 in
theorem mi_X6_minutesOut : rfMi RX6 yX6_minutesOut cX6_minutesOut 5 (some .int) 0 := ⟨by decide, rf_gl 638 rfl rfl, rf_gl 639 rfl rfl, rf_gl 88 rfl rfl, rf_gl 640 rfl rfl, by decide +kernel⟩
set_option maxRecDepth 40000 in
theorem mi_X6_sortBySlow : rfMi RX6 yX6_sortBySlow cX6_sortBySlow 3 none 0 := ⟨by decide, rf_gl 643 rfl rfl, rf_gl 23 rfl rfl, rf_gl 88 rfl rfl, rf_gl 644 rfl rfl, by decide +kernel⟩
set_option maxRecDepth 40000 in
theorem mi_X7_brother : rfMi RX7 yX7_brother cX7_brother 2 (some .int) 1 := ⟨by decide, rf_gl 361 rfl rfl, rf_gl 362 rfl rfl, rf_gl 84 rfl rfl, rf_gl 363 rfl rfl, by decide +kernel⟩
set_option maxRecDepth 40000 in
theorem mi_X7_brothers : rfMi RX7 yX7_brothers cX7_brothers 7 (some .int) 3 := ⟨by decide, rf_gl 372 rfl rfl, rf_gl 373 rfl rfl, rf_gl 84 rfl rfl, rf_gl 374 rfl rfl, by decide +kernel⟩
set_option maxRecDepth 40000 in
theorem mi_X7_comesFrom : rfMi RX7 yX7_comesFrom cX7_comesFrom 6 (some .boolean) 2 := ⟨by decide, rf_gl 380 rfl rfl, rf_gl 1 rfl rfl, rf_gl 84 rfl rfl, rf_gl 381 rfl rfl, by decide +kernel⟩
set_option maxRecDepth 40000 in
theorem mi_X7_welcome : rfMi RX7 yX7_welcome cX7_welcome 5 (some .int) 3 := ⟨by decide, rf_gl 369 rfl rfl, rf_gl 0 rfl rfl, rf_gl 84 rfl rfl, rf_gl 370 rfl rfl, by decide +kernel⟩
set_option maxRecDepth 40000 in
theorem mi_X7_mend : rfMi RX7 yX7_mend cX7_mend 5 (some .int) 3 := ⟨by decide, rf_gl 383 rfl rfl, rf_gl 384 rfl rfl, rf_gl 84 rfl rfl, rf_gl 385 rfl rfl, by decide +kernel⟩
set_option maxRecDepth 40000 in
theorem mi_X7_of : rfMi RX7 yX7_of cX7_of 3 (some .int) 2 := ⟨by decide, rf_gl 418 rfl rfl, rf_gl 419 rfl rfl, rf_gl 84 rfl rfl, rf_gl 420 rfl rfl, by decide +kernel⟩
set_option maxRecDepth 40000 in
theorem mi_X7_isNumber : rfMi RX7 yX7_isNumber cX7_isNumber 3 (some .boolean) 2 := ⟨by decide, rf_gl 388 rfl rfl, rf_gl 2 rfl rfl, rf_gl 84 rfl rfl, rf_gl 389 rfl rfl, by decide +kernel⟩
set_option maxRecDepth 40000 in
theorem mi_X7_numberOf : rfMi RX7 yX7_numberOf cX7_numberOf 3 (some .int) 2 := ⟨by decide, rf_gl 400 rfl rfl, rf_gl 3 rfl rfl, rf_gl 84 rfl rfl, rf_gl 401 rfl rfl, by decide +kernel⟩
set_option maxRecDepth 40000 in
theorem mi_X7_become : rfMi RX7 yX7_become cX7_become 4 none 3 := ⟨by decide, rf_gl 415 rfl rfl, rf_gl 5 rfl rfl, rf_gl 84 rfl rfl, rf_gl 416 rfl rfl, by decide +kernel⟩
set_option maxRecDepth 40000 in
theorem mi_X7_feed : rfMi RX7 yX7_feed cX7_feed 2 (some .int) 1 := ⟨by decide, rf_gl 422 rfl rfl, rf_gl 423 rfl rfl, rf_gl 84 rfl rfl, rf_gl 424 rfl rfl, by decide +kernel⟩
set_option maxRecDepth 40000 in
theorem mi_X7_law : rfMi RX7 yX7_law cX7_law 2 (some .int) 0 := ⟨by decide, rf_gl 430 rfl rfl, rf_gl 431 rfl rfl, rf_gl 84 rfl rfl, rf_gl 432 rfl rfl, by decide +kernel⟩
set_option maxRecDepth 40000 in
theorem mi_X7_does : rfMi RX7 yX7_does cX7_does 2 (some .int) 1 := ⟨by decide, rf_gl 480 rfl rfl, rf_gl 481 rfl rfl, rf_gl 84 rfl rfl, rf_gl 482 rfl rfl, by decide +kernel⟩
set_option maxRecDepth 40000 in
theorem mi_X7_later : rfMi RX7 yX7_later cX7_later 10 (some .int) 4 := ⟨by decide, rf_gl 515 rfl rfl, rf_gl 516 rfl rfl, rf_gl 84 rfl rfl, rf_gl 517 rfl rfl, by decide +kernel⟩
set_option maxRecDepth 40000 in
theorem mi_X7_deep : rfMi RX7 yX7_deep cX7_deep 9 (some .int) 3 := ⟨by decide, rf_gl 560 rfl rfl, rf_gl 561 rfl rfl, rf_gl 84 rfl rfl, rf_gl 562 rfl rfl, by decide +kernel⟩
set_option maxRecDepth 40000 in
theorem mi_X7_bestRota : rfMi RX7 yX7_bestRota cX7_bestRota 3 (some .int) 2 := ⟨by decide, rf_gl 566 rfl rfl, rf_gl 567 rfl rfl, rf_gl 84 rfl rfl, rf_gl 568 rfl rfl, by decide +kernel⟩
set_option maxRecDepth 40000 in
theorem mi_X7_told : rfMi RX7 yX7_told cX7_told 8 (some .int) 3 := ⟨by decide, rf_gl 584 rfl rfl, rf_gl 585 rfl rfl, rf_gl 84 rfl rfl, rf_gl 586 rfl rfl, by decide +kernel⟩
set_option maxRecDepth 40000 in
theorem mi_X7_knownByGroup : rfMi RX7 yX7_knownByGroup cX7_knownByGroup 4 (some .int) 1 := ⟨by decide, rf_gl 589 rfl rfl, rf_gl 17 rfl rfl, rf_gl 84 rfl rfl, rf_gl 590 rfl rfl, by decide +kernel⟩
set_option maxRecDepth 40000 in
theorem mi_X7_apart : rfMi RX7 yX7_apart cX7_apart 2 (some .int) 1 := ⟨by decide, rf_gl 599 rfl rfl, rf_gl 600 rfl rfl, rf_gl 84 rfl rfl, rf_gl 601 rfl rfl, by decide +kernel⟩
set_option maxRecDepth 40000 in
theorem mi_X7_fewestApart : rfMi RX7 yX7_fewestApart cX7_fewestApart 3 (some .int) 0 := ⟨by decide, rf_gl 604 rfl rfl, rf_gl 18 rfl rfl, rf_gl 84 rfl rfl, rf_gl 605 rfl rfl, by decide +kernel⟩
set_option maxRecDepth 40000 in
theorem mi_X7_areToldApart : rfMi RX7 yX7_areToldApart cX7_areToldApart 4 (some .boolean) 1 := ⟨by decide, rf_gl 608 rfl rfl, rf_gl 19 rfl rfl, rf_gl 84 rfl rfl, rf_gl 609 rfl rfl, by decide +kernel⟩
set_option maxRecDepth 40000 in
theorem mi_X7_knownByAll : rfMi RX7 yX7_knownByAll cX7_knownByAll 3 (some .int) 0 := ⟨by decide, rf_gl 612 rfl rfl, rf_gl 20 rfl rfl, rf_gl 84 rfl rfl, rf_gl 613 rfl rfl, by decide +kernel⟩
set_option maxRecDepth 40000 in
theorem ms_X7_fewer : rfMs yX7_fewer cX7_fewer 2 (some .int) 2 := ⟨by decide, rf_gl 592 rfl rfl, rf_gl 84 rfl rfl, rf_gl 593 rfl rfl, by decide +kernel⟩
set_option maxRecDepth 40000 in
theorem ms_X7_manyOrWhich : rfMs yX7_manyOrWhich cX7_manyOrWhich 2 (some .int) 2 := ⟨by decide, rf_gl 596 rfl rfl, rf_gl 84 rfl rfl, rf_gl 597 rfl rfl, by decide +kernel⟩
set_option maxRecDepth 40000 in
theorem mi_X7_week : rfMi RX7 yX7_week cX7_week 2 (some .int) 1 := ⟨by decide, rf_gl 615 rfl rfl, rf_gl 616 rfl rfl, rf_gl 84 rfl rfl, rf_gl 617 rfl rfl, by decide +kernel⟩
set_option maxRecDepth 40000 in
theorem mi_X7_fire : rfMi RX7 yX7_fire cX7_fire 2 (some .int) 1 := ⟨by decide, rf_gl 634 rfl rfl, rf_gl 635 rfl rfl, rf_gl 84 rfl rfl, rf_gl 636 rfl rfl, by decide +kernel⟩
set_option maxRecDepth 40000 in
theorem mi_X7_firstOut : rfMi RX7 yX7_firstOut cX7_firstOut 1 (some .int) 0 := ⟨by decide, rf_gl 647 rfl rfl, rf_gl 24 rfl rfl, rf_gl 84 rfl rfl, rf_gl 648 rfl rfl, by decide +kernel⟩
set_option maxRecDepth 40000 in
theorem mi_X7_judge : rfMi RX7 yX7_judge cX7_judge 4 (some .int) 2 := ⟨by decide, rf_gl 651 rfl rfl, rf_gl 652 rfl rfl, rf_gl 84 rfl rfl, rf_gl 653 rfl rfl, by decide +kernel⟩
set_option maxRecDepth 40000 in
theorem mi_X7_fits : rfMi RX7 yX7_fits cX7_fits 14 (some .int) 3 := ⟨by decide, rf_gl 667 rfl rfl, rf_gl 668 rfl rfl, rf_gl 84 rfl rfl, rf_gl 669 rfl rfl, by decide +kernel⟩
set_option maxRecDepth 40000 in
theorem mi_X7_areShelves : rfMi RX7 yX7_areShelves cX7_areShelves 2 (some .boolean) 1 := ⟨by decide, rf_gl 656 rfl rfl, rf_gl 25 rfl rfl, rf_gl 84 rfl rfl, rf_gl 657 rfl rfl, by decide +kernel⟩
set_option maxRecDepth 40000 in
theorem mi_X7_areBrothers : rfMi RX7 yX7_areBrothers cX7_areBrothers 2 (some .boolean) 1 := ⟨by decide, rf_gl 672 rfl rfl, rf_gl 28 rfl rfl, rf_gl 84 rfl rfl, rf_gl 673 rfl rfl, by decide +kernel⟩
set_option maxRecDepth 40000 in
theorem mi_X7_refusalOfDebts : rfMi RX7 yX7_refusalOfDebts cX7_refusalOfDebts 3 (some .int) 1 := ⟨by decide, rf_gl 660 rfl rfl, rf_gl 26 rfl rfl, rf_gl 84 rfl rfl, rf_gl 661 rfl rfl, by decide +kernel⟩
set_option maxRecDepth 40000 in
theorem mi_X7_firstNotSo : rfMi RX7 yX7_firstNotSo cX7_firstNotSo 10 (some .int) 4 := ⟨by decide, rf_gl 664 rfl rfl, rf_gl 27 rfl rfl, rf_gl 84 rfl rfl, rf_gl 665 rfl rfl, by decide +kernel⟩
set_option maxRecDepth 40000 in
theorem mi_X7_byTurns : rfMi RX7 yX7_byTurns cX7_byTurns 5 (some .int) 3 := ⟨by decide, rf_gl 675 rfl rfl, rf_gl 676 rfl rfl, rf_gl 84 rfl rfl, rf_gl 677 rfl rfl, by decide +kernel⟩
set_option maxRecDepth 40000 in
theorem mi_X7_drawn : rfMi RX7 yX7_drawn cX7_drawn 7 (some .int) 3 := ⟨by decide, rf_gl 693 rfl rfl, rf_gl 694 rfl rfl, rf_gl 84 rfl rfl, rf_gl 695 rfl rfl, by decide +kernel⟩
set_option maxRecDepth 40000 in
theorem mi_X7_day : rfMi RX7 yX7_day cX7_day 3 (some .int) 1 := ⟨by decide, rf_gl 706 rfl rfl, rf_gl 707 rfl rfl, rf_gl 84 rfl rfl, rf_gl 708 rfl rfl, by decide +kernel⟩
set_option maxRecDepth 40000 in
theorem mi_X7_tells : rfMi RX7 yX7_tells cX7_tells 4 (some .int) 2 := ⟨by decide, rf_gl 712 rfl rfl, rf_gl 713 rfl rfl, rf_gl 84 rfl rfl, rf_gl 714 rfl rfl, by decide +kernel⟩
set_option maxRecDepth 40000 in
theorem mi_X7_pays : rfMi RX7 yX7_pays cX7_pays 4 (some .int) 3 := ⟨by decide, rf_gl 720 rfl rfl, rf_gl 721 rfl rfl, rf_gl 84 rfl rfl, rf_gl 722 rfl rfl, by decide +kernel⟩
set_option maxRecDepth 40000 in
theorem mi_X7_areTwo : rfMi RX7 yX7_areTwo cX7_areTwo 3 (some .boolean) 2 := ⟨by decide, rf_gl 717 rfl rfl, rf_gl 32 rfl rfl, rf_gl 84 rfl rfl, rf_gl 718 rfl rfl, by decide +kernel⟩
set_option maxRecDepth 40000 in
theorem mi_X7_cobble : rfMi RX7 yX7_cobble cX7_cobble 2 (some .int) 0 := ⟨by decide, rf_gl 724 rfl rfl, rf_gl 725 rfl rfl, rf_gl 84 rfl rfl, rf_gl 726 rfl rfl, by decide +kernel⟩
set_option maxRecDepth 40000 in
theorem mi_X7_led : rfMi RX7 yX7_led cX7_led 2 (some .int) 1 := ⟨by decide, rf_gl 728 rfl rfl, rf_gl 729 rfl rfl, rf_gl 84 rfl rfl, rf_gl 730 rfl rfl, by decide +kernel⟩
set_option maxRecDepth 40000 in
theorem mi_X7_image : rfMi RX7 yX7_image cX7_image 1 (some .int) 0 := ⟨by decide, rf_gl 732 rfl rfl, rf_gl 733 rfl rfl, rf_gl 84 rfl rfl, rf_gl 734 rfl rfl, by decide +kernel⟩
set_option maxRecDepth 40000 in
theorem mi_X7_back : rfMi RX7 yX7_back cX7_back 1 (some .int) 0 := ⟨by decide, rf_gl 738 rfl rfl, rf_gl 739 rfl rfl, rf_gl 84 rfl rfl, rf_gl 740 rfl rfl, by decide +kernel⟩
set_option maxRecDepth 40000 in
theorem mi_X7_undo : rfMi RX7 yX7_undo cX7_undo 2 (some .int) 0 := ⟨by decide, rf_gl 742 rfl rfl, rf_gl 743 rfl rfl, rf_gl 84 rfl rfl, rf_gl 744 rfl rfl, by decide +kernel⟩
set_option maxRecDepth 40000 in
theorem mi_X7_redo : rfMi RX7 yX7_redo cX7_redo 2 (some .int) 0 := ⟨by decide, rf_gl 746 rfl rfl, rf_gl 747 rfl rfl, rf_gl 84 rfl rfl, rf_gl 748 rfl rfl, by decide +kernel⟩
set_option maxRecDepth 40000 in
theorem mi_X7_body : rfMi RX7 yX7_body cX7_body 2 (some .int) 1 := ⟨by decide, rf_gl 750 rfl rfl, rf_gl 751 rfl rfl, rf_gl 84 rfl rfl, rf_gl 752 rfl rfl, by decide +kernel⟩
set_option maxRecDepth 40000 in
theorem mi_X7_act : rfMi RX7 yX7_act cX7_act 4 (some .int) 3 := ⟨by decide, rf_gl 758 rfl rfl, rf_gl 759 rfl rfl, rf_gl 84 rfl rfl, rf_gl 760 rfl rfl, by decide +kernel⟩
set_option maxRecDepth 40000 in
theorem mi_X7_trace : rfMi RX7 yX7_trace cX7_trace 2 (some .int) 1 := ⟨by decide, rf_gl 786 rfl rfl, rf_gl 787 rfl rfl, rf_gl 84 rfl rfl, rf_gl 788 rfl rfl, by decide +kernel⟩
set_option maxRecDepth 40000 in
theorem mi_X7_keep : rfMi RX7 yX7_keep cX7_keep 3 (some .int) 2 := ⟨by decide, rf_gl 790 rfl rfl, rf_gl 791 rfl rfl, rf_gl 84 rfl rfl, rf_gl 792 rfl rfl, by decide +kernel⟩
set_option maxRecDepth 40000 in
theorem mi_X7_row : rfMi RX7 yX7_row cX7_row 4 (some .int) 3 := ⟨by decide, rf_gl 794 rfl rfl, rf_gl 795 rfl rfl, rf_gl 84 rfl rfl, rf_gl 796 rfl rfl, by decide +kernel⟩
set_option maxRecDepth 40000 in
theorem mi_X7_put : rfMi RX7 yX7_put cX7_put 6 (some .int) 3 := ⟨by decide, rf_gl 802 rfl rfl, rf_gl 803 rfl rfl, rf_gl 84 rfl rfl, rf_gl 804 rfl rfl, by decide +kernel⟩
set_option maxRecDepth 40000 in
theorem mi_X7_element : rfMi RX7 yX7_element cX7_element 3 (some .long) 2 := ⟨by decide, rf_gl 814 rfl rfl, rf_gl 815 rfl rfl, rf_gl 84 rfl rfl, rf_gl 816 rfl rfl, by decide +kernel⟩
set_option maxRecDepth 40000 in
theorem mi_X7_refusalOfPlace : rfMi RX7 yX7_refusalOfPlace cX7_refusalOfPlace 4 (some .int) 2 := ⟨by decide, rf_gl 807 rfl rfl, rf_gl 37 rfl rfl, rf_gl 84 rfl rfl, rf_gl 808 rfl rfl, by decide +kernel⟩
set_option maxRecDepth 40000 in
theorem mi_X7_shift : rfMi RX7 yX7_shift cX7_shift 8 (some .int) 5 := ⟨by decide, rf_gl 819 rfl rfl, rf_gl 820 rfl rfl, rf_gl 84 rfl rfl, rf_gl 821 rfl rfl, by decide +kernel⟩
set_option maxRecDepth 40000 in
theorem mi_X7_taken : rfMi RX7 yX7_taken cX7_taken 4 (some .int) 2 := ⟨by decide, rf_gl 827 rfl rfl, rf_gl 828 rfl rfl, rf_gl 84 rfl rfl, rf_gl 829 rfl rfl, by decide +kernel⟩
set_option maxRecDepth 40000 in
theorem mi_X7_count : rfMi RX7 yX7_count cX7_count 2 (some .int) 1 := ⟨by decide, rf_gl 834 rfl rfl, rf_gl 835 rfl rfl, rf_gl 84 rfl rfl, rf_gl 836 rfl rfl, by decide +kernel⟩
set_option maxRecDepth 40000 in
theorem mi_X7_isBody : rfMi RX7 yX7_isBody cX7_isBody 2 (some .boolean) 1 := ⟨by decide, rf_gl 763 rfl rfl, rf_gl 33 rfl rfl, rf_gl 84 rfl rfl, rf_gl 764 rfl rfl, by decide +kernel⟩
set_option maxRecDepth 40000 in
theorem ms_X7_isShelf : rfMs yX7_isShelf cX7_isShelf 1 (some .boolean) 1 := ⟨by decide, rf_gl 376 rfl rfl, rf_gl 84 rfl rfl, rf_gl 377 rfl rfl, by decide +kernel⟩
set_option maxRecDepth 40000 in
theorem ms_X7_isWithin : rfMs yX7_isWithin cX7_isWithin 3 (some .boolean) 3 := ⟨by decide, rf_gl 365 rfl rfl, rf_gl 84 rfl rfl, rf_gl 366 rfl rfl, by decide +kernel⟩
set_option maxRecDepth 40000 in
theorem ms_X8_within : rfMs yX8_within cX8_within 3 (some .boolean) 3 := ⟨by decide, rf_gl 978 rfl rfl, rf_gl 92 rfl rfl, rf_gl 979 rfl rfl, by decide +kernel⟩
set_option maxRecDepth 40000 in
theorem mi_X8_isOne : rfMi RX8 yX8_isOne cX8_isOne 2 (some .boolean) 1 := ⟨by decide, rf_gl 1006 rfl rfl, rf_gl 41 rfl rfl, rf_gl 92 rfl rfl, rf_gl 1007 rfl rfl, by decide +kernel⟩
set_option maxRecDepth 40000 in
theorem ms_X8_isShelf : rfMs yX8_isShelf cX8_isShelf 1 (some .boolean) 1 := ⟨by decide, rf_gl 989 rfl rfl, rf_gl 92 rfl rfl, rf_gl 990 rfl rfl, by decide +kernel⟩
set_option maxRecDepth 40000 in
theorem ms_X8_has : rfMs yX8_has cX8_has 2 (some .boolean) 2 := ⟨by decide, rf_gl 1103 rfl rfl, rf_gl 92 rfl rfl, rf_gl 1104 rfl rfl, by decide +kernel⟩
set_option maxRecDepth 40000 in
theorem mi_X8_newOne : rfMi RX8 yX8_newOne cX8_newOne 4 (some .int) 3 := ⟨by decide, rf_gl 982 rfl rfl, rf_gl 38 rfl rfl, rf_gl 92 rfl rfl, rf_gl 983 rfl rfl, by decide +kernel⟩
set_option maxRecDepth 40000 in
theorem mi_X8_brother : rfMi RX8 yX8_brother cX8_brother 2 (some .int) 1 := ⟨by decide, rf_gl 974 rfl rfl, rf_gl 975 rfl rfl, rf_gl 92 rfl rfl, rf_gl 976 rfl rfl, by decide +kernel⟩
set_option maxRecDepth 40000 in
theorem mi_X8_brothers : rfMi RX8 yX8_brothers cX8_brothers 9 (some .int) 3 := ⟨by decide, rf_gl 985 rfl rfl, rf_gl 986 rfl rfl, rf_gl 92 rfl rfl, rf_gl 987 rfl rfl, by decide +kernel⟩
set_option maxRecDepth 40000 in
theorem mi_X8_toldAt : rfMi RX8 yX8_toldAt cX8_toldAt 3 (some .int) 2 := ⟨by decide, rf_gl 994 rfl rfl, rf_gl 39 rfl rfl, rf_gl 92 rfl rfl, rf_gl 995 rfl rfl, by decide +kernel⟩
set_option maxRecDepth 40000 in
theorem mi_X8_isOf : rfMi RX8 yX8_isOf cX8_isOf 3 (some .boolean) 2 := ⟨by decide, rf_gl 1002 rfl rfl, rf_gl 40 rfl rfl, rf_gl 92 rfl rfl, rf_gl 1003 rfl rfl, by decide +kernel⟩
set_option maxRecDepth 40000 in
theorem ms_X8_isFit : rfMs yX8_isFit cX8_isFit 2 (some .boolean) 2 := ⟨by decide, rf_gl 1009 rfl rfl, rf_gl 92 rfl rfl, rf_gl 1010 rfl rfl, by decide +kernel⟩
set_option maxRecDepth 40000 in
theorem mi_X8_get : rfMi RX8 yX8_get cX8_get 3 (some .int) 2 := ⟨by decide, rf_gl 1013 rfl rfl, rf_gl 42 rfl rfl, rf_gl 92 rfl rfl, rf_gl 1014 rfl rfl, by decide +kernel⟩
set_option maxRecDepth 40000 in
theorem mi_X8_becomes : rfMi RX8 yX8_becomes cX8_becomes 4 none 3 := ⟨by decide, rf_gl 1017 rfl rfl, rf_gl 43 rfl rfl, rf_gl 92 rfl rfl, rf_gl 1018 rfl rfl, by decide +kernel⟩
set_option maxRecDepth 40000 in
theorem mi_X8_mend : rfMi RX8 yX8_mend cX8_mend 6 (some .int) 3 := ⟨by decide, rf_gl 997 rfl rfl, rf_gl 998 rfl rfl, rf_gl 92 rfl rfl, rf_gl 999 rfl rfl, by decide +kernel⟩
set_option maxRecDepth 40000 in
theorem mi_X8_of : rfMi RX8 yX8_of cX8_of 3 (some .int) 2 := ⟨by decide, rf_gl 1020 rfl rfl, rf_gl 1021 rfl rfl, rf_gl 92 rfl rfl, rf_gl 1022 rfl rfl, by decide +kernel⟩
set_option maxRecDepth 40000 in
theorem mi_X8_undo : rfMi RX8 yX8_undo cX8_undo 1 (some .int) 0 := ⟨by decide, rf_gl 1024 rfl rfl, rf_gl 1025 rfl rfl, rf_gl 92 rfl rfl, rf_gl 1026 rfl rfl, by decide +kernel⟩
set_option maxRecDepth 40000 in
theorem mi_X8_redo : rfMi RX8 yX8_redo cX8_redo 1 (some .int) 0 := ⟨by decide, rf_gl 1028 rfl rfl, rf_gl 1029 rfl rfl, rf_gl 92 rfl rfl, rf_gl 1030 rfl rfl, by decide +kernel⟩
set_option maxRecDepth 40000 in
theorem mi_X8_feed : rfMi RX8 yX8_feed cX8_feed 2 (some .int) 1 := ⟨by decide, rf_gl 1032 rfl rfl, rf_gl 1033 rfl rfl, rf_gl 92 rfl rfl, rf_gl 1034 rfl rfl, by decide +kernel⟩
set_option maxRecDepth 40000 in
theorem mi_X8_sign : rfMi RX8 yX8_sign cX8_sign 1 (some .int) 0 := ⟨by decide, rf_gl 1073 rfl rfl, rf_gl 52 rfl rfl, rf_gl 92 rfl rfl, rf_gl 1074 rfl rfl, by decide +kernel⟩
set_option maxRecDepth 40000 in
theorem mi_X8_is : rfMi RX8 yX8_is cX8_is 2 (some .boolean) 1 := ⟨by decide, rf_gl 1084 rfl rfl, rf_gl 54 rfl rfl, rf_gl 92 rfl rfl, rf_gl 1085 rfl rfl, by decide +kernel⟩
set_option maxRecDepth 40000 in
theorem mi_X8_codes : rfMi RX8 yX8_codes cX8_codes 2 (some .boolean) 1 := ⟨by decide, rf_gl 1077 rfl rfl, rf_gl 53 rfl rfl, rf_gl 92 rfl rfl, rf_gl 1078 rfl rfl, by decide +kernel⟩
set_option maxRecDepth 40000 in
theorem mi_X8_isDigit : rfMi RX8 yX8_isDigit cX8_isDigit 1 (some .boolean) 0 := ⟨by decide, rf_gl 1069 rfl rfl, rf_gl 51 rfl rfl, rf_gl 92 rfl rfl, rf_gl 1070 rfl rfl, by decide +kernel⟩
set_option maxRecDepth 40000 in
theorem ms_X8_nameOf : rfMs yX8_nameOf cX8_nameOf 1 (some .int) 1 := ⟨by decide, rf_gl 1080 rfl rfl, rf_gl 92 rfl rfl, rf_gl 1081 rfl rfl, by decide +kernel⟩
set_option maxRecDepth 40000 in
theorem mi_X8_isO : rfMi RX8 yX8_isO cX8_isO 3 (some .boolean) 0 := ⟨by decide, rf_gl 1065 rfl rfl, rf_gl 50 rfl rfl, rf_gl 92 rfl rfl, rf_gl 1066 rfl rfl, by decide +kernel⟩
set_option maxRecDepth 40000 in
theorem mi_X8_isP : rfMi RX8 yX8_isP cX8_isP 2 (some .boolean) 0 := ⟨by decide, rf_gl 1061 rfl rfl, rf_gl 49 rfl rfl, rf_gl 92 rfl rfl, rf_gl 1062 rfl rfl, by decide +kernel⟩
set_option maxRecDepth 40000 in
theorem mi_X8_isS : rfMi RX8 yX8_isS cX8_isS 2 (some .boolean) 0 := ⟨by decide, rf_gl 1057 rfl rfl, rf_gl 48 rfl rfl, rf_gl 92 rfl rfl, rf_gl 1058 rfl rfl, by decide +kernel⟩
set_option maxRecDepth 40000 in
theorem mi_X8_isB : rfMi RX8 yX8_isB cX8_isB 2 (some .boolean) 0 := ⟨by decide, rf_gl 1053 rfl rfl, rf_gl 47 rfl rfl, rf_gl 92 rfl rfl, rf_gl 1054 rfl rfl, by decide +kernel⟩
set_option maxRecDepth 40000 in
theorem mi_X8_isA : rfMi RX8 yX8_isA cX8_isA 1 (some .boolean) 0 := ⟨by decide, rf_gl 1049 rfl rfl, rf_gl 46 rfl rfl, rf_gl 92 rfl rfl, rf_gl 1050 rfl rfl, by decide +kernel⟩
set_option maxRecDepth 40000 in
theorem mi_X8_isE : rfMi RX8 yX8_isE cX8_isE 1 (some .boolean) 0 := ⟨by decide, rf_gl 1045 rfl rfl, rf_gl 45 rfl rfl, rf_gl 92 rfl rfl, rf_gl 1046 rfl rfl, by decide +kernel⟩
set_option maxRecDepth 40000 in
theorem mi_X8_isLine : rfMi RX8 yX8_isLine cX8_isLine 1 (some .boolean) 0 := ⟨by decide, rf_gl 1041 rfl rfl, rf_gl 44 rfl rfl, rf_gl 92 rfl rfl, rf_gl 1042 rfl rfl, by decide +kernel⟩
set_option maxRecDepth 40000 in
theorem mi_X8_law : rfMi RX8 yX8_law cX8_law 4 (some .int) 0 := ⟨by decide, rf_gl 1036 rfl rfl, rf_gl 1037 rfl rfl, rf_gl 92 rfl rfl, rf_gl 1038 rfl rfl, by decide +kernel⟩
set_option maxRecDepth 40000 in
theorem ms_X8_both : rfMs yX8_both cX8_both 3 (some .int) 3 := ⟨by decide, rf_gl 1111 rfl rfl, rf_gl 92 rfl rfl, rf_gl 1112 rfl rfl, by decide +kernel⟩
set_option maxRecDepth 40000 in
theorem mi_X8_worked : rfMi RX8 yX8_worked cX8_worked 6 (some .int) 2 := ⟨by decide, rf_gl 1108 rfl rfl, rf_gl 58 rfl rfl, rf_gl 92 rfl rfl, rf_gl 1109 rfl rfl, by decide +kernel⟩
set_option maxRecDepth 40000 in
theorem mi_X8_wants : rfMi RX8 yX8_wants cX8_wants 3 (some .boolean) 2 := ⟨by decide, rf_gl 1100 rfl rfl, rf_gl 57 rfl rfl, rf_gl 92 rfl rfl, rf_gl 1101 rfl rfl, by decide +kernel⟩
set_option maxRecDepth 40000 in
theorem mi_X8_byLaw : rfMi RX8 yX8_byLaw cX8_byLaw 4 (some .int) 1 := ⟨by decide, rf_gl 1096 rfl rfl, rf_gl 56 rfl rfl, rf_gl 92 rfl rfl, rf_gl 1097 rfl rfl, by decide +kernel⟩
set_option maxRecDepth 40000 in
theorem mi_X8_doneBy : rfMi RX8 yX8_doneBy cX8_doneBy 4 (some .int) 1 := ⟨by decide, rf_gl 1092 rfl rfl, rf_gl 55 rfl rfl, rf_gl 92 rfl rfl, rf_gl 1093 rfl rfl, by decide +kernel⟩
set_option maxRecDepth 40000 in
theorem mi_X8_does : rfMi RX8 yX8_does cX8_does 2 (some .int) 1 := ⟨by decide, rf_gl 1087 rfl rfl, rf_gl 1088 rfl rfl, rf_gl 92 rfl rfl, rf_gl 1089 rfl rfl, by decide +kernel⟩
set_option maxRecDepth 40000 in
theorem mi_X8_passes : rfMi RX8 yX8_passes cX8_passes 5 (some .int) 1 := ⟨by decide, rf_gl 1137 rfl rfl, rf_gl 63 rfl rfl, rf_gl 92 rfl rfl, rf_gl 1138 rfl rfl, by decide +kernel⟩
set_option maxRecDepth 40000 in
theorem mi_X8_keeps : rfMi RX8 yX8_keeps cX8_keeps 3 none 1 := ⟨by decide, rf_gl 1125 rfl rfl, rf_gl 60 rfl rfl, rf_gl 92 rfl rfl, rf_gl 1126 rfl rfl, by decide +kernel⟩
set_option maxRecDepth 40000 in
theorem mi_X8_laysBack : rfMi RX8 yX8_laysBack cX8_laysBack 3 none 1 := ⟨by decide, rf_gl 1145 rfl rfl, rf_gl 65 rfl rfl, rf_gl 92 rfl rfl, rf_gl 1146 rfl rfl, by decide +kernel⟩
set_option maxRecDepth 40000 in
theorem mi_X8_allOwed : rfMi RX8 yX8_allOwed cX8_allOwed 3 (some .int) 0 := ⟨by decide, rf_gl 1141 rfl rfl, rf_gl 64 rfl rfl, rf_gl 92 rfl rfl, rf_gl 1142 rfl rfl, by decide +kernel⟩
set_option maxRecDepth 40000 in
theorem mi_X8_noBytes : rfMi RX8 yX8_noBytes cX8_noBytes 2 (some .int) 1 := ⟨by decide, rf_gl 1121 rfl rfl, rf_gl 59 rfl rfl, rf_gl 92 rfl rfl, rf_gl 1122 rfl rfl, by decide +kernel⟩
set_option maxRecDepth 40000 in
theorem mi_X8_daysOf : rfMi RX8 yX8_daysOf cX8_daysOf 3 (some .int) 1 := ⟨by decide, rf_gl 1133 rfl rfl, rf_gl 62 rfl rfl, rf_gl 92 rfl rfl, rf_gl 1134 rfl rfl, by decide +kernel⟩
set_option maxRecDepth 40000 in
theorem mi_X8_goes : rfMi RX8 yX8_goes cX8_goes 6 (some .int) 2 := ⟨by decide, rf_gl 1129 rfl rfl, rf_gl 61 rfl rfl, rf_gl 92 rfl rfl, rf_gl 1130 rfl rfl, by decide +kernel⟩
set_option maxRecDepth 40000 in
theorem mi_X8_later : rfMi RX8 yX8_later cX8_later 8 (some .int) 4 := ⟨by decide, rf_gl 1116 rfl rfl, rf_gl 1117 rfl rfl, rf_gl 92 rfl rfl, rf_gl 1118 rfl rfl, by decide +kernel⟩
set_option maxRecDepth 40000 in
theorem mi_X8_deep : rfMi RX8 yX8_deep cX8_deep 8 (some .int) 3 := ⟨by decide, rf_gl 1148 rfl rfl, rf_gl 1149 rfl rfl, rf_gl 92 rfl rfl, rf_gl 1150 rfl rfl, by decide +kernel⟩
set_option maxRecDepth 40000 in
theorem mi_X8_tries : rfMi RX8 yX8_tries cX8_tries 6 none 2 := ⟨by decide, rf_gl 1157 rfl rfl, rf_gl 66 rfl rfl, rf_gl 92 rfl rfl, rf_gl 1158 rfl rfl, by decide +kernel⟩
set_option maxRecDepth 40000 in
theorem mi_X8_bestRota : rfMi RX8 yX8_bestRota cX8_bestRota 3 (some .int) 2 := ⟨by decide, rf_gl 1152 rfl rfl, rf_gl 1153 rfl rfl, rf_gl 92 rfl rfl, rf_gl 1154 rfl rfl, by decide +kernel⟩
set_option maxRecDepth 40000 in
theorem mi_X8_knownBy : rfMi RX8 yX8_knownBy cX8_knownBy 4 (some .int) 1 := ⟨by decide, rf_gl 1165 rfl rfl, rf_gl 67 rfl rfl, rf_gl 92 rfl rfl, rf_gl 1166 rfl rfl, by decide +kernel⟩
set_option maxRecDepth 40000 in
theorem mi_X8_told : rfMi RX8 yX8_told cX8_told 6 (some .int) 3 := ⟨by decide, rf_gl 1160 rfl rfl, rf_gl 1161 rfl rfl, rf_gl 92 rfl rfl, rf_gl 1162 rfl rfl, by decide +kernel⟩
set_option maxRecDepth 40000 in
theorem mi_X8_parts : rfMi RX8 yX8_parts cX8_parts 4 (some .boolean) 1 := ⟨by decide, rf_gl 1173 rfl rfl, rf_gl 68 rfl rfl, rf_gl 92 rfl rfl, rf_gl 1174 rfl rfl, by decide +kernel⟩
set_option maxRecDepth 40000 in
theorem mi_X8_apart : rfMi RX8 yX8_apart cX8_apart 5 (some .int) 1 := ⟨by decide, rf_gl 1168 rfl rfl, rf_gl 1169 rfl rfl, rf_gl 92 rfl rfl, rf_gl 1170 rfl rfl, by decide +kernel⟩
set_option maxRecDepth 40000 in
theorem mi_X8_deals : rfMi RX8 yX8_deals cX8_deals 5 none 3 := ⟨by decide, rf_gl 1181 rfl rfl, rf_gl 69 rfl rfl, rf_gl 92 rfl rfl, rf_gl 1182 rfl rfl, by decide +kernel⟩
set_option maxRecDepth 40000 in
theorem mi_X8_week : rfMi RX8 yX8_week cX8_week 2 (some .int) 1 := ⟨by decide, rf_gl 1176 rfl rfl, rf_gl 1177 rfl rfl, rf_gl 92 rfl rfl, rf_gl 1178 rfl rfl, by decide +kernel⟩
set_option maxRecDepth 40000 in
theorem mi_X8_slow : rfMi RX8 yX8_slow cX8_slow 2 (some .int) 1 := ⟨by decide, rf_gl 1197 rfl rfl, rf_gl 72 rfl rfl, rf_gl 92 rfl rfl, rf_gl 1198 rfl rfl, by decide +kernel⟩
set_option maxRecDepth 40000 in
theorem mi_X8_goOut : rfMi RX8 yX8_goOut cX8_goOut 8 (some .int) 3 := ⟨by decide, rf_gl 1193 rfl rfl, rf_gl 71 rfl rfl, rf_gl 92 rfl rfl, rf_gl 1194 rfl rfl, by decide +kernel⟩
set_option maxRecDepth 40000 in
theorem mi_X8_burns : rfMi RX8 yX8_burns cX8_burns 6 none 0 := ⟨by decide, rf_gl 1189 rfl rfl, rf_gl 70 rfl rfl, rf_gl 92 rfl rfl, rf_gl 1190 rfl rfl, by decide +kernel⟩
set_option maxRecDepth 40000 in
theorem mi_X8_fire : rfMi RX8 yX8_fire cX8_fire 4 (some .int) 1 := ⟨by decide, rf_gl 1184 rfl rfl, rf_gl 1185 rfl rfl, rf_gl 92 rfl rfl, rf_gl 1186 rfl rfl, by decide +kernel⟩
set_option maxRecDepth 40000 in
theorem mi_X8_noDebts : rfMi RX8 yX8_noDebts cX8_noDebts 3 (some .int) 1 := ⟨by decide, rf_gl 1205 rfl rfl, rf_gl 73 rfl rfl, rf_gl 92 rfl rfl, rf_gl 1206 rfl rfl, by decide +kernel⟩
set_option maxRecDepth 40000 in
theorem mi_X8_unlike : rfMi RX8 yX8_unlike cX8_unlike 8 (some .int) 2 := ⟨by decide, rf_gl 1209 rfl rfl, rf_gl 74 rfl rfl, rf_gl 92 rfl rfl, rf_gl 1210 rfl rfl, by decide +kernel⟩
set_option maxRecDepth 40000 in
theorem mi_X8_judge : rfMi RX8 yX8_judge cX8_judge 4 (some .int) 2 := ⟨by decide, rf_gl 1200 rfl rfl, rf_gl 1201 rfl rfl, rf_gl 92 rfl rfl, rf_gl 1202 rfl rfl, by decide +kernel⟩
set_option maxRecDepth 40000 in
theorem mi_X8_fits : rfMi RX8 yX8_fits cX8_fits 10 (some .int) 3 := ⟨by decide, rf_gl 1212 rfl rfl, rf_gl 1213 rfl rfl, rf_gl 92 rfl rfl, rf_gl 1214 rfl rfl, by decide +kernel⟩
set_option maxRecDepth 40000 in
theorem mi_X8_turnFrom : rfMi RX8 yX8_turnFrom cX8_turnFrom 6 (some .int) 3 := ⟨by decide, rf_gl 1226 rfl rfl, rf_gl 76 rfl rfl, rf_gl 92 rfl rfl, rf_gl 1227 rfl rfl, by decide +kernel⟩
set_option maxRecDepth 40000 in
theorem mi_X8_turnBy : rfMi RX8 yX8_turnBy cX8_turnBy 15 (some .int) 4 := ⟨by decide, rf_gl 1222 rfl rfl, rf_gl 75 rfl rfl, rf_gl 92 rfl rfl, rf_gl 1223 rfl rfl, by decide +kernel⟩
set_option maxRecDepth 40000 in
theorem mi_X8_byTurns : rfMi RX8 yX8_byTurns cX8_byTurns 6 (some .int) 3 := ⟨by decide, rf_gl 1216 rfl rfl, rf_gl 1217 rfl rfl, rf_gl 92 rfl rfl, rf_gl 1218 rfl rfl, by decide +kernel⟩
set_option maxRecDepth 40000 in
theorem mi_X8_drawn : rfMi RX8 yX8_drawn cX8_drawn 10 (some .int) 3 := ⟨by decide, rf_gl 1230 rfl rfl, rf_gl 1231 rfl rfl, rf_gl 92 rfl rfl, rf_gl 1232 rfl rfl, by decide +kernel⟩
set_option maxRecDepth 40000 in
theorem mi_X8_day : rfMi RX8 yX8_day cX8_day 3 (some .int) 1 := ⟨by decide, rf_gl 1235 rfl rfl, rf_gl 1236 rfl rfl, rf_gl 92 rfl rfl, rf_gl 1237 rfl rfl, by decide +kernel⟩
set_option maxRecDepth 40000 in
theorem mi_X8_tells : rfMi RX8 yX8_tells cX8_tells 4 (some .int) 2 := ⟨by decide, rf_gl 1239 rfl rfl, rf_gl 1240 rfl rfl, rf_gl 92 rfl rfl, rf_gl 1241 rfl rfl, by decide +kernel⟩
set_option maxRecDepth 40000 in
theorem mi_X8_pays : rfMi RX8 yX8_pays cX8_pays 4 (some .int) 3 := ⟨by decide, rf_gl 1243 rfl rfl, rf_gl 1244 rfl rfl, rf_gl 92 rfl rfl, rf_gl 1245 rfl rfl, by decide +kernel⟩
set_option maxRecDepth 40000 in
theorem mi_X8_cobble : rfMi RX8 yX8_cobble cX8_cobble 2 (some .int) 0 := ⟨by decide, rf_gl 1247 rfl rfl, rf_gl 1248 rfl rfl, rf_gl 92 rfl rfl, rf_gl 1249 rfl rfl, by decide +kernel⟩
set_option maxRecDepth 40000 in
theorem mi_X8_led : rfMi RX8 yX8_led cX8_led 2 (some .int) 1 := ⟨by decide, rf_gl 1251 rfl rfl, rf_gl 1252 rfl rfl, rf_gl 92 rfl rfl, rf_gl 1253 rfl rfl, by decide +kernel⟩
set_option maxRecDepth 40000 in
theorem mi_X8_image : rfMi RX8 yX8_image cX8_image 2 (some .int) 0 := ⟨by decide, rf_gl 1255 rfl rfl, rf_gl 1256 rfl rfl, rf_gl 92 rfl rfl, rf_gl 1257 rfl rfl, by decide +kernel⟩
set_option maxRecDepth 40000 in
theorem mi_X8_back : rfMi RX8 yX8_back cX8_back 2 (some .int) 0 := ⟨by decide, rf_gl 1259 rfl rfl, rf_gl 1260 rfl rfl, rf_gl 92 rfl rfl, rf_gl 1261 rfl rfl, by decide +kernel⟩
set_option maxRecDepth 40000 in
theorem ms_X8_above : rfMs yX8_above cX8_above 1 (some .int) 1 := ⟨by decide, rf_gl 1279 rfl rfl, rf_gl 92 rfl rfl, rf_gl 1280 rfl rfl, by decide +kernel⟩
set_option maxRecDepth 40000 in
theorem mi_X8_ran : rfMi RX8 yX8_ran cX8_ran 2 none 1 := ⟨by decide, rf_gl 1276 rfl rfl, rf_gl 78 rfl rfl, rf_gl 92 rfl rfl, rf_gl 1277 rfl rfl, by decide +kernel⟩
set_option maxRecDepth 40000 in
theorem mi_X8_walksBy : rfMi RX8 yX8_walksBy cX8_walksBy 4 (some .int) 3 := ⟨by decide, rf_gl 1272 rfl rfl, rf_gl 77 rfl rfl, rf_gl 92 rfl rfl, rf_gl 1273 rfl rfl, by decide +kernel⟩
set_option maxRecDepth 40000 in
theorem mi_X8_leansBy : rfMi RX8 yX8_leansBy cX8_leansBy 5 (some .int) 3 := ⟨by decide, rf_gl 1283 rfl rfl, rf_gl 79 rfl rfl, rf_gl 92 rfl rfl, rf_gl 1284 rfl rfl, by decide +kernel⟩
set_option maxRecDepth 40000 in
theorem mi_X8_owesBy : rfMi RX8 yX8_owesBy cX8_owesBy 5 (some .int) 3 := ⟨by decide, rf_gl 1287 rfl rfl, rf_gl 80 rfl rfl, rf_gl 92 rfl rfl, rf_gl 1288 rfl rfl, by decide +kernel⟩
set_option maxRecDepth 40000 in
theorem mi_X8_tells_ : rfMi RX8 yX8_tells_ cX8_tells_ 5 (some .int) 3 := ⟨by decide, rf_gl 1291 rfl rfl, rf_gl 81 rfl rfl, rf_gl 92 rfl rfl, rf_gl 1292 rfl rfl, by decide +kernel⟩
set_option maxRecDepth 40000 in
theorem mi_X8_body : rfMi RX8 yX8_body cX8_body 2 (some .int) 1 := ⟨by decide, rf_gl 1263 rfl rfl, rf_gl 1264 rfl rfl, rf_gl 92 rfl rfl, rf_gl 1265 rfl rfl, by decide +kernel⟩
set_option maxRecDepth 40000 in
theorem mi_X8_act : rfMi RX8 yX8_act cX8_act 5 (some .int) 3 := ⟨by decide, rf_gl 1267 rfl rfl, rf_gl 1268 rfl rfl, rf_gl 92 rfl rfl, rf_gl 1269 rfl rfl, by decide +kernel⟩
set_option maxRecDepth 40000 in
theorem mi_X8_trace : rfMi RX8 yX8_trace cX8_trace 2 (some .int) 1 := ⟨by decide, rf_gl 1294 rfl rfl, rf_gl 1295 rfl rfl, rf_gl 92 rfl rfl, rf_gl 1296 rfl rfl, by decide +kernel⟩
set_option maxRecDepth 40000 in
theorem mi_X8_keep : rfMi RX8 yX8_keep cX8_keep 3 (some .int) 2 := ⟨by decide, rf_gl 1298 rfl rfl, rf_gl 1299 rfl rfl, rf_gl 92 rfl rfl, rf_gl 1300 rfl rfl, by decide +kernel⟩
set_option maxRecDepth 40000 in
theorem mi_X8_row : rfMi RX8 yX8_row cX8_row 5 (some .int) 3 := ⟨by decide, rf_gl 1302 rfl rfl, rf_gl 1303 rfl rfl, rf_gl 92 rfl rfl, rf_gl 1304 rfl rfl, by decide +kernel⟩
set_option maxRecDepth 40000 in
theorem mi_X8_isRow : rfMi RX8 yX8_isRow cX8_isRow 2 (some .boolean) 1 := ⟨by decide, rf_gl 1311 rfl rfl, rf_gl 82 rfl rfl, rf_gl 92 rfl rfl, rf_gl 1312 rfl rfl, by decide +kernel⟩
set_option maxRecDepth 40000 in
theorem ms_X8_kept : rfMs yX8_kept cX8_kept 3 (some .long) 2 := ⟨by decide, rf_gl 1314 rfl rfl, rf_gl 92 rfl rfl, rf_gl 1315 rfl rfl, by decide +kernel⟩
set_option maxRecDepth 40000 in
theorem mi_X8_put : rfMi RX8 yX8_put cX8_put 5 (some .int) 3 := ⟨by decide, rf_gl 1306 rfl rfl, rf_gl 1307 rfl rfl, rf_gl 92 rfl rfl, rf_gl 1308 rfl rfl, by decide +kernel⟩
set_option maxRecDepth 40000 in
theorem mi_X8_element : rfMi RX8 yX8_element cX8_element 3 (some .long) 2 := ⟨by decide, rf_gl 1317 rfl rfl, rf_gl 1318 rfl rfl, rf_gl 92 rfl rfl, rf_gl 1319 rfl rfl, by decide +kernel⟩
set_option maxRecDepth 40000 in
theorem mi_X8_shift : rfMi RX8 yX8_shift cX8_shift 7 (some .int) 5 := ⟨by decide, rf_gl 1322 rfl rfl, rf_gl 1323 rfl rfl, rf_gl 92 rfl rfl, rf_gl 1324 rfl rfl, by decide +kernel⟩
set_option maxRecDepth 40000 in
theorem mi_X8_taken : rfMi RX8 yX8_taken cX8_taken 5 (some .int) 2 := ⟨by decide, rf_gl 1326 rfl rfl, rf_gl 1327 rfl rfl, rf_gl 92 rfl rfl, rf_gl 1328 rfl rfl, by decide +kernel⟩
set_option maxRecDepth 40000 in
theorem mi_X8_count : rfMi RX8 yX8_count cX8_count 2 (some .int) 1 := ⟨by decide, rf_gl 1330 rfl rfl, rf_gl 1331 rfl rfl, rf_gl 92 rfl rfl, rf_gl 1332 rfl rfl, by decide +kernel⟩
set_option maxRecDepth 40000 in
theorem ms_J6_bitCount_0f7a4 : rfMs yJ6_bitCount_0f7a4 cJ6_bitCount_0f7a4 1 (some .int) 1 := ⟨by decide, rf_gl 492 rfl rfl, rf_gl 94 rfl rfl, rf_gl 493 rfl rfl, by decide +kernel⟩
set_option maxRecDepth 40000 in
theorem mm_max : Cond.static Lib.Math.max.name ∈ rfG ∧ Cond.initialized "java/lang/Math" ∈ rfG ∧ Cond.code Lib.Math.max.name Lib.Math.max.code 2 (some .int) ∈ rfG := ⟨rf_gl 512 rfl rfl, rf_gl 95 rfl rfl, rf_gl 513 rfl rfl⟩
set_option maxRecDepth 40000 in
theorem mm_min : Cond.static Lib.Math.min.name ∈ rfG ∧ Cond.initialized "java/lang/Math" ∈ rfG ∧ Cond.code Lib.Math.min.name Lib.Math.min.code 2 (some .int) ∈ rfG := ⟨rf_gl 509 rfl rfl, rf_gl 95 rfl rfl, rf_gl 510 rfl rfl⟩
set_option maxRecDepth 40000 in
theorem mm_copy : Cond.native arraycopyName ∈ rfG ∧ Cond.static arraycopyName ∈ rfG ∧ Cond.initialized "java/lang/System" ∈ rfG := ⟨rf_gl 412 rfl rfl, rf_gl 411 rfl rfl, rf_gl 93 rfl rfl⟩
section RfCalls
variable {Λ : rfL} {d : Nat} {E : rfE} {y : MethodName} {cc : ByteArray} {nL : Nat} {ret : Option FieldType} {Q : Option Value → rfS → Prop} {pc pc2 : Nat} {ls ls2 : List (Nat × Value)} {st : List Value} {σ : rfS}
theorem Rf_cVi (X : rfX Λ E y cc nL ret) {ix n2 d2 nL2 : Nat} {y2 : MethodName} {cc2 : ByteArray} {ret2 : Option FieldType} {as stk : List Value} {Q2 : Int32 → rfS → Prop} {k ci : Nat} {C : String} {T : u_T} {N : Nat} (hm : rfMi C y2 cc2 nL2 ret2 n2) (hw : Cond.methodLink y.cls ix y2 ∈ rfG) (hcl : vwCl[ci]? = some (C, T, N)) (hk : k < Λ.1) (hkd : Λ.2.1 k = ci + 4) (hM : RM Λ d2 y2 cc2 nL2 ret2 (.ref k :: as) σ (qi Q2)) (hdd : d2 + 1 ≤ d) (hlen : as.length = n2) (hstk : stk = as.reverse ++ .ref k :: st) (hst : (st.map fun v => v.category).sum ≤ 8) (hd : decode cc pc = .ok (.invokevirtual ix, 3)) (hp : pc + 3 = pc2) (kk : ∀ v σ2, Q2 v σ2 → Rf Λ d E nL Q pc2 ls (.int v :: st) σ2) : Rf Λ d E nL Q pc ls stk σ :=
  Rf_callV X hcl hk hkd hM hdd hm.1 hw hm.2.1 hm.2.2.1 hm.2.2.2.1 hm.2.2.2.2.1 hm.2.2.2.2.2 hlen hstk hst hd hp (fun r σ2 h => by obtain ⟨v, rfl, h⟩ := h; exact kk v σ2 h)
theorem Rf_cSi (X : rfX Λ E y cc nL ret) {ix n2 d2 nL2 : Nat} {y2 : MethodName} {cc2 : ByteArray} {ret2 : Option FieldType} {as stk : List Value} {Q2 : Int32 → rfS → Prop} (hm : rfMs y2 cc2 nL2 ret2 n2) (hw : Cond.methodLink y.cls ix y2 ∈ rfG) (hM : RM Λ d2 y2 cc2 nL2 ret2 as σ (qi Q2)) (hdd : d2 + 1 ≤ d) (hlen : as.length = n2) (hstk : stk = as.reverse ++ st) (hst : (st.map fun v => v.category).sum ≤ 8) (hd : decode cc pc = .ok (.invokestatic ix, 3)) (hp : pc + 3 = pc2) (kk : ∀ v σ2, Q2 v σ2 → Rf Λ d E nL Q pc2 ls (.int v :: st) σ2) : Rf Λ d E nL Q pc ls stk σ :=
  Rf_callS X hM hdd hm.1 hw hm.2.1 hm.2.2.1 hm.2.2.2.1 hm.2.2.2.2 hlen hstk hst hd hp (fun r σ2 h => by obtain ⟨v, rfl, h⟩ := h; exact kk v σ2 h)
theorem Rf_cVl (X : rfX Λ E y cc nL ret) {ix n2 d2 nL2 : Nat} {y2 : MethodName} {cc2 : ByteArray} {ret2 : Option FieldType} {as stk : List Value} {Q2 : Int64 → rfS → Prop} {k ci : Nat} {C : String} {T : u_T} {N : Nat} (hm : rfMi C y2 cc2 nL2 ret2 n2) (hw : Cond.methodLink y.cls ix y2 ∈ rfG) (hcl : vwCl[ci]? = some (C, T, N)) (hk : k < Λ.1) (hkd : Λ.2.1 k = ci + 4) (hM : RM Λ d2 y2 cc2 nL2 ret2 (.ref k :: as) σ (ql Q2)) (hdd : d2 + 1 ≤ d) (hlen : as.length = n2) (hstk : stk = as.reverse ++ .ref k :: st) (hst : (st.map fun v => v.category).sum ≤ 8) (hd : decode cc pc = .ok (.invokevirtual ix, 3)) (hp : pc + 3 = pc2) (kk : ∀ v σ2, Q2 v σ2 → Rf Λ d E nL Q pc2 ls (.long v :: st) σ2) : Rf Λ d E nL Q pc ls stk σ :=
  Rf_callV X hcl hk hkd hM hdd hm.1 hw hm.2.1 hm.2.2.1 hm.2.2.2.1 hm.2.2.2.2.1 hm.2.2.2.2.2 hlen hstk hst hd hp (fun r σ2 h => by obtain ⟨v, rfl, h⟩ := h; exact kk v σ2 h)
theorem Rf_cSl (X : rfX Λ E y cc nL ret) {ix n2 d2 nL2 : Nat} {y2 : MethodName} {cc2 : ByteArray} {ret2 : Option FieldType} {as stk : List Value} {Q2 : Int64 → rfS → Prop} (hm : rfMs y2 cc2 nL2 ret2 n2) (hw : Cond.methodLink y.cls ix y2 ∈ rfG) (hM : RM Λ d2 y2 cc2 nL2 ret2 as σ (ql Q2)) (hdd : d2 + 1 ≤ d) (hlen : as.length = n2) (hstk : stk = as.reverse ++ st) (hst : (st.map fun v => v.category).sum ≤ 8) (hd : decode cc pc = .ok (.invokestatic ix, 3)) (hp : pc + 3 = pc2) (kk : ∀ v σ2, Q2 v σ2 → Rf Λ d E nL Q pc2 ls (.long v :: st) σ2) : Rf Λ d E nL Q pc ls stk σ :=
  Rf_callS X hM hdd hm.1 hw hm.2.1 hm.2.2.1 hm.2.2.2.1 hm.2.2.2.2 hlen hstk hst hd hp (fun r σ2 h => by obtain ⟨v, rfl, h⟩ := h; exact kk v σ2 h)
theorem Rf_cVr (X : rfX Λ E y cc nL ret) {ix n2 d2 nL2 : Nat} {y2 : MethodName} {cc2 : ByteArray} {ret2 : Option FieldType} {as stk : List Value} {Q2 : Nat → rfS → Prop} {k ci : Nat} {C : String} {T : u_T} {N : Nat} (hm : rfMi C y2 cc2 nL2 ret2 n2) (hw : Cond.methodLink y.cls ix y2 ∈ rfG) (hcl : vwCl[ci]? = some (C, T, N)) (hk : k < Λ.1) (hkd : Λ.2.1 k = ci + 4) (hM : RM Λ d2 y2 cc2 nL2 ret2 (.ref k :: as) σ (qr Q2)) (hdd : d2 + 1 ≤ d) (hlen : as.length = n2) (hstk : stk = as.reverse ++ .ref k :: st) (hst : (st.map fun v => v.category).sum ≤ 8) (hd : decode cc pc = .ok (.invokevirtual ix, 3)) (hp : pc + 3 = pc2) (kk : ∀ v σ2, Q2 v σ2 → Rf Λ d E nL Q pc2 ls (.ref v :: st) σ2) : Rf Λ d E nL Q pc ls stk σ :=
  Rf_callV X hcl hk hkd hM hdd hm.1 hw hm.2.1 hm.2.2.1 hm.2.2.2.1 hm.2.2.2.2.1 hm.2.2.2.2.2 hlen hstk hst hd hp (fun r σ2 h => by obtain ⟨v, rfl, h⟩ := h; exact kk v σ2 h)
theorem Rf_cSr (X : rfX Λ E y cc nL ret) {ix n2 d2 nL2 : Nat} {y2 : MethodName} {cc2 : ByteArray} {ret2 : Option FieldType} {as stk : List Value} {Q2 : Nat → rfS → Prop} (hm : rfMs y2 cc2 nL2 ret2 n2) (hw : Cond.methodLink y.cls ix y2 ∈ rfG) (hM : RM Λ d2 y2 cc2 nL2 ret2 as σ (qr Q2)) (hdd : d2 + 1 ≤ d) (hlen : as.length = n2) (hstk : stk = as.reverse ++ st) (hst : (st.map fun v => v.category).sum ≤ 8) (hd : decode cc pc = .ok (.invokestatic ix, 3)) (hp : pc + 3 = pc2) (kk : ∀ v σ2, Q2 v σ2 → Rf Λ d E nL Q pc2 ls (.ref v :: st) σ2) : Rf Λ d E nL Q pc ls stk σ :=
  Rf_callS X hM hdd hm.1 hw hm.2.1 hm.2.2.1 hm.2.2.2.1 hm.2.2.2.2 hlen hstk hst hd hp (fun r σ2 h => by obtain ⟨v, rfl, h⟩ := h; exact kk v σ2 h)
theorem Rf_cVv (X : rfX Λ E y cc nL ret) {ix n2 d2 nL2 : Nat} {y2 : MethodName} {cc2 : ByteArray} {ret2 : Option FieldType} {as stk : List Value} {Q2 : rfS → Prop} {k ci : Nat} {C : String} {T : u_T} {N : Nat} (hm : rfMi C y2 cc2 nL2 ret2 n2) (hw : Cond.methodLink y.cls ix y2 ∈ rfG) (hcl : vwCl[ci]? = some (C, T, N)) (hk : k < Λ.1) (hkd : Λ.2.1 k = ci + 4) (hM : RM Λ d2 y2 cc2 nL2 ret2 (.ref k :: as) σ (qv Q2)) (hdd : d2 + 1 ≤ d) (hlen : as.length = n2) (hstk : stk = as.reverse ++ .ref k :: st) (hst : (st.map fun v => v.category).sum ≤ 8) (hd : decode cc pc = .ok (.invokevirtual ix, 3)) (hp : pc + 3 = pc2) (kk : ∀ σ2, Q2 σ2 → Rf Λ d E nL Q pc2 ls st σ2) : Rf Λ d E nL Q pc ls stk σ :=
  Rf_callV X hcl hk hkd hM hdd hm.1 hw hm.2.1 hm.2.2.1 hm.2.2.2.1 hm.2.2.2.2.1 hm.2.2.2.2.2 hlen hstk hst hd hp (fun r σ2 h => by obtain ⟨rfl, h⟩ := h; exact kk σ2 h)
theorem Rf_cSv (X : rfX Λ E y cc nL ret) {ix n2 d2 nL2 : Nat} {y2 : MethodName} {cc2 : ByteArray} {ret2 : Option FieldType} {as stk : List Value} {Q2 : rfS → Prop} (hm : rfMs y2 cc2 nL2 ret2 n2) (hw : Cond.methodLink y.cls ix y2 ∈ rfG) (hM : RM Λ d2 y2 cc2 nL2 ret2 as σ (qv Q2)) (hdd : d2 + 1 ≤ d) (hlen : as.length = n2) (hstk : stk = as.reverse ++ st) (hst : (st.map fun v => v.category).sum ≤ 8) (hd : decode cc pc = .ok (.invokestatic ix, 3)) (hp : pc + 3 = pc2) (kk : ∀ σ2, Q2 σ2 → Rf Λ d E nL Q pc2 ls st σ2) : Rf Λ d E nL Q pc ls stk σ :=
  Rf_callS X hM hdd hm.1 hw hm.2.1 hm.2.2.1 hm.2.2.2.1 hm.2.2.2.2 hlen hstk hst hd hp (fun r σ2 h => by obtain ⟨rfl, h⟩ := h; exact kk σ2 h)
end RfCalls
